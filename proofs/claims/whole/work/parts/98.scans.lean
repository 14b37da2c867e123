/-! the reference: all tries; what they cost -/
section SCN
variable {x : Nat} {S : Sp} {s : St}
theorem pk_false {dl : List Nat} {M : List Nat} (hd : dl.all (hB S.2.1 M) = false) (k : Nat) : pk S dl k M = false := by unfold pk; rw [hd, Bool.false_and]
theorem ScM.skip {dl : List Nat} {P : List (List Nat)} {M : List Nat} (h : ScM x S dl P s) (hd : dl.all (hB S.2.1 M) = false) : ScM x S dl (P ++ [M]) s := by
  obtain ⟨h1, h2, h3⟩ := h
  have e : ∀ k, bestP S.2.1 S.2.2.1.1 (pk S dl k) (P ++ [M]) = bestP S.2.1 S.2.2.1.1 (pk S dl k) P := fun k => by
    rw [bestP_snoc]; unfold bStep; rw [pk_false hd]; rfl
  have e2 : ∀ b, bestP S.2.1 S.2.2.1.1 (pw S dl b) (P ++ [M]) = bestP S.2.1 S.2.2.1.1 (pw S dl b) P := fun b => by
    rw [bestP_snoc]; unfold bStep pw; rw [pk_false hd]; rfl
  refine ⟨fun k hk => by rw [e]; exact h1 k hk, fun q hq => by rw [e] at hq; exact h2 q hq, fun b hb => by rw [e2]; exact h3 b hb⟩
theorem ScM.fr {dl : List Nat} {P : List (List Nat)} {u : St} {M : Nat → Prop} (h : ScM x S dl P s) (hf : Fr M s u) (hd : ¬ M (x + 20) ∧ ¬ M (x + 21) ∧ ¬ M (x + 22)) : ScM x S dl P u := by
  unfold ScM at *
  rw [hf.1 _ hd.1, hf.1 _ hd.2.1, hf.1 _ hd.2.2]
  exact h
theorem sX10_scans_main {dl : List Nat} {b : Nat} {Q : St → Prop} (hok : okSp S) (hdl : (b = 0 ∧ dl = []) ∨ (dl = [b] ∧ endsN S.2.1 b ≠ 0)) (hQ : ∀ u, RM x S u → Fr (fun k => x ≤ k) s u → ScM x S dl (allL S.2.1.2.length) u → Q u) : ∀ (rest P : List (List Nat)) (M : List Nat), allL S.2.1.2.length = P ++ M :: rest → ∀ u, RM x S u → Fr (fun k => x ≤ k) s u → rowAt (u.1 (x + 19)) 0 M → (∀ m, m < S.2.2.1.2.1.length → u.1 (x + 17) m = nI (bitsOf S.2.1.2 (S.2.2.1.2.1.getD m []))) → ScM x S dl P u → wX10_scans_97 x (nI b) Q (rest.length + 2) 1 u := by
  intro rest
  obtain ⟨-, -, o3, o4, -⟩ := id hok
  have l6 := o3.2.2.1
  induction rest with
  | nil =>
    intro P M hall u hR hf hr hms hS
    have hM : M ∈ allL S.2.1.2.length := by rw [hall]; simp
    obtain ⟨hM1, hM2⟩ := allL_in.mp hM
    have hM5 : ∀ y ∈ M, y ≤ 5 := fun y hy => (hM2 y hy).2
    have hP : ∀ N ∈ P, N ∈ allL S.2.1.2.length := fun N hN => by rw [hall]; simp [hN]
    have hnx : nxt M = none := by
      have := allL_ch S.2.1.2.length
      rw [hall] at this
      exact this.next
    unfold wX10_scans_97 wX10_scans_121 wX10_scans_125
    refine ⟨fun z => absurd z (by decide), fun _ => ?_⟩
    refine sX10_measures o3 ⟨by omega, by omega⟩ (by omega) (by omega) hR.2.1.2.1 hR.2.2.2.2.2.2.1 hM1 hM5 hr (fun v hfv hMe => ?_)
    have hRv := hR.meas hfv hMe
    have hSv : ScM x S dl P v := hS.fr hfv ⟨by omega, by omega, by omega⟩
    have hrv : rowAt (v.1 (x + 19)) 0 M := by rw [hfv.1 _ (by omega)]; exact hr
    have hmv : ∀ m, m < S.2.2.1.2.1.length → v.1 (x + 17) m = nI (bitsOf S.2.1.2 (S.2.2.1.2.1.getD m [])) := by rw [hfv.1 _ (by omega)]; exact hms
    have last : ∀ w, RM x S w → Fr (fun k => x ≤ k) s w → rowAt (w.1 (x + 19)) 0 M → ScM x S dl (P ++ [M]) w → wX10_steps x w (fun r_126 s_126 => wX10_scans_97 x (nI b) Q (([] : List (List Nat)).length + 1) r_126 s_126) := by
      intro w hRw hfw hrw hSw
      refine sX10_steps hRw.2.1.2.1 l6 hM1 hM2 hrw (fun _ t hft => ?_) (fun M' hM' t hft hrt => ?_)
      · show wX10_scans_97 x (nI b) Q 1 0 t
        unfold wX10_scans_97
        refine ⟨fun _ => hQ t (hRw.sc (hft.wk (by intro k; omega))) (hfw.tr (hft.wk (by intro k; omega))) ?_, fun z => absurd rfl z⟩
        rw [hall]
        exact hSw.fr hft ⟨by omega, by omega, by omega⟩
      · rw [hnx] at hM'; cases hM'
    have one : dl.all (hB S.2.1 M) = true → wX10_scansOne x v (fun s_122 => wX10_steps x s_122 (fun r_126 s_126 => wX10_scans_97 x (nI b) Q (([] : List (List Nat)).length + 1) r_126 s_126)) := by
      intro hd
      refine sX10_scansOne hRv hok hMe hM hP hrv hmv hd hSv (fun w hfw hSw => ?_)
      refine last w (hRv.sc (hfw.wk (by intro k; omega))) ((hf.tr (hfv.wk (by intro k; omega))).tr (hfw.wk (by intro k; omega))) (by rw [hfw.1 _ (by omega)]; exact hrv) hSw
    rcases hdl with ⟨rfl, rfl⟩ | ⟨rfl, hb⟩
    · exact ⟨fun _ => one rfl, fun z => absurd rfl z⟩
    · have hb0 : b ≠ 0 := fun z => hb (by rw [z]; exact ends_0)
      have hb64 : b < 64 := by
        obtain ⟨i, -, -, i3, -⟩ := ends_inv hb
        rw [← i3]; exact wB_lt o3 i
      refine ⟨fun z => absurd (nI_inj (b := 0) (by omega) (by omega) z) hb0, fun _ => ?_⟩
      refine sX10_holds o3 hRv.2.2.2.2.2.2.1 hMe hM5 (by omega) hb ?_
      cases hz : hB S.2.1 M b with
      | false =>
        refine ⟨fun _ => last v hRv (hf.tr (hfv.wk (by intro k; omega))) hrv (hSv.skip (by simp [hz])), fun z => absurd rfl z⟩
      | true => exact ⟨fun z => absurd z (show ¬ (1 : Int32) = 0 by decide), fun _ => one (by simp [hz])⟩
  | cons M2 rest ih =>
    intro P M hall u hR hf hr hms hS
    have hM : M ∈ allL S.2.1.2.length := by rw [hall]; simp
    obtain ⟨hM1, hM2⟩ := allL_in.mp hM
    have hM5 : ∀ y ∈ M, y ≤ 5 := fun y hy => (hM2 y hy).2
    have hP : ∀ N ∈ P, N ∈ allL S.2.1.2.length := fun N hN => by rw [hall]; simp [hN]
    have hnx : nxt M = some M2 := by
      have := allL_ch S.2.1.2.length
      rw [hall] at this
      exact this.next
    unfold wX10_scans_97 wX10_scans_121 wX10_scans_125
    refine ⟨fun z => absurd z (by decide), fun _ => ?_⟩
    refine sX10_measures o3 ⟨by omega, by omega⟩ (by omega) (by omega) hR.2.1.2.1 hR.2.2.2.2.2.2.1 hM1 hM5 hr (fun v hfv hMe => ?_)
    have hRv := hR.meas hfv hMe
    have hSv : ScM x S dl P v := hS.fr hfv ⟨by omega, by omega, by omega⟩
    have hrv : rowAt (v.1 (x + 19)) 0 M := by rw [hfv.1 _ (by omega)]; exact hr
    have hmv : ∀ m, m < S.2.2.1.2.1.length → v.1 (x + 17) m = nI (bitsOf S.2.1.2 (S.2.2.1.2.1.getD m [])) := by rw [hfv.1 _ (by omega)]; exact hms
    have last : ∀ w, RM x S w → Fr (fun k => x ≤ k) s w → rowAt (w.1 (x + 19)) 0 M → (∀ m, m < S.2.2.1.2.1.length → w.1 (x + 17) m = nI (bitsOf S.2.1.2 (S.2.2.1.2.1.getD m []))) → ScM x S dl (P ++ [M]) w → wX10_steps x w (fun r_126 s_126 => wX10_scans_97 x (nI b) Q (rest.length + 2) r_126 s_126) := by
      intro w hRw hfw hrw hmw hSw
      refine sX10_steps hRw.2.1.2.1 l6 hM1 hM2 hrw (fun hM' t hft => ?_) (fun M' hM' t hft hrt => ?_)
      · rw [hnx] at hM'; cases hM'
      · rw [hnx] at hM'
        cases hM'
        refine ih (P ++ [M]) M2 (by rw [hall, List.append_assoc]; rfl) t (hRw.sc (hft.wk (by intro k; omega))) (hfw.tr (hft.wk (by intro k; omega))) hrt (by rw [hft.1 _ (by omega)]; exact hmw) (hSw.fr hft ⟨by omega, by omega, by omega⟩)
    have one : dl.all (hB S.2.1 M) = true → wX10_scansOne x v (fun s_122 => wX10_steps x s_122 (fun r_126 s_126 => wX10_scans_97 x (nI b) Q (rest.length + 2) r_126 s_126)) := by
      intro hd
      refine sX10_scansOne hRv hok hMe hM hP hrv hmv hd hSv (fun w hfw hSw => ?_)
      refine last w (hRv.sc (hfw.wk (by intro k; omega))) ((hf.tr (hfv.wk (by intro k; omega))).tr (hfw.wk (by intro k; omega))) (by rw [hfw.1 _ (by omega)]; exact hrv) (by rw [hfw.1 _ (by omega)]; exact hmv) hSw
    rcases hdl with ⟨rfl, rfl⟩ | ⟨rfl, hb⟩
    · exact ⟨fun _ => one rfl, fun z => absurd rfl z⟩
    · have hb0 : b ≠ 0 := fun z => hb (by rw [z]; exact ends_0)
      have hb64 : b < 64 := by
        obtain ⟨i, -, -, i3, -⟩ := ends_inv hb
        rw [← i3]; exact wB_lt o3 i
      refine ⟨fun z => absurd (nI_inj (b := 0) (by omega) (by omega) z) hb0, fun _ => ?_⟩
      refine sX10_holds o3 hRv.2.2.2.2.2.2.1 hMe hM5 (by omega) hb ?_
      cases hz : hB S.2.1 M b with
      | false =>
        refine ⟨fun _ => last v hRv (hf.tr (hfv.wk (by intro k; omega))) hrv hmv (hSv.skip (by simp [hz])), fun z => absurd rfl z⟩
      | true => exact ⟨fun z => absurd z (show ¬ (1 : Int32) = 0 by decide), fun _ => one (by simp [hz])⟩
theorem sX10_scans {dl : List Nat} {b : Nat} {Q : St → Prop} (h : RM x S s) (hok : okSp S) (hdl : (b = 0 ∧ dl = []) ∨ (dl = [b] ∧ endsN S.2.1 b ≠ 0)) (hQ : ∀ u, RM x S u → Fr (fun k => x ≤ k) s u → ScM x S dl (allL S.2.1.2.length) u → Q u) : wX10_scans x (nI b) s Q := by
  obtain ⟨-, -, o3, o4, -⟩ := id hok
  have l6 := o3.2.2.1
  have h4 := o4.2.2.1
  have lp1 : ∀ (K : St → Prop), (∀ u, Fr (fun k => k = x + 20) s u → (∀ k, k < 16 → u.1 (x + 20) k = 1000000) → K u) → ∀ d k u, k + d = 16 → Fr (fun k => k = x + 20) s u → (∀ j, j < k → u.1 (x + 20) j = 1000000) → wX10_scans_2 x (nI b) K Q (d + 1) (nI k) u := by
    intro K hK d
    induction d with
    | zero =>
      intro k u hk hf h2
      unfold wX10_scans_2
      have ek : k = 16 := by omega
      subst ek
      exact ⟨fun _ => hK u hf h2, fun z => absurd (Int32.le_refl _) z⟩
    | succ d ih =>
      intro k u hk hf h2
      unfold wX10_scans_2
      refine ⟨fun z => absurd ((nI_leI (a := 16) (by omega) (by omega)).mp z) (by omega), fun _ => ⟨vp_in_nI (by omega) (by omega), fun t ht => ?_⟩⟩
      rw [nI_clamp (by omega)] at ht
      rw [show nI k + (1 : Int32) = nI (k + 1) from (nI_succ _).symm]
      refine ih (k + 1) t (by omega) (by rw [ht]; exact hf.I rfl) (fun j hj => ?_)
      rw [ht]
      by_cases c : j = k
      · subst c; rw [rI_eq]
      · rw [rI_nj c]; exact h2 j (by omega)
  have lp2 : ∀ (K : St → Prop) (v : St), (∀ u, Fr (fun k => k = x + 22) v u → (∀ k, k < 64 → u.1 (x + 22) k = 1000000) → K u) → ∀ d k u, k + d = 64 → Fr (fun k => k = x + 22) v u → (∀ j, j < k → u.1 (x + 22) j = 1000000) → wX10_scans_24 x (nI b) K Q (d + 1) (nI k) u := by
    intro K v hK d
    induction d with
    | zero =>
      intro k u hk hf h2
      unfold wX10_scans_24
      have ek : k = 64 := by omega
      subst ek
      exact ⟨fun _ => hK u hf h2, fun z => absurd (Int32.le_refl _) z⟩
    | succ d ih =>
      intro k u hk hf h2
      unfold wX10_scans_24
      refine ⟨fun z => absurd ((nI_leI (a := 64) (by omega) (by omega)).mp z) (by omega), fun _ => ⟨vp_in_nI (by omega) (by omega), fun t ht => ?_⟩⟩
      rw [nI_clamp (by omega)] at ht
      rw [show nI k + (1 : Int32) = nI (k + 1) from (nI_succ _).symm]
      refine ih (k + 1) t (by omega) (by rw [ht]; exact hf.I rfl) (fun j hj => ?_)
      rw [ht]
      by_cases c : j = k
      · subst c; rw [rI_eq]
      · rw [rI_nj c]; exact h2 j (by omega)
  have lp3 : ∀ (K : St → Prop) (v : St), (∀ u, Fr (fun k => k = x + 19) v u → (∀ k, k < 6 → u.1 (x + 19) k = 1) → K u) → ∀ d k u, k + d = 6 → Fr (fun k => k = x + 19) v u → (∀ j, j < k → u.1 (x + 19) j = 1) → wX10_scans_46 x (nI b) K Q (d + 1) (nI k) u := by
    intro K v hK d
    induction d with
    | zero =>
      intro k u hk hf h2
      unfold wX10_scans_46
      have ek : k = 6 := by omega
      subst ek
      exact ⟨fun _ => hK u hf h2, fun z => absurd (Int32.le_refl _) z⟩
    | succ d ih =>
      intro k u hk hf h2
      unfold wX10_scans_46
      refine ⟨fun z => absurd ((nI_leI (a := 6) (by omega) (by omega)).mp z) (by omega), fun _ => ⟨vp_in_nI (by omega) (by omega), fun t ht => ?_⟩⟩
      rw [nI_clamp (by omega)] at ht
      rw [show nI k + (1 : Int32) = nI (k + 1) from (nI_succ _).symm]
      refine ih (k + 1) t (by omega) (by rw [ht]; exact hf.I rfl) (fun j hj => ?_)
      rw [ht]
      by_cases c : j = k
      · subst c; rw [rI_eq]
      · rw [rI_nj c]; exact h2 j (by omega)
  have lp4 : ∀ (K : St → Prop) (v : St), RM x S v → (∀ u, Fr (fun k => k = x + 17) v u → (∀ m, m < S.2.2.1.2.1.length → u.1 (x + 17) m = nI (bitsOf S.2.1.2 (S.2.2.1.2.1.getD m []))) → K u) → ∀ d m u, m + d = S.2.2.1.2.1.length → Fr (fun k => k = x + 17) v u → (∀ j, j < m → u.1 (x + 17) j = nI (bitsOf S.2.1.2 (S.2.2.1.2.1.getD j []))) → wX10_scans_67 x (nI b) K Q (d + 1) (nI m) u := by
    intro K v hRv hK d
    induction d with
    | zero =>
      intro m u hm hf h2
      have hR : RM x S u := hRv.sc (hf.wk (by intro k; omega))
      have em : m = S.2.2.1.2.1.length := by omega
      subst em
      unfold wX10_scans_67
      refine ⟨vp_in_nI (n := 6) (by omega) (by omega), ?_⟩
      rw [show u.1 (x + 7) ((6 : Int32).toNatClampNeg) = nI S.2.2.1.2.1.length from hR.2.2.1.2.1]
      exact ⟨fun _ => hK u hf h2, fun z => absurd (Int32.le_refl _) z⟩
    | succ d ih =>
      intro m u hm hf h2
      have hR : RM x S u := hRv.sc (hf.wk (by intro k; omega))
      unfold wX10_scans_67
      refine ⟨vp_in_nI (n := 6) (by omega) (by omega), ?_⟩
      rw [show u.1 (x + 7) ((6 : Int32).toNatClampNeg) = nI S.2.2.1.2.1.length from hR.2.2.1.2.1]
      refine ⟨fun z => absurd ((nI_leI (by omega) (by omega)).mp z) (by omega), fun _ => ?_⟩
      refine sX10_mapLanes hR.2.1 o3 hR.2.2.1 o4 (by omega) ⟨vp_in_nI (by omega) (by omega), fun t ht => ?_⟩
      rw [nI_clamp (by omega)] at ht
      rw [show nI m + (1 : Int32) = nI (m + 1) from (nI_succ _).symm]
      refine ih (m + 1) t (by omega) (by rw [ht]; exact hf.I rfl) (fun j hj => ?_)
      rw [ht]
      by_cases c : j = m
      · subst c; rw [rI_eq]
      · rw [rI_nj c]; exact h2 j (by omega)
  unfold wX10_scans
  refine ⟨_, lp1 _ ?_ 16 0 s rfl Fr.rf (fun j hj => by omega)⟩
  intro u1 hf1 a1
  refine ⟨_, lp2 _ u1 ?_ 64 0 u1 rfl Fr.rf (fun j hj => by omega)⟩
  intro u2 hf2 a2
  refine ⟨_, lp3 _ u2 ?_ 6 0 u2 rfl Fr.rf (fun j hj => by omega)⟩
  intro u3 hf3 a3
  have hR3 : RM x S u3 := ((h.sc (hf1.wk (by intro k; omega))).sc (hf2.wk (by intro k; omega))).sc (hf3.wk (by intro k; omega))
  refine ⟨_, lp4 _ u3 hR3 ?_ S.2.2.1.2.1.length 0 u3 (by omega) Fr.rf (fun j hj => by omega)⟩
  intro u4 hf4 a4
  have hR4 : RM x S u4 := hR3.sc (hf4.wk (by intro k; omega))
  obtain ⟨r, hr⟩ := allL_head S.2.1.2.length
  refine ⟨_, sX10_scans_main hok hdl hQ r [] (ones1 S.2.1.2.length) hr u4 hR4 ((((hf1.wk (by intro k; omega)).tr (hf2.wk (by intro k; omega))).tr (hf3.wk (by intro k; omega))).tr (hf4.wk (by intro k; omega))) ?_ a4 ⟨fun k hk => ?_, fun q hq => (by cases hq), fun b' hb' => ?_⟩⟩
  · rw [hf4.1 _ (by omega)]
    intro k p hp
    have hk := (List.getElem?_eq_some_iff.mp hp).1
    unfold ones1 at hp hk
    rw [List.length_replicate] at hk
    rw [List.getElem?_replicate, if_pos hk] at hp
    cases hp
    rw [Nat.zero_add]
    exact a3 k (by omega)
  · rw [hf4.1 _ (by omega), hf3.1 _ (by omega), hf2.1 _ (by omega)]
    exact a1 k hk
  · rw [hf4.1 _ (by omega), hf3.1 _ (by omega)]
    exact a2 b' (sets_mem.mp hb').1
end SCN
