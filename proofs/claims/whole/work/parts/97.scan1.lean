/-! the reference: one try of lengths -/
def bStep (la : Land) (L0 : List Nat) (ok : List Nat → Bool) (b : Option (Nat × List Nat)) (M : List Nat) : Option (Nat × List Nat) := if ok M && betterC (costL la.2 L0 M) b then some (costL la.2 L0 M, M) else b
def bestP (la : Land) (L0 : List Nat) (ok : List Nat → Bool) (P : List (List Nat)) : Option (Nat × List Nat) := P.foldl (bStep la L0 ok) none
theorem best_P (la : Land) (L0 : List Nat) (ok : List Nat → Bool) : best la L0 ok = bestP la L0 ok (allL la.2.length) := rfl
theorem bestP_snoc (la : Land) (L0 : List Nat) (ok : List Nat → Bool) (P : List (List Nat)) (M : List Nat) : bestP la L0 ok (P ++ [M]) = bStep la L0 ok (bestP la L0 ok P) M := by
  unfold bestP
  rw [List.foldl_append]
  rfl
theorem bestP_in {la : Land} {L0 : List Nat} {ok : List Nat → Bool} {q : Nat × List Nat} : ∀ (P : List (List Nat)) (b : Option (Nat × List Nat)), P.foldl (bStep la L0 ok) b = some q → b = some q ∨ (q.2 ∈ P ∧ ok q.2 = true ∧ q.1 = costL la.2 L0 q.2)
  | [], b, h => Or.inl h
  | M :: P, b, h => by
    rw [List.foldl_cons] at h
    rcases bestP_in P _ h with h1 | ⟨h1, h2⟩
    · unfold bStep at h1
      split at h1
      · rename_i c
        rw [Bool.and_eq_true] at c
        cases h1
        exact Or.inr ⟨by simp, c.1, rfl⟩
      · exact Or.inl h1
    · exact Or.inr ⟨List.mem_cons_of_mem _ h1, h2⟩
theorem bestP_ex {la : Land} {L0 : List Nat} {ok : List Nat → Bool} {P : List (List Nat)} {q : Nat × List Nat} (h : bestP la L0 ok P = some q) : q.2 ∈ P ∧ ok q.2 = true ∧ q.1 = costL la.2 L0 q.2 := by
  rcases bestP_in P none h with h1 | h1
  · cases h1
  · exact h1
theorem bestP_cg {la : Land} {L0 : List Nat} {ok ok2 : List Nat → Bool} : ∀ (P : List (List Nat)) (b : Option (Nat × List Nat)), (∀ M ∈ P, ok M = ok2 M) → P.foldl (bStep la L0 ok) b = P.foldl (bStep la L0 ok2) b
  | [], b, _ => rfl
  | M :: P, b, h => by
    rw [List.foldl_cons, List.foldl_cons]
    have e : bStep la L0 ok b M = bStep la L0 ok2 b M := by
      unfold bStep
      rw [h M (by simp)]
    rw [e]
    exact bestP_cg P _ (fun N hN => h N (List.mem_cons_of_mem _ hN))
theorem lsI_bet {b : Option (Nat × List Nat)} {c : Nat} (hb : ∀ q, b = some q → q.1 ≤ 216) (hc : c ≤ 216) : lsI (b.map (·.1)) ≤ nI c ↔ betterC c b = false := by
  cases b with
  | none =>
    constructor
    · intro h
      have := (nI_leI (a := 1000000) (by omega) (by omega)).mp h
      omega
    · intro h; cases h
  | some q =>
    have hq := hb q rfl
    show nI q.1 ≤ nI c ↔ decide (c < q.1) = false
    rw [nI_leI (by omega) (by omega), decide_eq_false_iff_not]
    omega
/-- the draft holds, and of the maps just those of a set -/
def pk (S : Sp) (dl : List Nat) (k : Nat) (M : List Nat) : Bool := dl.all (hB S.2.1 M) && (heldP S.2.1 M S.2.2.1.2.1 S.2.2.1.2.1.length == k)
def pw (S : Sp) (dl : List Nat) (b : Nat) (M : List Nat) : Bool := pk S dl (2 ^ S.2.2.1.2.1.length - 1) M && hB S.2.1 M b
def ScM (x : Nat) (S : Sp) (dl : List Nat) (P : List (List Nat)) (u : St) : Prop := (∀ k, k < 16 → u.1 (x + 20) k = lsI ((bestP S.2.1 S.2.2.1.1 (pk S dl k) P).map (·.1))) ∧ (∀ q, bestP S.2.1 S.2.2.1.1 (pk S dl (2 ^ S.2.2.1.2.1.length - 1)) P = some q → rowAt (u.1 (x + 21)) 0 q.2) ∧ (∀ b, b ∈ setsL S.2.1 → u.1 (x + 22) b = lsI ((bestP S.2.1 S.2.2.1.1 (pw S dl b) P).map (·.1)))
def cosP (la : Land) (L0 M : List Nat) : Nat → Nat
  | 0 => 0
  | l + 1 => cosP la L0 M l + spade la l * dif (L0.getD l 0) (M.getD l 0)
theorem cosP_drop {la : Land} {L0 M : List Nat} (hL : L0.length = la.2.length) (hM : M.length = la.2.length) : ∀ l, l ≤ la.2.length → cosP la L0 M l + costL (la.2.drop l) (L0.drop l) (M.drop l) = costL la.2 L0 M
  | 0, _ => by unfold cosP; simp
  | l + 1, h => by
    have ih := cosP_drop hL hM l (by omega)
    rw [drop_lane (show l < la.2.length by omega), drop_getD (show l < L0.length by omega), drop_getD (show l < M.length by omega), costL_cons] at ih
    unfold cosP
    have : spade la l = (la.2.getD l (0, 0, 0)).2.2 := rfl
    rw [this]
    omega
theorem cosP_all {la : Land} {L0 M : List Nat} (hL : L0.length = la.2.length) (hM : M.length = la.2.length) : cosP la L0 M la.2.length = costL la.2 L0 M := by
  have := cosP_drop hL hM la.2.length (Nat.le_refl _)
  rw [List.drop_eq_nil_of_le (Nat.le_of_eq hM), costL_nil] at this
  exact this
section SC1
variable {x : Nat} {S : Sp} {s : St}
theorem RM.sc {u : St} (h : RM x S s) (hf : Fr (fun k => k = x + 17 ∨ (19 + x ≤ k ∧ k ≤ x + 24)) s u) : RM x S u :=
  h.cg (by rw [hf.1 x (by omega)]) (by rw [hf.1 x (by omega)]) (by rw [hf.1 x (by omega)]) (by rw [hf.1 x (by omega)]) (fun c hc => hf.1 _ (by simp at hc; omega)) (by rw [hf.1 (x + 14) (by omega)]) (by rw [hf.2])
theorem MeasM.fr {la : Land} {L : List Nat} {u : St} {M : Nat → Prop} (h : MeasM x la L s) (hf : Fr M s u) (hd : ¬ M (x + 14) ∧ ¬ M (x + 18)) : MeasM x la L u := by
  unfold MeasM at *
  rw [hf.1 _ hd.1, hf.1 _ hd.2]
  exact h
theorem sX10_apart {a b : Nat} {Q : Int32 → St → Prop} (ha : a < 2 ^ 30) (hb : b < 2 ^ 30) (hQ : Q (nI (dif b a)) s) : wX10_apart (nI a) (nI b) s Q := by
  unfold dif at hQ
  unfold wX10_apart
  refine ⟨fun c => ?_, fun c => ?_⟩
  · have c' := (nI_leI (by omega) (by omega)).mp c
    rw [nI_sub c']
    by_cases d : b < a
    · rw [if_pos d] at hQ; exact hQ
    · rw [if_neg d, show b - a = a - b by omega] at hQ; exact hQ
  · have c' : a < b := by
      rcases Nat.lt_or_ge a b with y | y
      · exact y
      · exact absurd ((nI_leI (by omega) (by omega)).mpr y) c
    rw [nI_sub (by omega)]
    rw [if_neg (by omega)] at hQ
    exact hQ
theorem sX10_allMaps {Q : Int32 → St → Prop} (h : RM x S s) (hok : okSp S) (hQ : Q (nI (2 ^ S.2.2.1.2.1.length - 1)) s) : wX10_allMaps x s Q := by
  have h4 := hok.2.2.2.1.2.2.1
  unfold wX10_allMaps
  refine ⟨vp_in_nI (n := 6) (by omega) (by omega), ?_⟩
  rw [show s.1 (x + 7) ((6 : Int32).toNatClampNeg) = nI S.2.2.1.2.1.length from h.2.2.1.2.1, show (1 : Int32) = nI 1 from rfl, show (31 : Int32) = nI 31 from rfl, fa_and, shl1 (by omega), nI_sub (Nat.two_pow_pos _)]
  exact hQ
theorem best_216 (hok : okSp S) {ok : List Nat → Bool} {P : List (List Nat)} (hP : ∀ M ∈ P, M ∈ allL S.2.1.2.length) : ∀ q, bestP S.2.1 S.2.2.1.1 ok P = some q → q.1 ≤ 216 := by
  intro q hq
  obtain ⟨-, -, o3, o4, -⟩ := id hok
  obtain ⟨h1, -, h3⟩ := bestP_ex hq
  have h15 := (allL_in.mp (hP _ h1)).2
  have := costL_le (ls := S.2.1.2) (L0 := S.2.2.1.1) (M := q.2) (fun ln hl => by
    obtain ⟨i, hi⟩ := List.getElem?_of_mem hl
    exact (o3.2.2.2.1 i ln.1 ln.2.1 ln.2.2 hi).2.2.2.2) o4.2.1 h15
  have := o3.2.2.1
  omega
theorem cost_216 (hok : okSp S) {M : List Nat} (hM : M ∈ allL S.2.1.2.length) : costL S.2.1.2 S.2.2.1.1 M ≤ 216 := by
  obtain ⟨-, -, o3, o4, -⟩ := id hok
  have h15 := (allL_in.mp hM).2
  have := costL_le (ls := S.2.1.2) (L0 := S.2.2.1.1) (M := M) (fun ln hl => by
    obtain ⟨i, hi⟩ := List.getElem?_of_mem hl
    exact (o3.2.2.2.1 i ln.1 ln.2.1 ln.2.2 hi).2.2.2.2) o4.2.1 h15
  have := o3.2.2.1
  omega
theorem sX10_scansOne {dl : List Nat} {P : List (List Nat)} {M : List Nat} {Q : St → Prop} (h : RM x S s) (hok : okSp S) (hMe : MeasM x S.2.1 M s) (hM : M ∈ allL S.2.1.2.length) (hP : ∀ N ∈ P, N ∈ allL S.2.1.2.length) (htr : rowAt (s.1 (x + 19)) 0 M) (hms : ∀ m, m < S.2.2.1.2.1.length → s.1 (x + 17) m = nI (bitsOf S.2.1.2 (S.2.2.1.2.1.getD m []))) (hd : dl.all (hB S.2.1 M) = true) (hS : ScM x S dl P s) (hQ : ∀ u, Fr (fun k => k = x + 20 ∨ k = x + 21 ∨ k = x + 22) s u → ScM x S dl (P ++ [M]) u → Q u) : wX10_scansOne x s Q := by
  obtain ⟨-, -, o3, o4, -⟩ := id hok
  have l6 := o3.2.2.1
  have h4 := o4.2.2.1
  have p4 := p2_le h4
  have p0 := Nat.two_pow_pos S.2.2.1.2.1.length
  obtain ⟨hM1, hM2⟩ := allL_in.mp hM
  have hM5 : ∀ y ∈ M, y ≤ 5 := fun y hy => (hM2 y hy).2
  have hc216 := cost_216 hok hM
  have hk16 := heldP_lt S.2.1 M S.2.2.1.2.1 S.2.2.1.2.1.length
  have hcos := cosP_all (la := S.2.1) (L0 := S.2.2.1.1) (M := M) o4.1 hM1
  have e2 : s.1 (x + 2) ((1 : Int32).toNatClampNeg) = nI S.2.1.2.length := h.2.1.2.1
  have e6 : s.1 (x + 7) ((6 : Int32).toNatClampNeg) = nI S.2.2.1.2.1.length := h.2.2.1.2.1
  have lp1 : ∀ (K : Int32 → St → Prop), K (nI (costL S.2.1.2 S.2.2.1.1 M)) s → ∀ d l, l + d = S.2.1.2.length → wX10_scansOne_6 x 0 K Q (d + 1) (nI (cosP S.2.1 S.2.2.1.1 M l)) (nI l) s := by
    intro K hK d
    induction d with
    | zero =>
      intro l hl
      have el : l = S.2.1.2.length := by omega
      subst el
      unfold wX10_scansOne_6
      refine ⟨vp_in_nI (n := 1) (by omega) (by omega), ?_⟩
      rw [e2, hcos]
      exact ⟨fun _ => hK, fun z => absurd (Int32.le_refl _) z⟩
    | succ d ih =>
      intro l hl
      have hl2 : l < S.2.1.2.length := by omega
      have ih2 := ih (l + 1) (by omega)
      unfold cosP at ih2
      have e5 : s.1 (x + 5) l = nI (spade S.2.1 l) := (h.2.1.2.2 l _ _ _ (lane_get hl2)).2.2
      have e7 : s.1 (x + 7) l = nI (S.2.2.1.1.getD l 0) := h.2.2.1.len (by rw [o4.1]; exact hl2)
      have e19 : s.1 (x + 19) l = nI (M.getD l 0) := by
        have := htr l _ (getD_get (show l < M.length by omega))
        rw [Nat.zero_add] at this
        exact this
      have b1 := getD_le hM5 l
      have b2 := getD_le o4.L5 l
      unfold wX10_scansOne_6
      rw [e2, show (0 : Int32) + nI l = nI l from by rw [show (0 : Int32) = nI 0 from rfl, nI_add, Nat.zero_add], nI_clamp (show l < 2 ^ 31 by omega), e5, e7, e19, show nI l + (1 : Int32) = nI (l + 1) from (nI_succ _).symm]
      refine ⟨vp_in_nI (n := 1) (by omega) (by omega), fun z => absurd ((nI_leI (by omega) (by omega)).mp z) (by omega), fun _ => ⟨vp_in_nI (by omega) (by omega), vp_in_nI (by omega) (by omega), vp_in_nI (by omega) (by omega), ?_⟩⟩
      refine sX10_apart (by omega) (by omega) ?_
      rw [pk_mul, nI_add]
      exact ih2
  have lp2 : ∀ (K : Int32 → St → Prop) (x1 : Int32), K (nI (heldP S.2.1 M S.2.2.1.2.1 S.2.2.1.2.1.length)) s → ∀ d m, m + d = S.2.2.1.2.1.length → wX10_scansOne_51 x x1 K Q (d + 1) (nI (heldP S.2.1 M S.2.2.1.2.1 m)) (nI m) s := by
    intro K x1 hK d
    induction d with
    | zero =>
      intro m hm
      have em : m = S.2.2.1.2.1.length := by omega
      subst em
      unfold wX10_scansOne_51
      refine ⟨vp_in_nI (n := 6) (by omega) (by omega), ?_⟩
      rw [e6]
      exact ⟨fun _ => hK, fun z => absurd (Int32.le_refl _) z⟩
    | succ d ih =>
      intro m hm
      have hm2 : m < S.2.2.1.2.1.length := by omega
      have ih2 := ih (m + 1) (by omega)
      unfold heldP at ih2
      unfold wX10_scansOne_51 wX10_scansOne_83
      refine ⟨vp_in_nI (n := 6) (by omega) (by omega), ?_⟩
      rw [e6, nI_clamp (show m < 2 ^ 31 by omega), hms m hm2, show nI m + (1 : Int32) = nI (m + 1) from (nI_succ _).symm]
      refine ⟨fun z => absurd ((nI_leI (by omega) (by omega)).mp z) (by omega), fun _ => ⟨vp_in_nI (by omega) (by omega), ?_⟩⟩
      refine sX10_holds o3 h.2.2.2.2.2.2.1 hMe hM5 (by omega) (map_ends hok hm2) ?_
      cases hz : hB S.2.1 M (bitsOf S.2.1.2 (S.2.2.1.2.1.getD m [])) with
      | false =>
        rw [hz, if_neg (by decide), Nat.or_zero] at ih2
        refine ⟨fun _ => ?_, fun z => absurd rfl z⟩
        rw [show (0 : Int32) = nI 0 from rfl, fa_or, Nat.or_zero]
        exact ih2
      | true =>
        rw [hz, if_pos rfl] at ih2
        refine ⟨fun z => absurd z (show ¬ (1 : Int32) = 0 by decide), fun _ => ?_⟩
        rw [show (1 : Int32) = nI 1 from rfl, show (31 : Int32) = nI 31 from rfl, fa_and, shl1 (by omega), fa_or]
        exact ih2
  obtain ⟨s1, s2, s3⟩ := hS
  have pkk : ∀ k, pk S dl k M = (heldP S.2.1 M S.2.2.1.2.1 S.2.2.1.2.1.length == k) := fun k => by unfold pk; rw [hd, Bool.true_and]
  generalize hkk : heldP S.2.1 M S.2.2.1.2.1 S.2.2.1.2.1.length = kk at lp2 pkk hk16
  have fin : ∀ u, Fr (fun k => k = x + 20 ∨ k = x + 21 ∨ k = x + 22) s u → u.1 (x + 20) = s.1 (x + 20) → (∀ q, bestP S.2.1 S.2.2.1.1 (pk S dl (2 ^ S.2.2.1.2.1.length - 1)) (P ++ [M]) = some q → rowAt (u.1 (x + 21)) 0 q.2) → (∀ b, b ∈ setsL S.2.1 → u.1 (x + 22) b = lsI ((bestP S.2.1 S.2.2.1.1 (pw S dl b) (P ++ [M])).map (·.1))) → wX10_scansOne_205 Q x (nI (costL S.2.1.2 S.2.2.1.1 M)) (nI kk) u := by
    intro u hf h20 h21 h22
    have ek : u.1 (x + 20) kk = lsI ((bestP S.2.1 S.2.2.1.1 (pk S dl kk) P).map (·.1)) := by rw [h20]; exact s1 kk (by omega)
    have hbt := lsI_bet (best_216 hok (ok := pk S dl kk) hP) hc216
    unfold wX10_scansOne_205 wX10_scansOne_230
    rw [nI_clamp (by omega), ek]
    have go : ∀ v t : St, ∀ w : Int32, v = stI u (x + 20) kk w → w = lsI ((bestP S.2.1 S.2.2.1.1 (pk S dl kk) (P ++ [M])).map (·.1)) → Q v := by
      intro v t w hv hw
      refine hQ v (by rw [hv]; exact hf.I (Or.inl rfl)) ⟨fun k hk => ?_, fun q hq => by rw [hv, rI_ne (by omega)]; exact h21 q hq, fun b hb => by rw [hv, rI_ne (by omega)]; exact h22 b hb⟩
      rw [hv]
      by_cases c : k = kk
      · subst c; rw [rI_eq]; exact hw
      · rw [rI_nj c, h20, s1 k hk, bestP_snoc]
        unfold bStep
        rw [pkk k, show (kk == k) = false from beq_eq_false_iff_ne.mpr (fun z => c z.symm)]
        rfl
    refine ⟨vp_in_nI (by omega) (by omega), fun c => ⟨vp_in_nI (by omega) (by omega), vp_in_nI (by omega) (by omega), fun v hv => go v v _ hv ?_⟩, fun c => ⟨vp_in_nI (by omega) (by omega), fun v hv => go v v _ hv ?_⟩⟩
    · rw [bestP_snoc]
      unfold bStep
      rw [hbt.mp c, Bool.and_false]
      rfl
    · rw [bestP_snoc]
      unfold bStep
      have : betterC (costL S.2.1.2 S.2.2.1.1 M) (bestP S.2.1 S.2.2.1.1 (pk S dl kk) P) = true := by
        cases hz : betterC (costL S.2.1.2 S.2.2.1.1 M) (bestP S.2.1 S.2.2.1.1 (pk S dl kk) P) with
        | true => rfl
        | false => exact absurd (hbt.mpr hz) c
      rw [this, pkk, beq_self_eq_true]
      rfl
  unfold wX10_scansOne
  refine ⟨_, lp1 _ ⟨_, lp2 _ _ ?_ S.2.2.1.2.1.length 0 (by omega)⟩ S.2.1.2.length 0 (by omega)⟩
  refine sX10_allMaps h hok ?_
  refine ⟨fun c => ?_, fun c => ?_⟩
  · have c' : ¬ kk = 2 ^ S.2.2.1.2.1.length - 1 := fun z => c (by rw [z])
    have hpf : pk S dl (2 ^ S.2.2.1.2.1.length - 1) M = false := by rw [pkk]; exact beq_eq_false_iff_ne.mpr c'
    refine fin s Fr.rf rfl (fun q hq => ?_) (fun b hb => ?_)
    · rw [bestP_snoc] at hq
      unfold bStep at hq
      rw [hpf] at hq
      exact s2 q hq
    · rw [bestP_snoc]
      unfold bStep pw
      rw [hpf]
      exact s3 b hb
  · have c' : kk = 2 ^ S.2.2.1.2.1.length - 1 := nI_inj (by omega) (by omega) c
    have hpt : pk S dl (2 ^ S.2.2.1.2.1.length - 1) M = true := by rw [pkk, c']; exact beq_self_eq_true _
    have ek : s.1 (x + 20) kk = lsI ((bestP S.2.1 S.2.2.1.1 (pk S dl kk) P).map (·.1)) := s1 kk (by omega)
    have hbt := lsI_bet (best_216 hok (ok := pk S dl kk) hP) hc216
    have lp4 : ∀ (K : St → Prop) (u0 : St), Fr (fun k => k = x + 20 ∨ k = x + 21 ∨ k = x + 22) s u0 → u0.1 (x + 22) = s.1 (x + 22) → (∀ u, Fr (fun k => k = x + 20 ∨ k = x + 21 ∨ k = x + 22) s u → u.1 (x + 20) = u0.1 (x + 20) → u.1 (x + 21) = u0.1 (x + 21) → (∀ i, i < (setsL S.2.1).length → u.1 (x + 22) ((setsL S.2.1).getD i 0) = lsI ((bestP S.2.1 S.2.2.1.1 (pw S dl ((setsL S.2.1).getD i 0)) (P ++ [M])).map (·.1))) → K u) → ∀ d j u, j + d = (setsL S.2.1).length → Fr (fun k => k = x + 20 ∨ k = x + 21 ∨ k = x + 22) s u → u.1 (x + 20) = u0.1 (x + 20) → u.1 (x + 21) = u0.1 (x + 21) → (∀ i, i < (setsL S.2.1).length → u.1 (x + 22) ((setsL S.2.1).getD i 0) = lsI ((bestP S.2.1 S.2.2.1.1 (pw S dl ((setsL S.2.1).getD i 0)) (if i < j then P ++ [M] else P)).map (·.1))) → wX10_scansOne_137 x (nI (costL S.2.1.2 S.2.2.1.1 M)) (nI kk) K Q (d + 1) (nI j) u := by
      intro K u0 _ _ hK d
      have s64 := sets_len (la := S.2.1)
      induction d with
      | zero =>
        intro j u hj hf h20 h21 h22
        have ej : j = (setsL S.2.1).length := by omega
        subst ej
        have hR : RM x S u := h.sc (hf.wk (by intro k; omega))
        unfold wX10_scansOne_137
        rw [hR.2.2.2.2.2.2.1.2.1]
        refine ⟨fun _ => hK u hf h20 h21 (fun i hi => ?_), fun z => absurd (Int32.le_refl _) z⟩
        have := h22 i hi
        rw [if_pos hi] at this
        exact this
      | succ d ih =>
        intro j u hj hf h20 h21 h22
        have hjl : j < (setsL S.2.1).length := by omega
        have hR : RM x S u := h.sc (hf.wk (by intro k; omega))
        have hMu : MeasM x S.2.1 M u := hMe.fr hf ⟨by omega, by omega⟩
        have e16 : u.1 (x + 16) j = nI ((setsL S.2.1).getD j 0) := by
          have := hR.2.2.2.2.2.2.1.2.2.1 j _ (set_get hjl)
          rw [Nat.zero_add] at this
          exact this
        obtain ⟨m1, m2⟩ := sets_mem.mp (set_at hjl)
        have hj22 := h22 j hjl
        rw [if_neg (Nat.lt_irrefl j)] at hj22
        have hbt2 := lsI_bet (best_216 hok (ok := pw S dl ((setsL S.2.1).getD j 0)) hP) hc216
        have hnd : ∀ i, i < (setsL S.2.1).length → i ≠ j → (setsL S.2.1).getD i 0 ≠ (setsL S.2.1).getD j 0 := fun i hi hij z => by
          have hn : (setsL S.2.1).Nodup := by
            unfold setsL List.Nodup
            exact List.Pairwise.filter _ List.nodup_range
          have := (List.getElem?_inj hi hn).mp ((set_get hi).trans (by rw [z]; exact (set_get hjl).symm))
          exact hij this
        have put : ∀ (w : Int32), w = lsI ((bestP S.2.1 S.2.2.1.1 (pw S dl ((setsL S.2.1).getD j 0)) (P ++ [M])).map (·.1)) → ∀ v, v = stI u (x + 22) ((setsL S.2.1).getD j 0) w → wX10_scansOne_137 x (nI (costL S.2.1.2 S.2.2.1.1 M)) (nI kk) K Q (d + 1) (nI (j + 1)) v := by
          intro w hw v hv
          refine ih (j + 1) v (by omega) (by rw [hv]; exact hf.I (Or.inr (Or.inr rfl))) (by rw [hv, rI_ne (by omega)]; exact h20) (by rw [hv, rI_ne (by omega)]; exact h21) (fun i hi => ?_)
          rw [hv]
          by_cases ci : i = j
          · subst ci
            rw [rI_eq, if_pos (by omega)]
            exact hw
          · rw [rI_nj (hnd i hi ci), h22 i hi]
            by_cases cj : i < j
            · rw [if_pos cj, if_pos (by omega)]
            · rw [if_neg cj, if_neg (by omega)]
        unfold wX10_scansOne_137 wX10_scansOne_187 wX10_scansOne_198
        rw [hR.2.2.2.2.2.2.1.2.1, nI_clamp (show j < 2 ^ 31 by omega), e16, show nI j + (1 : Int32) = nI (j + 1) from (nI_succ _).symm]
        refine ⟨fun z => absurd ((nI_leI (by omega) (by omega)).mp z) (by omega), fun _ => ⟨vp_in_nI (by omega) (by omega), vp_in_nI (by omega) (by omega), ?_⟩⟩
        refine sX10_holds o3 hR.2.2.2.2.2.2.1 hMu hM5 (by omega) m2 ?_
        generalize hbb : (setsL S.2.1).getD j 0 = b at *
        rw [nI_clamp (show b < 2 ^ 31 by omega), e16, nI_clamp (show b < 2 ^ 31 by omega), hj22]
        cases hz : hB S.2.1 M b with
        | false =>
          refine ⟨fun _ => ⟨vp_in_nI (by omega) (by omega), vp_in_nI (by omega) (by omega), vp_in_nI (by omega) (by omega), put _ ?_⟩, fun z => absurd rfl z⟩
          rw [bestP_snoc]
          unfold bStep pw
          rw [hz, Bool.and_false]
          rfl
        | true =>
          refine ⟨fun z => absurd z (show ¬ (1 : Int32) = 0 by decide), fun _ => ⟨vp_in_nI (by omega) (by omega), vp_in_nI (by omega) (by omega), fun c2 => ⟨vp_in_nI (by omega) (by omega), vp_in_nI (by omega) (by omega), vp_in_nI (by omega) (by omega), put _ ?_⟩, fun c2 => ⟨vp_in_nI (by omega) (by omega), put _ ?_⟩⟩⟩
          · rw [bestP_snoc]
            unfold bStep
            rw [hbt2.mp c2, Bool.and_false]
            rfl
          · rw [bestP_snoc]
            unfold bStep
            have hb1 : betterC (costL S.2.1.2 S.2.2.1.1 M) (bestP S.2.1 S.2.2.1.1 (pw S dl b) P) = true := by
              cases hq : betterC (costL S.2.1.2 S.2.2.1.1 M) (bestP S.2.1 S.2.2.1.1 (pw S dl b) P) with
              | true => rfl
              | false => exact absurd (hbt2.mpr hq) c2
            have hpw : pw S dl b M = true := by unfold pw; rw [hpt, hz]; rfl
            rw [hb1, hpw]
            rfl
    have after : ∀ u0, Fr (fun k => k = x + 20 ∨ k = x + 21 ∨ k = x + 22) s u0 → u0.1 (x + 20) = s.1 (x + 20) → u0.1 (x + 22) = s.1 (x + 22) → (∀ q, bestP S.2.1 S.2.2.1.1 (pk S dl (2 ^ S.2.2.1.2.1.length - 1)) (P ++ [M]) = some q → rowAt (u0.1 (x + 21)) 0 q.2) → ∃ k_137, wX10_scansOne_137 x (nI (costL S.2.1.2 S.2.2.1.1 M)) (nI kk) (fun s_k205 => wX10_scansOne_205 Q x (nI (costL S.2.1.2 S.2.2.1.1 M)) (nI kk) s_k205) Q k_137 0 u0 := by
      intro u0 hf0 h20 h22 h21
      refine ⟨_, lp4 _ u0 hf0 h22 ?_ (setsL S.2.1).length 0 u0 (by omega) hf0 rfl rfl (fun i hi => ?_)⟩
      · intro u hf a1 a2 a3
        refine fin u hf (a1.trans h20) (by rw [a2]; exact h21) (fun b hb => ?_)
        obtain ⟨i, hi⟩ := List.getElem?_of_mem hb
        have hil := (List.getElem?_eq_some_iff.mp hi).1
        have := a3 i hil
        have eb : (setsL S.2.1).getD i 0 = b := by rw [List.getD_eq_getElem?_getD, hi]; rfl
        rw [eb] at this
        exact this
      · rw [if_neg (by omega), h22]
        exact s3 _ (set_at hi)
    have ekk : pk S dl kk M = true := by rw [pkk]; exact beq_self_eq_true _
    by_cases cb : betterC (costL S.2.1.2 S.2.2.1.1 M) (bestP S.2.1 S.2.2.1.1 (pk S dl kk) P) = true
    · have nle : ¬ lsI ((bestP S.2.1 S.2.2.1.1 (pk S dl kk) P).map (·.1)) ≤ nI (costL S.2.1.2 S.2.2.1.1 M) := fun z => by
        have := hbt.mp z
        rw [cb] at this
        cases this
      have lp3 : ∀ (K : St → Prop), (∀ u, Fr (fun k => k = x + 20 ∨ k = x + 21 ∨ k = x + 22) s u → u.1 (x + 20) = s.1 (x + 20) → u.1 (x + 22) = s.1 (x + 22) → (∀ j, j < 6 → u.1 (x + 21) j = s.1 (x + 19) j) → K u) → ∀ d l u, l + d = 6 → Fr (fun k => k = x + 20 ∨ k = x + 21 ∨ k = x + 22) s u → u.1 (x + 20) = s.1 (x + 20) → u.1 (x + 22) = s.1 (x + 22) → (∀ j, j < l → u.1 (x + 21) j = s.1 (x + 19) j) → wX10_scansOne_101 x (nI (costL S.2.1.2 S.2.2.1.1 M)) (nI kk) K Q (d + 1) (nI l) u := by
        intro K hK d
        induction d with
        | zero =>
          intro l u hl hf a1 a2 a3
          have el : l = 6 := by omega
          subst el
          unfold wX10_scansOne_101
          exact ⟨fun _ => hK u hf a1 a2 a3, fun z => absurd (Int32.le_refl _) z⟩
        | succ d ih =>
          intro l u hl hf a1 a2 a3
          have e19 : u.1 (x + 19) = s.1 (x + 19) := hf.1 _ (by omega)
          unfold wX10_scansOne_101
          rw [nI_clamp (show kk < 2 ^ 31 by omega), nI_clamp (show l < 2 ^ 31 by omega), a1, ek, e19, show nI l + (1 : Int32) = nI (l + 1) from (nI_succ _).symm]
          refine ⟨fun z => absurd ((nI_leI (a := 6) (by omega) (by omega)).mp z) (by omega), fun _ => ⟨vp_in_nI (by omega) (by omega), fun z => absurd z nle, fun _ => ⟨vp_in_nI (by omega) (by omega), vp_in_nI (by omega) (by omega), fun v hv => ?_⟩⟩⟩
          refine ih (l + 1) v (by omega) (by rw [hv]; exact hf.I (Or.inr (Or.inl rfl))) (by rw [hv, rI_ne (by omega)]; exact a1) (by rw [hv, rI_ne (by omega)]; exact a2) (fun j hj => ?_)
          rw [hv]
          by_cases cj : j = l
          · subst cj; rw [rI_eq]
          · rw [rI_nj cj]; exact a3 j (by omega)
      refine ⟨_, lp3 _ ?_ 6 0 s rfl Fr.rf rfl rfl (fun j hj => by omega)⟩
      intro u hf a1 a2 a3
      refine after u hf a1 a2 (fun q hq => ?_)
      rw [← c', bestP_snoc] at hq
      unfold bStep at hq
      rw [cb, ekk, Bool.and_self, if_pos rfl] at hq
      cases hq
      intro k p hp
      have hkl := (List.getElem?_eq_some_iff.mp hp).1
      have := htr k p hp
      rw [Nat.zero_add] at this ⊢
      rw [a3 k (by dsimp only at hkl; omega)]
      exact this
    · have cbf : betterC (costL S.2.1.2 S.2.2.1.1 M) (bestP S.2.1 S.2.2.1.1 (pk S dl kk) P) = false := by
        cases hz : betterC (costL S.2.1.2 S.2.2.1.1 M) (bestP S.2.1 S.2.2.1.1 (pk S dl kk) P) with
        | true => exact absurd hz cb
        | false => rfl
      refine ⟨1, ?_⟩
      unfold wX10_scansOne_101
      rw [nI_clamp (show kk < 2 ^ 31 by omega), ek]
      refine ⟨fun z => absurd ((nI_leI (a := 6) (b := 0) (by omega) (by omega)).mp z) (by omega), fun _ => ⟨vp_in_nI (by omega) (by omega), fun _ => ?_, fun z => absurd (hbt.mpr cbf) z⟩⟩
      refine after s Fr.rf rfl rfl (fun q hq => ?_)
      rw [← c', bestP_snoc] at hq
      unfold bStep at hq
      rw [cbf, Bool.and_false] at hq
      rw [c'] at hq
      exact s2 q hq
end SC1
