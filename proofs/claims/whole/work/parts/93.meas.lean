/-! the reference: lengths of ways -/
def lsI (o : Option Nat) : Int32 := match o with
  | some m => nI m
  | none => 1000000
def lmP (la : Land) (L : List Nat) (k : Nat) : Nat → Option Nat
  | 0 => none
  | j + 1 => if endsN la ((setsL la).getD j 0) = k then (match lmP la L k j with
      | none => some (lenOf L ((setsL la).getD j 0))
      | some m => some (if lenOf L ((setsL la).getD j 0) < m then lenOf L ((setsL la).getD j 0) else m)) else lmP la L k j
section MEM
variable {la : Land} {L : List Nat}
theorem lmP_le1 {k : Nat} : ∀ {n i : Nat}, i < n → endsN la ((setsL la).getD i 0) = k → ∃ m, lmP la L k n = some m ∧ m ≤ lenOf L ((setsL la).getD i 0)
  | 0, i, h, _ => by omega
  | n + 1, i, h, he => by
    unfold lmP
    by_cases c : i = n
    · subst c
      rw [if_pos he]
      cases lmP la L k i with
      | none => exact ⟨_, rfl, Nat.le_refl _⟩
      | some m =>
        refine ⟨_, rfl, ?_⟩
        split <;> omega
    · obtain ⟨m, h1, h2⟩ := lmP_le1 (n := n) (i := i) (by omega) he
      rw [h1]
      split
      · refine ⟨_, rfl, ?_⟩
        split <;> omega
      · exact ⟨m, rfl, h2⟩
theorem lmP_ex {k : Nat} : ∀ {n m : Nat}, lmP la L k n = some m → ∃ i, i < n ∧ endsN la ((setsL la).getD i 0) = k ∧ m = lenOf L ((setsL la).getD i 0)
  | 0, m, h => by cases h
  | n + 1, m, h => by
    unfold lmP at h
    split at h
    · rename_i c
      cases hq : lmP la L k n with
      | none =>
        rw [hq] at h
        cases h
        exact ⟨n, by omega, c, rfl⟩
      | some q =>
        rw [hq] at h
        dsimp only at h
        obtain ⟨i, h1, h2, h3⟩ := lmP_ex hq
        split at h
        · cases h; exact ⟨n, by omega, c, rfl⟩
        · cases h; exact ⟨i, by omega, h2, h3⟩
    · obtain ⟨i, h1, h2⟩ := lmP_ex h
      exact ⟨i, by omega, h2⟩
theorem sets_mem {b : Nat} : b ∈ setsL la ↔ b < 64 ∧ endsN la b ≠ 0 := by
  unfold setsL
  rw [List.mem_filter, List.mem_range]
  simp
theorem set_get {j : Nat} (h : j < (setsL la).length) : (setsL la)[j]? = some ((setsL la).getD j 0) := getD_get h
theorem set_at {j : Nat} (h : j < (setsL la).length) : (setsL la).getD j 0 ∈ setsL la := List.mem_of_getElem? (set_get h)
theorem sets_len : (setsL la).length ≤ 64 := by
  unfold setsL
  exact Nat.le_trans (List.length_filter_le _ _) (by rw [List.length_range]; exact Nat.le_refl _)
theorem ends_way (h : okLand la) {i : Nat} (hi : i < (waysL la).length) : endsN la (wB la i) = endK ((waysL la).getD i []) + 1 := by
  unfold endsN
  rw [ways_ix h hi]
theorem ends_inv {b : Nat} (hb : endsN la b ≠ 0) : ∃ i, i < (waysL la).length ∧ wayIx la b = some i ∧ wB la i = b ∧ endsN la b = endK ((waysL la).getD i []) + 1 := by
  unfold endsN at *
  cases hz : wayIx la b with
  | none => rw [hz] at hb; exact absurd rfl hb
  | some i =>
    obtain ⟨h1, h2⟩ := wIx_lt hz
    exact ⟨i, h1, rfl, h2, rfl⟩
theorem ends_lt (h : okLand la) (b : Nat) : endsN la b < 26 := by
  by_cases c : endsN la b = 0
  · omega
  · obtain ⟨i, h1, -, -, h4⟩ := ends_inv c
    have := (ways_end h.2.1 (way_mem h1)).1
    omega
theorem way_set (h : okLand la) {i : Nat} (hi : i < (waysL la).length) : ∃ j, j < (setsL la).length ∧ (setsL la).getD j 0 = wB la i := by
  have hm : wB la i ∈ setsL la := sets_mem.mpr ⟨wB_lt h i, by rw [ends_way h hi]; omega⟩
  obtain ⟨j, hj⟩ := List.getElem?_of_mem hm
  refine ⟨j, (List.getElem?_eq_some_iff.mp hj).1, ?_⟩
  rw [List.getD_eq_getElem?_getD, hj]
  rfl
theorem lm_eq (h : okLand la) (k : Nat) : lmP la L (k + 1) (setsL la).length = lsL la L k := by
  have back : ∀ m, lmP la L (k + 1) (setsL la).length = some m → ∃ m2, lsL la L k = some m2 ∧ m2 ≤ m := by
    intro m hm
    obtain ⟨j, h1, h2, h3⟩ := lmP_ex hm
    obtain ⟨i, i1, -, i3, i4⟩ := ends_inv (la := la) (b := (setsL la).getD j 0) (by omega)
    obtain ⟨m2, h4, h5⟩ := lsP_le1 (ls := la.2) (L := L) (W := waysL la) (k := k) i1 (by omega)
    refine ⟨m2, h4, ?_⟩
    rw [h3, ← i3]
    exact h5
  cases hz : lsL la L k with
  | some m =>
    obtain ⟨i, h1, h2, h3⟩ := lsP_ex hz
    obtain ⟨j, hj, hjb⟩ := way_set h h1
    obtain ⟨m1, h4, h5⟩ := lmP_le1 (L := L) (k := k + 1) hj (by rw [hjb, ends_way h h1, h2])
    obtain ⟨m2, h6, h7⟩ := back m1 h4
    rw [hz] at h6
    cases h6
    rw [h4]
    congr 1
    have : m1 ≤ m := by
      rw [h3]
      have e : bitsOf la.2 ((waysL la).getD i []) = (setsL la).getD j 0 := hjb.symm
      rw [e]
      exact h5
    omega
  | none =>
    cases hq : lmP la L (k + 1) (setsL la).length with
    | none => rfl
    | some m =>
      obtain ⟨m2, h6, -⟩ := back m hq
      rw [hz] at h6
      cases h6
theorem lm_0 (n : Nat) (hn : n ≤ (setsL la).length) : lmP la L 0 n = none := by
  cases hq : lmP la L 0 n with
  | none => rfl
  | some m =>
    obtain ⟨i, h1, h2, -⟩ := lmP_ex hq
    exact absurd h2 (sets_mem.mp (set_at (show i < (setsL la).length by omega))).2
theorem lenP_clear {b l : Nat} (hb : b < 64) (h : b.testBit l = true) : ∀ k, lenP L b k = lenP L (andn b (2 ^ l)) k + if l < k then L.getD l 0 else 0
  | 0 => by unfold lenP; simp
  | k + 1 => by
    have ih := lenP_clear hb h k
    unfold lenP
    rw [ih, andn_tb hb, Nat.testBit_two_pow]
    by_cases c : l = k
    · subst c
      rw [h, decide_eq_true rfl, if_neg (Nat.lt_irrefl l), if_pos (Nat.lt_succ_self l)]
      simp
    · rw [decide_eq_false c]
      simp only [Bool.not_false, Bool.and_true]
      by_cases d : l < k
      · rw [if_pos d, if_pos (show l < k + 1 by omega)]
        exact Nat.add_right_comm _ _ _
      · rw [if_neg d, if_neg (show ¬ l < k + 1 by omega)]
        rfl
theorem lowB0 : allN (fun b => decide (1 ≤ b → lowBit b < 6 ∧ b.testBit (lowBit b) = true ∧ b &&& (b - 1) = andn b (2 ^ lowBit b) ∧ b &&& (b - 1) < b)) 64 = true := by decide +kernel
theorem lowB {b : Nat} (hb : b < 64) (h1 : 1 ≤ b) : lowBit b < 6 ∧ b.testBit (lowBit b) = true ∧ b &&& (b - 1) = andn b (2 ^ lowBit b) ∧ b &&& (b - 1) < b := of_decide_eq_true (allN_at lowB0 b hb) h1
theorem low_lt {b n : Nat} (hb : b < 64) (h1 : 1 ≤ b) (hn : b < 2 ^ n) : lowBit b < n := by
  rcases Nat.lt_or_ge (lowBit b) n with c | c
  · exact c
  · have := (lowB hb h1).2.1
    rw [Nat.testBit_lt_two_pow (Nat.lt_of_lt_of_le hn (p2_le c))] at this
    cases this
theorem lenOf_low {b : Nat} (hb : b < 64) (h1 : 1 ≤ b) (hn : b < 2 ^ L.length) : lenOf L b = lenOf L (b &&& (b - 1)) + L.getD (lowBit b) 0 := by
  obtain ⟨a1, a2, a3, -⟩ := lowB hb h1
  unfold lenOf
  rw [lenP_clear hb a2, a3, if_pos (low_lt hb h1 hn)]
theorem lenOf_0 : lenOf L 0 = 0 := lenP_no _ (fun i _ => by simp)
end MEM
def MeasM (x : Nat) (la : Land) (L : List Nat) (u : St) : Prop := (∀ b, b < 2 ^ la.2.length → u.1 (x + 14) b = nI (lenOf L b)) ∧ ∀ k, k < 26 → u.1 (x + 18) k = lsI (lmP la L k (setsL la).length)
section MES
variable {x : Nat} {s : St}
theorem sX10_measures {x1 n1 : Nat} {la : Land} {L : List Nat} {Q : St → Prop} (h3 : okLand la) (hx1 : x1 ≠ x + 14 ∧ x1 ≠ x + 18) (hn1 : 6 ≤ n1) (hn2 : n1 < 2 ^ 31) (hla : s.1 (x + 2) 1 = nI la.2.length) (hW : WaysM x la s) (hL : L.length = la.2.length) (hL5 : ∀ y ∈ L, y ≤ 5) (hr : rowAt (s.1 x1) 0 L) (hQ : ∀ u, Fr (fun k => k = x + 14 ∨ k = x + 18) s u → MeasM x la L u → Q u) : wX10_measures x x1 n1 s Q := by
  have l6 := h3.2.2.1
  have p6 := p2_le l6
  have p0 := Nat.two_pow_pos la.2.length
  obtain ⟨w1, w2, w3, w4⟩ := hW
  have s64 := sets_len (la := la)
  unfold wX10_measures
  have lp1 : ∀ (K : St → Prop), (∀ u, Fr (fun k => k = x + 14 ∨ k = x + 18) s u → u.1 (x + 14) = s.1 (x + 14) → (∀ k, k < 26 → u.1 (x + 18) k = 1000000) → K u) → ∀ d k u, k + d = 26 → Fr (fun k => k = x + 14 ∨ k = x + 18) s u → u.1 (x + 14) = s.1 (x + 14) → (∀ j, j < k → u.1 (x + 18) j = 1000000) → wX10_measures_2 x x1 n1 K Q (d + 1) (nI k) u := by
    intro K hK d
    induction d with
    | zero =>
      intro k u hk hf h1 h2
      unfold wX10_measures_2
      have ek : k = 26 := by omega
      subst ek
      exact ⟨fun _ => hK u hf h1 h2, fun z => absurd (Int32.le_refl _) z⟩
    | succ d ih =>
      intro k u hk hf h1 h2
      unfold wX10_measures_2
      refine ⟨fun z => absurd ((nI_leI (a := 26) (by omega) (by omega)).mp z) (by omega), fun _ => ⟨vp_in_nI (by omega) (by omega), fun t ht => ?_⟩⟩
      rw [nI_clamp (by omega)] at ht
      rw [show nI k + (1 : Int32) = nI (k + 1) from (nI_succ _).symm]
      refine ih (k + 1) t (by omega) (by rw [ht]; exact hf.I (Or.inr rfl)) (by rw [ht, rI_ne (by omega)]; exact h1) (fun j hj => ?_)
      rw [ht]
      by_cases c : j = k
      · subst c; rw [rI_eq]
      · rw [rI_nj c]; exact h2 j (by omega)
  have lp2 : ∀ (K : St → Prop), (∀ u, Fr (fun k => k = x + 14 ∨ k = x + 18) s u → (∀ b, b < 2 ^ la.2.length → u.1 (x + 14) b = nI (lenOf L b)) → (∀ k, k < 26 → u.1 (x + 18) k = 1000000) → K u) → ∀ d b u, b + d = 2 ^ la.2.length → 1 ≤ b → Fr (fun k => k = x + 14 ∨ k = x + 18) s u → (∀ j, j < b → u.1 (x + 14) j = nI (lenOf L j)) → (∀ k, k < 26 → u.1 (x + 18) k = 1000000) → wX10_measures_24 x x1 n1 K Q (d + 1) (nI b) u := by
    intro K hK d
    induction d with
    | zero =>
      intro b u hb h1b hf h1 h2
      have eb : b = 2 ^ la.2.length := by omega
      have e2 : u.1 (x + 2) 1 = nI la.2.length := by rw [hf.1 (x + 2) (by omega)]; exact hla
      have e1 : (1 : Int32) <<< (u.1 (x + 2) ((1 : Int32).toNatClampNeg) &&& 31) = nI (2 ^ la.2.length) := by
        rw [show u.1 (x + 2) ((1 : Int32).toNatClampNeg) = nI la.2.length from e2, show (1 : Int32) = nI 1 from rfl, show (31 : Int32) = nI 31 from rfl, fa_and, shl1 (by omega)]
      unfold wX10_measures_24
      refine ⟨vp_in_nI (n := 1) (by omega) (by omega), ?_⟩
      rw [e1, eb]
      rw [eb] at h1
      exact ⟨fun _ => hK u hf h1 h2, fun z => absurd (Int32.le_refl _) z⟩
    | succ d ih =>
      intro b u hb h1b hf h1 h2
      have e2 : u.1 (x + 2) 1 = nI la.2.length := by rw [hf.1 (x + 2) (by omega)]; exact hla
      have e1 : (1 : Int32) <<< (u.1 (x + 2) ((1 : Int32).toNatClampNeg) &&& 31) = nI (2 ^ la.2.length) := by
        rw [show u.1 (x + 2) ((1 : Int32).toNatClampNeg) = nI la.2.length from e2, show (1 : Int32) = nI 1 from rfl, show (31 : Int32) = nI 31 from rfl, fa_and, shl1 (by omega)]
      have h64 : b < 64 := by omega
      obtain ⟨a1, a2, a3, a4⟩ := lowB h64 h1b
      have hll := low_lt h64 h1b (show b < 2 ^ la.2.length by omega)
      have e15 : u.1 (x + 15) b = nI (lowBit b) := by rw [hf.1 (x + 15) (by omega)]; exact (w1 b h1b h64).2
      have ex1 : u.1 x1 (lowBit b) = nI (L.getD (lowBit b) 0) := by
        rw [hf.1 x1 (by omega)]
        have := hr (lowBit b) _ (getD_get (show lowBit b < L.length by omega))
        rw [Nat.zero_add] at this
        exact this
      have eand : nI b &&& (nI b - (1 : Int32)) = nI (b &&& (b - 1)) := by
        rw [show (1 : Int32) = nI 1 from rfl, nI_sub h1b, fa_and]
      unfold wX10_measures_24
      refine ⟨vp_in_nI (n := 1) (by omega) (by omega), ?_⟩
      rw [e1, eand, nI_clamp (show b < 2 ^ 31 by omega), e15, nI_clamp (show lowBit b < 2 ^ 31 by omega), nI_clamp (show b &&& (b - 1) < 2 ^ 31 by omega), ex1, h1 _ a4, nI_add, ← lenOf_low h64 h1b (by rw [hL]; omega)]
      refine ⟨fun z => absurd ((nI_leI (by omega) (by omega)).mp z) (by omega), fun _ => ⟨vp_in_nI (by omega) (by omega), vp_in_nI (by omega) (by omega), vp_in_nI (by omega) (by omega), vp_in_nI (by omega) (by omega), fun t ht => ?_⟩⟩
      rw [show nI b + (1 : Int32) = nI (b + 1) from (nI_succ _).symm]
      refine ih (b + 1) t (by omega) (by omega) (by rw [ht]; exact hf.I (Or.inl rfl)) (fun j hj => ?_) (fun k hk => by rw [ht, rI_ne (by omega)]; exact h2 k hk)
      rw [ht]
      by_cases c : j = b
      · subst c; rw [rI_eq]
      · rw [rI_nj c]; exact h1 j (by omega)
  have lp3 : ∀ d j u, j + d = (setsL la).length → Fr (fun k => k = x + 14 ∨ k = x + 18) s u → (∀ b, b < 2 ^ la.2.length → u.1 (x + 14) b = nI (lenOf L b)) → (∀ k, k < 26 → u.1 (x + 18) k = lsI (lmP la L k j)) → wX10_measures_69 x Q (d + 1) (nI j) u := by
    intro d
    induction d with
    | zero =>
      intro j u hj hf h1 h2
      have ej : j = (setsL la).length := by omega
      subst ej
      have e26 : u.1 x 26 = nI (setsL la).length := by rw [hf.1 x (by omega)]; exact w2
      unfold wX10_measures_69
      rw [e26]
      exact ⟨fun _ => hQ u hf ⟨h1, h2⟩, fun z => absurd (Int32.le_refl _) z⟩
    | succ d ih =>
      intro j u hj hf h1 h2
      have hjl : j < (setsL la).length := by omega
      have e26 : u.1 x 26 = nI (setsL la).length := by rw [hf.1 x (by omega)]; exact w2
      have e16 : u.1 (x + 16) j = nI ((setsL la).getD j 0) := by
        rw [hf.1 (x + 16) (by omega)]
        have := w3 j _ (set_get hjl)
        rw [Nat.zero_add] at this
        exact this
      obtain ⟨m1, m2⟩ := sets_mem.mp (set_at hjl)
      obtain ⟨i, i1, i2, i3, i4⟩ := ends_inv m2
      have hel := ends_lt h3 ((setsL la).getD j 0)
      have hb2 : (setsL la).getD j 0 < 2 ^ la.2.length := by rw [← i3]; exact wB_n i
      have hb1 : 1 ≤ (setsL la).getD j 0 := by
        rcases Nat.eq_zero_or_pos ((setsL la).getD j 0) with z | z
        · exfalso
          obtain ⟨r1, r2, r3⟩ := ways_row (way_mem i1)
          have hj2 := r1.2.2.1 0 (by omega)
          cases hl : lnB la.2 (((waysL la).getD i []).getD 0 0) (((waysL la).getD i []).getD (0 + 1) 0) with
          | none => rw [hl] at hj2; cases hj2
          | some l =>
            have := (bits_tb (ls := la.2) (w := (waysL la).getD i []) (l := l)).mpr ⟨0, by omega, hl⟩
            rw [show bitsOf la.2 ((waysL la).getD i []) = 0 from i3.trans z] at this
            simp at this
        · exact z
      have hlen := lenOf_le hL5 (by omega) ((setsL la).getD j 0)
      have e14 := h1 _ hb2
      have ih2 := ih (j + 1)
      unfold lmP at ih2
      generalize hbb : (setsL la).getD j 0 = b at *
      have e13 : u.1 (x + 13) b = nI (endsN la b) := by rw [hf.1 (x + 13) (by omega)]; exact (w1 b hb1 m1).1
      have e18 := h2 _ hel
      unfold wX10_measures_69 wX10_measures_134
      rw [e26, nI_clamp (show j < 2 ^ 31 by omega), e16, nI_clamp (show b < 2 ^ 31 by omega), e13, e14, nI_clamp (show endsN la b < 2 ^ 31 by omega), e18, show nI j + (1 : Int32) = nI (j + 1) from (nI_succ _).symm]
      refine ⟨fun z => absurd ((nI_leI (by omega) (by omega)).mp z) (by omega), fun _ => ⟨vp_in_nI (by omega) (by omega), vp_in_nI (by omega) (by omega), vp_in_nI (by omega) (by omega), vp_in_nI (by omega) (by omega), vp_in_nI (by omega) (by omega), fun c => ⟨vp_in_nI (by omega) (by omega), vp_in_nI (by omega) (by omega), vp_in_nI (by omega) (by omega), fun t ht => ?_⟩, fun c => ⟨vp_in_nI (by omega) (by omega), vp_in_nI (by omega) (by omega), fun t ht => ?_⟩⟩⟩
      · refine ih2 t (by omega) (by rw [ht]; exact hf.I (Or.inr rfl)) (fun q hq => by rw [ht, rI_ne (by omega)]; exact h1 q hq) (fun k hk => ?_)
        rw [ht]
        by_cases ck : k = endsN la b
        · subst ck
          rw [rI_eq, if_pos rfl]
          cases hz : lmP la L (endsN la b) j with
          | none =>
            rw [hz] at c
            exact absurd ((nI_leI (a := 1000000) (by omega) (by omega)).mp c) (by omega)
          | some m =>
            rw [hz] at c
            obtain ⟨q, -, -, q3⟩ := lmP_ex hz
            have := lenOf_le hL5 (show L.length ≤ 6 by omega) ((setsL la).getD q 0)
            have c' : m ≤ lenOf L b := (nI_leI (by omega) (by omega)).mp c
            dsimp only
            rw [if_neg (show ¬ lenOf L b < m by omega)]
        · rw [rI_nj ck, if_neg (fun z => ck z.symm)]
          exact h2 k hk
      · refine ih2 t (by omega) (by rw [ht]; exact hf.I (Or.inr rfl)) (fun q hq => by rw [ht, rI_ne (by omega)]; exact h1 q hq) (fun k hk => ?_)
        rw [ht]
        by_cases ck : k = endsN la b
        · subst ck
          rw [rI_eq, if_pos rfl]
          cases hz : lmP la L (endsN la b) j with
          | none => rfl
          | some m =>
            rw [hz] at c
            obtain ⟨q, -, -, q3⟩ := lmP_ex hz
            have := lenOf_le hL5 (show L.length ≤ 6 by omega) ((setsL la).getD q 0)
            have c' : lenOf L b < m := by
              rcases Nat.lt_or_ge (lenOf L b) m with y | y
              · exact y
              · exact absurd ((nI_leI (by omega) (by omega)).mpr y) c
            dsimp only
            rw [if_pos c']
            rfl
        · rw [rI_nj ck, if_neg (fun z => ck z.symm)]
          exact h2 k hk
  refine ⟨_, lp1 _ ?_ 26 0 s rfl Fr.rf rfl (fun j hj => by omega)⟩
  intro u hf h1 h2
  refine ⟨_, lp2 _ ?_ (2 ^ la.2.length - 1) 1 u (by omega) (Nat.le_refl _) hf (fun j hj => ?_) h2⟩
  · intro v hfv h4 h5
    exact ⟨_, lp3 (setsL la).length 0 v (by omega) hfv h4 (fun k hk => h5 k hk)⟩
  · have : j = 0 := by omega
    subst this
    rw [h1, w4, lenOf_0]
    rfl
end MES
