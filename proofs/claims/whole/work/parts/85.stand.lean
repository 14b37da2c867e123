/-! the class's standing, clash, fire -/
/-- whether some maps (bits) can all hold, the draft too -/
def canB (S : Sp) (some : Nat) : Bool := (minC S (selB S some ++ dB S.2.1 S.2.2.1)).isSome
theorem canB_iff {S : Sp} {some : Nat} : canB S some = true ↔ ∃ M, M ∈ allL S.2.1.2.length ∧ okL S.2.1 (selB S some ++ dB S.2.1 S.2.2.1) M = true := by
  unfold canB
  constructor
  · intro h
    cases hz : minC S (selB S some ++ dB S.2.1 S.2.2.1) with
    | none => rw [hz] at h; cases h
    | some m =>
      obtain ⟨M, a, b, -⟩ := best_min.2 m hz
      exact ⟨M, a, b⟩
  · rintro ⟨M, a, b⟩
    obtain ⟨m, hm, -⟩ := best_min.1 M a b
    rw [show minC S (selB S some ++ dB S.2.1 S.2.2.1) = Option.some m from hm]; rfl
theorem selP_mem {ls : List Lane} {some : Nat} {maps : List (List Nat)} {b : Nat} : ∀ {n : Nat}, b ∈ selP ls some maps n ↔ ∃ m, m < n ∧ some.testBit m = true ∧ b = bitsOf ls (maps.getD m [])
  | 0 => by unfold selP; simp
  | n + 1 => by
    rw [selP_succ, List.mem_append, selP_mem (n := n)]
    constructor
    · rintro (⟨m, h1, h2⟩ | h)
      · exact ⟨m, by omega, h2⟩
      · split at h
        · rename_i hc; exact ⟨n, by omega, hc, List.mem_singleton.mp h⟩
        · cases h
    · rintro ⟨m, h1, h2, h3⟩
      by_cases c : m = n
      · subst c; right; rw [if_pos h2]; exact List.mem_singleton.mpr h3
      · left; exact ⟨m, by omega, h2, h3⟩
theorem canB_mono {S : Sp} {a b : Nat} (h : canB S a = true) (hs : ∀ m, m < S.2.2.1.2.1.length → b.testBit m = true → a.testBit m = true) : canB S b = true := by
  obtain ⟨M, h1, h2⟩ := canB_iff.mp h
  refine canB_iff.mpr ⟨M, h1, ?_⟩
  unfold okL at h2 ⊢
  rw [List.all_eq_true] at h2 ⊢
  intro x hx
  refine h2 x ?_
  rcases List.mem_append.mp hx with hx | hx
  · obtain ⟨m, e1, e2, e3⟩ := selP_mem.mp hx
    exact List.mem_append.mpr (Or.inl (selP_mem.mpr ⟨m, e1, hs m e1 e2, e3⟩))
  · exact List.mem_append.mpr (Or.inr hx)
def goodP (S : Sp) : Nat → Nat
  | 0 => 0
  | i + 1 => goodP S i ||| (if canB S i then 2 ^ i else 0)
theorem goodP_lt (S : Sp) : ∀ i, goodP S i < 2 ^ i
  | 0 => by unfold goodP; decide
  | i + 1 => by
    have := goodP_lt S i
    have e : 2 ^ i < 2 ^ (i + 1) := Nat.pow_lt_pow_right (by omega) (by omega)
    unfold goodP
    refine Nat.or_lt_two_pow (by omega) ?_
    split
    · exact e
    · exact Nat.two_pow_pos _
theorem goodP_tb (S : Sp) (j : Nat) : ∀ i, (goodP S i).testBit j = (decide (j < i) && canB S j)
  | 0 => by unfold goodP; simp
  | i + 1 => by
    unfold goodP
    rw [Nat.testBit_or, goodP_tb S j i]
    by_cases c : j = i
    · subst c
      rw [decide_eq_false (Nat.lt_irrefl j), decide_eq_true (Nat.lt_succ_self j)]
      cases canB S j <;> simp
    · have : (if canB S i then 2 ^ i else 0).testBit j = false := by
        split
        · rw [Nat.testBit_two_pow]; simp; omega
        · simp
      rw [this, Bool.or_false]
      congr 1
      rw [decide_eq_decide]
      omega
section STD
variable {S : Sp} {s : St}
theorem andnI2 {a b : Nat} (ha : a < 64) (hb : b < 64) : nI a &&& (nI b ^^^ -nI 1) = nI (andn a b) := andnI ha hb
theorem p2_le {n m : Nat} (h : n ≤ m) : 2 ^ n ≤ 2 ^ m := Nat.pow_le_pow_right (by omega) h
theorem andn_p2 {a m : Nat} (ha : a < 64) (h : a.testBit m = true) : andn a (2 ^ m) < a := by
  have h1 : andn a (2 ^ m) ||| 2 ^ m = a := by
    apply Nat.eq_of_testBit_eq
    intro i
    rw [Nat.testBit_or, andn_tb ha, Nat.testBit_two_pow]
    by_cases c : m = i
    · subst c; rw [h]; simp
    · rw [decide_eq_false c]; simp
  have h2 : andn a (2 ^ m) &&& 2 ^ m = 0 := by
    apply Nat.eq_of_testBit_eq
    intro i
    rw [Nat.testBit_and, andn_tb ha, Nat.testBit_two_pow, Nat.zero_testBit]
    by_cases c : m = i
    · subst c; rw [h]; simp
    · rw [decide_eq_false c]; simp
  have h4 : andn a (2 ^ m) ≤ a := Nat.and_le_left
  have h5 : andn a (2 ^ m) ≠ a := by
    intro z
    rw [z] at h2
    have := congrArg (fun x => Nat.testBit x m) h2
    simp only [Nat.testBit_and, Nat.testBit_two_pow, Nat.zero_testBit, h] at this
    simp at this
  omega
theorem sX9_partsStand {some : Nat} {Q : Int32 → St → Prop} (h : RC S s) (hok : okSp S) (hs : some < 2 ^ S.2.2.1.2.1.length) (h0 : canB S some = false → Q 0 s) (h1 : Q 1 s) : wX9_partsStand (nI (goodP S some)) (nI some) s Q := by
  obtain ⟨-, -, o3, o4, -⟩ := id hok
  have h4 := o4.2.2.1
  have p4 := p2_le h4
  have e3 := h.2.2.2.1.2.1
  have hg : goodP S some < 2 ^ 16 := Nat.lt_of_lt_of_le (goodP_lt S some) (p2_le (by omega))
  have key : ∀ d m, m + d = S.2.2.1.2.1.length → wX9_partsStand_2 (nI (goodP S some)) (nI some) Q (d + 1) (nI m) s := by
    intro d
    induction d with
    | zero =>
      intro m hm
      unfold wX9_partsStand_2
      have em : m = S.2.2.1.2.1.length := by omega
      subst em
      simp (disch := omega) only [e3, Nat.le_refl, lit_nI, nI_ltI, nI_leI, nI_eq, nI_clamp, vp_in_nI, forall_eq, true_and, and_true, false_and, and_false, true_implies, false_implies, implies_true, not_true, not_false_eq_true, nI_add, pk_mul, nI_sub, shl1, shr1, fa_or, fa_and, nI_m9, nI_m9s]
      exact h1
    | succ d ih =>
      intro m hm
      have ih2 := ih (m + 1) (by omega)
      have e : ¬ S.2.2.1.2.1.length ≤ m := by omega
      have pm := p2_le (show m ≤ 3 by omega)
      unfold wX9_partsStand_2 wX9_partsStand_38
      cases c : some.testBit m with
      | false =>
        simp (disch := omega) only [e3, e, c, Bool.false_eq_true, if_false, Nat.zero_ne_one, lit_nI, nI_ltI, nI_leI, nI_eq, nI_clamp, vp_in_nI, forall_eq, true_and, and_true, false_and, and_false, true_implies, false_implies, implies_true, not_true, not_false_eq_true, nI_add, pk_mul, nI_sub, shl1, shr1, fa_or, fa_and, nI_m9, nI_m9s]
        exact ih2
      | true =>
        have hlt := andn_p2 (by omega) c
        have ha : andn some (2 ^ m) < 32 := by omega
        have ht := goodP_tb S (andn some (2 ^ m)) some
        rw [decide_eq_true hlt, Bool.true_and] at ht
        cases c2 : canB S (andn some (2 ^ m)) with
        | true =>
          rw [c2] at ht
          simp (disch := omega) only [e3, e, c, if_true, andnI2, ht, Nat.one_ne_zero, lit_nI, nI_ltI, nI_leI, nI_eq, nI_clamp, vp_in_nI, forall_eq, true_and, and_true, false_and, and_false, true_implies, false_implies, implies_true, not_true, not_false_eq_true, nI_add, pk_mul, nI_sub, shl1, shr1, fa_or, fa_and, nI_m9, nI_m9s]
          exact ih2
        | false =>
          rw [c2] at ht
          simp (disch := omega) only [e3, e, c, if_true, andnI2, ht, Bool.false_eq_true, if_false, lit_nI, nI_ltI, nI_leI, nI_eq, nI_clamp, vp_in_nI, forall_eq, true_and, and_true, false_and, and_false, true_implies, false_implies, implies_true, not_true, not_false_eq_true, nI_add, pk_mul, nI_sub, shl1, shr1, fa_or, fa_and, nI_m9, nI_m9s]
          refine h0 ?_
          cases c3 : canB S some with
          | false => rfl
          | true =>
            have := canB_mono (b := andn some (2 ^ m)) c3 (fun j _ hj => by
              rw [andn_tb (by omega)] at hj
              rw [Bool.and_eq_true] at hj
              exact hj.1)
            rw [c2] at this
            cases this
  unfold wX9_partsStand
  exact ⟨_, key S.2.2.1.2.1.length 0 (by omega)⟩
theorem goodP_all (S : Sp) : ∀ k, (∀ i, i < k → canB S i = true) → goodP S k = 2 ^ k - 1 := by
  intro k h
  apply Nat.eq_of_testBit_eq
  intro i
  rw [goodP_tb, Nat.testBit_two_pow_sub_one]
  by_cases c : i < k
  · rw [h i c, Bool.and_true]
  · rw [decide_eq_false c, Bool.false_and]
theorem sX9_standing {Q : Int32 → St → Prop} (h : RC S s) (hok : okSp S) (hw : okWays S.2.1) (hQ : ∀ u, RC S u → Frs s u → Q (nI (goodP S (2 ^ S.2.2.1.2.1.length))) u) : wX9_standing s Q := by
  obtain ⟨-, -, o3, o4, -⟩ := id hok
  have h4 := o4.2.2.1
  have p4 := p2_le h4
  have p0 := Nat.two_pow_pos S.2.2.1.2.1.length
  have key : ∀ d i u, i + d = 2 ^ S.2.2.1.2.1.length - 1 → canB S (2 ^ S.2.2.1.2.1.length - 1) = false → RC S u → Frs s u → wX9_standing_29 (nI (2 ^ S.2.2.1.2.1.length - 1)) Q (d + 1) (nI (goodP S i)) (nI i) u := by
    intro d
    induction d with
    | zero =>
      intro i u hi hno hR hf
      unfold wX9_standing_29
      have ei : i = 2 ^ S.2.2.1.2.1.length - 1 := by omega
      subst ei
      have hq := hQ u hR hf
      rw [show 2 ^ S.2.2.1.2.1.length = (2 ^ S.2.2.1.2.1.length - 1) + 1 by omega] at hq
      unfold goodP at hq
      rw [hno, if_neg (by decide), Nat.or_zero] at hq
      refine ⟨fun _ => hq, fun z => absurd (Int32.le_refl _) z⟩
    | succ d ih =>
      intro i u hi hno hR hf
      unfold wX9_standing_29 wX9_standing_61
      have e : ¬ 2 ^ S.2.2.1.2.1.length - 1 ≤ i := by omega
      have pm := p2_le (show i ≤ 14 by omega)
      have hg : goodP S i < 2 ^ 16 := Nat.lt_of_lt_of_le (goodP_lt S i) (p2_le (by omega))
      have ih2 := fun v => ih (i + 1) v (by omega) hno
      unfold goodP at ih2
      refine ⟨fun z => absurd ((nI_leI (by omega) (by omega)).mp z) e, fun _ => ?_⟩
      rw [show nI i + (1 : Int32) = nI (i + 1) from (nI_succ _).symm]
      refine sX9_partsStand hR hok (by omega) (fun c => ?_) ?_
      · refine ⟨fun _ => ?_, fun z => absurd rfl z⟩
        have := ih2 u hR hf
        rw [c, if_neg (by decide), Nat.or_zero] at this
        exact this
      · refine ⟨fun z => absurd z (by decide), fun _ => ?_⟩
        refine sX9_waysOf hR hok hw.1 (by omega) ?_
        refine sX9_canHold hR hok hw (sel_len hok _) (sel_row hok hw _) (fun v hRv hfv => ?_)
        have ih3 := ih2 v hRv (hf.tr hfv)
        rw [show (minC S (selB S i ++ dB S.2.1 S.2.2.1)).isSome = canB S i from rfl]
        cases c : canB S i with
        | false =>
          rw [c, if_neg (by decide), Nat.or_zero] at ih3
          exact ⟨fun _ => ih3, fun z => absurd rfl z⟩
        | true =>
          rw [c, if_pos rfl] at ih3
          refine ⟨fun z => absurd z (show ¬ (1 : Int32) = 0 by decide), fun _ => ?_⟩
          have e1 : nI (goodP S i) ||| ((1 : Int32) <<< (nI i &&& 31)) = nI (goodP S i ||| 2 ^ i) := by
            rw [show (1 : Int32) = nI 1 from rfl, show (31 : Int32) = nI 31 from rfl, fa_and, shl1 (by omega), fa_or]
          rw [e1]
          exact ih3
  unfold wX9_standing
  refine sX9_allMaps h hok ?_
  refine sX9_waysOf h hok hw.1 (by omega) ?_
  refine sX9_canHold h hok hw (sel_len hok _) (sel_row hok hw _) (fun u hR hf => ?_)
  rw [show (minC S (selB S (2 ^ S.2.2.1.2.1.length - 1) ++ dB S.2.1 S.2.2.1)).isSome = canB S (2 ^ S.2.2.1.2.1.length - 1) from rfl]
  cases c : canB S (2 ^ S.2.2.1.2.1.length - 1) with
  | false =>
    exact ⟨fun _ => ⟨_, key (2 ^ S.2.2.1.2.1.length - 1) 0 u (by omega) c hR hf⟩, fun z => absurd rfl z⟩
  | true =>
    refine ⟨fun z => absurd z (show ¬ (1 : Int32) = 0 by decide), fun _ => ?_⟩
    have hall : ∀ i, i < 2 ^ S.2.2.1.2.1.length → canB S i = true := fun i hi => canB_mono c (fun m hm _ => by
      rw [Nat.testBit_two_pow_sub_one]; exact decide_eq_true hm)
    have hq := hQ u hR hf
    rw [goodP_all S _ hall] at hq
    have pp := p2_le (show 2 ^ S.2.2.1.2.1.length ≤ 16 by omega)
    have pp0 := Nat.two_pow_pos (2 ^ S.2.2.1.2.1.length)
    have e1 : ((1 : Int32) <<< ((nI (2 ^ S.2.2.1.2.1.length - 1) + 1) &&& 31)) - 1 = nI (2 ^ 2 ^ S.2.2.1.2.1.length - 1) := by
      rw [show nI (2 ^ S.2.2.1.2.1.length - 1) + (1 : Int32) = nI (2 ^ S.2.2.1.2.1.length) by rw [← nI_succ]; congr 1; omega, show (1 : Int32) = nI 1 from rfl, show (31 : Int32) = nI 31 from rfl, fa_and, shl1 (by omega), nI_sub (by omega)]
    rw [e1]
    exact hq
def clP (S : Sp) : Nat → Nat
  | 0 => 0
  | i + 1 => if !canB S i && (decide (clP S i = 0) || decide (pc i < pc (clP S i))) then i else clP S i
theorem clP_lt (S : Sp) : ∀ i, clP S i ≤ i
  | 0 => Nat.le_refl _
  | i + 1 => by have := clP_lt S i; unfold clP; split <;> omega
theorem clP_1 (S : Sp) : clP S 1 = 0 := by unfold clP; split <;> rfl
def cClash (S : Sp) : Int32 := nI (clP S (2 ^ S.2.2.1.2.1.length))
theorem kX9_clash {Q : Int32 → St → Prop} (h : RC S s) (hok : okSp S) (hw : okWays S.2.1) (hQ : ∀ t, RC S t → KM s t → Q (cClash S) t) : wX9_clash s Q := by
  obtain ⟨-, -, o3, o4, -⟩ := id hok
  have h4 := o4.2.2.1
  have p4 := p2_le h4
  have p0 := Nat.two_pow_pos S.2.2.1.2.1.length
  unfold wX9_clash
  refine sX9_standing h hok hw (fun u hR hf => ?_)
  have hq := hQ u hR (KM.frs hf)
  have e3 := hR.2.2.2.1.2.1
  have hg : goodP S (2 ^ S.2.2.1.2.1.length) < 2 ^ 16 := Nat.lt_of_lt_of_le (goodP_lt S _) (p2_le (by omega))
  have key : ∀ d i, i + d = 2 ^ S.2.2.1.2.1.length → wX9_clash_9 (nI (goodP S (2 ^ S.2.2.1.2.1.length))) Q (d + 1) (nI (clP S i)) (nI i) u := by
    intro d
    induction d with
    | zero =>
      intro i hi
      unfold wX9_clash_9
      have ei : i = 2 ^ S.2.2.1.2.1.length := by omega
      subst ei
      have e1 : (1 : Int32) <<< (u.1 13 3 &&& 31) = nI (2 ^ S.2.2.1.2.1.length) := by
        rw [e3, show (1 : Int32) = nI 1 from rfl, show (31 : Int32) = nI 31 from rfl, fa_and, shl1 (by omega)]
      rw [e1]
      exact ⟨fun _ => hq, fun z => absurd (Int32.le_refl _) z⟩
    | succ d ih =>
      intro i hi
      have ih2 := ih (i + 1) (by omega)
      unfold clP at ih2
      have hcl := clP_lt S i
      have htb := goodP_tb S i (2 ^ S.2.2.1.2.1.length)
      rw [decide_eq_true (show i < 2 ^ S.2.2.1.2.1.length by omega), Bool.true_and] at htb
      have e1 : (1 : Int32) <<< (u.1 13 3 &&& 31) = nI (2 ^ S.2.2.1.2.1.length) := by
        rw [e3, show (1 : Int32) = nI 1 from rfl, show (31 : Int32) = nI 31 from rfl, fa_and, shl1 (by omega)]
      have e2 : (nI (goodP S (2 ^ S.2.2.1.2.1.length)) >>> (nI i &&& 31)) &&& 1 = nI (if canB S i then 1 else 0) := by
        rw [show (1 : Int32) = nI 1 from rfl, show (31 : Int32) = nI 31 from rfl, fa_and, shr1 (by omega) (by omega), htb]
      have es : nI i + (1 : Int32) = nI (i + 1) := (nI_succ _).symm
      unfold wX9_clash_9 wX9_clash_37 wX9_clash_42 wX9_clash_59
      rw [e1, e2, es]
      refine ⟨fun z => absurd ((nI_leI (by omega) (by omega)).mp z) (by omega), fun _ => ⟨fun c0 => ?_, fun c0 => ?_⟩⟩
      · have c0' : clP S i = 0 := nI_inj (b := 0) (by omega) (by omega) c0
        cases c : canB S i with
        | true =>
          rw [c] at ih2
          exact ⟨fun _ => ih2, fun z => absurd z (show ¬ (1 : Int32) = 0 by decide)⟩
        | false =>
          rw [c, decide_eq_true c0'] at ih2
          exact ⟨fun z => absurd rfl z, fun _ => ⟨fun z => absurd z (by decide), fun _ => ih2⟩⟩
      · have c0' : ¬ clP S i = 0 := fun z => c0 (by rw [z]; rfl)
        refine sJ6 (by omega) (sJ6 (by omega) ?_)
        have q1 := pc_le i
        have q2 := pc_le (clP S i)
        refine ⟨fun cl => ?_, fun cl => ?_⟩
        · have cl' : pc (clP S i) ≤ pc i := (nI_leI (by omega) (by omega)).mp cl
          rw [decide_eq_false c0', decide_eq_false (show ¬ pc i < pc (clP S i) by omega), Bool.or_self, Bool.and_false, if_neg (by decide)] at ih2
          exact ⟨fun _ => ih2, fun _ => ⟨fun _ => ih2, fun z => absurd rfl z⟩⟩
        · have cl' : pc i < pc (clP S i) := by
            rcases Nat.lt_or_ge (pc i) (pc (clP S i)) with h | h
            · exact h
            · exact absurd ((nI_leI (by omega) (by omega)).mpr h) cl
          rw [decide_eq_true cl', Bool.or_true, Bool.and_true] at ih2
          cases c : canB S i with
          | true =>
            rw [c] at ih2
            exact ⟨fun _ => ih2, fun z => absurd z (show ¬ (1 : Int32) = 0 by decide)⟩
          | false =>
            rw [c] at ih2
            exact ⟨fun z => absurd rfl z, fun _ => ⟨fun z => absurd z (by decide), fun _ => ih2⟩⟩
  refine ⟨2 ^ S.2.2.1.2.1.length - 1 + 1, ?_⟩
  have := key (2 ^ S.2.2.1.2.1.length - 1) 1 (by omega)
  rw [clP_1] at this
  exact this
/-- the map that should be lost: its number, the least cost without it -/
def fiC (S : Sp) (m : Nat) : Option Nat := minC S (selB S (andn (2 ^ S.2.2.1.2.1.length - 1) (2 ^ m)) ++ dB S.2.1 S.2.2.1)
def ltO (a b : Option Nat) : Bool := match a, b with
  | none, _ => false
  | some _, none => true
  | some x, some y => decide (x < y)
def fiS (S : Sp) : Nat → Option (Nat × Option Nat)
  | 0 => none
  | m + 1 => match fiS S m with
    | none => some (m, fiC S m)
    | some q => if ltO (fiC S m) q.2 then some (m, fiC S m) else some q
theorem fiS_le (S : Sp) : ∀ {m : Nat} {q : Nat × Option Nat}, fiS S m = some q → q.1 < m ∧ q.2 = fiC S q.1
  | 0, q, h => by cases h
  | m + 1, q, h => by
    unfold fiS at h
    split at h
    · cases h; exact ⟨by simp, rfl⟩
    · rename_i q2 h2
      have := fiS_le S h2
      split at h
      · cases h; exact ⟨by simp, rfl⟩
      · cases h; exact ⟨by omega, this.2⟩
def cFire (S : Sp) (x : Int32) : Int32 := if x = 0 then oI ((fiS S S.2.2.1.2.1.length).map (·.1)) else if x = 1 then (match fiS S S.2.2.1.2.1.length with
  | none => -9
  | some q => oI q.2) else -1
theorem kX9_fire {x : Int32} {Q : Int32 → St → Prop} (h : RC S s) (hok : okSp S) (hw : okWays S.2.1) (hQ : ∀ t, RC S t → KM s t → Q (cFire S x) t) : wX9_fire x s Q := by
  obtain ⟨-, -, o3, o4, -⟩ := id hok
  have h4 := o4.2.2.1
  have p4 := p2_le h4
  have p0 := Nat.two_pow_pos S.2.2.1.2.1.length
  unfold cFire at hQ
  unfold wX9_fire wX9_fire_11
  have key : ∀ (K : Int32 → Int32 → St → Prop), (∀ u, RC S u → Frs s u → K (oI ((fiS S S.2.2.1.2.1.length).map (·.1))) (match fiS S S.2.2.1.2.1.length with | none => -9 | some q => oI q.2) u) → ∀ d m u, m + d = S.2.2.1.2.1.length → RC S u → Frs s u → wX9_fire_20 x K Q (d + 1) (oI ((fiS S m).map (·.1))) (match fiS S m with | none => -9 | some q => oI q.2) (nI m) u := by
    intro K hK d
    induction d with
    | zero =>
      intro m u hm hR hf
      unfold wX9_fire_20
      have em : m = S.2.2.1.2.1.length := by omega
      subst em
      rw [hR.2.2.2.1.2.1]
      exact ⟨fun _ => hK u hR hf, fun z => absurd (Int32.le_refl _) z⟩
    | succ d ih =>
      intro m u hm hR hf
      have ih2 := fun v => ih (m + 1) v (by omega)
      unfold fiS at ih2
      have pm := p2_le (show m ≤ 3 by omega)
      unfold wX9_fire_20 wX9_fire_78 wX9_fire_84
      rw [hR.2.2.2.1.2.1, show nI m + (1 : Int32) = nI (m + 1) from (nI_succ _).symm]
      refine ⟨fun z => absurd ((nI_leI (by omega) (by omega)).mp z) (by omega), fun _ => ?_⟩
      refine sX9_allMaps hR hok ?_
      have e1 : nI (2 ^ S.2.2.1.2.1.length - 1) &&& (((1 : Int32) <<< (nI m &&& 31)) ^^^ -1) = nI (andn (2 ^ S.2.2.1.2.1.length - 1) (2 ^ m)) := by
        rw [show ((1 : Int32) <<< (nI m &&& 31)) = nI (2 ^ m) by rw [show (1 : Int32) = nI 1 from rfl, show (31 : Int32) = nI 31 from rfl, fa_and, shl1 (by omega)]]
        exact andnI (by omega) (by omega)
      rw [e1]
      have hal : andn (2 ^ S.2.2.1.2.1.length - 1) (2 ^ m) < 64 := andn_lt (by omega)
      refine sX9_waysOf hR hok hw.1 (by omega) ?_
      refine sX9_costOf hR hok hw (sel_len hok _) (sel_row hok hw _) (fun v hRv hfv _ => ?_)
      have ih3 := ih2 v hRv (hf.tr hfv)
      have hc : minC S (selB S (andn (2 ^ S.2.2.1.2.1.length - 1) (2 ^ m)) ++ dB S.2.1 S.2.2.1) = fiC S m := rfl
      rw [hc]
      have hc216 : ∀ c, fiC S m = some c → c ≤ 216 := fun c hz => minC_le hok (by rw [hc]; exact hz)
      cases hz : fiS S m with
      | none =>
        rw [hz] at ih3
        exact ⟨fun _ => ih3, fun z => absurd rfl z⟩
      | some q =>
        rw [hz] at ih3
        dsimp only at ih3 ⊢
        obtain ⟨q1, q2⟩ := fiS_le S hz
        refine ⟨fun z => (nI_m9 (n := q.1) (by omega) ▸ z : False).elim, fun _ => ?_⟩
        cases hcm : fiC S m with
        | none =>
          rw [hcm] at ih3
          exact ⟨fun _ => ih3, fun z => absurd rfl z⟩
        | some c =>
          rw [hcm] at ih3
          have hc2 := hc216 c hcm
          refine ⟨fun z => (nI_m9 (n := c) (by omega) ▸ z : False).elim, fun _ => ?_⟩
          cases hq2 : q.2 with
          | none =>
            rw [hq2] at ih3
            exact ⟨fun _ => ih3, fun z => absurd rfl z⟩
          | some c0 =>
            rw [hq2] at ih3
            have hc0 : c0 ≤ 216 := by
              rw [hq2] at q2
              exact minC_le hok q2.symm
            refine ⟨fun z => (nI_m9 (n := c0) (by omega) ▸ z : False).elim, fun _ => ⟨fun z => ?_, fun z => ?_⟩⟩
            · have z' : c0 ≤ c := (nI_leI (by omega) (by omega)).mp z
              rw [if_neg (show ¬ ltO (some c) (some c0) = true from fun y => by have := of_decide_eq_true y; omega)] at ih3
              dsimp only at ih3
              rw [hq2] at ih3
              exact ih3
            · have z' : c < c0 := by
                rcases Nat.lt_or_ge c c0 with h | h
                · exact h
                · exact absurd ((nI_leI (by omega) (by omega)).mpr h) z
              rw [if_pos (show ltO (some c) (some c0) = true from decide_eq_true z')] at ih3
              exact ih3
  refine ⟨fun c => ?_, fun c => ⟨fun c1 => ?_, fun c1 => ?_⟩⟩
  · rw [if_pos c] at hQ
    exact ⟨_, key _ (fun u hR hf => ⟨fun z => absurd c z, fun _ => hQ u hR (KM.frs hf)⟩) S.2.2.1.2.1.length 0 s (by omega) h Fr.rf⟩
  · rw [if_neg c, if_pos c1] at hQ
    exact ⟨_, key _ (fun u hR hf => ⟨fun _ => hQ u hR (KM.frs hf), fun z => absurd z c⟩) S.2.2.1.2.1.length 0 s (by omega) h Fr.rf⟩
  · rw [if_neg c, if_neg c1] at hQ
    exact hQ s h (KM.rf s)
end STD
