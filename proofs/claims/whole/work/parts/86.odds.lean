/-! the class's odds -/
def chP (left x : Nat) : Nat → Nat
  | 0 => 1
  | m + 1 => chP left x m * (if left.testBit m then 10 - x else x)
theorem chP_le {left x : Nat} (hx : x ≤ 10) : ∀ m, chP left x m ≤ 10 ^ m
  | 0 => Nat.le_refl _
  | m + 1 => by
    have := chP_le (left := left) hx m
    unfold chP
    rw [Nat.pow_succ]
    exact Nat.mul_le_mul this (by split <;> omega)
def upP (S : Sp) (x : Nat) : Nat → Nat
  | 0 => 0
  | i + 1 => upP S x i + (if canB S i then chP i x S.2.2.1.2.1.length else 0)
theorem upP_le (S : Sp) {x : Nat} (hx : x ≤ 10) : ∀ i, upP S x i ≤ i * 10 ^ S.2.2.1.2.1.length
  | 0 => by unfold upP; omega
  | i + 1 => by
    have h1 := upP_le S hx i
    have h2 := chP_le (left := i) hx S.2.2.1.2.1.length
    unfold upP
    rw [Nat.succ_mul]
    split <;> omega
section ODD
variable {S : Sp} {s : St}
theorem p10_le {n : Nat} (h : n ≤ 4) : 10 ^ n ≤ 10000 := Nat.pow_le_pow_right (n := 10) (by omega) h
theorem sX9_chances {left x : Nat} {Q : Int32 → St → Prop} (h : RC S s) (hok : okSp S) (hl : left < 16) (hx : x ≤ 10) (hQ : Q (nI (chP left x S.2.2.1.2.1.length)) s) : wX9_chances (nI left) (nI x) s Q := by
  obtain ⟨-, -, o3, o4, -⟩ := id hok
  have h4 := o4.2.2.1
  have e3 := h.2.2.2.1.2.1
  have key : ∀ d m, m + d = S.2.2.1.2.1.length → wX9_chances_5 (nI left) (nI x) Q (d + 1) (nI (chP left x m)) (nI m) s := by
    intro d
    induction d with
    | zero =>
      intro m hm
      unfold wX9_chances_5
      have em : m = S.2.2.1.2.1.length := by omega
      subst em
      simp (disch := omega) only [e3, Nat.le_refl, lit_nI, nI_ltI, nI_leI, nI_eq, nI_clamp, vp_in_nI, forall_eq, true_and, and_true, false_and, and_false, true_implies, false_implies, implies_true, not_true, not_false_eq_true, nI_add, pk_mul, nI_sub, shl1, shr1, fa_or, fa_and, nI_m9, nI_m9s]
      exact hQ
    | succ d ih =>
      intro m hm
      have ih2 := ih (m + 1) (by omega)
      unfold chP at ih2
      have e : ¬ S.2.2.1.2.1.length ≤ m := by omega
      unfold wX9_chances_5 wX9_chances_36
      cases c : left.testBit m with
      | false =>
        rw [c, if_neg (by decide)] at ih2
        simp (disch := omega) only [e3, e, c, Bool.false_eq_true, if_false, Nat.zero_ne_one, lit_nI, nI_ltI, nI_leI, nI_eq, nI_clamp, vp_in_nI, forall_eq, true_and, and_true, false_and, and_false, true_implies, false_implies, implies_true, not_true, not_false_eq_true, nI_add, pk_mul, nI_sub, shl1, shr1, fa_or, fa_and, nI_m9, nI_m9s]
        exact ih2
      | true =>
        rw [c, if_pos rfl] at ih2
        simp (disch := omega) only [e3, e, c, if_true, lit_nI, nI_ltI, nI_leI, nI_eq, nI_clamp, vp_in_nI, forall_eq, true_and, and_true, false_and, and_false, true_implies, false_implies, implies_true, not_true, not_false_eq_true, nI_add, pk_mul, nI_sub, shl1, shr1, fa_or, fa_and, nI_m9, nI_m9s]
        exact ih2
  unfold wX9_chances
  exact ⟨_, key S.2.2.1.2.1.length 0 (by omega)⟩
theorem sX9_gcd {Q : Int32 → St → Prop} : ∀ (k a b i : Nat), a < 2 ^ 30 → b < 2 ^ k → k ≤ 30 → i + 2 * k ≤ 62 → Q (nI (Nat.gcd a b)) s → wX9_commonDivisor_7 Q (2 * k + 1) (nI a) (nI b) (nI i) s
  | 0, a, b, i, ha, hb, hk, hi, hq => by
    have : b = 0 := by simpa using hb
    subst this
    rw [Nat.gcd_zero_right] at hq
    unfold wX9_commonDivisor_7
    refine ⟨fun _ => hq, fun _ => ⟨fun _ => hq, fun z => absurd rfl z⟩⟩
  | k + 1, a, b, i, ha, hb, hk, hi, hq => by
    have hk30 : 2 ^ (k + 1) ≤ 2 ^ 30 := p2_le (by omega)
    have c64 : ∀ j, j < 64 → ¬ (64 : Int32) ≤ nI j := fun j hj z => by have := (nI_leI (a := 64) (by omega) (by omega)).mp z; omega
    show wX9_commonDivisor_7 Q (2 * k + 2 + 1) (nI a) (nI b) (nI i) s
    unfold wX9_commonDivisor_7
    refine ⟨fun z => absurd z (c64 i (by omega)), fun _ => ⟨fun z => ?_, fun z => ⟨z, ?_⟩⟩⟩
    · have : b = 0 := nI_inj (b := 0) (by omega) (by omega) z
      rw [this, Nat.gcd_zero_right] at hq
      exact hq
    · have hb0 : 0 < b := by
        rcases Nat.eq_zero_or_pos b with h | h
        · exact absurd (by rw [h]; rfl) z
        · exact h
      rw [pk_rem (by omega) hb0 (by omega), show nI i + (1 : Int32) = nI (i + 1) from (nI_succ _).symm]
      have hg1 : Nat.gcd a b = Nat.gcd b (a % b) := by rw [Nat.gcd_comm a b, Nat.gcd_rec b a, Nat.gcd_comm]
      rw [hg1] at hq
      have hr1 : a % b < b := Nat.mod_lt _ hb0
      generalize a % b = r1 at hq hr1
      unfold wX9_commonDivisor_7
      refine ⟨fun z => absurd z (c64 (i + 1) (by omega)), fun _ => ⟨fun z => ?_, fun z => ⟨z, ?_⟩⟩⟩
      · have : r1 = 0 := nI_inj (b := 0) (by omega) (by omega) z
        rw [this, Nat.gcd_zero_right] at hq
        exact hq
      · have hr0 : 0 < r1 := by
          rcases Nat.eq_zero_or_pos r1 with h | h
          · exact absurd (by rw [h]; rfl) z
          · exact h
        rw [pk_rem (by omega) hr0 (by omega), show nI (i + 1) + (1 : Int32) = nI (i + 2) from (nI_succ _).symm]
        have hg2 : Nat.gcd b r1 = Nat.gcd r1 (b % r1) := by rw [Nat.gcd_comm b r1, Nat.gcd_rec r1 b, Nat.gcd_comm]
        rw [hg2] at hq
        have h1 : b % r1 < r1 := Nat.mod_lt _ hr0
        have h2 : b % r1 + r1 ≤ b := by
          have e := Nat.div_add_mod b r1
          have : 1 ≤ b / r1 := (Nat.one_le_div_iff hr0).mpr (by omega)
          have := Nat.mul_le_mul_left r1 this
          omega
        refine sX9_gcd k r1 (b % r1) (i + 2) (by omega) ?_ (by omega) (by omega) hq
        rw [Nat.pow_succ] at hb
        omega
def oddsV (S : Sp) (x w : Nat) : Nat := (if w = 0 then upP S x (2 ^ S.2.2.1.2.1.length) else 10 ^ S.2.2.1.2.1.length) / Nat.gcd (upP S x (2 ^ S.2.2.1.2.1.length)) (10 ^ S.2.2.1.2.1.length)
def cOdds (S : Sp) (x y : Int32) : Int32 := match num x 11, num y 2 with
  | some a, some b => nI (oddsV S a b)
  | _, _ => -1
theorem kX9_odds {x y : Int32} {Q : Int32 → St → Prop} (h : RC S s) (hok : okSp S) (hw : okWays S.2.1) (hQ : ∀ t, RC S t → KM s t → Q (cOdds S x y) t) : wX9_odds x y s Q := by
  obtain ⟨-, -, o3, o4, -⟩ := id hok
  have h4 := o4.2.2.1
  have p4 := p2_le h4
  have p0 := Nat.two_pow_pos S.2.2.1.2.1.length
  have t4 := p10_le h4
  have t0 := Nat.pow_pos (n := S.2.2.1.2.1.length) (show 0 < 10 by omega)
  have bad : cOdds S x y = -1 → Q (-1) s := fun e => by have := hQ s h (KM.rf s); rw [e] at this; exact this
  have main : ∀ a b, num x 11 = some a → num y 2 = some b → wX9_odds_21 Q x y s := by
    intro a b hx hy
    obtain ⟨ha, rfl⟩ := num_lt (by omega) hx
    obtain ⟨hb, rfl⟩ := num_lt (by omega) hy
    unfold cOdds at hQ
    rw [hx, hy] at hQ
    dsimp only at hQ
    unfold wX9_odds_21
    refine sX9_standing h hok hw (fun u hR hf => ?_)
    have hq := hQ u hR (KM.frs hf)
    have e3 := hR.2.2.2.1.2.1
    have hg : goodP S (2 ^ S.2.2.1.2.1.length) < 2 ^ 16 := Nat.lt_of_lt_of_le (goodP_lt S _) (p2_le (by omega))
    have e1 : (1 : Int32) <<< (u.1 13 3 &&& 31) = nI (2 ^ S.2.2.1.2.1.length) := by
      rw [e3, show (1 : Int32) = nI 1 from rfl, show (31 : Int32) = nI 31 from rfl, fa_and, shl1 (by omega)]
    have key : ∀ (K : Int32 → St → Prop), K (nI (upP S a (2 ^ S.2.2.1.2.1.length))) u → ∀ d i, i + d = 2 ^ S.2.2.1.2.1.length → wX9_odds_35 (nI a) (nI b) (nI (goodP S (2 ^ S.2.2.1.2.1.length))) 1 K Q (d + 1) (nI (upP S a i)) (nI i) u := by
      intro K hK d
      induction d with
      | zero =>
        intro i hi
        unfold wX9_odds_35
        have ei : i = 2 ^ S.2.2.1.2.1.length := by omega
        subst ei
        rw [e1]
        exact ⟨fun _ => hK, fun z => absurd (Int32.le_refl _) z⟩
      | succ d ih =>
        intro i hi
        have ih2 := ih (i + 1) (by omega)
        unfold upP at ih2
        have htb := goodP_tb S i (2 ^ S.2.2.1.2.1.length)
        rw [decide_eq_true (show i < 2 ^ S.2.2.1.2.1.length by omega), Bool.true_and] at htb
        have e2 : (nI (goodP S (2 ^ S.2.2.1.2.1.length)) >>> (nI i &&& 31)) &&& 1 = nI (if canB S i then 1 else 0) := by
          rw [show (1 : Int32) = nI 1 from rfl, show (31 : Int32) = nI 31 from rfl, fa_and, shr1 (by omega) (by omega), htb]
        unfold wX9_odds_35 wX9_odds_71
        rw [e1, e2, show nI i + (1 : Int32) = nI (i + 1) from (nI_succ _).symm]
        refine ⟨fun z => absurd ((nI_leI (by omega) (by omega)).mp z) (by omega), fun _ => ?_⟩
        cases c : canB S i with
        | false =>
          rw [c, if_neg (by decide), Nat.add_zero] at ih2
          exact ⟨fun _ => ih2, fun z => absurd z (show ¬ (0 : Int32) = 1 by decide)⟩
        | true =>
          rw [c, if_pos rfl] at ih2
          refine ⟨fun z => absurd rfl z, fun _ => ?_⟩
          refine sX9_chances hR hok (by omega) (by omega) ?_
          rw [nI_add]
          exact ih2
    have key2 : ∀ (K : Int32 → St → Prop) (x4 : Int32), K (nI (10 ^ S.2.2.1.2.1.length)) u → ∀ d m, m + d = S.2.2.1.2.1.length → wX9_odds_80 (nI b) x4 K Q (d + 1) (nI (10 ^ m)) (nI m) u := by
      intro K x4 hK d
      induction d with
      | zero =>
        intro m hm
        unfold wX9_odds_80
        have em : m = S.2.2.1.2.1.length := by omega
        subst em
        rw [e3]
        exact ⟨fun _ => hK, fun z => absurd (Int32.le_refl _) z⟩
      | succ d ih =>
        intro m hm
        have ih2 := ih (m + 1) (by omega)
        unfold wX9_odds_80
        rw [e3, show nI m + (1 : Int32) = nI (m + 1) from (nI_succ _).symm, show (10 : Int32) = nI 10 from rfl, pk_mul, ← Nat.pow_succ]
        exact ⟨fun z => absurd ((nI_leI (by omega) (by omega)).mp z) (by omega), fun _ => ih2⟩
    have hup := upP_le S (x := a) (by omega) (2 ^ S.2.2.1.2.1.length)
    have hup2 : upP S a (2 ^ S.2.2.1.2.1.length) ≤ 16 * 10000 := Nat.le_trans hup (Nat.mul_le_mul (by omega) t4)
    have hgp : 0 < Nat.gcd (upP S a (2 ^ S.2.2.1.2.1.length)) (10 ^ S.2.2.1.2.1.length) := Nat.gcd_pos_of_pos_right _ t0
    have hgl : Nat.gcd (upP S a (2 ^ S.2.2.1.2.1.length)) (10 ^ S.2.2.1.2.1.length) ≤ 10 ^ S.2.2.1.2.1.length := Nat.gcd_le_right _ t0
    refine ⟨_, key _ ⟨_, key2 _ _ ?_ S.2.2.1.2.1.length 0 (by omega)⟩ (2 ^ S.2.2.1.2.1.length) 0 (by omega)⟩
    unfold wX9_commonDivisor
    refine ⟨_, sX9_gcd 14 _ _ 0 (by omega) (by omega) (by omega) (by omega) ?_⟩
    unfold oddsV at hq
    have fin : ∀ t, t < 2 ^ 31 → Q (nI (t / Nat.gcd (upP S a (2 ^ S.2.2.1.2.1.length)) (10 ^ S.2.2.1.2.1.length))) u → wX9_odds_125 Q (nI (Nat.gcd (upP S a (2 ^ S.2.2.1.2.1.length)) (10 ^ S.2.2.1.2.1.length))) (nI t) u := by
      intro t ht hqt
      unfold wX9_odds_125
      have hz : ¬ nI (Nat.gcd (upP S a (2 ^ S.2.2.1.2.1.length)) (10 ^ S.2.2.1.2.1.length)) = 0 := fun z => by
        have := nI_inj (b := 0) (by omega) (by omega) z
        omega
      refine ⟨fun _ => ⟨hz, ?_⟩, fun z => absurd z hz⟩
      rw [pk_div ht hgp (by omega)]
      exact hqt
    refine ⟨fun z => ?_, fun z => ?_⟩
    · have : ¬ b = 0 := fun y => z (by rw [y]; rfl)
      rw [if_neg this] at hq
      exact fin _ (by omega) hq
    · have : b = 0 := nI_inj (b := 0) (by omega) (by omega) z
      rw [if_pos this] at hq
      exact fin _ (by omega) hq
  unfold wX9_odds
  rcases arg_cases x 11 (by omega) with c | ⟨c, c2⟩ | ⟨a, ha, rfl⟩
  · refine ⟨fun _ => bad ?_, fun z => absurd c z⟩
    unfold cOdds
    rw [(num_none (by omega)).mpr (Or.inl c)]
  · refine ⟨fun z => absurd z c, fun _ => ⟨fun _ => bad ?_, fun z => absurd ?_ z⟩⟩
    · unfold cOdds
      rw [(num_none (by omega)).mpr (Or.inr c2)]
    · rw [Int32.le_iff_toInt_le, nI_toInt (by omega)] at c2
      rw [Int32.lt_iff_toInt_lt]
      have : (10 : Int32).toInt = 10 := rfl
      omega
  · have hx := num_nI (n := 11) (by omega) ha
    refine ⟨fun z => absurd z (nI_pos (by omega)), fun _ => ⟨fun z => absurd ((nI_ltI (a := 10) (by omega) (by omega)).mp z) (by omega), fun _ => ?_⟩⟩
    refine ⟨fun c => main a 0 hx (by rw [c]; rfl), fun c => ⟨fun c1 => main a 1 hx (by rw [c1]; rfl), fun c1 => bad ?_⟩⟩
    unfold cOdds
    rw [hx]
    cases hy : num y 2 with
    | none => rfl
    | some b =>
      obtain ⟨hb, rfl⟩ := num_lt (by omega) hy
      rcases (show b = 0 ∨ b = 1 by omega) with rfl | rfl
      · exact absurd rfl c
      · exact absurd rfl c1
end ODD
