/-! the reference: can, look -/
def tkB (t : List (Nat × Nat)) (b : Nat) : Nat → Bool
  | 0 => true
  | e + 1 => tkB t b e && ((if b.testBit (t.getD e (0, 0)).1 then 1 else 0) == (t.getD e (0, 0)).2)
theorem tkB_iff {t : List (Nat × Nat)} {b : Nat} : ∀ {n : Nat}, n ≤ t.length → (tkB t b n = true ↔ ∀ e, e < n → (if b.testBit (t.getD e (0, 0)).1 then 1 else 0) = (t.getD e (0, 0)).2)
  | 0, _ => ⟨fun _ e he => by omega, fun _ => rfl⟩
  | n + 1, h => by
    unfold tkB
    rw [Bool.and_eq_true, tkB_iff (n := n) (by omega), beq_iff_eq]
    constructor
    · rintro ⟨h1, h2⟩ e he
      by_cases c : e = n
      · subst c; exact h2
      · exact h1 e (by omega)
    · intro h1
      exact ⟨fun e he => h1 e (by omega), h1 n (by omega)⟩
theorem tookB_tb (is l : Nat) : ∀ (t : List (Nat × Nat)) (b : Nat), (t.foldl (fun b q => if q.2 = is then b ||| 2 ^ q.1 else b) b).testBit l = true ↔ b.testBit l = true ∨ ∃ q ∈ t, q.2 = is ∧ q.1 = l
  | [], b => by simp
  | q :: r, b => by
    rw [List.foldl_cons, tookB_tb is l r]
    constructor
    · rintro (h | ⟨p, h1, h2⟩)
      · split at h
        · rename_i c
          rw [Nat.testBit_or, Bool.or_eq_true, Nat.testBit_two_pow, decide_eq_true_iff] at h
          rcases h with h | h
          · exact Or.inl h
          · exact Or.inr ⟨q, by simp, c, h⟩
        · exact Or.inl h
      · exact Or.inr ⟨p, List.mem_cons_of_mem _ h1, h2⟩
    · rintro (h | ⟨p, h1, h2, h3⟩)
      · left
        split
        · rw [Nat.testBit_or, h, Bool.true_or]
        · exact h
      · rcases List.mem_cons.mp h1 with rfl | h1
        · left
          rw [if_pos h2, Nat.testBit_or, Nat.testBit_two_pow, decide_eq_true h3, Bool.or_true]
        · right; exact ⟨p, h1, h2, h3⟩
theorem fits_tk {t : List (Nat × Nat)} (ht : ∀ q ∈ t, q.2 ≤ 1) (b : Nat) : fitsB (tookB t 1) (tookB t 0) b = tkB t b t.length := by
  rw [Bool.eq_iff_iff, tkB_iff (Nat.le_refl _)]
  unfold fitsB
  rw [Bool.and_eq_true, beq_iff_eq, beq_iff_eq]
  have tb : ∀ is l, (tookB t is).testBit l = true ↔ ∃ q ∈ t, q.2 = is ∧ q.1 = l := fun is l => by
    unfold tookB
    rw [tookB_tb]
    simp
  have at_ : ∀ e, e < t.length → t.getD e (0, 0) ∈ t := fun e he => by
    rw [List.getD_eq_getElem?_getD, List.getElem?_eq_getElem he]
    exact List.getElem_mem he
  constructor
  · rintro ⟨h1, h0⟩ e he
    have hm := at_ e he
    generalize t.getD e (0, 0) = q at hm
    have hq := ht q hm
    by_cases c : q.2 = 1
    · have := (tb 1 q.1).mpr ⟨q, hm, c, rfl⟩
      rw [← h1, Nat.testBit_and, Bool.and_eq_true] at this
      rw [this.1, c]
      rfl
    · have c0 : q.2 = 0 := by omega
      have := (tb 0 q.1).mpr ⟨q, hm, c0, rfl⟩
      have hb : b.testBit q.1 = false := by
        rw [Bool.eq_false_iff]
        intro z
        have z2 : (b &&& tookB t 0).testBit q.1 = true := by rw [Nat.testBit_and, z, this]; rfl
        rw [h0] at z2
        simp at z2
      rw [hb, c0]
      rfl
  · intro h
    constructor
    · apply Nat.eq_of_testBit_eq
      intro l
      rw [Nat.testBit_and, Bool.eq_iff_iff, Bool.and_eq_true]
      refine ⟨fun z => z.2, fun z => ⟨?_, z⟩⟩
      obtain ⟨q, hm, h1, h2⟩ := (tb 1 l).mp z
      obtain ⟨e, he⟩ := List.getElem?_of_mem hm
      have hel := (List.getElem?_eq_some_iff.mp he).1
      have := h e hel
      have eg : t.getD e (0, 0) = q := by rw [List.getD_eq_getElem?_getD, he]; rfl
      rw [eg, h1, h2] at this
      cases hb : b.testBit l with
      | true => rfl
      | false => rw [hb] at this; cases this
    · apply Nat.eq_of_testBit_eq
      intro l
      rw [Nat.testBit_and, Nat.zero_testBit, Bool.eq_false_iff]
      intro z
      rw [Bool.and_eq_true] at z
      obtain ⟨q, hm, h1, h2⟩ := (tb 0 l).mp z.2
      obtain ⟨e, he⟩ := List.getElem?_of_mem hm
      have hel := (List.getElem?_eq_some_iff.mp he).1
      have := h e hel
      have eg : t.getD e (0, 0) = q := by rw [List.getD_eq_getElem?_getD, he]; rfl
      rw [eg, h1, h2, z.1] at this
      cases this
theorem aF_tb {f : Nat → Bool} {b : Nat → Nat} {l : Nat} : ∀ {n : Nat}, (aF f b n).testBit l = true ↔ l < 6 ∧ ∀ i, i < n → f i = true → (b i).testBit l = true
  | 0 => by
    show (63 : Nat).testBit l = true ↔ _
    rw [tb63, decide_eq_true_iff]
    exact ⟨fun h => ⟨h, fun i hi => by omega⟩, fun h => h.1⟩
  | n + 1 => by
    unfold aF
    have ih := aF_tb (f := f) (b := b) (l := l) (n := n)
    split
    · rename_i c
      rw [Nat.testBit_and, Bool.and_eq_true, ih]
      constructor
      · rintro ⟨⟨h1, h2⟩, h3⟩
        refine ⟨h1, fun i hi hf => ?_⟩
        by_cases d : i = n
        · subst d; exact h3
        · exact h2 i (by omega) hf
      · rintro ⟨h1, h2⟩
        exact ⟨⟨h1, fun i hi hf => h2 i (by omega) hf⟩, h2 n (by omega) c⟩
    · rename_i c
      rw [ih]
      constructor
      · rintro ⟨h1, h2⟩
        refine ⟨h1, fun i hi hf => ?_⟩
        by_cases d : i = n
        · subst d; exact absurd hf c
        · exact h2 i (by omega) hf
      · rintro ⟨h1, h2⟩
        exact ⟨h1, fun i hi hf => h2 i (by omega) hf⟩
theorem sF_tb {f : Nat → Bool} {b : Nat → Nat} {l : Nat} : ∀ {n : Nat}, (sF f b n).testBit l = true ↔ ∃ i, i < n ∧ f i = true ∧ (b i).testBit l = true
  | 0 => by
    show (0 : Nat).testBit l = true ↔ _
    simp
  | n + 1 => by
    unfold sF
    have ih := sF_tb (f := f) (b := b) (l := l) (n := n)
    split
    · rename_i c
      rw [Nat.testBit_or, Bool.or_eq_true, ih]
      constructor
      · rintro (⟨i, h1, h2⟩ | h)
        · exact ⟨i, by omega, h2⟩
        · exact ⟨n, by omega, c, h⟩
      · rintro ⟨i, h1, h2, h3⟩
        by_cases d : i = n
        · subst d; exact Or.inr h3
        · exact Or.inl ⟨i, by omega, h2, h3⟩
    · rename_i c
      rw [ih]
      constructor
      · rintro ⟨i, h1, h2⟩
        exact ⟨i, by omega, h2⟩
      · rintro ⟨i, h1, h2, h3⟩
        by_cases d : i = n
        · subst d; exact absurd h2 c
        · exact ⟨i, by omega, h2, h3⟩
theorem lF_nF (f : Nat → Bool) (b : Nat → Nat) (l : Nat) : ∀ n, lF f b l n = nF (fun i => f i && (b i).testBit l) n
  | 0 => rfl
  | n + 1 => by unfold lF nF; rw [lF_nF f b l n]
theorem nF_cg {f g : Nat → Bool} : ∀ {n : Nat}, (∀ i, i < n → f i = g i) → nF f n = nF g n
  | 0, _ => rfl
  | n + 1, h => by unfold nF; rw [nF_cg (fun i hi => h i (by omega)), h n (by omega)]
/-- a set may be the stranger's way -/
def pB (S : Sp) (b : Nat) : Bool := hB S.2.1 S.2.2.1.1 b && tkB S.2.2.2.2.2.1 b S.2.2.2.2.2.1.length
def mB (S : Sp) (b : Nat) : Bool := endsN S.2.1 b != 0 && pB S b
section CNM
variable {x : Nat} {S : Sp} {s : St}
theorem pB_way (hok : okSp S) {i : Nat} (hi : i < (waysL S.2.1).length) : pB S (wB S.2.1 i) = wF S i := by
  obtain ⟨-, -, o3, o4, -, -, -, -, -, o10⟩ := id hok
  unfold pB wF
  rw [fits_tk (fun q hq => (o10 q hq).2), Bool.and_comm]
  congr 1
  unfold hB
  rw [ways_ix o3 hi]
theorem mB_0 : mB S 0 = false := by unfold mB; rw [ends_0]; rfl
theorem mB_N (hok : okSp S) : nF (mB S) 64 = gN S := by
  obtain ⟨-, -, o3, -⟩ := id hok
  unfold gN
  rw [← nF_cg (f := fun i => pB S (wB S.2.1 i)) (fun i hi => pB_way hok hi)]
  exact sets_cnt o3 (pB S)
theorem mB_L (hok : okSp S) (l : Nat) : nF (fun b => mB S b && b.testBit l) 64 = gL S l := by
  obtain ⟨-, -, o3, -⟩ := id hok
  unfold gL
  rw [lF_nF, ← nF_cg (n := (waysL S.2.1).length) (f := fun i => pB S (wB S.2.1 i) && (wB S.2.1 i).testBit l) (g := fun i => wF S i && (wB S.2.1 i).testBit l) (fun i hi => by rw [pB_way hok hi]), ← sets_cnt o3 (fun b => pB S b && b.testBit l)]
  refine nF_cg (fun b _ => ?_)
  unfold mB
  rw [Bool.and_assoc]
theorem mB_way (hok : okSp S) {b : Nat} (h : mB S b = true) : ∃ i, i < (waysL S.2.1).length ∧ wF S i = true ∧ wB S.2.1 i = b := by
  unfold mB at h
  rw [Bool.and_eq_true] at h
  obtain ⟨i, i1, -, i3, -⟩ := ends_inv (la := S.2.1) (b := b) (by simpa using h.1)
  refine ⟨i, i1, ?_, i3⟩
  rw [← pB_way hok i1, i3]
  exact h.2
theorem way_mB (hok : okSp S) {i : Nat} (hi : i < (waysL S.2.1).length) (h : wF S i = true) : mB S (wB S.2.1 i) = true := by
  obtain ⟨-, -, o3, -⟩ := id hok
  unfold mB
  rw [pB_way hok hi, h, ends_way o3 hi]
  simp
theorem mB_A (hok : okSp S) : aF (mB S) (fun b => b) 64 = gA S := by
  obtain ⟨-, -, o3, -⟩ := id hok
  unfold gA
  apply Nat.eq_of_testBit_eq
  intro l
  rw [Bool.eq_iff_iff, aF_tb, aF_tb]
  constructor
  · rintro ⟨h1, h2⟩
    exact ⟨h1, fun i hi hf => h2 _ (wB_lt o3 i) (way_mB hok hi hf)⟩
  · rintro ⟨h1, h2⟩
    refine ⟨h1, fun b _ hf => ?_⟩
    obtain ⟨i, i1, i2, i3⟩ := mB_way hok hf
    rw [← i3]
    exact h2 i i1 i2
theorem mB_S (hok : okSp S) : sF (mB S) (fun b => b) 64 = gS S := by
  obtain ⟨-, -, o3, -⟩ := id hok
  unfold gS
  apply Nat.eq_of_testBit_eq
  intro l
  rw [Bool.eq_iff_iff, sF_tb, sF_tb]
  constructor
  · rintro ⟨b, -, h2, h3⟩
    obtain ⟨i, i1, i2, i3⟩ := mB_way hok h2
    exact ⟨i, i1, i2, by rw [i3]; exact h3⟩
  · rintro ⟨i, h1, h2, h3⟩
    exact ⟨_, wB_lt o3 i, way_mB hok h1 h2, h3⟩
theorem sX10_mayBe {b : Nat} {Q : Int32 → St → Prop} (h : RM x S s) (hok : okSp S) (hM : MeasM x S.2.1 S.2.2.1.1 s) (h1 : 1 ≤ b) (hb : b < 64) (hQ : Q (if mB S b then 1 else 0) s) : wX10_mayBe x (nI b) s Q := by
  obtain ⟨-, -, o3, o4, -, -, -, -, o9, o10⟩ := id hok
  have e13 := (h.2.2.2.2.2.2.1.1 b h1 hb).1
  have hel := ends_lt o3 b
  have e21 := h.2.2.2.2.2.1.1
  have key : ∀ c : Bool, (c = (endsN S.2.1 b != 0 && hB S.2.1 S.2.2.1.1 b)) → ∀ d e, e + d = S.2.2.2.2.2.1.length → wX10_mayBe_25 x (nI b) Q (d + 1) (if (c && tkB S.2.2.2.2.2.1 b e) then 1 else 0) (nI e) s := by
    intro c hc d
    induction d with
    | zero =>
      intro e he
      have ee : e = S.2.2.2.2.2.1.length := by omega
      unfold wX10_mayBe_25
      rw [e21, ee]
      refine ⟨fun _ => ⟨?_, ?_⟩, fun z => absurd (Int32.le_refl _) z⟩
      · split
        · exact Or.inr rfl
        · exact Or.inl rfl
      · unfold mB pB at hQ
        rw [← Bool.and_assoc, ← hc] at hQ
        exact hQ
    | succ d ih =>
      intro e he
      have he2 : e < S.2.2.2.2.2.1.length := by omega
      have ih2 := ih (e + 1) (by omega)
      unfold tkB at ih2
      rw [← Bool.and_assoc] at ih2
      have eq : S.2.2.2.2.2.1[e]? = some (S.2.2.2.2.2.1.getD e (0, 0)) := by
        rw [List.getD_eq_getElem?_getD, List.getElem?_eq_getElem he2]; rfl
      have hq := o10 _ (List.mem_of_getElem? eq)
      obtain ⟨t1, t2⟩ := h.2.2.2.2.2.1.2 e (S.2.2.2.2.2.1.getD e (0, 0)).1 (S.2.2.2.2.2.1.getD e (0, 0)).2 eq
      have l6 := o3.2.2.1
      generalize S.2.2.2.2.2.1.getD e (0, 0) = q at ih2 hq t1 t2
      unfold wX10_mayBe_25 wX10_mayBe_60 wX10_mayBe_61
      rw [e21, nI_clamp (by omega), t1, t2, show nI e + (1 : Int32) = nI (e + 1) from (nI_succ _).symm]
      refine ⟨fun z => absurd ((nI_leI (by omega) (by omega)).mp z) (by omega), fun _ => ?_⟩
      have esh : (nI b >>> (nI q.1 &&& 31)) &&& 1 = nI (if b.testBit q.1 then 1 else 0) := by
        rw [show (1 : Int32) = nI 1 from rfl, show (31 : Int32) = nI 31 from rfl, fa_and, shr1 (by omega) (by omega)]
      rw [esh]
      have hb01 : (if b.testBit q.1 then 1 else 0 : Nat) ≤ 1 := by split <;> omega
      cases hcc : (c && tkB S.2.2.2.2.2.1 b e) with
      | false =>
        rw [hcc] at ih2
        exact ⟨fun _ => ih2, fun z => absurd rfl z⟩
      | true =>
        rw [hcc, Bool.true_and] at ih2
        refine ⟨fun z => absurd z (show ¬ (1 : Int32) = 0 by decide), fun _ => ⟨vp_in_nI (by omega) (by omega), vp_in_nI (by omega) (by omega), fun z => ?_, fun z => ?_⟩⟩
        · have : ((if b.testBit q.1 then 1 else 0 : Nat) == q.2) = false := beq_eq_false_iff_ne.mpr (fun y => z (by rw [y]))
          rw [this] at ih2
          exact ih2
        · have : ((if b.testBit q.1 then 1 else 0 : Nat) == q.2) = true := beq_iff_eq.mpr (nI_inj (by omega) (by omega) z)
          rw [this] at ih2
          exact ih2
  unfold wX10_mayBe wX10_mayBe_21 wX10_mayBe_22
  rw [nI_clamp (by omega), e13]
  refine ⟨vp_in_nI (by omega) (by omega), fun z => ?_, fun z => ?_⟩
  · have z' : endsN S.2.1 b = 0 := nI_inj (b := 0) (by omega) (by omega) z
    exact ⟨_, key false (by rw [z']; rfl) S.2.2.2.2.2.1.length 0 (by omega)⟩
  · have z' : endsN S.2.1 b ≠ 0 := fun y => z (by rw [y]; rfl)
    refine sX10_hm h hok hM z' ?_
    have hz0 : (endsN S.2.1 b != 0) = true := by simpa using z'
    cases hz : hB S.2.1 S.2.2.1.1 b with
    | false => exact ⟨fun _ => ⟨_, key false (by rw [hz, Bool.and_false]) S.2.2.2.2.2.1.length 0 (by omega)⟩, fun y => absurd rfl y⟩
    | true => exact ⟨fun y => absurd y (show ¬ (1 : Int32) = 0 by decide), fun _ => ⟨_, key true (by rw [hz, hz0]; rfl) S.2.2.2.2.2.1.length 0 (by omega)⟩⟩
theorem kX10_can {v : Int32} {Q : Int32 → St → Prop} (h : RM x S s) (hok : okSp S) (hQ : ∀ t, RM x S t → Fr (fun k => x ≤ k) s t → Q (cCan S v) t) : wX10_can x v s Q := by
  unfold cCan at hQ
  unfold wX10_can
  refine thM h (fun s' h' hf => ?_)
  refine sX10_in (n := 3) (by rfl) (by omega) (fun hy => ⟨fun z => absurd rfl z, fun _ => ?_⟩) (fun k hy => ⟨fun _ => ?_, fun z => absurd z (by decide)⟩)
  · have n0 : v ≠ 0 := fun z => by rw [z] at hy; cases hy
    have n1 : v ≠ 1 := fun z => by rw [z] at hy; cases hy
    have n2 : v ≠ 2 := fun z => by rw [z] at hy; cases hy
    rw [if_neg n0, if_neg n1, if_neg n2] at hQ
    exact hQ s' h' hf
  · refine sX10_ms h' hok (fun u hR hfu hM => ?_)
    have q := hQ u hR (hf.tr hfu)
    rw [← mB_N hok, ← mB_A hok, ← mB_S hok] at q
    have key : ∀ (K : Int32 → Int32 → Int32 → St → Prop), K (nI (nF (mB S) 64)) (nI (aF (mB S) (fun b => b) 64)) (nI (sF (mB S) (fun b => b) 64)) u → ∀ d n, n + d = 64 → 1 ≤ n → wX10_can_35 x v K Q (d + 1) (nI (nF (mB S) n)) (nI (aF (mB S) (fun b => b) n)) (nI (sF (mB S) (fun b => b) n)) (nI n) u := by
      intro K hK d
      induction d with
      | zero =>
        intro n hn _
        have en : n = 64 := by omega
        subst en
        unfold wX10_can_35
        exact ⟨fun _ => hK, fun z => absurd (Int32.le_refl _) z⟩
      | succ d ih =>
        intro n hn h1n
        have ih2 := ih (n + 1) (by omega) (by omega)
        have a1 : nF (mB S) (n + 1) = nF (mB S) n + if mB S n then 1 else 0 := rfl
        have a2 : aF (mB S) (fun b => b) (n + 1) = if mB S n then aF (mB S) (fun b => b) n &&& n else aF (mB S) (fun b => b) n := rfl
        have a3 : sF (mB S) (fun b => b) (n + 1) = if mB S n then sF (mB S) (fun b => b) n ||| n else sF (mB S) (fun b => b) n := rfl
        rw [a1, a2, a3] at ih2
        unfold wX10_can_35 wX10_can_66
        rw [show nI n + (1 : Int32) = nI (n + 1) from (nI_succ _).symm]
        refine ⟨fun z => absurd ((nI_leI (a := 64) (by omega) (by omega)).mp z) (by omega), fun _ => ?_⟩
        refine sX10_mayBe hR hok hM h1n (by omega) ?_
        cases hz : mB S n with
        | false =>
          rw [hz] at ih2
          exact ⟨fun _ => ih2, fun z => absurd rfl z⟩
        | true =>
          rw [hz, if_pos rfl, if_pos rfl, if_pos rfl] at ih2
          refine ⟨fun z => absurd z (show ¬ (1 : Int32) = 0 by decide), fun _ => ?_⟩
          rw [show nI (nF (mB S) n) + (1 : Int32) = nI (nF (mB S) n + 1) from (nI_succ _).symm, fa_and, fa_or]
          exact ih2
    have k0 := fun K hK => key K hK 63 1 (by omega) (by omega)
    rw [show nF (mB S) 1 = 0 from by show 0 + (if mB S 0 then 1 else 0) = 0; rw [mB_0]; rfl, show aF (mB S) (fun b => b) 1 = 63 from by show (if mB S 0 then 63 &&& 0 else 63) = 63; rw [mB_0]; rfl, show sF (mB S) (fun b => b) 1 = 0 from by show (if mB S 0 then 0 ||| 0 else 0) = 0; rw [mB_0]; rfl] at k0
    refine ⟨_, k0 _ ?_⟩
    refine ⟨fun n0 => ⟨fun n2 => ⟨fun c => ?_, fun c => ?_⟩, fun n2 => ?_⟩, fun n0 => ?_⟩
    · rw [if_neg n0] at q
      have n1 : v = 1 := by
        obtain ⟨hk, rfl⟩ := num_lt (by omega) hy
        have : k ≠ 0 := fun z => n0 (by rw [z]; rfl)
        have : k ≠ 2 := fun z => n2 (by rw [z]; rfl)
        have : k = 1 := by omega
        rw [this]; rfl
      rw [if_pos n1, if_neg (fun z => c (by rw [z]; rfl))] at q
      exact q
    · rw [if_neg n0] at q
      have n1 : v = 1 := by
        obtain ⟨hk, rfl⟩ := num_lt (by omega) hy
        have : k ≠ 0 := fun z => n0 (by rw [z]; rfl)
        have : k ≠ 2 := fun z => n2 (by rw [z]; rfl)
        have : k = 1 := by omega
        rw [this]; rfl
      have hle := nF_le (mB S) 64
      rw [if_pos n1, if_pos (nI_inj (b := 0) (by omega) (by omega) c)] at q
      exact q
    · have n1 : ¬ v = 1 := fun z => by rw [z] at n2; cases n2
      rw [if_neg n0, if_neg n1, if_pos n2] at q
      exact q
    · rw [if_pos n0] at q
      exact q
theorem kX10_look {Q : Int32 → St → Prop} (h : RM x S s) (hok : okSp S) (hQ : ∀ t, RM x S t → Fr (fun k => x ≤ k) s t → Q (cLook S) t) : wX10_look x s Q := by
  obtain ⟨-, -, o3, o4, -⟩ := id hok
  have l6 := o3.2.2.1
  unfold cLook at hQ
  unfold wX10_look
  refine thM h (fun s' h' hf => ?_)
  refine sX10_ms h' hok (fun u hR hfu hM => ?_)
  have q := hQ u hR (hf.tr hfu)
  have hN : gN S ≤ 64 := by rw [← mB_N hok]; exact nF_le _ _
  have hLe : ∀ l, gL S l ≤ gN S := fun l => lF_le _ _ _ _
  have key : ∀ (K : Int32 → St → Prop), K (nI (gN S)) u → ∀ d n, n + d = 64 → 1 ≤ n → wX10_look_17 x K Q (d + 1) (nI (nF (mB S) n)) (nI n) u := by
    intro K hK d
    induction d with
    | zero =>
      intro n hn _
      have en : n = 64 := by omega
      subst en
      unfold wX10_look_17
      rw [mB_N hok]
      exact ⟨fun _ => hK, fun z => absurd (Int32.le_refl _) z⟩
    | succ d ih =>
      intro n hn h1n
      have ih2 := ih (n + 1) (by omega) (by omega)
      have a1 : nF (mB S) (n + 1) = nF (mB S) n + if mB S n then 1 else 0 := rfl
      rw [a1] at ih2
      unfold wX10_look_17 wX10_look_37
      rw [show nI n + (1 : Int32) = nI (n + 1) from (nI_succ _).symm]
      refine ⟨fun z => absurd ((nI_leI (a := 64) (by omega) (by omega)).mp z) (by omega), fun _ => ?_⟩
      refine sX10_mayBe hR hok hM h1n (by omega) ?_
      cases hz : mB S n with
      | false =>
        rw [hz] at ih2
        refine ⟨fun _ => ?_, fun z => absurd rfl z⟩
        rw [show nI (nF (mB S) n) + (0 : Int32) = nI (nF (mB S) n + 0) from nI_add _ 0]
        exact ih2
      | true =>
        rw [hz] at ih2
        refine ⟨fun z => absurd z (show ¬ (1 : Int32) = 0 by decide), fun _ => ?_⟩
        rw [show nI (nF (mB S) n) + (1 : Int32) = nI (nF (mB S) n + 1) from nI_add _ 1]
        exact ih2
  have key2 : ∀ (K : Int32 → St → Prop) (l : Nat) (x1 x2 x3 : Int32), l < 6 → K (nI (gL S l)) u → ∀ d n, n + d = 64 → 1 ≤ n → wX10_look_76 x x1 x2 x3 (nI l) K Q (d + 1) (nI (nF (fun b => mB S b && b.testBit l) n)) (nI n) u := by
    intro K l x1 x2 x3 hl hK d
    induction d with
    | zero =>
      intro n hn _
      have en : n = 64 := by omega
      subst en
      unfold wX10_look_76
      rw [mB_L hok]
      exact ⟨fun _ => hK, fun z => absurd (Int32.le_refl _) z⟩
    | succ d ih =>
      intro n hn h1n
      have ih2 := ih (n + 1) (by omega) (by omega)
      have a1 : nF (fun b => mB S b && b.testBit l) (n + 1) = nF (fun b => mB S b && b.testBit l) n + if (mB S n && n.testBit l) then 1 else 0 := rfl
      rw [a1] at ih2
      have esh : (nI n >>> (nI l &&& 31)) &&& 1 = nI (if n.testBit l then 1 else 0) := by
        rw [show (1 : Int32) = nI 1 from rfl, show (31 : Int32) = nI 31 from rfl, fa_and, shr1 (by omega) (by omega)]
      have r0 : ∀ z : Nat, nI z + (0 : Int32) = nI (z + 0) := fun z => nI_add z 0
      have r1 : ∀ z : Nat, nI z + (1 : Int32) = nI (z + 1) := fun z => nI_add z 1
      unfold wX10_look_76 wX10_look_109 wX10_look_110
      rw [esh, r1 n, r0, r1]
      refine ⟨fun z => absurd ((nI_leI (a := 64) (by omega) (by omega)).mp z) (by omega), fun _ => ?_⟩
      refine sX10_mayBe hR hok hM h1n (by omega) ?_
      cases hz : mB S n with
      | false =>
        rw [hz] at ih2
        exact ⟨fun _ => ih2, fun z => absurd rfl z⟩
      | true =>
        rw [hz, Bool.true_and] at ih2
        refine ⟨fun z => absurd z (show ¬ (1 : Int32) = 0 by decide), fun _ => ?_⟩
        cases hb : n.testBit l with
        | false =>
          rw [hb] at ih2
          exact ⟨fun _ => ih2, fun z => absurd z (show ¬ (0 : Int32) = 1 by decide)⟩
        | true =>
          rw [hb] at ih2
          exact ⟨fun z => absurd rfl z, fun _ => ih2⟩
  have e1 : u.1 (x + 2) ((1 : Int32).toNatClampNeg) = nI S.2.1.2.length := hR.2.1.2.1
  have key3 : ∀ d l, l + d = S.2.1.2.length → wX10_look_54 x (nI (gN S)) Q (d + 1) (if gN S < 2 then -9 else oI ((lkS (gN S) (gL S) l).map (·.1))) (if gN S < 2 then 1000000 else match lkS (gN S) (gL S) l with | none => 1000000 | some z => nI z.2) (nI l) u := by
    intro d
    induction d with
    | zero =>
      intro l hl
      have el : l = S.2.1.2.length := by omega
      subst el
      unfold wX10_look_54
      refine ⟨vp_in_nI (n := 1) (by omega) (by omega), ?_⟩
      rw [e1]
      exact ⟨fun _ => q, fun z => absurd (Int32.le_refl _) z⟩
    | succ d ih =>
      intro l hl
      have hl2 : l < S.2.1.2.length := by omega
      unfold wX10_look_54
      refine ⟨vp_in_nI (n := 1) (by omega) (by omega), ?_⟩
      rw [e1]
      refine ⟨fun z => absurd ((nI_leI (by omega) (by omega)).mp z) (by omega), fun _ => ?_⟩
      by_cases cg : gN S < 2
      · rw [if_pos cg] at q ⊢
        rw [if_pos cg]
        exact ⟨fun _ => q, fun z => absurd ((nI_leI (b := 1) (by omega) (by omega)).mpr (by omega)) z⟩
      · refine ⟨fun z => absurd ((nI_leI (b := 1) (by omega) (by omega)).mp z) (by omega), fun _ => ?_⟩
        have ih2 := ih (l + 1) (by omega)
        rw [if_neg cg, if_neg cg] at ih2 ⊢
        unfold lkS at ih2
        have k2 := fun K x1 x2 x3 hK => key2 K l x1 x2 x3 (by omega) hK 63 1 (by omega) (by omega)
        rw [show nF (fun b => mB S b && b.testBit l) 1 = 0 from by show 0 + (if (mB S 0 && Nat.testBit 0 l) then 1 else 0) = 0; rw [mB_0]; rfl] at k2
        refine ⟨_, k2 _ _ _ _ ?_⟩
        have hle := hLe l
        have fin : wX10_look_137 (wX10_look_54 x (nI (gN S)) Q (d + 1)) Q x (nI (gN S)) (oI ((lkS (gN S) (gL S) l).map (·.1))) (match lkS (gN S) (gL S) l with | none => 1000000 | some z => nI z.2) (nI l) (nI (mxN (gL S l) (gN S - gL S l))) u := by
          have hmx : mxN (gL S l) (gN S - gL S l) ≤ 64 := by unfold mxN; split <;> omega
          unfold wX10_look_137 wX10_look_151 wX10_look_164
          rw [show nI l + (1 : Int32) = nI (l + 1) from (nI_succ _).symm]
          cases hz : lkS (gN S) (gL S) l with
          | none =>
            rw [hz] at ih2
            dsimp only at ih2 ⊢
            have hc : ¬ (1000000 : Int32) ≤ nI (mxN (gL S l) (gN S - gL S l)) := fun z => by
              have := (nI_leI (a := 1000000) (by omega) (by omega)).mp z
              omega
            exact ⟨fun z => absurd z hc, fun _ => ⟨fun z => absurd z hc, fun _ => ih2⟩⟩
          | some p =>
            rw [hz] at ih2
            dsimp only at ih2 ⊢
            have hp := lkS_le (gN S) (gL S) hLe hz
            by_cases c : mxN (gL S l) (gN S - gL S l) < p.2
            · rw [if_pos c] at ih2
              have hc : ¬ nI p.2 ≤ nI (mxN (gL S l) (gN S - gL S l)) := fun z => by
                have := (nI_leI (by omega) (by omega)).mp z
                omega
              exact ⟨fun z => absurd z hc, fun _ => ⟨fun z => absurd z hc, fun _ => ih2⟩⟩
            · rw [if_neg c] at ih2
              have hc : nI p.2 ≤ nI (mxN (gL S l) (gN S - gL S l)) := (nI_leI (by omega) (by omega)).mpr (by omega)
              exact ⟨fun _ => ⟨fun _ => ih2, fun z => absurd hc z⟩, fun z => absurd hc z⟩
        rw [nI_sub hle]
        refine ⟨fun z => ?_, fun z => ?_⟩
        · have z' := (nI_leI (by omega) (by omega)).mp z
          have e : mxN (gL S l) (gN S - gL S l) = gN S - gL S l := by unfold mxN; split <;> omega
          rw [e] at fin
          exact fin
        · have z' : gN S - gL S l < gL S l := by
            rcases Nat.lt_or_ge (gN S - gL S l) (gL S l) with y | y
            · exact y
            · exact absurd ((nI_leI (by omega) (by omega)).mpr y) z
          have e : mxN (gL S l) (gN S - gL S l) = gL S l := by unfold mxN; split <;> omega
          rw [e] at fin
          exact fin
  have k1 := fun K hK => key K hK 63 1 (by omega) (by omega)
  rw [show nF (mB S) 1 = 0 from by show 0 + (if mB S 0 then 1 else 0) = 0; rw [mB_0]; rfl] at k1
  refine ⟨_, k1 _ ⟨S.2.1.2.length + 1, ?_⟩⟩
  have k3 := key3 S.2.1.2.length 0 (by omega)
  rw [show lkS (gN S) (gL S) 0 = none from rfl] at k3
  by_cases cg : gN S < 2
  · rw [if_pos cg, if_pos cg] at k3
    exact k3
  · rw [if_neg cg, if_neg cg] at k3
    exact k3
end CNM
