/-! which ways are to hold, as bits of a long -/
def bitW (la : Land) (b : Nat) : Nat := match wayIx la b with
  | some i => 2 ^ i
  | none => 0
def heldL (la : Land) (bs : List Nat) : Nat := bs.foldl (fun h b => h ||| bitW la b) 0
theorem heldL_go (la : Land) : ∀ (bs : List Nat) (h : Nat), bs.foldl (fun h b => h ||| bitW la b) h = h ||| heldL la bs
  | [], h => by show h = h ||| 0; rw [Nat.or_zero]
  | b :: r, h => by
    unfold heldL
    rw [List.foldl_cons, List.foldl_cons, heldL_go la r, heldL_go la r (0 ||| _), Nat.zero_or, Nat.or_assoc]
theorem heldL_app (la : Land) (bs cs : List Nat) : heldL la (bs ++ cs) = heldL la bs ||| heldL la cs := by
  show (bs ++ cs).foldl _ 0 = _
  rw [List.foldl_append, heldL_go la cs]
  rfl
theorem heldL_one (la : Land) (b : Nat) : heldL la [b] = bitW la b := by
  show 0 ||| bitW la b = _
  rw [Nat.zero_or]
theorem bitW_lt {la : Land} (h33 : (waysL la).length ≤ 33) (b : Nat) : bitW la b < 2 ^ 33 := by
  unfold bitW
  split
  · rename_i i hi
    have := (wIx_lt hi).1
    exact Nat.pow_lt_pow_right (by omega) (by omega)
  · exact Nat.two_pow_pos _
theorem heldL_lt {la : Land} (h33 : (waysL la).length ≤ 33) : ∀ bs, heldL la bs < 2 ^ 33
  | [] => by unfold heldL; exact Nat.two_pow_pos _
  | b :: r => by
    rw [show b :: r = [b] ++ r from rfl, heldL_app, heldL_one]
    exact Nat.or_lt_two_pow (bitW_lt h33 b) (heldL_lt h33 r)
theorem heldL_tb {la : Land} {w : Nat} : ∀ {bs : List Nat}, (heldL la bs).testBit w = true ↔ ∃ b, b ∈ bs ∧ wayIx la b = some w
  | [] => by unfold heldL; simp
  | b :: r => by
    rw [show b :: r = [b] ++ r from rfl, heldL_app, heldL_one, Nat.testBit_or, Bool.or_eq_true, heldL_tb (bs := r)]
    constructor
    · rintro (h | ⟨c, h1, h2⟩)
      · refine ⟨b, List.mem_cons_self .., ?_⟩
        unfold bitW at h
        split at h
        · rename_i i hi
          rw [Nat.testBit_two_pow] at h
          rw [hi, of_decide_eq_true h]
        · simp at h
      · exact ⟨c, List.mem_cons_of_mem _ h1, h2⟩
    · rintro ⟨c, h1, h2⟩
      rcases List.mem_cons.mp h1 with rfl | h1
      · left
        unfold bitW
        rw [h2]
        simp
      · right; exact ⟨c, h1, h2⟩
theorem nF_or2 {h i : Nat} : ∀ n, nF (fun w => (h ||| 2 ^ i).testBit w) n ≤ nF (fun w => h.testBit w) n + (if i < n then 1 else 0)
  | 0 => by unfold nF; omega
  | n + 1 => by
    have ih := nF_or2 (h := h) (i := i) n
    have e : (h ||| 2 ^ i).testBit n = (h.testBit n || decide (i = n)) := by rw [Nat.testBit_or, Nat.testBit_two_pow]
    show nF (fun w => (h ||| 2 ^ i).testBit w) n + (if (h ||| 2 ^ i).testBit n then 1 else 0) ≤ nF (fun w => h.testBit w) n + (if h.testBit n then 1 else 0) + (if i < n + 1 then 1 else 0)
    rw [e]
    by_cases c : i = n
    · subst c
      rw [if_neg (Nat.lt_irrefl i)] at ih
      rw [if_pos (Nat.lt_succ_self i), decide_eq_true rfl, Bool.or_true, if_pos rfl]
      omega
    · rw [decide_eq_false c, Bool.or_false]
      have : (if i < n then 1 else 0 : Nat) ≤ (if i < n + 1 then 1 else 0) := by split <;> split <;> omega
      omega
theorem nF_zero : ∀ n, nF (fun w => Nat.testBit 0 w) n = 0
  | 0 => rfl
  | n + 1 => by unfold nF; rw [nF_zero n]; simp
theorem heldL_nF {la : Land} (n : Nat) : ∀ bs : List Nat, nF (fun w => (heldL la bs).testBit w) n ≤ bs.length
  | [] => by unfold heldL; rw [List.foldl_nil, nF_zero]; exact Nat.le_refl _
  | b :: r => by
    have ih := heldL_nF (la := la) n r
    rw [show heldL la (b :: r) = heldL la r ||| bitW la b by rw [show b :: r = [b] ++ r from rfl, heldL_app, heldL_one, Nat.or_comm], List.length_cons]
    unfold bitW
    split
    · rename_i i hi
      have := nF_or2 (h := heldL la r) (i := i) n
      split at this <;> omega
    · rw [Nat.or_zero]; omega
/-- what is to be known of a land's ways -/
def okWays (la : Land) : Prop := (waysL la).length ≤ 33 ∧ (∀ w, (bdsW la w (waysL la).length).length ≤ 4) ∧ (∀ w, isRow la.1 la.2 w → 2 ≤ w.length → (wayIx la (bitsOf la.2 w)).isSome = true) ∧ ∀ i, i < (waysL la).length → wayIx la (wB la i) = some i
theorem held_len {la : Land} (hw : okWays la) {bs : List Nat} (h5 : bs.length ≤ 5) : (bds la (heldL la bs) (waysL la).length).length ≤ 20 := by
  have h1 := bds_len (la := la) (held := heldL la bs) hw.2.1 (waysL la).length
  have h2 := heldL_nF (la := la) (waysL la).length bs
  omega
def allW (la : Land) (bs : List Nat) : Prop := ∀ b ∈ bs, (wayIx la b).isSome = true
theorem okP_okL {la : Land} {bs M : List Nat} (h : okLand la) (hw : okWays la) (h5 : bs.length ≤ 5) (hb : allW la bs) (hM : M ∈ allL la.2.length) : okP (bds la (heldL la bs) (waysL la).length) M = okL la bs M := by
  obtain ⟨hM1, hM2⟩ := allL_in.mp hM
  rw [Bool.eq_iff_iff, bds_iff h (held_len hw h5) hM1 hM2]
  unfold okL
  rw [List.all_eq_true]
  constructor
  · intro hk b hbb
    have := hb b hbb
    unfold hB
    cases hz : wayIx la b with
    | none => rw [hz] at this; cases this
    | some i => exact hk i (wIx_lt hz).1 (heldL_tb.mpr ⟨b, hbb, hz⟩)
  · intro hk w hwl ht
    obtain ⟨b, hbb, hz⟩ := heldL_tb.mp ht
    have := hk b hbb
    unfold hB at this
    rw [hz] at this
    exact this
/-! the class's calls -/
theorem lI_zero : (0 : Int64) = lI 0 := rfl
section HLD
variable {S : Sp} {s : St}
theorem RC.frs {u : St} (h : RC S s) (hf : Frs s u) : RC S u := h.fr hf (by intro k; omega)
theorem KM.frs {u : St} (hf : Frs s u) : KM s u := KM.of hf (by intro k; omega)
theorem sX8_bitBy {b : Nat} {Q : Int64 → St → Prop} (o3 : okLand S.2.1) (hW : WaysC S.2.1 s) (h33 : (waysL S.2.1).length ≤ 33) (hb : b < 64) (hQ : Q (lI (bitW S.2.1 b)) s) : wX8_bitBy 21 (nI b) s Q := by
  unfold wX8_bitBy
  refine sX8_wayBy o3 hW h33 hb ?_
  unfold bitW at hQ
  cases hz : wayIx S.2.1 b with
  | none =>
    rw [hz] at hQ
    exact ⟨fun z => absurd rfl z, fun _ => hQ⟩
  | some i =>
    rw [hz] at hQ
    have hi := (wIx_lt hz).1
    rw [oI_some]
    refine ⟨fun _ => ?_, fun z => ?_⟩
    · rw [lI_one i (by omega)]; exact hQ
    · exact (nI_m9 (n := i) (by omega) ▸ z : False).elim
/-- the lanes of some of the first m maps -/
def selP (ls : List Lane) (some : Nat) (maps : List (List Nat)) : Nat → List Nat
  | 0 => []
  | m + 1 => selP ls some maps m ++ (if some.testBit m then [bitsOf ls (maps.getD m [])] else [])
theorem selP_succ (ls : List Lane) (some : Nat) (maps : List (List Nat)) (m : Nat) : selP ls some maps (m + 1) = selP ls some maps m ++ (if some.testBit m then [bitsOf ls (maps.getD m [])] else []) := rfl
theorem selP_len (ls : List Lane) (some : Nat) (maps : List (List Nat)) : ∀ m, (selP ls some maps m).length ≤ m
  | 0 => Nat.le_refl _
  | m + 1 => by
    have := selP_len ls some maps m
    rw [selP_succ, List.length_append]
    split
    · rw [List.length_singleton]; omega
    · rw [List.length_nil]; omega
def selB (S : Sp) (some : Nat) : List Nat := selP S.2.1.2 some S.2.2.1.2.1 S.2.2.1.2.1.length
theorem sX9_waysOf {some : Nat} {Q : Int64 → St → Prop} (h : RC S s) (hok : okSp S) (h33 : (waysL S.2.1).length ≤ 33) (hs : some < 2 ^ 31) (hQ : Q (lI (heldL S.2.1 (selB S some ++ dB S.2.1 S.2.2.1))) s) : wX9_waysOf (nI some) s Q := by
  obtain ⟨-, -, o3, o4, -⟩ := id hok
  have l6 := o3.2.2.1
  have h4 := o4.2.2.1
  have e3 := h.2.2.2.1.2.1
  have hW := h.2.2.2.2.2.2.2.1
  have key : ∀ (K : Int64 → St → Prop), K (lI (heldL S.2.1 (selB S some))) s → ∀ d m, m + d = S.2.2.1.2.1.length → wX9_waysOf_5 (nI some) K Q (d + 1) (lI (heldL S.2.1 (selP S.2.1.2 some S.2.2.1.2.1 m))) (nI m) s := by
    intro K hK d
    induction d with
    | zero =>
      intro m hm
      unfold wX9_waysOf_5
      have em : m = S.2.2.1.2.1.length := by omega
      subst em
      simp (disch := omega) only [e3, Nat.le_refl, lit_nI, nI_ltI, nI_leI, nI_eq, nI_clamp, vp_in_nI, forall_eq, true_and, and_true, false_and, and_false, true_implies, false_implies, implies_true, not_true, not_false_eq_true, nI_add, pk_mul, nI_sub, shl1, shr1, fa_or, fa_and, nI_m9, nI_m9s]
      exact hK
    | succ d ih =>
      intro m hm
      unfold wX9_waysOf_5 wX9_waysOf_50
      have e : ¬ S.2.2.1.2.1.length ≤ m := by omega
      have ih2 := ih (m + 1) (by omega)
      rw [selP_succ] at ih2
      cases ht : some.testBit m with
      | false =>
        rw [ht, if_neg (by decide), List.append_nil] at ih2
        simp (disch := omega) only [e3, e, ht, Bool.false_eq_true, if_false, Nat.zero_ne_one, lit_nI, nI_ltI, nI_leI, nI_eq, nI_clamp, vp_in_nI, forall_eq, true_and, and_true, false_and, and_false, true_implies, false_implies, implies_true, not_true, not_false_eq_true, nI_add, pk_mul, nI_sub, shl1, shr1, fa_or, fa_and, nI_m9, nI_m9s]
        exact ih2
      | true =>
        rw [ht, if_pos rfl, heldL_app, heldL_one] at ih2
        have hg := map_get (show m < S.2.2.1.2.1.length by omega)
        have hw := o4.2.2.2.1 _ (List.mem_of_getElem? hg)
        simp (disch := omega) only [e3, e, ht, if_true, lit_nI, nI_ltI, nI_leI, nI_eq, nI_clamp, vp_in_nI, forall_eq, true_and, and_true, false_and, and_false, true_implies, false_implies, implies_true, not_true, not_false_eq_true, nI_add, pk_mul, nI_sub, shl1, shr1, fa_or, fa_and, nI_m9, nI_m9s]
        refine ⟨h.G, ?_⟩
        refine sX2_lanesOf h.2.2.1 o3.2.1 l6 (h.2.2.2.1.2.2.1 m _ hg) (by omega) hw.1 ?_
        refine sX8_bitBy o3 hW h33 (bitsP_lt l6 _ _) ?_
        rw [lI_or]
        exact ih2
  unfold wX9_waysOf
  refine ⟨_, key _ ?_ S.2.2.1.2.1.length 0 (by omega)⟩
  unfold wX9_draftIsWay
  have e4 : s.1 15 (4 : Int32).toNatClampNeg = nI S.2.2.1.2.2.1.length := h.2.2.2.1.2.2.2.1.1
  have hd5 := o4.2.2.2.2.1.2.1
  rw [e4]
  unfold dB at hQ
  refine ⟨vp_in_nI (n := 4) (by omega) (by omega), fun z => ?_, fun z => ?_⟩
  · have z' : S.2.2.1.2.2.1.length < 2 := (nI_ltI (b := 2) (by omega) (by omega)).mp z
    rw [if_pos z', List.append_nil] at hQ
    exact ⟨fun _ => hQ, fun z => absurd rfl z⟩
  · have z' : ¬ S.2.2.1.2.2.1.length < 2 := fun y => z ((nI_ltI (b := 2) (by omega) (by omega)).mpr y)
    rw [if_neg z', heldL_app, heldL_one] at hQ
    refine ⟨fun z => absurd z (by decide), fun _ => ⟨h.G, ?_⟩⟩
    refine sX2_lanesOf (m := 4) h.2.2.1 o3.2.1 l6 h.2.2.2.1.2.2.2.1 (by omega) o4.2.2.2.2.1 ?_
    refine sX8_bitBy o3 hW h33 (bitsP_lt l6 _ _) ?_
    rw [lI_or]
    exact hQ
theorem okS {bs : List Nat} (hok : okSp S) (hw : okWays S.2.1) (h5 : bs.length ≤ 5) : okSr S.2.1.2 S.2.2.1.1 (bds S.2.1 (heldL S.2.1 bs) (waysL S.2.1).length) := by
  obtain ⟨-, -, o3, o4, -⟩ := hok
  refine ⟨(bds_ok o3 (held_len hw h5)).1, o3.2.2.1, o4.1, o4.2.1, fun ln hln => ?_⟩
  obtain ⟨i, hi⟩ := List.getElem?_of_mem hln
  exact (o3.2.2.2.1 i ln.1 ln.2.1 ln.2.2 hi).2.2.2.2
/-- the least cost by which some ways hold -/
def minC (S : Sp) (bs : List Nat) : Option Nat := (best S.2.1 S.2.2.1.1 (okL S.2.1 bs)).map (·.1)
theorem minC_le {bs : List Nat} (hok : okSp S) {m : Nat} (h : minC S bs = some m) : m ≤ 216 := by
  obtain ⟨-, -, o3, o4, -⟩ := hok
  obtain ⟨M, h1, h2, h3⟩ := best_min.2 m h
  have := costL_le (ls := S.2.1.2) (L0 := S.2.2.1.1) (M := M) (fun ln hln => by
    obtain ⟨i, hi⟩ := List.getElem?_of_mem hln
    exact (o3.2.2.2.1 i ln.1 ln.2.1 ln.2.2 hi).2.2.2.2) o4.2.1 (allL_in.mp h1).2
  have := o3.2.2.1
  omega
theorem sX9_costOf {bs : List Nat} {Q : Int32 → St → Prop} (h : RC S s) (hok : okSp S) (hw : okWays S.2.1) (h5 : bs.length ≤ 5) (hb : allW S.2.1 bs) (hQ : ∀ u, RC S u → Frs s u → SrI S.2.1.2 S.2.2.1.1 (bds S.2.1 (heldL S.2.1 bs) (waysL S.2.1).length) [] u → Q (oI (minC S bs)) u) : wX9_costOf (lI (heldL S.2.1 bs)) s Q := by
  obtain ⟨-, -, o3, o4, -⟩ := id hok
  have l6 := o3.2.2.1
  unfold wX9_costOf
  refine ⟨h.G, ?_⟩
  refine sX4_begin h.2.1.g o3 h.2.2.1 h.2.2.2.2.2.2.2.1 hw.1 o4.1 h.2.2.2.1.1 (heldL_lt hw.1 bs) (held_len hw h5) (fun u hf hI => ?_)
  unfold wX4_leastCost
  intro t ht
  have hIt : SrI S.2.1.2 S.2.2.1.1 (bds S.2.1 (heldL S.2.1 bs) (waysL S.2.1).length) [] t := by
    have tk : ∀ k, k ≠ 72 → t.1 k = u.1 k := fun k hk => by rw [ht, rI_ne hk]
    have t72 : ∀ j, j ≠ 2 → t.1 72 j = u.1 72 j := fun j hj => by rw [ht, rI_nj hj]
    obtain ⟨h1, h2, h3, h4, h5, h6⟩ := hI
    refine ⟨by rw [t72 0 (by omega)]; exact h1, by rw [t72 1 (by omega)]; exact h2, fun i b hb => ?_, by rw [tk 83 (by omega)]; exact h4, by rw [tk 84 (by omega)]; exact h5, by rw [tk 85 (by omega)]; exact h6⟩
    obtain ⟨a1, a2, a3⟩ := h3 i b hb
    refine ⟨by rw [tk 73 (by omega)]; exact a1, by rw [tk 74 (by omega)]; exact a2, fun j hj => by rw [tk _ (by omega)]; exact a3 j hj⟩
  have hft : Frs s t := by rw [ht]; exact hf.I (by omega)
  refine ⟨S.2.1.2.length + 1, by omega, ?_⟩
  refine sX4_goCheapest (okS hok hw h5) (S.2.1.2.length + 1) [] 0 1000 t _ (by simp) (by simp) (fun y hy => by cases hy) rfl hIt (by rw [ht, rI_eq]; rfl) (by omega) (by omega) (fun v l' hfv hIv hv hle hall hex => ?_)
  simp only [List.length_nil, Nat.sub_zero, List.drop_zero, Nat.zero_add, List.nil_append] at hall hex
  have hq := hQ v (h.frs (hft.tr hfv)) (hft.tr hfv) hIv
  have hmin : IsMin S.2.1.2 S.2.2.1.1 (okL S.2.1 bs) (if l' = 1000 then none else some l') := by
    refine IsMin.cg (p := okP (bds S.2.1 (heldL S.2.1 bs) (waysL S.2.1).length)) ⟨fun M hM hk => ?_, fun m hm => ?_⟩ (fun M hM => okP_okL o3 hw h5 hb hM)
    · have h1 := hall M hM hk
      have h2 := costL_le (ls := S.2.1.2) (L0 := S.2.2.1.1) (M := M) (okS hok hw h5).2.2.2.2 o4.2.1 (allL_in.mp hM).2
      refine ⟨l', by rw [if_neg (by omega)], h1⟩
    · by_cases c : l' = 1000
      · rw [if_pos c] at hm; cases hm
      · rw [if_neg c] at hm
        cases hm
        rcases hex with h1 | ⟨E, hE, h1, h2⟩
        · exact absurd h1 c
        · exact ⟨E, hE, h1, h2⟩
  have hr := hmin.uq best_min
  have e : minC S bs = if l' = 1000 then none else some l' := hr.symm
  rw [e] at hq
  rw [hv]
  by_cases c : l' = 1000
  · subst c
    exact ⟨fun z => absurd rfl z, fun _ => hq⟩
  · rw [if_neg c] at hq
    exact ⟨fun _ => hq, fun z => absurd (nI_inj (b := 1000) (by omega) (by omega) z) c⟩
theorem sX4_findFirst {B : List (Nat × Nat)} {left : Nat} {Q : Int32 → St → Prop} (ho : okSr S.2.1.2 S.2.2.1.1 B) (hI : SrI S.2.1.2 S.2.2.1.1 B [] s) (hle : left ≤ 1000) (hQ : ∀ u, Frs s u → (∀ E, fE S.2.1.2 S.2.2.1.1 B S.2.1.2.length [] left = some E → rowAt (u.1 85) 0 E) → Q (if (fE S.2.1.2 S.2.2.1.1 B S.2.1.2.length [] left).isSome then 1 else 0) u) : wX4_findFirst 72 (nI left) s Q := by
  unfold wX4_findFirst
  have l6 := ho.2.1
  refine ⟨S.2.1.2.length + 1, by omega, ?_⟩
  refine sX4_goFirst ho (S.2.1.2.length + 1) [] left s _ (by simp) (by simp) (fun y hy => by cases hy) rfl hI hle (fun u hf h72 hIu hE => ?_)
  simp only [List.length_nil, Nat.sub_zero] at hE ⊢
  refine ⟨by unfold isB; split <;> simp, hQ u hf (fun E hE' => ?_)⟩
  have := hE E hE'
  rw [List.nil_append] at this
  exact this.2.2.2.2.2
theorem fE_okL {bs : List Nat} {left : Nat} (hok : okSp S) (hw : okWays S.2.1) (h5 : bs.length ≤ 5) (hb : allW S.2.1 bs) : fE S.2.1.2 S.2.2.1.1 (bds S.2.1 (heldL S.2.1 bs) (waysL S.2.1).length) S.2.1.2.length [] left = (allL S.2.1.2.length).find? (fun M => okL S.2.1 bs M && decide (costL S.2.1.2 S.2.2.1.1 M ≤ left)) := by
  obtain ⟨-, -, o3, o4, -⟩ := id hok
  unfold fE
  simp only [List.nil_append, List.length_nil, List.drop_zero]
  have : ∀ (A : List (List Nat)), (∀ M ∈ A, M ∈ allL S.2.1.2.length) → A.find? (fun E => okP (bds S.2.1 (heldL S.2.1 bs) (waysL S.2.1).length) E && decide (costL S.2.1.2 S.2.2.1.1 E ≤ left)) = A.find? (fun M => okL S.2.1 bs M && decide (costL S.2.1.2 S.2.2.1.1 M ≤ left)) := by
    intro A
    induction A with
    | nil => intro _; rfl
    | cons M A ih =>
      intro h
      rw [List.find?_cons, List.find?_cons, okP_okL o3 hw h5 hb (h M (List.mem_cons_self ..)), ih (fun N hN => h N (List.mem_cons_of_mem _ hN))]
  exact this _ (fun M hM => hM)
theorem sX9_canHold {bs : List Nat} {Q : Int32 → St → Prop} (h : RC S s) (hok : okSp S) (hw : okWays S.2.1) (h5 : bs.length ≤ 5) (hb : allW S.2.1 bs) (hQ : ∀ u, RC S u → Frs s u → Q (if (minC S bs).isSome then 1 else 0) u) : wX9_canHold (lI (heldL S.2.1 bs)) s Q := by
  obtain ⟨-, -, o3, o4, -⟩ := id hok
  unfold wX9_canHold
  refine ⟨h.G, ?_⟩
  refine sX4_begin h.2.1.g o3 h.2.2.1 h.2.2.2.2.2.2.2.1 hw.1 o4.1 h.2.2.2.1.1 (heldL_lt hw.1 bs) (held_len hw h5) (fun u hf hI => ?_)
  refine sX4_findFirst (okS hok hw h5) hI (left := 1000) (by omega) (fun v hfv _ => ?_)
  rw [fE_okL hok hw h5 hb]
  have e : ((allL S.2.1.2.length).find? (fun M => okL S.2.1 bs M && decide (costL S.2.1.2 S.2.2.1.1 M ≤ 1000))).isSome = (minC S bs).isSome := by
    rw [Bool.eq_iff_iff, List.find?_isSome]
    constructor
    · rintro ⟨M, hM, hk⟩
      rw [Bool.and_eq_true] at hk
      obtain ⟨m, hm, -⟩ := best_min.1 M hM hk.1
      show (minC S bs).isSome = true
      rw [show minC S bs = some m from hm]; rfl
    · intro hs
      cases hz : minC S bs with
      | none => rw [hz] at hs; cases hs
      | some m =>
        obtain ⟨M, hM, hk, hc⟩ := best_min.2 m hz
        have := minC_le hok hz
        refine ⟨M, hM, ?_⟩
        rw [hk, Bool.true_and]
        exact decide_eq_true (by omega)
  rw [e]
  exact ⟨by unfold isB; split <;> simp, hQ v (h.frs (hf.tr hfv)) (hf.tr hfv)⟩
end HLD
