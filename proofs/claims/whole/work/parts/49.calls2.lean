/-! the class's calls that need no ways, on -/
/-- how far two numbers are apart -/
def apartN (x y : Nat) : Nat := if x < y then y - x else x - y
theorem absN2 {v o : Nat} (hv : v < 2 ^ 30) (ho : o < 2 ^ 30) : (if nI 0 ≤ nI v - nI o then nI v - nI o else nI 0 - (nI v - nI o)) = nI (apartN o v) := by
  unfold apartN
  by_cases c : o ≤ v
  · rw [nI_sub c, if_pos (nI_le (Nat.zero_le _) (by omega))]
    congr 1
    split <;> omega
  · have h1 : nI v - nI o < 0 := pk_sneg ho (by omega)
    rw [if_neg (by rw [show nI 0 = (0 : Int32) from rfl, Int32.not_le]; exact h1), if_neg (by omega)]
    have h2 : nI v + nI (o - v) = nI o := by rw [nI_add]; congr 1; omega
    rw [← h2]
    have : nI 0 = 0 := rfl
    rw [this]
    generalize nI v = a
    generalize nI (o - v) = b
    have : a - (a + b) = -b := by
      apply Int32.toBitVec_inj.mp
      simp [Int32.toBitVec_sub, Int32.toBitVec_add]
      rw [BitVec.sub_eq_add_neg, BitVec.neg_add]
      rw [BitVec.sub_eq_add_neg, ← BitVec.add_assoc, ← BitVec.sub_eq_add_neg a.toBitVec, BitVec.sub_self, BitVec.zero_add]
    rw [this]
    apply Int32.toBitVec_inj.mp
    simp [Int32.toBitVec_sub]
def spade (la : Land) (l : Nat) : Nat := (la.2.getD l (0, 0, 0)).2.2
def digN (S : Sp) (l v : Nat) : Nw := (S.2.2.1.1.set l v, S.2.2.1.2.1, S.2.2.1.2.2.1, Nat.min 99999 (S.2.2.1.2.2.2 + spade S.2.1 l * apartN (S.2.2.1.1.getD l 0) v))
def cDigs (S : Sp) (x y : Int32) : Int32 × Sp := match num x S.2.1.2.length with
  | none => (-1, S)
  | some l => match num y 6 with
    | none => (-1, S)
    | some v => if v = 0 then (-1, S) else if S.2.2.1.1.getD l 0 = v then (-2, S) else (nI (S.2.2.1.1.getD l 0), push S (digN S l v))
theorem lane_get {la : Land} {l : Nat} (h : l < la.2.length) : la.2[l]? = some ((la.2.getD l (0, 0, 0)).1, (la.2.getD l (0, 0, 0)).2.1, spade la l) := by
  unfold spade
  rw [List.getD_eq_getElem?_getD, List.getElem?_eq_getElem h]; rfl
theorem spade_le {la : Land} (h : okLand la) (l : Nat) : spade la l ≤ 9 := by
  by_cases c : l < la.2.length
  · exact (h.2.2.2.1 l _ _ _ (lane_get c)).2.2.2.2
  · unfold spade; rw [List.getD_eq_getElem?_getD, List.getElem?_eq_none (by omega)]; simp
theorem rowAt.set {f : Nat → Int32} {o l v : Nat} {w : List Nat} {f' : Nat → Int32} (h : rowAt f o w) (h1 : f' (o + l) = nI v) (h2 : ∀ k, k ≠ l → f' (o + k) = f (o + k)) : rowAt f' o (w.set l v) := by
  intro k p hp
  rw [List.getElem?_set] at hp
  by_cases c : l = k
  · subst c
    rw [if_pos rfl] at hp
    split at hp
    · cases hp; exact h1
    · cases hp
  · rw [if_neg c] at hp
    rw [h2 k (fun z => c z.symm)]; exact h k p hp
theorem kX9_digs {S : Sp} {s : St} {x y : Int32} {Q : Int32 → St → Prop} (h : RC S s) (hok : okSp S) (hQ : ∀ t, RC (cDigs S x y).2 t → KM s t → Q (cDigs S x y).1 t) : wX9_digs x y s Q := by
  have hok' := hok
  obtain ⟨o1, o2, o3, o4, o5, -⟩ := hok
  have hW := o4.W o3
  have hN := h.2.2.2.1
  have hl6 := o3.2.2.1
  unfold cDigs at hQ
  unfold wX9_digs
  refine sX9_isLane h hl6 (fun hx => ?_) (fun l hx => ?_)
  · rw [hx] at hQ
    exact ⟨fun _ => hQ s h (KM.rf s), fun z => absurd rfl z⟩
  · obtain ⟨hl, rfl⟩ := num_lt (by omega) hx
    rw [hx] at hQ
    dsimp only at hQ
    refine ⟨fun z => absurd z (by decide), fun _ => ?_⟩
    have hL : l < S.2.2.1.1.length := by rw [o4.1]; exact hl
    have ev : s.1 14 l = nI (S.2.2.1.1.getD l 0) := by
      have := hN.1 l _ (getD_get hL)
      rw [Nat.zero_add] at this
      exact this
    have h5 : S.2.2.1.1.getD l 0 ≤ 5 := getD_le (fun x hx => (o4.2.1 x hx).2) l
    cases hy : num y 6 with
    | none =>
      rw [hy] at hQ
      have := (num_none (by omega)).mp hy
      refine ⟨fun _ => hQ s h (KM.rf s), fun c => ⟨fun c2 => ?_, fun _ => hQ s h (KM.rf s)⟩⟩
      rcases this with h1 | h1
      · exfalso; apply c
        rw [Int32.lt_iff_toInt_lt] at h1 ⊢
        have e0 : (0 : Int32).toInt = 0 := rfl
        have e1 : (1 : Int32).toInt = 1 := rfl
        omega
      · exact absurd c2 (ge_nle (n := 5) (by omega) h1)
    | some v =>
      obtain ⟨hv, rfl⟩ := num_lt (by omega) hy
      rw [hy] at hQ
      dsimp only at hQ
      by_cases c0 : v = 0
      · rw [if_pos c0] at hQ
        subst c0
        simp (disch := omega) only [Nat.zero_lt_one, lit_nI, nI_ltI, nI_leI, nI_eq, nI_clamp, vp_in_nI, forall_eq, true_and, and_true, false_and, and_false, true_implies, false_implies, implies_true, not_true, not_false_eq_true, nI_add, pk_mul, nI_sub, shl1, shr1, fa_or, fa_and, nI_m9, nI_m9s]
        exact hQ s h (KM.rf s)
      · rw [if_neg c0] at hQ
        have d1 : ¬ v < 1 := by omega
        have d2 : v ≤ 5 := by omega
        by_cases c1 : S.2.2.1.1.getD l 0 = v
        · rw [if_pos c1] at hQ
          rw [c1] at ev
          simp (disch := omega) only [d1, d2, ev, lit_nI, nI_ltI, nI_leI, nI_eq, nI_clamp, vp_in_nI, forall_eq, true_and, and_true, false_and, and_false, true_implies, false_implies, implies_true, not_true, not_false_eq_true, nI_add, pk_mul, nI_sub, shl1, shr1, fa_or, fa_and, nI_m9, nI_m9s]
          exact hQ s h (KM.rf s)
        · rw [if_neg c1] at hQ
          simp (disch := omega) only [d1, d2, ev, c1, lit_nI, nI_ltI, nI_leI, nI_eq, nI_clamp, vp_in_nI, forall_eq, true_and, and_true, false_and, and_false, true_implies, false_implies, implies_true, not_true, not_false_eq_true, nI_add, pk_mul, nI_sub, shl1, shr1, fa_or, fa_and, nI_m9, nI_m9s]
          refine sX9_beforeChange h hok' (fun t hf hb => ?_)
          have hN2 := hN.fr hf (by intro k; omega)
          have g : IsG (stI t 14 l (nI v)).2.2.1 := by rw [rI_2, hf.2]; exact h.G
          have gg := h.2.1.g
          have hG2 : GroundC s.2.2.1 S.2.1 t := h.2.2.1.fr hf (by intro k; omega)
          have es : (stI t 14 l (nI v)).1 ((stI t 14 l (nI v)).2.2.1 + 3) l = nI (spade S.2.1 l) := by
            rw [rI_2, hf.2, rI_ne (by omega)]
            exact (hG2.2.2.1 l _ _ _ (lane_get hl)).2.2
          have sp9 := spade_le o3 l
          have eg : (stI t 14 l (nI v)).1 13 4 = nI S.2.2.1.2.2.2 := by rw [rI_ne (by omega)]; exact hN2.2.2.2.2
          have hdug := o4.2.2.2.2.2
          have hap : apartN (S.2.2.1.1.getD l 0) v ≤ 5 := by unfold apartN; split <;> omega
          have hmul : spade S.2.1 l * apartN (S.2.2.1.1.getD l 0) v ≤ 45 := Nat.mul_le_mul sp9 hap
          unfold wX9_addDug
          simp (disch := omega) only [g, es, eg, absN2, lit_nI, nI_ltI, nI_leI, nI_eq, nI_clamp, vp_in_nI, forall_eq, true_and, and_true, false_and, and_false, true_implies, false_implies, implies_true, not_true, not_false_eq_true, nI_add, pk_mul, nI_sub, shl1, shr1, fa_or, fa_and, nI_m9, nI_m9s]
          have hf2 : Fr (fun k => 13 ≤ k ∧ k ≤ 16) t (stI (stI t 14 l (nI v)) 13 4 (if S.2.2.1.2.2.2 + spade S.2.1 l * apartN (S.2.2.1.1.getD l 0) v < 99999 then nI (S.2.2.1.2.2.2 + spade S.2.1 l * apartN (S.2.2.1.1.getD l 0) v) else nI 99999)) := (Fr.rf.I (by omega)).I (by omega)
          refine hQ _ (hb _ _ hf2 ⟨?_, ?_, ?_, ?_, ?_⟩) ((KM.of hf (by intro k; omega)).tr (KM.of hf2 (by intro k; omega)))
          · show rowAt _ 0 (S.2.2.1.1.set l v)
            rw [rI_ne (by omega)]
            refine hN2.1.set ?_ (fun k hk => ?_)
            · rw [Nat.zero_add]; exact rI_eq
            · rw [Nat.zero_add]; exact rI_nj hk
          · rw [rI_nj (by omega), rI_ne (by omega)]; exact hN2.2.1
          · intro m w hw
            have := hN2.2.2.1 m w hw
            refine ⟨?_, ?_⟩
            · rw [rI_ne (by omega), rI_ne (by omega)]; exact this.1
            · rw [rI_ne (by omega), rI_ne (by omega)]; exact this.2
          · have := hN2.2.2.2.1
            refine ⟨?_, ?_⟩
            · rw [rI_ne (by omega), rI_ne (by omega)]; exact this.1
            · rw [rI_ne (by omega), rI_ne (by omega)]; exact this.2
          · show _ = nI (Nat.min 99999 _)
            rw [rI_eq]
            by_cases c : S.2.2.1.2.2.2 + spade S.2.1 l * apartN (S.2.2.1.1.getD l 0) v < 99999
            · rw [if_pos c]; congr 1; exact (Nat.min_eq_right (by omega)).symm
            · rw [if_neg c]; congr 1; exact (Nat.min_eq_left (by omega)).symm
