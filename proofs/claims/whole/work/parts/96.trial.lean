/-! the reference: all lengths, one behind another -/
def ones1 (k : Nat) : List Nat := List.replicate k 1
def nxt : List Nat → Option (List Nat)
  | [] => none
  | x :: M => match nxt M with
    | some M' => some (x :: M')
    | none => if x < 5 then some ((x + 1) :: ones1 M.length) else none
theorem nxt_app (A : List Nat) : ∀ (C B : List Nat), nxt B = none → nxt (C ++ B) = (nxt C).map (· ++ ones1 B.length)
  | [], B, h => by rw [List.nil_append, h]; rfl
  | x :: C, B, h => by
    rw [List.cons_append]
    unfold nxt
    rw [nxt_app A C B h]
    cases nxt C with
    | some M => rfl
    | none =>
      dsimp only [Option.map_none]
      split
      · rw [Option.map_some, List.length_append]
        congr 1
        rw [List.cons_append]
        congr 1
        unfold ones1
        rw [← List.replicate_append_replicate]
      · rfl
theorem nxt_snoc : ∀ (C : List Nat) (x : Nat), x < 5 → nxt (C ++ [x]) = some (C ++ [x + 1])
  | [], x, h => by
    show (if x < 5 then some ((x + 1) :: ones1 0) else none) = _
    rw [if_pos h]
    rfl
  | y :: C, x, h => by
    rw [List.cons_append]
    unfold nxt
    rw [nxt_snoc C x h]
    rfl
theorem nxt_snoc5 (C : List Nat) (k : Nat) (h : nxt (List.replicate k 5) = none) : nxt (C ++ [5] ++ List.replicate k 5) = nxt (C ++ List.replicate (k + 1) 5) := by
  rw [List.append_assoc]
  rfl
theorem nxt_5 : ∀ k, nxt (List.replicate k 5) = none
  | 0 => rfl
  | k + 1 => by
    show nxt (5 :: List.replicate k 5) = none
    unfold nxt
    rw [nxt_5 k]
    rfl
/-- each is the next of the one ahead of it; e is next behind the last -/
def Ch : List (List Nat) → Option (List Nat) → Prop
  | [], _ => True
  | [M], e => nxt M = e
  | M :: M' :: r, e => nxt M = some M' ∧ Ch (M' :: r) e
theorem Ch.app : ∀ {A : List (List Nat)} {h : List Nat} {B : List (List Nat)} {e : Option (List Nat)}, Ch A (some h) → Ch (h :: B) e → Ch (A ++ h :: B) e
  | [], h, B, e, _, h2 => h2
  | [M], h, B, e, h1, h2 => ⟨h1, h2⟩
  | M :: M' :: r, h, B, e, h1, h2 => ⟨h1.1, Ch.app (A := M' :: r) h1.2 h2⟩
theorem Ch.map {x k : Nat} : ∀ {A : List (List Nat)}, (∀ M ∈ A, M.length = k) → Ch A none → Ch (A.map (fun M => x :: M)) (if x < 5 then some ((x + 1) :: ones1 k) else none)
  | [], _, _ => trivial
  | [M], hl, h => by
    show nxt (x :: M) = _
    have h' : nxt M = none := h
    unfold nxt
    rw [h', hl M (by simp)]
  | M :: M' :: r, hl, h => by
    refine ⟨?_, Ch.map (A := M' :: r) (fun N hN => hl N (List.mem_cons_of_mem _ hN)) h.2⟩
    show nxt (x :: M) = _
    unfold nxt
    rw [h.1]
theorem allL_head : ∀ k, ∃ r, allL k = ones1 k :: r
  | 0 => ⟨[], rfl⟩
  | k + 1 => by
    obtain ⟨r, hr⟩ := allL_head k
    unfold allL
    rw [hr]
    exact ⟨_, rfl⟩
theorem allL_ch : ∀ k, Ch (allL k) none
  | 0 => rfl
  | k + 1 => by
    have ih := allL_ch k
    have hl : ∀ M ∈ allL k, M.length = k := fun M hM => (allL_in.mp hM).1
    have bl := fun x => Ch.map (x := x) hl ih
    obtain ⟨r, hr⟩ := allL_head k
    have e : allL (k + 1) = (allL k).map (fun M => 1 :: M) ++ ((allL k).map (fun M => 2 :: M) ++ ((allL k).map (fun M => 3 :: M) ++ ((allL k).map (fun M => 4 :: M) ++ ((allL k).map (fun M => 5 :: M))))) := by
      show [1, 2, 3, 4, 5].flatMap (fun x => (allL k).map (fun M => x :: M)) = _
      simp [List.flatMap_cons]
    rw [e]
    have b1 := bl 1
    have b2 := bl 2
    have b3 := bl 3
    have b4 := bl 4
    have b5 := bl 5
    rw [if_pos (by decide)] at b1 b2 b3 b4
    rw [if_neg (by decide)] at b5
    have hd : ∀ (x : Nat) (Z : List (List Nat)), (allL k).map (fun M => x :: M) ++ Z = (x :: ones1 k) :: (r.map (fun M => x :: M) ++ Z) := fun x Z => by rw [hr]; rfl
    have hd0 : ∀ (x : Nat), (allL k).map (fun M => x :: M) = (x :: ones1 k) :: r.map (fun M => x :: M) := fun x => by rw [hr]; rfl
    have c4 : Ch ((allL k).map (fun M => 4 :: M) ++ ((allL k).map (fun M => 5 :: M))) none := by
      rw [hd0 5] at b5 ⊢
      exact Ch.app b4 b5
    have c3 : Ch ((allL k).map (fun M => 3 :: M) ++ ((allL k).map (fun M => 4 :: M) ++ ((allL k).map (fun M => 5 :: M)))) none := by
      rw [hd 4] at c4 ⊢
      exact Ch.app b3 c4
    have c2 : Ch ((allL k).map (fun M => 2 :: M) ++ ((allL k).map (fun M => 3 :: M) ++ ((allL k).map (fun M => 4 :: M) ++ ((allL k).map (fun M => 5 :: M))))) none := by
      rw [hd 3] at c3 ⊢
      exact Ch.app b2 c3
    rw [hd 2] at c2 ⊢
    exact Ch.app b1 c2
theorem Ch.next : ∀ {A : List (List Nat)} {M : List Nat} {B : List (List Nat)} {e : Option (List Nat)}, Ch (A ++ M :: B) e → nxt M = (match B with | [] => e | M' :: _ => some M')
  | [], M, [], e, h => h
  | [], M, M' :: B, e, h => h.1
  | [a], M, B, e, h => Ch.next (A := []) h.2
  | a :: b :: A, M, B, e, h => Ch.next (A := b :: A) h.2
theorem rep_app (k : Nat) : [1] ++ ones1 k = ones1 (k + 1) := rfl
theorem rowAt.appE {f : Nat → Int32} {o : Nat} {v w : List Nat} (h : rowAt f o (v ++ w)) : rowAt f o v ∧ rowAt f (o + v.length) w := by
  refine ⟨fun k p hp => h k p ?_, fun k p hp => ?_⟩
  · rw [List.getElem?_append_left (List.getElem?_eq_some_iff.mp hp).1]; exact hp
  · have := h (v.length + k) p (by rw [List.getElem?_append_right (by omega), Nat.add_sub_cancel_left]; exact hp)
    rw [← Nat.add_assoc] at this
    exact this
theorem rowAt.mk {f : Nat → Int32} {o : Nat} {v w : List Nat} (h : rowAt f o v) (h2 : rowAt f (o + v.length) w) : rowAt f o (v ++ w) := by
  intro k p hp
  by_cases c : k < v.length
  · rw [List.getElem?_append_left c] at hp
    exact h k p hp
  · rw [List.getElem?_append_right (by omega)] at hp
    have := h2 (k - v.length) p hp
    rw [show o + v.length + (k - v.length) = o + k by omega] at this
    exact this
theorem rowAt.one {f : Nat → Int32} {o p : Nat} : rowAt f o [p] ↔ f o = nI p := by
  constructor
  · intro h; exact h 0 p rfl
  · intro h k q hq
    cases k with
    | zero => cases hq; exact h
    | succ k => simp at hq
section STP
variable {x : Nat} {s : St}
theorem sX10_steps {n : Nat} {M : List Nat} {Q : Int32 → St → Prop} (hn : s.1 (x + 2) 1 = nI n) (hn6 : n ≤ 6) (hM : M.length = n) (h15 : in15 M) (hr : rowAt (s.1 (x + 19)) 0 M) (h0 : nxt M = none → ∀ u, Fr (fun k => k = x + 19) s u → Q 0 u) (h1 : ∀ M', nxt M = some M' → ∀ u, Fr (fun k => k = x + 19) s u → rowAt (u.1 (x + 19)) 0 M' → Q 1 u) : wX10_steps x s Q := by
  have key : ∀ (d : Nat) (A : List Nat) (k : Nat) (u : St), A.length = d → A.length + k = n → M = A ++ List.replicate k 5 → Fr (fun k => k = x + 19) s u → rowAt (u.1 (x + 19)) 0 (A ++ ones1 k) → wX10_steps_9 x (fun x1_36 s_k36 => ((x1_36 < 0 → wX10_steps_50 Q x1_36 s_k36) ∧ (¬ x1_36 < 0 → vp_in x1_36 6 ∧ vp_in x1_36 6 ∧ ∀ s_49 : St, s_49 = stI s_k36 (x + 19) x1_36.toNatClampNeg ((s_k36.1 (x + 19) x1_36.toNatClampNeg) + (1 : Int32)) → wX10_steps_50 Q x1_36 s_49))) Q (d + 1) (nI A.length - 1) u := by
    intro d
    induction d with
    | zero =>
      intro A k u hA hk hMA hf hru
      have : A = [] := List.length_eq_zero_iff.mp hA
      subst this
      unfold wX10_steps_9 wX10_steps_50
      have hneg : (nI ([] : List Nat).length - 1 : Int32) < 0 := by decide
      refine ⟨fun _ => ⟨fun _ => ⟨fun _ => ?_, fun z => absurd hneg z⟩, fun z => absurd hneg z⟩, fun z => absurd hneg z⟩
      exact h0 (by rw [hMA, List.nil_append]; exact nxt_5 k) u hf
    | succ d ih =>
      intro A k u hA hk hMA hf hru
      obtain ⟨C, y, rfl⟩ : ∃ C y, A = C ++ [y] := ⟨A.dropLast, A.getLast (fun z => by rw [z] at hA; cases hA), (List.dropLast_concat_getLast _).symm⟩
      have hC : C.length = d := by simpa using hA
      have hCk : C.length + 1 + k = n := by simpa using hk
      have ex : nI (C ++ [y]).length - 1 = nI C.length := by
        rw [List.length_append]
        show nI (C.length + 1) - 1 = nI C.length
        exact nI_pred _
      have hy : 1 ≤ y ∧ y ≤ 5 := h15 y (by rw [hMA]; simp)
      have hrr := hru.appE
      have hr2 := hrr.1.appE
      have ey : u.1 (x + 19) C.length = nI y := by
        have := rowAt.one.mp hr2.2
        rw [Nat.zero_add] at this
        exact this
      unfold wX10_steps_9 wX10_steps_50
      rw [ex, nI_clamp (by omega), ey]
      have hpos : ¬ nI C.length < 0 := nI_pos (by omega)
      refine ⟨fun z => absurd z hpos, fun _ => ⟨vp_in_nI (by omega) (by omega), fun c => ?_, fun c => ?_⟩⟩
      · have hy5 : y < 5 := by
          rcases Nat.lt_or_ge y 5 with z | z
          · exact z
          · exact absurd (by rw [show y = 5 by omega]; rfl) c
        refine ⟨fun z => absurd z hpos, fun _ => ⟨vp_in_nI (by omega) (by omega), vp_in_nI (by omega) (by omega), fun t ht => ⟨fun z => absurd z hpos, fun _ => ?_⟩⟩⟩
        rw [show nI y + (1 : Int32) = nI (y + 1) from (nI_succ _).symm] at ht
        refine h1 (C ++ [y + 1] ++ ones1 k) ?_ t (by rw [ht]; exact hf.I rfl) ?_
        · rw [hMA, nxt_app [] _ _ (nxt_5 k), nxt_snoc C y hy5, List.length_replicate]
          rfl
        · rw [ht]
          refine rowAt.mk (rowAt.mk (hr2.1.cg (fun j hj => rI_nj (by omega))) (rowAt.one.mpr (by rw [Nat.zero_add, rI_eq]))) ?_
          have := hrr.2
          rw [List.length_append] at this ⊢
          exact this.cg (fun j hj => rI_nj (by simp; omega))
      · have hy5 : y = 5 := nI_inj (b := 5) (by omega) (by omega) c
        subst hy5
        refine ⟨vp_in_nI (by omega) (by omega), fun t ht => ?_⟩
        have := ih C (k + 1) t hC (by omega) (by rw [hMA, List.append_assoc]; rfl) (by rw [ht]; exact hf.I rfl) (by
          rw [ht]
          refine rowAt.mk (hr2.1.cg (fun j hj => rI_nj (by omega))) ?_
          rw [← rep_app]
          refine rowAt.mk (rowAt.one.mpr (by rw [Nat.zero_add, rI_eq]; rfl)) ?_
          have := hrr.2
          rw [List.length_append] at this
          rw [show 0 + C.length + [1].length = 0 + (C.length + [5].length) from rfl]
          exact this.cg (fun j hj => rI_nj (by simp; omega)))
        rw [Int32.sub_eq_add_neg] at this
        exact this
  unfold wX10_steps
  refine ⟨vp_in_nI (n := 1) (by omega) (by omega), ?_⟩
  rw [show s.1 (x + 2) ((1 : Int32).toNatClampNeg) = nI n from hn, ← hM]
  exact ⟨_, key M.length M 0 s rfl (by omega) (by simp) Fr.rf (by show rowAt _ 0 (M ++ []); rw [List.append_nil]; exact hr)⟩
end STP
