/-! THE PIECES MADE ARE THE ONE WORLD -/
def shC (n cd : Nat) : Nat := if cd < 4 then cd else cd + n
def shS (n : Nat) (sh : Sh) : Sh := if sh.1 < 11 then (sh.1, sh.2.map (shC n)) else if sh.1 < 13 then sh else (sh.1, [sh.2.getD 0 0, sh.2.getD 1 0 + n, sh.2.getD 2 0])
def cloS (m : Nat) (sh : Sh) : Bool := if sh.1 < 11 then sh.2.all (fun cd => decide (cd < 2) || (decide (4 ≤ cd) && decide (cd < m + 4))) else if sh.1 < 13 then true else (List.range (sh.2.getD 0 0)).all (fun i => decide (sh.2.getD 1 0 + sh.2.getD 2 0 * i < m))
section GLU
variable {D : va_G} {D1 D2 : List Sh} {A a : Nat → Nat} {cy : Cy} {σ τ : St} {n m : Nat}
theorem flds_sh {k : Nat} (hA : ∀ i, i < m → A (n + i) = a i) (h1 : σ.1 (n + k) = τ.1 k) (h2 : σ.2.1 (n + k) = τ.2.1 k) : ∀ (L : List Nat) (j : Nat), L.all (fun cd => decide (cd < 2) || (decide (4 ≤ cd) && decide (cd < m + 4))) = true → flds (D, D1, A, cy) σ (n + k) j (L.map (shC n)) = flds (D, D2, a, cy) τ k j L
  | [], _, _ => rfl
  | cd :: r, j, h => by
    simp only [List.all_cons, Bool.and_eq_true, Bool.or_eq_true, decide_eq_true_eq] at h
    rw [List.map_cons, flds, flds, flds_sh hA h1 h2 r (j + 1) h.2]
    congr 1
    match cd, h.1 with
    | 0, _ => show Value.int _ = Value.int _; rw [h1]
    | 1, _ => show Value.long _ = Value.long _; rw [h2]
    | 2, hh => omega
    | 3, hh => omega
    | c + 4, hh =>
      have e : shC n (c + 4) = (n + c) + 4 := by unfold shC; rw [if_neg (by omega)]; omega
      rw [e]
      show Value.ref (A (n + c)) = Value.ref (a c)
      rw [hA c (by omega)]
theorem celE_sh {k : Nat} {sh : Sh} (hA : ∀ i, i < m → A (n + i) = a i) (h1 : σ.1 (n + k) = τ.1 k) (h2 : σ.2.1 (n + k) = τ.2.1 k) (hc : cloS m sh = true) : celE (D, D1, A, cy) σ (n + k) (shS n sh) = celE (D, D2, a, cy) τ k sh := by
  unfold cloS at hc
  by_cases c1 : sh.1 < 11
  · rw [if_pos c1] at hc
    unfold celE shS
    rw [if_pos c1, if_pos c1, if_pos (show (sh.1, sh.2.map (shC n)).1 < 11 from c1)]
    show Sum.inr (sh.1, _) = Sum.inr (sh.1, _)
    rw [flds_sh hA h1 h2 sh.2 0 hc]
  · rw [if_neg c1] at hc
    by_cases c2 : sh.1 < 13
    · have e : shS n sh = sh := by unfold shS; rw [if_neg c1, if_pos c2]
      rw [e]
      unfold celE
      rw [if_neg c1, if_neg c1, h1]
      by_cases c3 : sh.1 = 11
      · rw [if_pos c3, if_pos c3]
      · rw [if_neg c3, if_neg c3, if_pos (show sh.1 = 12 by omega), if_pos (show sh.1 = 12 by omega)]
    · rw [if_neg c2] at hc
      have e : shS n sh = (sh.1, [sh.2.getD 0 0, sh.2.getD 1 0 + n, sh.2.getD 2 0]) := by unfold shS; rw [if_neg c1, if_neg c2]
      have er : refs (D, D1, A, cy) [sh.2.getD 0 0, sh.2.getD 1 0 + n, sh.2.getD 2 0] = refs (D, D2, a, cy) sh.2 := by
        funext i
        show (if i < sh.2.getD 0 0 then some (A (sh.2.getD 1 0 + n + sh.2.getD 2 0 * i)) else none) = (if i < sh.2.getD 0 0 then some (a (sh.2.getD 1 0 + sh.2.getD 2 0 * i)) else none)
        by_cases hi : i < sh.2.getD 0 0
        · rw [if_pos hi, if_pos hi]
          have h3 := List.all_eq_true.mp hc i (List.mem_range.mpr hi)
          rw [decide_eq_true_eq] at h3
          rw [show sh.2.getD 1 0 + n + sh.2.getD 2 0 * i = n + (sh.2.getD 1 0 + sh.2.getD 2 0 * i) by omega, hA _ h3]
        · rw [if_neg hi, if_neg hi]
      rw [e]
      unfold celE
      rw [if_neg c1, if_neg c1, if_neg (show ¬ sh.1 = 11 by omega), if_neg (show ¬ sh.1 = 11 by omega), if_neg (show ¬ sh.1 = 12 by omega), if_neg (show ¬ sh.1 = 12 by omega)]
      by_cases c3 : sh.1 = 13
      · rw [if_pos c3, if_pos c3]
        show Sum.inl (cy.2.2.1, sh.2.getD 0 0, _) = Sum.inl (cy.2.2.1, sh.2.getD 0 0, _)
        rw [er]
      · rw [if_neg c3, if_neg c3]
        show Sum.inl (cy.2.2.2, sh.2.getD 0 0, _) = Sum.inl (cy.2.2.2, sh.2.getD 0 0, _)
        rw [er]
theorem wldR_sh (hA : ∀ i, i < m → A (n + i) = a i) (h1 : ∀ i, i < m → σ.1 (n + i) = τ.1 i) (h2 : ∀ i, i < m → σ.2.1 (n + i) = τ.2.1 i) : ∀ (L : List Sh) (k : Nat), k + L.length ≤ m → L.all (cloS m) = true → wldR (D, D1, A, cy) σ (n + k) (L.map (shS n)) = wldR (D, D2, a, cy) τ k L
  | [], _, _, _ => rfl
  | sh :: r, k, hk, hc => by
    simp only [List.all_cons, Bool.and_eq_true] at hc
    simp only [List.length_cons] at hk
    rw [List.map_cons, wldR, wldR, Nat.add_assoc n k 1, wldR_sh hA h1 h2 r (k + 1) (by omega) hc.2, celE_sh hA (h1 k (by omega)) (h2 k (by omega)) hc.1]
    show (A (n + k), _) :: _ = (a k, _) :: _
    rw [hA k (by omega)]
theorem piece {L : List Sh} (hA : ∀ i, i < L.length → A (n + i) = a i) (h1 : ∀ i, i < L.length → σ.1 (n + i) = τ.1 i) (h2 : ∀ i, i < L.length → σ.2.1 (n + i) = τ.2.1 i) (hc : L.all (cloS L.length) = true) : wldR (D, D1, A, cy) σ n (L.map (shS n)) = wld (D, L, a, cy) τ := by
  rw [wld_R]
  exact wldR_sh (k := 0) hA h1 h2 L (by omega) hc
theorem wldR_app {V : Wv} {k' : Nat} (L2 : List Sh) : ∀ (L1 : List Sh) (k : Nat), k + L1.length = k' → wldR V σ k (L1 ++ L2) = wldR V σ k L1 ++ wldR V σ k' L2
  | [], k, h => by simp only [List.length_nil, Nat.add_zero] at h; subst h; rfl
  | sh :: r, k, h => by
    rw [List.cons_append, wldR, wldR, wldR_app (k' := k') L2 r (k + 1) (by simp only [List.length_cons] at h; omega)]
    rfl
end GLU
def glP {α : Type} (d : α) : List (Nat × (Nat → α)) → Nat → Nat → α
  | [], _, _ => d
  | (e, f) :: r, s, k => if k < e then f (k - s) else glP d r e k
def glA (h0 qi : Nat) (a1 a2 a3 a4 a5 a6 a7 a8 a9 a10 a11 b0 b1 am : Nat → Nat) : Nat → Nat := glP 0 [(1, (fun _ => h0)), (3, a1), (8, a2), (13, a3), (17, a4), (21, a5), (29, a6), (71, a7), (72, (fun _ => qi)), (86, a8), (88, a9), (89, a10), (91, a11), (95, b0), (99, b1), (124, am)] 0
def glS (t2 t3 tm : St) : St := (glP (fun _ => 0) [(1, (fun _ _ => 0)), (3, st0.1), (8, t2.1), (13, t3.1), (17, st0.1), (21, st0.1), (29, st0.1), (71, st0.1), (72, (fun _ _ => 0)), (86, (stI st0 0 2 1000).1), (88, (stI st0 0 1 (-9)).1), (89, (stI (stI st0 0 1 (-9)) 0 2 (-9)).1), (91, st0.1), (95, st0.1), (99, st0.1), (124, tm.1)] 0, glP 0 [(1, (fun _ => 0)), (3, st0.2.1), (8, t2.2.1), (13, t3.2.1), (17, st0.2.1), (21, st0.2.1), (29, st0.2.1), (71, st0.2.1), (72, (fun _ => 0)), (86, (stI st0 0 2 1000).2.1), (88, (stI st0 0 1 (-9)).2.1), (89, (stI (stI st0 0 1 (-9)) 0 2 (-9)).2.1), (91, st0.2.1), (95, st0.2.1), (99, st0.2.1), (124, tm.2.1)] 0, (3, 8))
theorem descEq : DESC = (9, [5, 2, 3, 17, 21, 25, 33, 75, 0, 76, 90, 92, 93, 1]) :: ((DX7.map (shS 1)) ++ ((DX1.map (shS 3)) ++ ((DX1.map (shS 8)) ++ ((DX2.map (shS 13)) ++ ((DX2.map (shS 17)) ++ ((DX8.map (shS 21)) ++ ((DX3.map (shS 29)) ++ ([(13, [2, 91, 4])] ++ ((DX4.map (shS 72)) ++ ((DX0.map (shS 86)) ++ ((DX5.map (shS 88)) ++ ((DX6.map (shS 89)) ++ ((DX2.map (shS 91)) ++ ((DX2.map (shS 95)) ++ ((DX10.map (shS 99))))))))))))))))) := by decide +kernel
theorem glA_1 {h0 qi : Nat} {a1 a2 a3 a4 a5 a6 a7 a8 a9 a10 a11 b0 b1 am : Nat → Nat} : ∀ i, i < 2 → glA h0 qi a1 a2 a3 a4 a5 a6 a7 a8 a9 a10 a11 b0 b1 am (1 + i) = a1 i := by
  intro i hi
  unfold glA
  simp only [glP]
  rw [if_neg (show ¬ 1 + i < 1 by omega), if_pos (show 1 + i < 3 by omega), Nat.add_sub_cancel_left]
theorem glS_1 {t2 t3 tm : St} : ∀ i, i < 2 → (glS t2 t3 tm).1 (1 + i) = st0.1 i := by
  intro i hi
  unfold glS
  simp only [glP]
  rw [if_neg (show ¬ 1 + i < 1 by omega), if_pos (show 1 + i < 3 by omega), Nat.add_sub_cancel_left]
theorem glT_1 {t2 t3 tm : St} : ∀ i, i < 2 → (glS t2 t3 tm).2.1 (1 + i) = st0.2.1 i := by
  intro i hi
  unfold glS
  simp only [glP]
  rw [if_neg (show ¬ 1 + i < 1 by omega), if_pos (show 1 + i < 3 by omega), Nat.add_sub_cancel_left]
theorem glA_3 {h0 qi : Nat} {a1 a2 a3 a4 a5 a6 a7 a8 a9 a10 a11 b0 b1 am : Nat → Nat} : ∀ i, i < 5 → glA h0 qi a1 a2 a3 a4 a5 a6 a7 a8 a9 a10 a11 b0 b1 am (3 + i) = a2 i := by
  intro i hi
  unfold glA
  simp only [glP]
  rw [if_neg (show ¬ 3 + i < 1 by omega), if_neg (show ¬ 3 + i < 3 by omega), if_pos (show 3 + i < 8 by omega), Nat.add_sub_cancel_left]
theorem glS_3 {t2 t3 tm : St} : ∀ i, i < 5 → (glS t2 t3 tm).1 (3 + i) = t2.1 i := by
  intro i hi
  unfold glS
  simp only [glP]
  rw [if_neg (show ¬ 3 + i < 1 by omega), if_neg (show ¬ 3 + i < 3 by omega), if_pos (show 3 + i < 8 by omega), Nat.add_sub_cancel_left]
theorem glT_3 {t2 t3 tm : St} : ∀ i, i < 5 → (glS t2 t3 tm).2.1 (3 + i) = t2.2.1 i := by
  intro i hi
  unfold glS
  simp only [glP]
  rw [if_neg (show ¬ 3 + i < 1 by omega), if_neg (show ¬ 3 + i < 3 by omega), if_pos (show 3 + i < 8 by omega), Nat.add_sub_cancel_left]
theorem glA_8 {h0 qi : Nat} {a1 a2 a3 a4 a5 a6 a7 a8 a9 a10 a11 b0 b1 am : Nat → Nat} : ∀ i, i < 5 → glA h0 qi a1 a2 a3 a4 a5 a6 a7 a8 a9 a10 a11 b0 b1 am (8 + i) = a3 i := by
  intro i hi
  unfold glA
  simp only [glP]
  rw [if_neg (show ¬ 8 + i < 1 by omega), if_neg (show ¬ 8 + i < 3 by omega), if_neg (show ¬ 8 + i < 8 by omega), if_pos (show 8 + i < 13 by omega), Nat.add_sub_cancel_left]
theorem glS_8 {t2 t3 tm : St} : ∀ i, i < 5 → (glS t2 t3 tm).1 (8 + i) = t3.1 i := by
  intro i hi
  unfold glS
  simp only [glP]
  rw [if_neg (show ¬ 8 + i < 1 by omega), if_neg (show ¬ 8 + i < 3 by omega), if_neg (show ¬ 8 + i < 8 by omega), if_pos (show 8 + i < 13 by omega), Nat.add_sub_cancel_left]
theorem glT_8 {t2 t3 tm : St} : ∀ i, i < 5 → (glS t2 t3 tm).2.1 (8 + i) = t3.2.1 i := by
  intro i hi
  unfold glS
  simp only [glP]
  rw [if_neg (show ¬ 8 + i < 1 by omega), if_neg (show ¬ 8 + i < 3 by omega), if_neg (show ¬ 8 + i < 8 by omega), if_pos (show 8 + i < 13 by omega), Nat.add_sub_cancel_left]
theorem glA_13 {h0 qi : Nat} {a1 a2 a3 a4 a5 a6 a7 a8 a9 a10 a11 b0 b1 am : Nat → Nat} : ∀ i, i < 4 → glA h0 qi a1 a2 a3 a4 a5 a6 a7 a8 a9 a10 a11 b0 b1 am (13 + i) = a4 i := by
  intro i hi
  unfold glA
  simp only [glP]
  rw [if_neg (show ¬ 13 + i < 1 by omega), if_neg (show ¬ 13 + i < 3 by omega), if_neg (show ¬ 13 + i < 8 by omega), if_neg (show ¬ 13 + i < 13 by omega), if_pos (show 13 + i < 17 by omega), Nat.add_sub_cancel_left]
theorem glS_13 {t2 t3 tm : St} : ∀ i, i < 4 → (glS t2 t3 tm).1 (13 + i) = st0.1 i := by
  intro i hi
  unfold glS
  simp only [glP]
  rw [if_neg (show ¬ 13 + i < 1 by omega), if_neg (show ¬ 13 + i < 3 by omega), if_neg (show ¬ 13 + i < 8 by omega), if_neg (show ¬ 13 + i < 13 by omega), if_pos (show 13 + i < 17 by omega), Nat.add_sub_cancel_left]
theorem glT_13 {t2 t3 tm : St} : ∀ i, i < 4 → (glS t2 t3 tm).2.1 (13 + i) = st0.2.1 i := by
  intro i hi
  unfold glS
  simp only [glP]
  rw [if_neg (show ¬ 13 + i < 1 by omega), if_neg (show ¬ 13 + i < 3 by omega), if_neg (show ¬ 13 + i < 8 by omega), if_neg (show ¬ 13 + i < 13 by omega), if_pos (show 13 + i < 17 by omega), Nat.add_sub_cancel_left]
theorem glA_17 {h0 qi : Nat} {a1 a2 a3 a4 a5 a6 a7 a8 a9 a10 a11 b0 b1 am : Nat → Nat} : ∀ i, i < 4 → glA h0 qi a1 a2 a3 a4 a5 a6 a7 a8 a9 a10 a11 b0 b1 am (17 + i) = a5 i := by
  intro i hi
  unfold glA
  simp only [glP]
  rw [if_neg (show ¬ 17 + i < 1 by omega), if_neg (show ¬ 17 + i < 3 by omega), if_neg (show ¬ 17 + i < 8 by omega), if_neg (show ¬ 17 + i < 13 by omega), if_neg (show ¬ 17 + i < 17 by omega), if_pos (show 17 + i < 21 by omega), Nat.add_sub_cancel_left]
theorem glS_17 {t2 t3 tm : St} : ∀ i, i < 4 → (glS t2 t3 tm).1 (17 + i) = st0.1 i := by
  intro i hi
  unfold glS
  simp only [glP]
  rw [if_neg (show ¬ 17 + i < 1 by omega), if_neg (show ¬ 17 + i < 3 by omega), if_neg (show ¬ 17 + i < 8 by omega), if_neg (show ¬ 17 + i < 13 by omega), if_neg (show ¬ 17 + i < 17 by omega), if_pos (show 17 + i < 21 by omega), Nat.add_sub_cancel_left]
theorem glT_17 {t2 t3 tm : St} : ∀ i, i < 4 → (glS t2 t3 tm).2.1 (17 + i) = st0.2.1 i := by
  intro i hi
  unfold glS
  simp only [glP]
  rw [if_neg (show ¬ 17 + i < 1 by omega), if_neg (show ¬ 17 + i < 3 by omega), if_neg (show ¬ 17 + i < 8 by omega), if_neg (show ¬ 17 + i < 13 by omega), if_neg (show ¬ 17 + i < 17 by omega), if_pos (show 17 + i < 21 by omega), Nat.add_sub_cancel_left]
theorem glA_21 {h0 qi : Nat} {a1 a2 a3 a4 a5 a6 a7 a8 a9 a10 a11 b0 b1 am : Nat → Nat} : ∀ i, i < 8 → glA h0 qi a1 a2 a3 a4 a5 a6 a7 a8 a9 a10 a11 b0 b1 am (21 + i) = a6 i := by
  intro i hi
  unfold glA
  simp only [glP]
  rw [if_neg (show ¬ 21 + i < 1 by omega), if_neg (show ¬ 21 + i < 3 by omega), if_neg (show ¬ 21 + i < 8 by omega), if_neg (show ¬ 21 + i < 13 by omega), if_neg (show ¬ 21 + i < 17 by omega), if_neg (show ¬ 21 + i < 21 by omega), if_pos (show 21 + i < 29 by omega), Nat.add_sub_cancel_left]
theorem glS_21 {t2 t3 tm : St} : ∀ i, i < 8 → (glS t2 t3 tm).1 (21 + i) = st0.1 i := by
  intro i hi
  unfold glS
  simp only [glP]
  rw [if_neg (show ¬ 21 + i < 1 by omega), if_neg (show ¬ 21 + i < 3 by omega), if_neg (show ¬ 21 + i < 8 by omega), if_neg (show ¬ 21 + i < 13 by omega), if_neg (show ¬ 21 + i < 17 by omega), if_neg (show ¬ 21 + i < 21 by omega), if_pos (show 21 + i < 29 by omega), Nat.add_sub_cancel_left]
theorem glT_21 {t2 t3 tm : St} : ∀ i, i < 8 → (glS t2 t3 tm).2.1 (21 + i) = st0.2.1 i := by
  intro i hi
  unfold glS
  simp only [glP]
  rw [if_neg (show ¬ 21 + i < 1 by omega), if_neg (show ¬ 21 + i < 3 by omega), if_neg (show ¬ 21 + i < 8 by omega), if_neg (show ¬ 21 + i < 13 by omega), if_neg (show ¬ 21 + i < 17 by omega), if_neg (show ¬ 21 + i < 21 by omega), if_pos (show 21 + i < 29 by omega), Nat.add_sub_cancel_left]
theorem glA_29 {h0 qi : Nat} {a1 a2 a3 a4 a5 a6 a7 a8 a9 a10 a11 b0 b1 am : Nat → Nat} : ∀ i, i < 42 → glA h0 qi a1 a2 a3 a4 a5 a6 a7 a8 a9 a10 a11 b0 b1 am (29 + i) = a7 i := by
  intro i hi
  unfold glA
  simp only [glP]
  rw [if_neg (show ¬ 29 + i < 1 by omega), if_neg (show ¬ 29 + i < 3 by omega), if_neg (show ¬ 29 + i < 8 by omega), if_neg (show ¬ 29 + i < 13 by omega), if_neg (show ¬ 29 + i < 17 by omega), if_neg (show ¬ 29 + i < 21 by omega), if_neg (show ¬ 29 + i < 29 by omega), if_pos (show 29 + i < 71 by omega), Nat.add_sub_cancel_left]
theorem glS_29 {t2 t3 tm : St} : ∀ i, i < 42 → (glS t2 t3 tm).1 (29 + i) = st0.1 i := by
  intro i hi
  unfold glS
  simp only [glP]
  rw [if_neg (show ¬ 29 + i < 1 by omega), if_neg (show ¬ 29 + i < 3 by omega), if_neg (show ¬ 29 + i < 8 by omega), if_neg (show ¬ 29 + i < 13 by omega), if_neg (show ¬ 29 + i < 17 by omega), if_neg (show ¬ 29 + i < 21 by omega), if_neg (show ¬ 29 + i < 29 by omega), if_pos (show 29 + i < 71 by omega), Nat.add_sub_cancel_left]
theorem glT_29 {t2 t3 tm : St} : ∀ i, i < 42 → (glS t2 t3 tm).2.1 (29 + i) = st0.2.1 i := by
  intro i hi
  unfold glS
  simp only [glP]
  rw [if_neg (show ¬ 29 + i < 1 by omega), if_neg (show ¬ 29 + i < 3 by omega), if_neg (show ¬ 29 + i < 8 by omega), if_neg (show ¬ 29 + i < 13 by omega), if_neg (show ¬ 29 + i < 17 by omega), if_neg (show ¬ 29 + i < 21 by omega), if_neg (show ¬ 29 + i < 29 by omega), if_pos (show 29 + i < 71 by omega), Nat.add_sub_cancel_left]
theorem glA_72 {h0 qi : Nat} {a1 a2 a3 a4 a5 a6 a7 a8 a9 a10 a11 b0 b1 am : Nat → Nat} : ∀ i, i < 14 → glA h0 qi a1 a2 a3 a4 a5 a6 a7 a8 a9 a10 a11 b0 b1 am (72 + i) = a8 i := by
  intro i hi
  unfold glA
  simp only [glP]
  rw [if_neg (show ¬ 72 + i < 1 by omega), if_neg (show ¬ 72 + i < 3 by omega), if_neg (show ¬ 72 + i < 8 by omega), if_neg (show ¬ 72 + i < 13 by omega), if_neg (show ¬ 72 + i < 17 by omega), if_neg (show ¬ 72 + i < 21 by omega), if_neg (show ¬ 72 + i < 29 by omega), if_neg (show ¬ 72 + i < 71 by omega), if_neg (show ¬ 72 + i < 72 by omega), if_pos (show 72 + i < 86 by omega), Nat.add_sub_cancel_left]
theorem glS_72 {t2 t3 tm : St} : ∀ i, i < 14 → (glS t2 t3 tm).1 (72 + i) = (stI st0 0 2 1000).1 i := by
  intro i hi
  unfold glS
  simp only [glP]
  rw [if_neg (show ¬ 72 + i < 1 by omega), if_neg (show ¬ 72 + i < 3 by omega), if_neg (show ¬ 72 + i < 8 by omega), if_neg (show ¬ 72 + i < 13 by omega), if_neg (show ¬ 72 + i < 17 by omega), if_neg (show ¬ 72 + i < 21 by omega), if_neg (show ¬ 72 + i < 29 by omega), if_neg (show ¬ 72 + i < 71 by omega), if_neg (show ¬ 72 + i < 72 by omega), if_pos (show 72 + i < 86 by omega), Nat.add_sub_cancel_left]
theorem glT_72 {t2 t3 tm : St} : ∀ i, i < 14 → (glS t2 t3 tm).2.1 (72 + i) = (stI st0 0 2 1000).2.1 i := by
  intro i hi
  unfold glS
  simp only [glP]
  rw [if_neg (show ¬ 72 + i < 1 by omega), if_neg (show ¬ 72 + i < 3 by omega), if_neg (show ¬ 72 + i < 8 by omega), if_neg (show ¬ 72 + i < 13 by omega), if_neg (show ¬ 72 + i < 17 by omega), if_neg (show ¬ 72 + i < 21 by omega), if_neg (show ¬ 72 + i < 29 by omega), if_neg (show ¬ 72 + i < 71 by omega), if_neg (show ¬ 72 + i < 72 by omega), if_pos (show 72 + i < 86 by omega), Nat.add_sub_cancel_left]
theorem glA_86 {h0 qi : Nat} {a1 a2 a3 a4 a5 a6 a7 a8 a9 a10 a11 b0 b1 am : Nat → Nat} : ∀ i, i < 2 → glA h0 qi a1 a2 a3 a4 a5 a6 a7 a8 a9 a10 a11 b0 b1 am (86 + i) = a9 i := by
  intro i hi
  unfold glA
  simp only [glP]
  rw [if_neg (show ¬ 86 + i < 1 by omega), if_neg (show ¬ 86 + i < 3 by omega), if_neg (show ¬ 86 + i < 8 by omega), if_neg (show ¬ 86 + i < 13 by omega), if_neg (show ¬ 86 + i < 17 by omega), if_neg (show ¬ 86 + i < 21 by omega), if_neg (show ¬ 86 + i < 29 by omega), if_neg (show ¬ 86 + i < 71 by omega), if_neg (show ¬ 86 + i < 72 by omega), if_neg (show ¬ 86 + i < 86 by omega), if_pos (show 86 + i < 88 by omega), Nat.add_sub_cancel_left]
theorem glS_86 {t2 t3 tm : St} : ∀ i, i < 2 → (glS t2 t3 tm).1 (86 + i) = (stI st0 0 1 (-9)).1 i := by
  intro i hi
  unfold glS
  simp only [glP]
  rw [if_neg (show ¬ 86 + i < 1 by omega), if_neg (show ¬ 86 + i < 3 by omega), if_neg (show ¬ 86 + i < 8 by omega), if_neg (show ¬ 86 + i < 13 by omega), if_neg (show ¬ 86 + i < 17 by omega), if_neg (show ¬ 86 + i < 21 by omega), if_neg (show ¬ 86 + i < 29 by omega), if_neg (show ¬ 86 + i < 71 by omega), if_neg (show ¬ 86 + i < 72 by omega), if_neg (show ¬ 86 + i < 86 by omega), if_pos (show 86 + i < 88 by omega), Nat.add_sub_cancel_left]
theorem glT_86 {t2 t3 tm : St} : ∀ i, i < 2 → (glS t2 t3 tm).2.1 (86 + i) = (stI st0 0 1 (-9)).2.1 i := by
  intro i hi
  unfold glS
  simp only [glP]
  rw [if_neg (show ¬ 86 + i < 1 by omega), if_neg (show ¬ 86 + i < 3 by omega), if_neg (show ¬ 86 + i < 8 by omega), if_neg (show ¬ 86 + i < 13 by omega), if_neg (show ¬ 86 + i < 17 by omega), if_neg (show ¬ 86 + i < 21 by omega), if_neg (show ¬ 86 + i < 29 by omega), if_neg (show ¬ 86 + i < 71 by omega), if_neg (show ¬ 86 + i < 72 by omega), if_neg (show ¬ 86 + i < 86 by omega), if_pos (show 86 + i < 88 by omega), Nat.add_sub_cancel_left]
theorem glA_88 {h0 qi : Nat} {a1 a2 a3 a4 a5 a6 a7 a8 a9 a10 a11 b0 b1 am : Nat → Nat} : ∀ i, i < 1 → glA h0 qi a1 a2 a3 a4 a5 a6 a7 a8 a9 a10 a11 b0 b1 am (88 + i) = a10 i := by
  intro i hi
  unfold glA
  simp only [glP]
  rw [if_neg (show ¬ 88 + i < 1 by omega), if_neg (show ¬ 88 + i < 3 by omega), if_neg (show ¬ 88 + i < 8 by omega), if_neg (show ¬ 88 + i < 13 by omega), if_neg (show ¬ 88 + i < 17 by omega), if_neg (show ¬ 88 + i < 21 by omega), if_neg (show ¬ 88 + i < 29 by omega), if_neg (show ¬ 88 + i < 71 by omega), if_neg (show ¬ 88 + i < 72 by omega), if_neg (show ¬ 88 + i < 86 by omega), if_neg (show ¬ 88 + i < 88 by omega), if_pos (show 88 + i < 89 by omega), Nat.add_sub_cancel_left]
theorem glS_88 {t2 t3 tm : St} : ∀ i, i < 1 → (glS t2 t3 tm).1 (88 + i) = (stI (stI st0 0 1 (-9)) 0 2 (-9)).1 i := by
  intro i hi
  unfold glS
  simp only [glP]
  rw [if_neg (show ¬ 88 + i < 1 by omega), if_neg (show ¬ 88 + i < 3 by omega), if_neg (show ¬ 88 + i < 8 by omega), if_neg (show ¬ 88 + i < 13 by omega), if_neg (show ¬ 88 + i < 17 by omega), if_neg (show ¬ 88 + i < 21 by omega), if_neg (show ¬ 88 + i < 29 by omega), if_neg (show ¬ 88 + i < 71 by omega), if_neg (show ¬ 88 + i < 72 by omega), if_neg (show ¬ 88 + i < 86 by omega), if_neg (show ¬ 88 + i < 88 by omega), if_pos (show 88 + i < 89 by omega), Nat.add_sub_cancel_left]
theorem glT_88 {t2 t3 tm : St} : ∀ i, i < 1 → (glS t2 t3 tm).2.1 (88 + i) = (stI (stI st0 0 1 (-9)) 0 2 (-9)).2.1 i := by
  intro i hi
  unfold glS
  simp only [glP]
  rw [if_neg (show ¬ 88 + i < 1 by omega), if_neg (show ¬ 88 + i < 3 by omega), if_neg (show ¬ 88 + i < 8 by omega), if_neg (show ¬ 88 + i < 13 by omega), if_neg (show ¬ 88 + i < 17 by omega), if_neg (show ¬ 88 + i < 21 by omega), if_neg (show ¬ 88 + i < 29 by omega), if_neg (show ¬ 88 + i < 71 by omega), if_neg (show ¬ 88 + i < 72 by omega), if_neg (show ¬ 88 + i < 86 by omega), if_neg (show ¬ 88 + i < 88 by omega), if_pos (show 88 + i < 89 by omega), Nat.add_sub_cancel_left]
theorem glA_89 {h0 qi : Nat} {a1 a2 a3 a4 a5 a6 a7 a8 a9 a10 a11 b0 b1 am : Nat → Nat} : ∀ i, i < 2 → glA h0 qi a1 a2 a3 a4 a5 a6 a7 a8 a9 a10 a11 b0 b1 am (89 + i) = a11 i := by
  intro i hi
  unfold glA
  simp only [glP]
  rw [if_neg (show ¬ 89 + i < 1 by omega), if_neg (show ¬ 89 + i < 3 by omega), if_neg (show ¬ 89 + i < 8 by omega), if_neg (show ¬ 89 + i < 13 by omega), if_neg (show ¬ 89 + i < 17 by omega), if_neg (show ¬ 89 + i < 21 by omega), if_neg (show ¬ 89 + i < 29 by omega), if_neg (show ¬ 89 + i < 71 by omega), if_neg (show ¬ 89 + i < 72 by omega), if_neg (show ¬ 89 + i < 86 by omega), if_neg (show ¬ 89 + i < 88 by omega), if_neg (show ¬ 89 + i < 89 by omega), if_pos (show 89 + i < 91 by omega), Nat.add_sub_cancel_left]
theorem glS_89 {t2 t3 tm : St} : ∀ i, i < 2 → (glS t2 t3 tm).1 (89 + i) = st0.1 i := by
  intro i hi
  unfold glS
  simp only [glP]
  rw [if_neg (show ¬ 89 + i < 1 by omega), if_neg (show ¬ 89 + i < 3 by omega), if_neg (show ¬ 89 + i < 8 by omega), if_neg (show ¬ 89 + i < 13 by omega), if_neg (show ¬ 89 + i < 17 by omega), if_neg (show ¬ 89 + i < 21 by omega), if_neg (show ¬ 89 + i < 29 by omega), if_neg (show ¬ 89 + i < 71 by omega), if_neg (show ¬ 89 + i < 72 by omega), if_neg (show ¬ 89 + i < 86 by omega), if_neg (show ¬ 89 + i < 88 by omega), if_neg (show ¬ 89 + i < 89 by omega), if_pos (show 89 + i < 91 by omega), Nat.add_sub_cancel_left]
theorem glT_89 {t2 t3 tm : St} : ∀ i, i < 2 → (glS t2 t3 tm).2.1 (89 + i) = st0.2.1 i := by
  intro i hi
  unfold glS
  simp only [glP]
  rw [if_neg (show ¬ 89 + i < 1 by omega), if_neg (show ¬ 89 + i < 3 by omega), if_neg (show ¬ 89 + i < 8 by omega), if_neg (show ¬ 89 + i < 13 by omega), if_neg (show ¬ 89 + i < 17 by omega), if_neg (show ¬ 89 + i < 21 by omega), if_neg (show ¬ 89 + i < 29 by omega), if_neg (show ¬ 89 + i < 71 by omega), if_neg (show ¬ 89 + i < 72 by omega), if_neg (show ¬ 89 + i < 86 by omega), if_neg (show ¬ 89 + i < 88 by omega), if_neg (show ¬ 89 + i < 89 by omega), if_pos (show 89 + i < 91 by omega), Nat.add_sub_cancel_left]
theorem glA_91 {h0 qi : Nat} {a1 a2 a3 a4 a5 a6 a7 a8 a9 a10 a11 b0 b1 am : Nat → Nat} : ∀ i, i < 4 → glA h0 qi a1 a2 a3 a4 a5 a6 a7 a8 a9 a10 a11 b0 b1 am (91 + i) = b0 i := by
  intro i hi
  unfold glA
  simp only [glP]
  rw [if_neg (show ¬ 91 + i < 1 by omega), if_neg (show ¬ 91 + i < 3 by omega), if_neg (show ¬ 91 + i < 8 by omega), if_neg (show ¬ 91 + i < 13 by omega), if_neg (show ¬ 91 + i < 17 by omega), if_neg (show ¬ 91 + i < 21 by omega), if_neg (show ¬ 91 + i < 29 by omega), if_neg (show ¬ 91 + i < 71 by omega), if_neg (show ¬ 91 + i < 72 by omega), if_neg (show ¬ 91 + i < 86 by omega), if_neg (show ¬ 91 + i < 88 by omega), if_neg (show ¬ 91 + i < 89 by omega), if_neg (show ¬ 91 + i < 91 by omega), if_pos (show 91 + i < 95 by omega), Nat.add_sub_cancel_left]
theorem glS_91 {t2 t3 tm : St} : ∀ i, i < 4 → (glS t2 t3 tm).1 (91 + i) = st0.1 i := by
  intro i hi
  unfold glS
  simp only [glP]
  rw [if_neg (show ¬ 91 + i < 1 by omega), if_neg (show ¬ 91 + i < 3 by omega), if_neg (show ¬ 91 + i < 8 by omega), if_neg (show ¬ 91 + i < 13 by omega), if_neg (show ¬ 91 + i < 17 by omega), if_neg (show ¬ 91 + i < 21 by omega), if_neg (show ¬ 91 + i < 29 by omega), if_neg (show ¬ 91 + i < 71 by omega), if_neg (show ¬ 91 + i < 72 by omega), if_neg (show ¬ 91 + i < 86 by omega), if_neg (show ¬ 91 + i < 88 by omega), if_neg (show ¬ 91 + i < 89 by omega), if_neg (show ¬ 91 + i < 91 by omega), if_pos (show 91 + i < 95 by omega), Nat.add_sub_cancel_left]
theorem glT_91 {t2 t3 tm : St} : ∀ i, i < 4 → (glS t2 t3 tm).2.1 (91 + i) = st0.2.1 i := by
  intro i hi
  unfold glS
  simp only [glP]
  rw [if_neg (show ¬ 91 + i < 1 by omega), if_neg (show ¬ 91 + i < 3 by omega), if_neg (show ¬ 91 + i < 8 by omega), if_neg (show ¬ 91 + i < 13 by omega), if_neg (show ¬ 91 + i < 17 by omega), if_neg (show ¬ 91 + i < 21 by omega), if_neg (show ¬ 91 + i < 29 by omega), if_neg (show ¬ 91 + i < 71 by omega), if_neg (show ¬ 91 + i < 72 by omega), if_neg (show ¬ 91 + i < 86 by omega), if_neg (show ¬ 91 + i < 88 by omega), if_neg (show ¬ 91 + i < 89 by omega), if_neg (show ¬ 91 + i < 91 by omega), if_pos (show 91 + i < 95 by omega), Nat.add_sub_cancel_left]
theorem glA_95 {h0 qi : Nat} {a1 a2 a3 a4 a5 a6 a7 a8 a9 a10 a11 b0 b1 am : Nat → Nat} : ∀ i, i < 4 → glA h0 qi a1 a2 a3 a4 a5 a6 a7 a8 a9 a10 a11 b0 b1 am (95 + i) = b1 i := by
  intro i hi
  unfold glA
  simp only [glP]
  rw [if_neg (show ¬ 95 + i < 1 by omega), if_neg (show ¬ 95 + i < 3 by omega), if_neg (show ¬ 95 + i < 8 by omega), if_neg (show ¬ 95 + i < 13 by omega), if_neg (show ¬ 95 + i < 17 by omega), if_neg (show ¬ 95 + i < 21 by omega), if_neg (show ¬ 95 + i < 29 by omega), if_neg (show ¬ 95 + i < 71 by omega), if_neg (show ¬ 95 + i < 72 by omega), if_neg (show ¬ 95 + i < 86 by omega), if_neg (show ¬ 95 + i < 88 by omega), if_neg (show ¬ 95 + i < 89 by omega), if_neg (show ¬ 95 + i < 91 by omega), if_neg (show ¬ 95 + i < 95 by omega), if_pos (show 95 + i < 99 by omega), Nat.add_sub_cancel_left]
theorem glS_95 {t2 t3 tm : St} : ∀ i, i < 4 → (glS t2 t3 tm).1 (95 + i) = st0.1 i := by
  intro i hi
  unfold glS
  simp only [glP]
  rw [if_neg (show ¬ 95 + i < 1 by omega), if_neg (show ¬ 95 + i < 3 by omega), if_neg (show ¬ 95 + i < 8 by omega), if_neg (show ¬ 95 + i < 13 by omega), if_neg (show ¬ 95 + i < 17 by omega), if_neg (show ¬ 95 + i < 21 by omega), if_neg (show ¬ 95 + i < 29 by omega), if_neg (show ¬ 95 + i < 71 by omega), if_neg (show ¬ 95 + i < 72 by omega), if_neg (show ¬ 95 + i < 86 by omega), if_neg (show ¬ 95 + i < 88 by omega), if_neg (show ¬ 95 + i < 89 by omega), if_neg (show ¬ 95 + i < 91 by omega), if_neg (show ¬ 95 + i < 95 by omega), if_pos (show 95 + i < 99 by omega), Nat.add_sub_cancel_left]
theorem glT_95 {t2 t3 tm : St} : ∀ i, i < 4 → (glS t2 t3 tm).2.1 (95 + i) = st0.2.1 i := by
  intro i hi
  unfold glS
  simp only [glP]
  rw [if_neg (show ¬ 95 + i < 1 by omega), if_neg (show ¬ 95 + i < 3 by omega), if_neg (show ¬ 95 + i < 8 by omega), if_neg (show ¬ 95 + i < 13 by omega), if_neg (show ¬ 95 + i < 17 by omega), if_neg (show ¬ 95 + i < 21 by omega), if_neg (show ¬ 95 + i < 29 by omega), if_neg (show ¬ 95 + i < 71 by omega), if_neg (show ¬ 95 + i < 72 by omega), if_neg (show ¬ 95 + i < 86 by omega), if_neg (show ¬ 95 + i < 88 by omega), if_neg (show ¬ 95 + i < 89 by omega), if_neg (show ¬ 95 + i < 91 by omega), if_neg (show ¬ 95 + i < 95 by omega), if_pos (show 95 + i < 99 by omega), Nat.add_sub_cancel_left]
theorem glA_99 {h0 qi : Nat} {a1 a2 a3 a4 a5 a6 a7 a8 a9 a10 a11 b0 b1 am : Nat → Nat} : ∀ i, i < 25 → glA h0 qi a1 a2 a3 a4 a5 a6 a7 a8 a9 a10 a11 b0 b1 am (99 + i) = am i := by
  intro i hi
  unfold glA
  simp only [glP]
  rw [if_neg (show ¬ 99 + i < 1 by omega), if_neg (show ¬ 99 + i < 3 by omega), if_neg (show ¬ 99 + i < 8 by omega), if_neg (show ¬ 99 + i < 13 by omega), if_neg (show ¬ 99 + i < 17 by omega), if_neg (show ¬ 99 + i < 21 by omega), if_neg (show ¬ 99 + i < 29 by omega), if_neg (show ¬ 99 + i < 71 by omega), if_neg (show ¬ 99 + i < 72 by omega), if_neg (show ¬ 99 + i < 86 by omega), if_neg (show ¬ 99 + i < 88 by omega), if_neg (show ¬ 99 + i < 89 by omega), if_neg (show ¬ 99 + i < 91 by omega), if_neg (show ¬ 99 + i < 95 by omega), if_neg (show ¬ 99 + i < 99 by omega), if_pos (show 99 + i < 124 by omega), Nat.add_sub_cancel_left]
theorem glS_99 {t2 t3 tm : St} : ∀ i, i < 25 → (glS t2 t3 tm).1 (99 + i) = tm.1 i := by
  intro i hi
  unfold glS
  simp only [glP]
  rw [if_neg (show ¬ 99 + i < 1 by omega), if_neg (show ¬ 99 + i < 3 by omega), if_neg (show ¬ 99 + i < 8 by omega), if_neg (show ¬ 99 + i < 13 by omega), if_neg (show ¬ 99 + i < 17 by omega), if_neg (show ¬ 99 + i < 21 by omega), if_neg (show ¬ 99 + i < 29 by omega), if_neg (show ¬ 99 + i < 71 by omega), if_neg (show ¬ 99 + i < 72 by omega), if_neg (show ¬ 99 + i < 86 by omega), if_neg (show ¬ 99 + i < 88 by omega), if_neg (show ¬ 99 + i < 89 by omega), if_neg (show ¬ 99 + i < 91 by omega), if_neg (show ¬ 99 + i < 95 by omega), if_neg (show ¬ 99 + i < 99 by omega), if_pos (show 99 + i < 124 by omega), Nat.add_sub_cancel_left]
theorem glT_99 {t2 t3 tm : St} : ∀ i, i < 25 → (glS t2 t3 tm).2.1 (99 + i) = tm.2.1 i := by
  intro i hi
  unfold glS
  simp only [glP]
  rw [if_neg (show ¬ 99 + i < 1 by omega), if_neg (show ¬ 99 + i < 3 by omega), if_neg (show ¬ 99 + i < 8 by omega), if_neg (show ¬ 99 + i < 13 by omega), if_neg (show ¬ 99 + i < 17 by omega), if_neg (show ¬ 99 + i < 21 by omega), if_neg (show ¬ 99 + i < 29 by omega), if_neg (show ¬ 99 + i < 71 by omega), if_neg (show ¬ 99 + i < 72 by omega), if_neg (show ¬ 99 + i < 86 by omega), if_neg (show ¬ 99 + i < 88 by omega), if_neg (show ¬ 99 + i < 89 by omega), if_neg (show ¬ 99 + i < 91 by omega), if_neg (show ¬ 99 + i < 95 by omega), if_neg (show ¬ 99 + i < 99 by omega), if_pos (show 99 + i < 124 by omega), Nat.add_sub_cancel_left]
theorem imgUp {Y : NV} (h0 qi : Nat) (a1 a2 a3 a4 a5 a6 a7 a8 a9 a10 a11 b0 b1 am : Nat → Nat) : va_up (va_up (fun _ => none) 0 (some (b0 0))) 1 (some (b1 0)) = refs (Y.1, DESC, glA h0 qi a1 a2 a3 a4 a5 a6 a7 a8 a9 a10 a11 b0 b1 am, Y.2) [2, 91, 4] := by
  funext i
  match i with
  | 0 => rfl
  | 1 => rfl
  | i + 2 => simp [va_up, refs]
theorem wldR_0 {V : Wv} {σ : St} {sh : Sh} {r : List Sh} : wldR V σ 0 (sh :: r) = (V.2.2.1 0, celE V σ 0 sh) :: wldR V σ 1 r := rfl
theorem glHd {Y : NV} (h0 qi : Nat) (a1 a2 a3 a4 a5 a6 a7 a8 a9 a10 a11 b0 b1 am : Nat → Nat) (t2 t3 tm : St) : (((Y.1, DESC, glA h0 qi a1 a2 a3 a4 a5 a6 a7 a8 a9 a10 a11 b0 b1 am, Y.2)).2.2.1 0, celE (Y.1, DESC, glA h0 qi a1 a2 a3 a4 a5 a6 a7 a8 a9 a10 a11 b0 b1 am, Y.2) (glS t2 t3 tm) 0 (9, [5, 2, 3, 17, 21, 25, 33, 75, 0, 76, 90, 92, 93, 1])) = ((h0, .inr (9, [.ref (a1 0), .ref (a2 0), .ref (a3 0), .ref (a4 0), .ref (a5 0), .ref (a6 0), .ref (a7 0), .ref qi, .int 0, .ref (a8 0), .ref (a9 0), .ref (a10 0), .ref (a11 0), .long 0])) : Nat × va_E) := rfl
theorem glIm {Y : NV} (h0 qi : Nat) (a1 a2 a3 a4 a5 a6 a7 a8 a9 a10 a11 b0 b1 am : Nat → Nat) (t2 t3 tm : St) : wldR (Y.1, DESC, glA h0 qi a1 a2 a3 a4 a5 a6 a7 a8 a9 a10 a11 b0 b1 am, Y.2) (glS t2 t3 tm) 71 [(13, [2, 91, 4])] = [(qi, imgE Y (va_up (va_up (fun _ => none) 0 (some (b0 0))) 1 (some (b1 0))))] := by
  rw [imgUp h0 qi a1 a2 a3 a4 a5 a6 a7 a8 a9 a10 a11 b0 b1 am]
  rfl
theorem glue {Y : NV} (h0 qi : Nat) (a1 a2 a3 a4 a5 a6 a7 a8 a9 a10 a11 b0 b1 am : Nat → Nat) (t2 t3 tm : St) : wld (Y.1, DESC, glA h0 qi a1 a2 a3 a4 a5 a6 a7 a8 a9 a10 a11 b0 b1 am, Y.2) (glS t2 t3 tm) = ((h0, .inr (9, [.ref (a1 0), .ref (a2 0), .ref (a3 0), .ref (a4 0), .ref (a5 0), .ref (a6 0), .ref (a7 0), .ref qi, .int 0, .ref (a8 0), .ref (a9 0), .ref (a10 0), .ref (a11 0), .long 0])) :: (wld (Y.1, DX7, a1, Y.2) st0 ++ (wld (Y.1, DX1, a2, Y.2) t2 ++ (wld (Y.1, DX1, a3, Y.2) t3 ++ (wld (Y.1, DX2, a4, Y.2) st0 ++ (wld (Y.1, DX2, a5, Y.2) st0 ++ (wld (Y.1, DX8, a6, Y.2) st0 ++ (wld (Y.1, DX3, a7, Y.2) st0 ++ ([(qi, imgE Y (va_up (va_up (fun _ => none) 0 (some (b0 0))) 1 (some (b1 0))))] ++ (wld (Y.1, DX4, a8, Y.2) (stI st0 0 2 1000) ++ (wld (Y.1, DX0, a9, Y.2) (stI st0 0 1 (-9)) ++ (wld (Y.1, DX5, a10, Y.2) (stI (stI st0 0 1 (-9)) 0 2 (-9)) ++ (wld (Y.1, DX6, a11, Y.2) st0 ++ (wld (Y.1, DX2, b0, Y.2) st0 ++ (wld (Y.1, DX2, b1, Y.2) st0 ++ (wld (Y.1, DX10, am, Y.2) tm))))))))))))))) : va_W) := by
  have e0 : wld (Y.1, DESC, glA h0 qi a1 a2 a3 a4 a5 a6 a7 a8 a9 a10 a11 b0 b1 am, Y.2) (glS t2 t3 tm) = wldR (Y.1, DESC, glA h0 qi a1 a2 a3 a4 a5 a6 a7 a8 a9 a10 a11 b0 b1 am, Y.2) (glS t2 t3 tm) 0 DESC := wld_R
  have e1 := congrArg (wldR (Y.1, DESC, glA h0 qi a1 a2 a3 a4 a5 a6 a7 a8 a9 a10 a11 b0 b1 am, Y.2) (glS t2 t3 tm) 0) descEq
  rw [e0, e1, wldR_0, glHd]
  rw [wldR_app (k' := 3) _ _ 1 rfl]
  rw [wldR_app (k' := 8) _ _ 3 rfl]
  rw [wldR_app (k' := 13) _ _ 8 rfl]
  rw [wldR_app (k' := 17) _ _ 13 rfl]
  rw [wldR_app (k' := 21) _ _ 17 rfl]
  rw [wldR_app (k' := 29) _ _ 21 rfl]
  rw [wldR_app (k' := 71) _ _ 29 rfl]
  rw [wldR_app (k' := 72) _ _ 71 rfl]
  rw [wldR_app (k' := 86) _ _ 72 rfl]
  rw [wldR_app (k' := 88) _ _ 86 rfl]
  rw [wldR_app (k' := 89) _ _ 88 rfl]
  rw [wldR_app (k' := 91) _ _ 89 rfl]
  rw [wldR_app (k' := 95) _ _ 91 rfl]
  rw [wldR_app (k' := 99) _ _ 95 rfl]
  rw [piece (L := DX7) (n := 1) (a := a1) (τ := st0) glA_1 glS_1 glT_1 (by decide +kernel)]
  rw [piece (L := DX1) (n := 3) (a := a2) (τ := t2) glA_3 glS_3 glT_3 (by decide +kernel)]
  rw [piece (L := DX1) (n := 8) (a := a3) (τ := t3) glA_8 glS_8 glT_8 (by decide +kernel)]
  rw [piece (L := DX2) (n := 13) (a := a4) (τ := st0) glA_13 glS_13 glT_13 (by decide +kernel)]
  rw [piece (L := DX2) (n := 17) (a := a5) (τ := st0) glA_17 glS_17 glT_17 (by decide +kernel)]
  rw [piece (L := DX8) (n := 21) (a := a6) (τ := st0) glA_21 glS_21 glT_21 (by decide +kernel)]
  rw [piece (L := DX3) (n := 29) (a := a7) (τ := st0) glA_29 glS_29 glT_29 (by decide +kernel)]
  rw [piece (L := DX4) (n := 72) (a := a8) (τ := (stI st0 0 2 1000)) glA_72 glS_72 glT_72 (by decide +kernel)]
  rw [piece (L := DX0) (n := 86) (a := a9) (τ := (stI st0 0 1 (-9))) glA_86 glS_86 glT_86 (by decide +kernel)]
  rw [piece (L := DX5) (n := 88) (a := a10) (τ := (stI (stI st0 0 1 (-9)) 0 2 (-9))) glA_88 glS_88 glT_88 (by decide +kernel)]
  rw [piece (L := DX6) (n := 89) (a := a11) (τ := st0) glA_89 glS_89 glT_89 (by decide +kernel)]
  rw [piece (L := DX2) (n := 91) (a := b0) (τ := st0) glA_91 glS_91 glT_91 (by decide +kernel)]
  rw [piece (L := DX2) (n := 95) (a := b1) (τ := st0) glA_95 glS_95 glT_95 (by decide +kernel)]
  rw [piece (L := DX10) (n := 99) (a := am) (τ := tm) glA_99 glS_99 glT_99 (by decide +kernel)]
  rw [glIm]
