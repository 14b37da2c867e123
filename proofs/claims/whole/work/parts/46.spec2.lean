/-! THE SPEC, on: ways, asking, spite; what the class and the reference hold -/
/-- all ways that go on from a row (at most d places more, less one), place by place -/
def waysFrom (n : Nat) (ls : List Lane) : Nat → List Nat → List (List Nat)
  | 0, _ => []
  | d + 1, t => (if t.getD 0 0 < lastOf t then [t] else []) ++ (if t.length < 5 then (List.range n).flatMap (fun p => if (lnB ls (lastOf t) p).isSome && !(t.contains p) then waysFrom n ls d (t ++ [p]) else []) else [])
def waysL (la : Land) : List (List Nat) := (List.range la.1).flatMap (fun p => waysFrom la.1 la.2 5 [p])
def endK (w : List Nat) : Nat := w.getD 0 0 * 5 + lastOf w
def lenOf (L : List Nat) (b : Nat) : Nat := lenP L b L.length
/-- the least length of the first i ways between some ends -/
def lsP (ls : List Lane) (L : List Nat) (W : List (List Nat)) (k : Nat) : Nat → Option Nat
  | 0 => none
  | i + 1 => if endK (W.getD i []) = k then (match lsP ls L W k i with
      | none => some (lenOf L (bitsOf ls (W.getD i [])))
      | some m => some (if lenOf L (bitsOf ls (W.getD i [])) < m then lenOf L (bitsOf ls (W.getD i [])) else m)) else lsP ls L W k i
def lsL (la : Land) (L : List Nat) (k : Nat) : Option Nat := lsP la.2 L (waysL la) k (waysL la).length
/-- a way is no longer than any other one between its ends -/
def shB (la : Land) (L : List Nat) (w : List Nat) : Bool := decide (lsL la L (endK w) = some (lenOf L (bitsOf la.2 w)))
/-- the first way by just these lanes -/
def wIx (ls : List Lane) (b : Nat) : List (List Nat) → Option Nat
  | [] => none
  | w :: r => if bitsOf ls w = b then some 0 else (wIx ls b r).map (· + 1)
def wayIx (la : Land) (b : Nat) : Option Nat := wIx la.2 b (waysL la)
/-- the way by just these lanes is a shortest one -/
def hB (la : Land) (L : List Nat) (b : Nat) : Bool := match wayIx la b with
  | none => false
  | some i => shB la L ((waysL la).getD i [])
def allL : Nat → List (List Nat)
  | 0 => [[]]
  | k + 1 => [1, 2, 3, 4, 5].flatMap (fun x => (allL k).map (fun M => x :: M))
def costL : List Lane → List Nat → List Nat → Nat
  | ln :: r, x :: L, y :: M => ln.2.2 * (if x < y then y - x else x - y) + costL r L M
  | _, _, _ => 0
def betterC (c : Nat) (b : Option (Nat × List Nat)) : Bool := match b with
  | none => true
  | some q => decide (c < q.1)
def best (la : Land) (L0 : List Nat) (ok : List Nat → Bool) : Option (Nat × List Nat) := (allL la.2.length).foldl (fun b M => if ok M && betterC (costL la.2 L0 M) b then some (costL la.2 L0 M, M) else b) none
def mapB (la : Land) (N : Nw) : List Nat := N.2.1.map (bitsOf la.2)
def dB (la : Land) (N : Nw) : List Nat := if N.2.2.1.length < 2 then [] else [bitsOf la.2 N.2.2.1]
def okL (la : Land) (bs : List Nat) (M : List Nat) : Bool := bs.all (hB la M)
def ask (la : Land) (N : Nw) : Option (Nat × List Nat) := best la N.1 (okL la (dB la N ++ mapB la N))
def costO (o : Option (Nat × List Nat)) : Int32 := match o with
  | some q => nI q.1
  | none => -9
def moreC (b : Option (Nat × Nat)) (c : Nat) : Bool := match b with
  | none => true
  | some q => decide (q.1 < c)
/-- spite: how many ways were seen, the dearest (cost, number), how many can't be -/
def spStep (la : Land) (N : Nw) (st : Nat × Option (Nat × Nat) × Nat) (w : List Nat) : Nat × Option (Nat × Nat) × Nat := match best la N.1 (okL la (bitsOf la.2 w :: mapB la N)) with
  | none => (st.1 + 1, st.2.1, st.2.2 + 1)
  | some q => (st.1 + 1, if moreC st.2.1 q.1 then some (q.1, st.1) else st.2.1, st.2.2)
def spiteS (la : Land) (N : Nw) : Nat × Option (Nat × Nat) × Nat := (waysL la).foldl (spStep la N) (0, none, 0)
/-! the class's memory -/
def WaysC (la : Land) (σ : St) : Prop := σ.1 21 0 = nI (waysL la).length ∧ ∀ i w, (waysL la)[i]? = some w → rowAt (σ.1 22) (i * 5) w ∧ σ.1 23 i = nI w.length ∧ σ.1 24 i = nI (endK w) ∧ σ.1 25 i = nI (bitsOf la.2 w)
def AskedC (la : Land) (N : Nw) (σ : St) : Prop := σ.1 86 0 = 0 ∨ (σ.1 86 0 = 1 ∧ σ.1 86 1 = costO (ask la N) ∧ ∀ q, ask la N = some q → rowAt (σ.1 87) 0 q.2)
def oI (o : Option Nat) : Int32 := match o with
  | some q => nI q
  | none => -9
def SpitedC (la : Land) (N : Nw) (σ : St) : Prop := σ.1 88 0 = 0 ∨ (σ.1 88 0 = 1 ∧ N.2.2.1 = [] ∧ σ.1 88 1 = oI ((spiteS la N).2.1.map (·.1)) ∧ σ.1 88 2 = oI ((spiteS la N).2.1.map (·.2)) ∧ σ.1 88 3 = nI (spiteS la N).2.2)
def grOk (σ : St) : Prop := σ.2.2 = (3, 8) ∨ σ.2.2 = (8, 3)
def RC (S : Sp) (σ : St) : Prop := TextC S.1 σ ∧ grOk σ ∧ GroundC σ.2.2.1 S.2.1 σ ∧ NowC 13 S.2.2.1 σ ∧ PastC S.2.2.2.1 σ ∧ ImgC S.2.2.2.2.1 σ ∧ StrC S.2.2.2.2.2.1 σ ∧ WaysC S.2.1 σ ∧ AskedC S.2.1 S.2.2.1 σ ∧ SpitedC S.2.1 S.2.2.1 σ ∧ σ.2.1 0 = S.2.2.2.2.2.2
/-! the reference's memory -/
def endsN (la : Land) (b : Nat) : Nat := match wayIx la b with
  | some i => endK ((waysL la).getD i []) + 1
  | none => 0
def setsL (la : Land) : List Nat := (List.range 64).filter (fun b => endsN la b != 0)
def lowBit (b : Nat) : Nat := if b % 2 = 1 then 0 else if b % 4 = 2 then 1 else if b % 8 = 4 then 2 else if b % 16 = 8 then 3 else if b % 32 = 16 then 4 else 5
def WaysM (x : Nat) (la : Land) (σ : St) : Prop := (∀ b, 1 ≤ b → b < 64 → σ.1 (x + 13) b = nI (endsN la b) ∧ σ.1 (x + 15) b = nI (lowBit b)) ∧ σ.1 x 26 = nI (setsL la).length ∧ rowAt (σ.1 (x + 16)) 0 (setsL la) ∧ σ.1 (x + 14) 0 = 0
def RM (x : Nat) (S : Sp) (σ : St) : Prop := TextM x S.1 σ ∧ LandM x S.2.1 σ ∧ NowM (σ.1 (x + 7)) 0 S.2.2.1 ∧ UndoM x S.2.2.2.1 σ ∧ ImgM x S.2.2.2.2.1 σ ∧ TookM x S.2.2.2.2.2.1 σ ∧ WaysM x S.2.1 σ ∧ σ.2.1 x = S.2.2.2.2.2.2
/-- the reference's cells stay; the class's cells stay -/
def KM (σ τ : St) : Prop := (∀ k, 99 ≤ k → τ.1 k = σ.1 k) ∧ τ.2.1 99 = σ.2.1 99
def KC (σ τ : St) : Prop := (∀ k, k < 99 → τ.1 k = σ.1 k) ∧ τ.2.1 0 = σ.2.1 0 ∧ τ.2.2 = σ.2.2
theorem KM.of {M : Nat → Prop} {σ τ : St} (h : Fr M σ τ) (hd : ∀ k, 99 ≤ k → ¬ M k) : KM σ τ := ⟨fun k hk => h.1 k (hd k hk), by rw [h.2]⟩
theorem KC.of {M : Nat → Prop} {σ τ : St} (h : Fr M σ τ) (hd : ∀ k, k < 99 → ¬ M k) : KC σ τ := ⟨fun k hk => h.1 k (hd k hk), by rw [h.2], by rw [h.2]⟩
/-! frames of the parts -/
section FRM
variable {s t : St} {M : Nat → Prop}
theorem TextC.fr {T : List Nat} (h : TextC T s) (hf : Fr M s t) (hd : ¬ M 1 ∧ ¬ M 2) : TextC T t := by
  unfold TextC at *; rw [hf.1 1 hd.1, hf.1 2 hd.2]; exact h
theorem PastC.fr {U : List Nw} (h : PastC U s) (hf : Fr M s t) (hd : ∀ k, 29 ≤ k → k ≤ 70 → ¬ M k) : PastC U t := by
  obtain ⟨x, h1, h2, h3, h4⟩ := h
  refine ⟨x, h1, by rw [hf.1 29 (hd _ (by omega) (by omega))]; exact h2, by rw [hf.1 29 (hd _ (by omega) (by omega))]; exact h3, fun j N hN => (h4 j N hN).fr hf (fun k a b => hd k (by omega) (by omega))⟩
theorem ImgC.fr {I : Option Nw × Option Nw} (h : ImgC I s) (hf : Fr M s t) (hd : ¬ M 0 ∧ ∀ k, 91 ≤ k → k ≤ 98 → ¬ M k) : ImgC I t := by
  obtain ⟨h1, h2, h3⟩ := h
  refine ⟨by rw [hf.1 0 hd.1]; exact h1, fun N hN => (h2 N hN).fr hf (fun k a b => hd.2 k (by omega) (by omega)), fun N hN => (h3 N hN).fr hf (fun k a b => hd.2 k (by omega) (by omega))⟩
theorem StrC.fr {T : List (Nat × Nat)} (h : StrC T s) (hf : Fr M s t) (hd : ¬ M 89) : StrC T t := by
  unfold StrC at *; rw [hf.1 89 hd]; exact h
theorem WaysC.fr {la : Land} (h : WaysC la s) (hf : Fr M s t) (hd : ∀ k, 21 ≤ k → k ≤ 25 → ¬ M k) : WaysC la t := by
  unfold WaysC at *; rw [hf.1 21 (hd _ (by omega) (by omega)), hf.1 22 (hd _ (by omega) (by omega)), hf.1 23 (hd _ (by omega) (by omega)), hf.1 24 (hd _ (by omega) (by omega)), hf.1 25 (hd _ (by omega) (by omega))]; exact h
theorem AskedC.fr {la : Land} {N : Nw} (h : AskedC la N s) (hf : Fr M s t) (hd : ¬ M 86 ∧ ¬ M 87) : AskedC la N t := by
  unfold AskedC at *; rw [hf.1 86 hd.1, hf.1 87 hd.2]; exact h
theorem SpitedC.fr {la : Land} {N : Nw} (h : SpitedC la N s) (hf : Fr M s t) (hd : ¬ M 88) : SpitedC la N t := by
  unfold SpitedC at *; rw [hf.1 88 hd]; exact h
theorem grOk.fr (h : grOk s) (hf : Fr M s t) : grOk t := by unfold grOk at *; rw [hf.2]; exact h
theorem grOk.g (h : grOk s) : s.2.2.1 = 3 ∨ s.2.2.1 = 8 := by rcases h with h | h <;> rw [h] <;> simp
theorem RC.G {S : Sp} (h : RC S s) : IsG s.2.2.1 := h.2.1.g
/-- the class's parts, where only cells of no part change -/
theorem RC.fr {S : Sp} (h : RC S s) (hf : Fr M s t) (hd : ∀ k, M k → k = 26 ∨ k = 27 ∨ k = 28 ∨ (72 ≤ k ∧ k ≤ 85) ∨ k = 90 ∨ 99 ≤ k) : RC S t := by
  obtain ⟨a1, a2, a3, a4, a5, a6, a7, a8, a9, a10, a11⟩ := h
  have g := a2.g
  have no : ∀ k, ¬ (k = 26 ∨ k = 27 ∨ k = 28 ∨ (72 ≤ k ∧ k ≤ 85) ∨ k = 90 ∨ 99 ≤ k) → ¬ M k := fun k h1 h2 => h1 (hd k h2)
  refine ⟨a1.fr hf ⟨no _ (by omega), no _ (by omega)⟩, a2.fr hf, ?_, a4.fr hf (fun k _ _ => no _ (by omega)), a5.fr hf (fun k _ _ => no _ (by omega)), a6.fr hf ⟨no _ (by omega), fun k _ _ => no _ (by omega)⟩, a7.fr hf (no _ (by omega)), a8.fr hf (fun k _ _ => no _ (by omega)), a9.fr hf ⟨no _ (by omega), no _ (by omega)⟩, a10.fr hf (no _ (by omega)), by rw [hf.2]; exact a11⟩
  rw [hf.2]
  exact a3.fr hf (fun k _ _ => no _ (by omega))
end FRM
