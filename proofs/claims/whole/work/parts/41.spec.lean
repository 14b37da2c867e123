/-! THE SPEC: the office as mathematics. A lane: its two places, spades. A land: places, lanes. NOW: lengths, maps, draft, dug. -/
abbrev Lane : Type := Nat × Nat × Nat
abbrev Land : Type := Nat × List Lane
abbrev Nw : Type := List Nat × List (List Nat) × List Nat × Nat
/-- text, land, NOW, what can be undone (the latest first), images, took, trace -/
abbrev Sp : Type := List Nat × Land × Nw × List Nw × (Option Nw × Option Nw) × List (Nat × Nat) × Int64
def joins (ln : Lane) (a b : Nat) : Bool := (ln.1 == a && ln.2.1 == b) || (ln.1 == b && ln.2.1 == a)
/-- the lane between two places -/
def lnB : List Lane → Nat → Nat → Option Nat
  | [], _, _ => none
  | ln :: r, a, b => if joins ln a b then some 0 else (lnB r a b).map (· + 1)
def lnI (ls : List Lane) (a b : Nat) : Int32 := match lnB ls a b with
  | some l => nI l
  | none => -9
def lastOf : List Nat → Nat
  | [] => 0
  | [a] => a
  | _ :: r => lastOf r
/-- whether a place can be the next of a row -/
def okNext (ls : List Lane) (d : List Nat) (p : Nat) : Bool := d.isEmpty || (decide (d.length < 5) && (lnB ls (lastOf d) p).isSome && !(d.contains p))
/-- a row of places is a way (of one place, or of none, too) -/
def isRow (n : Nat) (ls : List Lane) (w : List Nat) : Prop := (∀ p ∈ w, p < n) ∧ w.length ≤ 5 ∧ (∀ k, k + 1 < w.length → (lnB ls (w.getD k 0) (w.getD (k + 1) 0)).isSome = true) ∧ w.Nodup
def lb (ls : List Lane) (a b : Nat) : Nat := match lnB ls a b with
  | some l => 2 ^ l
  | none => 0
/-- the lanes of the first k places of a row, as bits -/
def bitsP (ls : List Lane) (w : List Nat) : Nat → Nat
  | 0 => 0
  | 1 => 0
  | k + 2 => bitsP ls w (k + 1) ||| lb ls (w.getD k 0) (w.getD (k + 1) 0)
def bitsOf (ls : List Lane) (w : List Nat) : Nat := bitsP ls w w.length
def okLand (la : Land) : Prop := 2 ≤ la.1 ∧ la.1 ≤ 5 ∧ la.2.length ≤ 6 ∧ (∀ (l a b s : Nat), la.2[l]? = some (a, b, s) → a < la.1 ∧ b < la.1 ∧ a ≠ b ∧ 1 ≤ s ∧ s ≤ 9) ∧ (∀ (l m : Nat) (x y : Lane), la.2[l]? = some x → la.2[m]? = some y → joins x y.1 y.2.1 = true → l = m)
def okNw (la : Land) (N : Nw) : Prop := N.1.length = la.2.length ∧ (∀ x ∈ N.1, 1 ≤ x ∧ x ≤ 5) ∧ N.2.1.length ≤ 4 ∧ (∀ w ∈ N.2.1, isRow la.1 la.2 w ∧ 2 ≤ w.length) ∧ isRow la.1 la.2 N.2.2.1 ∧ N.2.2.2 ≤ 99999
def okSp (S : Sp) : Prop := S.1.length ≤ 120 ∧ (∀ a ∈ S.1, a ≤ 255) ∧ okLand S.2.1 ∧ okNw S.2.1 S.2.2.1 ∧ S.2.2.2.1.length ≤ 10 ∧ (∀ N ∈ S.2.2.2.1, okNw S.2.1 N) ∧ (∀ N, S.2.2.2.2.1.1 = some N → okNw S.2.1 N) ∧ (∀ N, S.2.2.2.2.1.2 = some N → okNw S.2.1 N) ∧ S.2.2.2.2.2.1.length ≤ 6 ∧ (∀ t ∈ S.2.2.2.2.2.1, t.1 < S.2.1.2.length ∧ t.2 ≤ 1)
/-! a row of numbers in memory -/
def rowAt (f : Nat → Int32) (o : Nat) (w : List Nat) : Prop := ∀ k p, w[k]? = some p → f (o + k) = nI p
/-! the class's memory -/
def TextC (T : List Nat) (σ : St) : Prop := σ.1 1 0 = nI T.length ∧ rowAt (σ.1 2) 0 T
def GroundC (g : Nat) (la : Land) (σ : St) : Prop := σ.1 g 0 = nI la.1 ∧ σ.1 g 1 = nI la.2.length ∧ (∀ l a b s, la.2[l]? = some (a, b, s) → σ.1 (g + 1) l = nI a ∧ σ.1 (g + 2) l = nI b ∧ σ.1 (g + 3) l = nI s) ∧ ∀ a b, a < 5 → b < 5 → σ.1 (g + 4) (a * 5 + b) = lnI la.2 a b
/-- row m of a Now: its size, its places -/
def rowC (n : Nat) (m : Nat) (w : List Nat) (σ : St) : Prop := σ.1 (n + 2) m = nI w.length ∧ rowAt (σ.1 (n + 3)) (m * 5) w
def NowC (n : Nat) (N : Nw) (σ : St) : Prop := rowAt (σ.1 (n + 1)) 0 N.1 ∧ σ.1 n 3 = nI N.2.1.length ∧ (∀ m w, N.2.1[m]? = some w → rowC n m w σ) ∧ rowC n 4 N.2.2.1 σ ∧ σ.1 n 4 = nI N.2.2.2
/-- the past: a ring; the latest at next - 1 -/
def PastC (U : List Nw) (σ : St) : Prop := ∃ x : Nat, x < 10 ∧ σ.1 29 1 = nI x ∧ σ.1 29 2 = nI U.length ∧ ∀ j N, U[j]? = some N → NowC (31 + 4 * ((x + 9 - j) % 10)) N σ
def ImgC (I : Option Nw × Option Nw) (σ : St) : Prop := (∃ f : Nat, f < 4 ∧ σ.1 0 8 = nI f ∧ f.testBit 0 = I.1.isSome ∧ f.testBit 1 = I.2.isSome) ∧ (∀ N, I.1 = some N → NowC 91 N σ) ∧ (∀ N, I.2 = some N → NowC 95 N σ)
def tookB (t : List (Nat × Nat)) (is : Nat) : Nat := t.foldl (fun b q => if q.2 = is then b ||| 2 ^ q.1 else b) 0
def StrC (t : List (Nat × Nat)) (σ : St) : Prop := σ.1 89 0 = nI t.length ∧ σ.1 89 1 = nI (tookB t 1) ∧ σ.1 89 2 = nI (tookB t 0)
/-! the reference's memory, at its base -/
def TextM (x : Nat) (T : List Nat) (σ : St) : Prop := σ.1 x 3 = nI T.length ∧ rowAt (σ.1 (x + 1)) 0 T
/-- NOW in a row of 38 numbers -/
def NowM (f : Nat → Int32) (o : Nat) (N : Nw) : Prop := rowAt f o N.1 ∧ f (o + 6) = nI N.2.1.length ∧ (∀ m w, N.2.1[m]? = some w → f (o + 7 + m) = nI w.length ∧ rowAt f (o + 11 + 5 * m) w) ∧ rowAt f (o + 31) N.2.2.1 ∧ f (o + 36) = nI N.2.2.1.length ∧ f (o + 37) = nI N.2.2.2
def LandM (x : Nat) (la : Land) (σ : St) : Prop := σ.1 (x + 2) 0 = nI la.1 ∧ σ.1 (x + 2) 1 = nI la.2.length ∧ ∀ l a b s, la.2[l]? = some (a, b, s) → σ.1 (x + 3) l = nI a ∧ σ.1 (x + 4) l = nI b ∧ σ.1 (x + 5) l = nI s
def UndoM (x : Nat) (U : List Nw) (σ : St) : Prop := σ.1 x 18 = nI U.length ∧ ∀ j N, U[j]? = some N → NowM (σ.1 (x + 10)) (38 * (U.length - 1 - j)) N
def ImgM (x : Nat) (I : Option Nw × Option Nw) (σ : St) : Prop := σ.1 (x + 9) 0 = (if I.1.isSome then 1 else 0) ∧ σ.1 (x + 9) 1 = (if I.2.isSome then 1 else 0) ∧ (∀ N, I.1 = some N → NowM (σ.1 (x + 8)) 0 N) ∧ (∀ N, I.2 = some N → NowM (σ.1 (x + 8)) 38 N)
def TookM (x : Nat) (t : List (Nat × Nat)) (σ : St) : Prop := σ.1 x 21 = nI t.length ∧ ∀ k l i, t[k]? = some (l, i) → σ.1 (x + 11) k = nI l ∧ σ.1 (x + 12) k = nI i
