/-! the shapes of all cells that the law makes, in the order in which they are made -/
def DESC : List Sh := [(9, [5, 2, 3, 17, 21, 25, 33, 75, 0, 76, 90, 92, 93, 1]), (7, [0, 6, 0, 0, 0, 0]), (11, [120]), (1, [0, 0, 8, 9, 10, 11]), (11, [6]), (11, [6]), (11, [6]), (11, [25]), (1, [0, 0, 13, 14, 15, 16]), (11, [6]), (11, [6]), (11, [6]), (11, [25]), (2, [18, 19, 20, 0, 0]), (11, [6]), (11, [5]), (11, [25]), (2, [22, 23, 24, 0, 0]), (11, [6]), (11, [5]), (11, [25]), (8, [0, 26, 27, 28, 29, 30, 31, 32]), (11, [165]), (11, [33]), (11, [33]), (11, [33]), (11, [33]), (11, [25]), (11, [5]), (3, [34, 0, 0]), (13, [10, 31, 4]), (2, [36, 37, 38, 0, 0]), (11, [6]), (11, [5]), (11, [25]), (2, [40, 41, 42, 0, 0]), (11, [6]), (11, [5]), (11, [25]), (2, [44, 45, 46, 0, 0]), (11, [6]), (11, [5]), (11, [25]), (2, [48, 49, 50, 0, 0]), (11, [6]), (11, [5]), (11, [25]), (2, [52, 53, 54, 0, 0]), (11, [6]), (11, [5]), (11, [25]), (2, [56, 57, 58, 0, 0]), (11, [6]), (11, [5]), (11, [25]), (2, [60, 61, 62, 0, 0]), (11, [6]), (11, [5]), (11, [25]), (2, [64, 65, 66, 0, 0]), (11, [6]), (11, [5]), (11, [25]), (2, [68, 69, 70, 0, 0]), (11, [6]), (11, [5]), (11, [25]), (2, [72, 73, 74, 0, 0]), (11, [6]), (11, [5]), (11, [25]), (13, [2, 91, 4]), (4, [0, 0, 0, 77, 78, 79, 87, 88, 89]), (11, [20]), (11, [20]), (14, [7, 76, 1]), (11, [20]), (11, [20]), (11, [20]), (11, [20]), (11, [20]), (11, [20]), (11, [20]), (11, [6]), (11, [6]), (11, [6]), (0, [0, 0, 91]), (11, [6]), (5, [0, 0, 0, 0]), (6, [0, 0, 0, 0, 0, 0, 94]), (11, [6]), (2, [96, 97, 98, 0, 0]), (11, [6]), (11, [5]), (11, [25]), (2, [100, 101, 102, 0, 0]), (11, [6]), (11, [5]), (11, [25]), (10, [0, 1, 104, 0, 0, 0, 0, 0, 0, 105, 106, 107, 108, 109, 110, 111, 112, 113, 0, 114, 115, 0, 116, 117, 118, 119, 0, 120, 121, 122, 123, 124, 125, 126, 127]), (11, [120]), (11, [4]), (11, [12]), (11, [12]), (11, [12]), (11, [38]), (11, [38]), (11, [76]), (12, [2]), (11, [380]), (11, [6]), (11, [6]), (11, [64]), (11, [64]), (11, [64]), (11, [64]), (11, [4]), (11, [26]), (11, [6]), (11, [16]), (11, [6]), (11, [64]), (11, [5]), (11, [5])]
theorem dk {V : Wv} {k : Nat} {sh : Sh} (hV : V.2.1 = DESC) (h : DESC[k]? = some sh) : V.2.1[k]? = some sh := by rw [hV]; exact h
theorem sh_0 {V : Wv} (hV : V.2.1 = DESC) : V.2.1[0]? = some (9, [5, 2, 3, 17, 21, 25, 33, 75, 0, 76, 90, 92, 93, 1]) := dk hV rfl
theorem sh_71 {V : Wv} (hV : V.2.1 = DESC) : V.2.1[71]? = some (13, [2, 91, 4]) := dk hV rfl
def isX0 (V : Wv) (k : Nat) : Prop := V.2.1[k]? = some (0, [0, 0, k + 1 + 4]) ∧ V.2.1[k + 1]? = some (11, [6])
def isX1 (V : Wv) (k : Nat) : Prop := V.2.1[k]? = some (1, [0, 0, k + 1 + 4, k + 2 + 4, k + 3 + 4, k + 4 + 4]) ∧ V.2.1[k + 1]? = some (11, [6]) ∧ V.2.1[k + 2]? = some (11, [6]) ∧ V.2.1[k + 3]? = some (11, [6]) ∧ V.2.1[k + 4]? = some (11, [25])
def isX2 (V : Wv) (k : Nat) : Prop := V.2.1[k]? = some (2, [k + 1 + 4, k + 2 + 4, k + 3 + 4, 0, 0]) ∧ V.2.1[k + 1]? = some (11, [6]) ∧ V.2.1[k + 2]? = some (11, [5]) ∧ V.2.1[k + 3]? = some (11, [25])
def isX3 (V : Wv) (k : Nat) : Prop := V.2.1[k]? = some (3, [k + 1 + 4, 0, 0]) ∧ V.2.1[k + 1]? = some (13, [10, k + 2, 4]) ∧ ∀ i, i < 10 → isX2 V (k + 2 + 4 * i)
def isX4 (V : Wv) (k : Nat) : Prop := V.2.1[k]? = some (4, [0, 0, 0, k + 1 + 4, k + 2 + 4, k + 3 + 4, k + 11 + 4, k + 12 + 4, k + 13 + 4]) ∧ V.2.1[k + 1]? = some (11, [20]) ∧ V.2.1[k + 2]? = some (11, [20]) ∧ V.2.1[k + 3]? = some (14, [7, k + 4, 1]) ∧ V.2.1[k + 11]? = some (11, [6]) ∧ V.2.1[k + 12]? = some (11, [6]) ∧ V.2.1[k + 13]? = some (11, [6]) ∧ ∀ i, i < 7 → V.2.1[k + 4 + 1 * i]? = some (11, [20])
def isX5 (V : Wv) (k : Nat) : Prop := V.2.1[k]? = some (5, [0, 0, 0, 0])
def isX6 (V : Wv) (k : Nat) : Prop := V.2.1[k]? = some (6, [0, 0, 0, 0, 0, 0, k + 1 + 4]) ∧ V.2.1[k + 1]? = some (11, [6])
def isX7 (V : Wv) (k : Nat) : Prop := V.2.1[k]? = some (7, [0, k + 1 + 4, 0, 0, 0, 0]) ∧ V.2.1[k + 1]? = some (11, [120])
def isX8 (V : Wv) (k : Nat) : Prop := V.2.1[k]? = some (8, [0, k + 1 + 4, k + 2 + 4, k + 3 + 4, k + 4 + 4, k + 5 + 4, k + 6 + 4, k + 7 + 4]) ∧ V.2.1[k + 1]? = some (11, [165]) ∧ V.2.1[k + 2]? = some (11, [33]) ∧ V.2.1[k + 3]? = some (11, [33]) ∧ V.2.1[k + 4]? = some (11, [33]) ∧ V.2.1[k + 5]? = some (11, [33]) ∧ V.2.1[k + 6]? = some (11, [25]) ∧ V.2.1[k + 7]? = some (11, [5])
def isX10 (V : Wv) (k : Nat) : Prop := V.2.1[k]? = some (10, [0, 1, k + 1 + 4, 0, 0, 0, 0, 0, 0, k + 2 + 4, k + 3 + 4, k + 4 + 4, k + 5 + 4, k + 6 + 4, k + 7 + 4, k + 8 + 4, k + 9 + 4, k + 10 + 4, 0, k + 11 + 4, k + 12 + 4, 0, k + 13 + 4, k + 14 + 4, k + 15 + 4, k + 16 + 4, 0, k + 17 + 4, k + 18 + 4, k + 19 + 4, k + 20 + 4, k + 21 + 4, k + 22 + 4, k + 23 + 4, k + 24 + 4]) ∧ V.2.1[k + 1]? = some (11, [120]) ∧ V.2.1[k + 2]? = some (11, [4]) ∧ V.2.1[k + 3]? = some (11, [12]) ∧ V.2.1[k + 4]? = some (11, [12]) ∧ V.2.1[k + 5]? = some (11, [12]) ∧ V.2.1[k + 6]? = some (11, [38]) ∧ V.2.1[k + 7]? = some (11, [38]) ∧ V.2.1[k + 8]? = some (11, [76]) ∧ V.2.1[k + 9]? = some (12, [2]) ∧ V.2.1[k + 10]? = some (11, [380]) ∧ V.2.1[k + 11]? = some (11, [6]) ∧ V.2.1[k + 12]? = some (11, [6]) ∧ V.2.1[k + 13]? = some (11, [64]) ∧ V.2.1[k + 14]? = some (11, [64]) ∧ V.2.1[k + 15]? = some (11, [64]) ∧ V.2.1[k + 16]? = some (11, [64]) ∧ V.2.1[k + 17]? = some (11, [4]) ∧ V.2.1[k + 18]? = some (11, [26]) ∧ V.2.1[k + 19]? = some (11, [6]) ∧ V.2.1[k + 20]? = some (11, [16]) ∧ V.2.1[k + 21]? = some (11, [6]) ∧ V.2.1[k + 22]? = some (11, [64]) ∧ V.2.1[k + 23]? = some (11, [5]) ∧ V.2.1[k + 24]? = some (11, [5])
def IsG (g : Nat) : Prop := g = 3 ∨ g = 8
section DS
variable {V : Wv}
theorem is_gr {g : Nat} (hV : V.2.1 = DESC) (h : IsG g) : isX1 V g := by rcases h with rfl | rfl <;> exact ⟨dk hV rfl, dk hV rfl, dk hV rfl, dk hV rfl, dk hV rfl⟩
theorem is_1 (hV : V.2.1 = DESC) : isX7 V 1 := ⟨dk hV rfl, dk hV rfl⟩
theorem is_13 (hV : V.2.1 = DESC) : isX2 V 13 := ⟨dk hV rfl, dk hV rfl, dk hV rfl, dk hV rfl⟩
theorem is_17 (hV : V.2.1 = DESC) : isX2 V 17 := ⟨dk hV rfl, dk hV rfl, dk hV rfl, dk hV rfl⟩
theorem is_21 (hV : V.2.1 = DESC) : isX8 V 21 := ⟨dk hV rfl, dk hV rfl, dk hV rfl, dk hV rfl, dk hV rfl, dk hV rfl, dk hV rfl, dk hV rfl⟩
theorem is_29 (hV : V.2.1 = DESC) : isX3 V 29 := ⟨dk hV rfl, dk hV rfl, fun i hi => by
  rcases (show i = 0 ∨ i = 1 ∨ i = 2 ∨ i = 3 ∨ i = 4 ∨ i = 5 ∨ i = 6 ∨ i = 7 ∨ i = 8 ∨ i = 9 by omega) with rfl | rfl | rfl | rfl | rfl | rfl | rfl | rfl | rfl | rfl <;> exact ⟨dk hV rfl, dk hV rfl, dk hV rfl, dk hV rfl⟩⟩
theorem is_img {i : Nat} (hV : V.2.1 = DESC) (hi : i < 2) : isX2 V (91 + 4 * i) := by
  rcases (show i = 0 ∨ i = 1 by omega) with rfl | rfl <;> exact ⟨dk hV rfl, dk hV rfl, dk hV rfl, dk hV rfl⟩
theorem is_72 (hV : V.2.1 = DESC) : isX4 V 72 := ⟨dk hV rfl, dk hV rfl, dk hV rfl, dk hV rfl, dk hV rfl, dk hV rfl, dk hV rfl, fun i hi => by
  rcases (show i = 0 ∨ i = 1 ∨ i = 2 ∨ i = 3 ∨ i = 4 ∨ i = 5 ∨ i = 6 by omega) with rfl | rfl | rfl | rfl | rfl | rfl | rfl <;> exact dk hV rfl⟩
theorem is_99 (hV : V.2.1 = DESC) : isX10 V 99 := ⟨dk hV rfl, dk hV rfl, dk hV rfl, dk hV rfl, dk hV rfl, dk hV rfl, dk hV rfl, dk hV rfl, dk hV rfl, dk hV rfl, dk hV rfl, dk hV rfl, dk hV rfl, dk hV rfl, dk hV rfl, dk hV rfl, dk hV rfl, dk hV rfl, dk hV rfl, dk hV rfl, dk hV rfl, dk hV rfl, dk hV rfl, dk hV rfl, dk hV rfl⟩
theorem is_86 (hV : V.2.1 = DESC) : isX0 V 86 := ⟨dk hV rfl, dk hV rfl⟩
theorem is_88 (hV : V.2.1 = DESC) : isX5 V 88 := dk hV rfl
theorem is_89 (hV : V.2.1 = DESC) : isX6 V 89 := ⟨dk hV rfl, dk hV rfl⟩
end DS
theorem vlt {i : Int32} {n : Nat} (h : vp_in i n) : i.toNatClampNeg < n := Nat.not_le.mp fun q => h (Or.inr q)
def cpOk (sp dp n : Int32) (n0 n1 : Nat) : Prop := ¬ sp < 0 ∧ ¬ dp < 0 ∧ ¬ n < 0 ∧ sp.toNatClampNeg + n.toNatClampNeg ≤ n0 ∧ dp.toNatClampNeg + n.toNatClampNeg ≤ n1
theorem one_of {l : List Nat} {c j : Nat} (h : (List.range l.length).all (fun i => decide (l[i]? = some c → i = j)) = true) : ∀ i : Nat, l[i]? = some c → i = j := by
  intro i hi
  have hl : i < l.length := (List.getElem?_eq_some_iff.mp hi).1
  have := List.all_eq_true.mp h i (List.mem_range.mpr hl)
  exact (of_decide_eq_true this) hi
theorem oneX9 : ∀ i : Nat, ([5, 2, 3, 17, 21, 25, 33, 75, 0, 76, 90, 92, 93, 1] : List Nat)[i]? = some 1 → i = 13 := one_of (by decide)
theorem oneG : ∀ i : Nat, ([5, 2, 3, 17, 21, 25, 33, 75, 0, 76, 90, 92, 93, 1] : List Nat)[i]? = some 2 → i = 1 := one_of (by decide)
theorem oneH : ∀ i : Nat, ([5, 2, 3, 17, 21, 25, 33, 75, 0, 76, 90, 92, 93, 1] : List Nat)[i]? = some 3 → i = 2 := one_of (by decide)
theorem oneX10 (k : Nat) : ∀ i : Nat, ([0, 1, k + 1 + 4, 0, 0, 0, 0, 0, 0, k + 2 + 4, k + 3 + 4, k + 4 + 4, k + 5 + 4, k + 6 + 4, k + 7 + 4, k + 8 + 4, k + 9 + 4, k + 10 + 4, 0, k + 11 + 4, k + 12 + 4, 0, k + 13 + 4, k + 14 + 4, k + 15 + 4, k + 16 + 4, 0, k + 17 + 4, k + 18 + 4, k + 19 + 4, k + 20 + 4, k + 21 + 4, k + 22 + 4, k + 23 + 4, k + 24 + 4] : List Nat)[i]? = some 1 → i = 1
  | 0, h => by simp at h
  | 1, h => rfl
  | 2, h => by simp at h
  | 3, h => by simp at h
  | 4, h => by simp at h
  | 5, h => by simp at h
  | 6, h => by simp at h
  | 7, h => by simp at h
  | 8, h => by simp at h
  | 9, h => by simp at h
  | 10, h => by simp at h
  | 11, h => by simp at h
  | 12, h => by simp at h
  | 13, h => by simp at h
  | 14, h => by simp at h
  | 15, h => by simp at h
  | 16, h => by simp at h
  | 17, h => by simp at h
  | 18, h => by simp at h
  | 19, h => by simp at h
  | 20, h => by simp at h
  | 21, h => by simp at h
  | 22, h => by simp at h
  | 23, h => by simp at h
  | 24, h => by simp at h
  | 25, h => by simp at h
  | 26, h => by simp at h
  | 27, h => by simp at h
  | 28, h => by simp at h
  | 29, h => by simp at h
  | 30, h => by simp at h
  | 31, h => by simp at h
  | 32, h => by simp at h
  | 33, h => by simp at h
  | 34, h => by simp at h
  | n + 35, h => by simp at h
theorem noG_all : (List.range 124).all (fun i => i == 0 || match DESC[i]? with | some q => !(decide (q.1 < 11)) || q.2.all (fun cd => cd != 2 && cd != 3) | none => true) = true := by decide +kernel
theorem noG {V : Wv} (hV : V.2.1 = DESC) : ∀ i q, i ≠ 0 → V.2.1[i]? = some q → q.1 < 11 → ∀ cd ∈ q.2, cd ≠ 2 ∧ cd ≠ 3 := by
  intro i q hi hq h11 cd hcd
  rw [hV] at hq
  have hl : i < 124 := (List.getElem?_eq_some_iff.mp hq).1
  have h := List.all_eq_true.mp noG_all i (List.mem_range.mpr hl)
  rw [hq] at h
  simp only [Bool.or_eq_true, beq_iff_eq, Bool.not_eq_true', decide_eq_false_iff_not, List.all_eq_true, Bool.and_eq_true, bne_iff_ne] at h
  rcases h with h | h | h
  · exact absurd h hi
  · exact absurd h11 h
  · exact h cd hcd
section GT
variable {l : Launch} {V : Wv} {X : Mx} {cc : ByteArray} {own : String} {nL lev pc : Nat} {lv : List (Nat × Value)} {st : List Value} {σ : St}
theorem g_tabIn (F : Fx V X cc own nL lev) {dflt lo hi o : Int} {offs : Array Int} {len : Nat} {x : Int32} (t : Nat) (d : decode cc pc = .ok (.tableswitch dflt lo hi offs, len)) (h1 : ¬ x.toInt < lo) (h2 : ¬ hi < x.toInt) (ho : offs[(x.toInt - lo).toNat]? = some o) (ht : (pc : Int) + o = (t : Int)) (k : G l V X nL t lv st σ) : G l V X nL pc lv (.int x :: st) σ := fun H locs ls hP hS hl => lv_tableIn F.1 F.2.1 d h1 h2 ho ht (k H locs ls hP hS hl)
theorem g_tabOut (F : Fx V X cc own nL lev) {dflt lo hi : Int} {offs : Array Int} {len : Nat} {x : Int32} (t : Nat) (d : decode cc pc = .ok (.tableswitch dflt lo hi offs, len)) (h : x.toInt < lo ∨ hi < x.toInt) (ht : (pc : Int) + dflt = (t : Int)) (k : G l V X nL t lv st σ) : G l V X nL pc lv (.int x :: st) σ := fun H locs ls hP hS hl => lv_tableOut F.1 F.2.1 d h ht (k H locs ls hP hS hl)
theorem g_look (F : Fx V X cc own nL lev) {dflt o : Int} {ps : Array (Int × Int)} {len : Nat} {x : Int32} (t : Nat) (d : decode cc pc = .ok (.lookupswitch dflt ps, len)) (hp : (ps.toList.zip (ps.toList.drop 1)).all (fun (a, next) => a.1 < next.1) = true) (ho : Op.lookupswitch.offset ps.toList dflt x.toInt = o) (ht : (pc : Int) + o = (t : Int)) (k : G l V X nL t lv st σ) : G l V X nL pc lv (.int x :: st) σ := fun H locs ls hP hS hl => lv_lookup F.1 F.2.1 d hp ho ht (k H locs ls hP hS hl)
end GT
