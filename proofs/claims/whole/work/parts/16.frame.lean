/-! THE WORLD AS ONE STATE. Cells are numbered; st.1 k j: the int in cell k, slot or index j; st.2.1 k: the long of object k; st.2.2: the numbers of the cells that the two changeable references name. A cell's shape is static. -/
abbrev vwCl : List vw_C := [(RX0, TX0, 3), (RX1, TX1, 6), (RX2, TX2, 5), (RX3, TX3, 3), (RX4, TX4, 9), (RX5, TX5, 4), (RX6, TX6, 7), (RX7, TX7, 6), (RX8, TX8, 8), (RX9, TX9, 14), (RX10, TX10, 35)]
abbrev St : Type := (Nat → Nat → Int32) × (Nat → Int64) × (Nat × Nat)
abbrev Sh : Type := Nat × List Nat
abbrev Cy : Type := ClassId × ClassId × ClassId × ClassId
/-- the static part of a world: class and slot numbers, shapes, addresses, array classes -/
abbrev Wv : Type := va_G × List Sh × (Nat → Nat) × Cy
def rf (V : Wv) (k : Nat) : Value := .ref (V.2.2.1 k)
def fldV (V : Wv) (σ : St) (k j : Nat) : Nat → Value
  | 0 => .int (σ.1 k j)
  | 1 => .long (σ.2.1 k)
  | 2 => rf V σ.2.2.1
  | 3 => rf V σ.2.2.2
  | n + 4 => rf V n
def flds (V : Wv) (σ : St) (k : Nat) : Nat → List Nat → List Value
  | _, [] => []
  | j, cd :: r => fldV V σ k j cd :: flds V σ k (j + 1) r
def refs (V : Wv) (l : List Nat) : Nat → Option Nat := fun i => if i < l.getD 0 0 then some (V.2.2.1 (l.getD 1 0 + l.getD 2 0 * i)) else none
def celE (V : Wv) (σ : St) (k : Nat) (sh : Sh) : va_E :=
  if sh.1 < 11 then .inr (sh.1, flds V σ k 0 sh.2)
  else if sh.1 = 11 then .inl (V.2.2.2.1, sh.2.getD 0 0, .inl (σ.1 k))
  else if sh.1 = 12 then .inl (V.2.2.2.2.1, sh.2.getD 0 0, .inl (σ.1 k))
  else if sh.1 = 13 then .inl (V.2.2.2.2.2.1, sh.2.getD 0 0, .inr (.inr (.inr (.inr (refs V sh.2)))))
  else .inl (V.2.2.2.2.2.2, sh.2.getD 0 0, .inr (.inr (.inr (.inr (refs V sh.2)))))
def wld (V : Wv) (σ : St) : va_W := V.2.1.mapIdx (fun k sh => (V.2.2.1 k, celE V σ k sh))
def tyL (V : Wv) : List (ClassId × FieldType) := [(V.2.2.2.1, .int), (V.2.2.2.2.1, .boolean), (V.2.2.2.2.2.1, .object "AskedMaps$Now"), (V.2.2.2.2.2.2, .array .int)]
theorem wld_get {V : Wv} {σ : St} {k : Nat} {sh : Sh} (h : V.2.1[k]? = some sh) : (wld V σ)[k]? = some (V.2.2.1 k, celE V σ k sh) := by
  simp [wld, List.getElem?_mapIdx, h]
theorem fldV_congr {V : Wv} {σ τ : St} {k j : Nat} (h1 : τ.1 k = σ.1 k) (h2 : τ.2.1 k = σ.2.1 k) (h3 : τ.2.2 = σ.2.2) (cd : Nat) : fldV V τ k j cd = fldV V σ k j cd := by
  match cd with
  | 0 => simp [fldV, h1]
  | 1 => simp [fldV, h2]
  | 2 => simp [fldV, h3]
  | 3 => simp [fldV, h3]
  | n + 4 => simp [fldV]
theorem flds_congr {V : Wv} {σ τ : St} {k : Nat} (h1 : τ.1 k = σ.1 k) (h2 : τ.2.1 k = σ.2.1 k) (h3 : τ.2.2 = σ.2.2) : ∀ (j : Nat) (l : List Nat), flds V τ k j l = flds V σ k j l
  | _, [] => rfl
  | j, cd :: r => by rw [flds, flds, fldV_congr h1 h2 h3, flds_congr h1 h2 h3 (j + 1) r]
theorem celE_congr {V : Wv} {σ τ : St} {k : Nat} (h1 : τ.1 k = σ.1 k) (h2 : τ.2.1 k = σ.2.1 k) (h3 : τ.2.2 = σ.2.2) (sh : Sh) : celE V τ k sh = celE V σ k sh := by
  unfold celE
  rw [flds_congr h1 h2 h3, h1]
theorem wld_set {V : Wv} {σ τ : St} {k : Nat} {sh : Sh} (h : V.2.1[k]? = some sh) (h1 : ∀ a, a ≠ k → τ.1 a = σ.1 a) (h2 : ∀ a, a ≠ k → τ.2.1 a = σ.2.1 a) (h3 : τ.2.2 = σ.2.2) : wld V τ = (wld V σ).set k (V.2.2.1 k, celE V τ k sh) := by
  apply List.ext_getElem?
  intro i
  have hk : k < V.2.1.length := (List.getElem?_eq_some_iff.mp h).1
  rw [List.getElem?_set]
  by_cases e : k = i
  · subst e
    rw [wld_get h]
    simp [wld, hk]
  · rw [if_neg e]
    simp only [wld, List.getElem?_mapIdx]
    cases hq : V.2.1[i]? with
    | none => rfl
    | some q => simp only [Option.map_some]; rw [celE_congr (h1 i (fun z => e z.symm)) (h2 i (fun z => e z.symm)) h3]
/-- the same, where references change, too: no other object has such fields -/
theorem wld_setG {V : Wv} {σ τ : St} {k : Nat} {sh : Sh} (h : V.2.1[k]? = some sh) (h1 : τ.1 = σ.1) (h2 : τ.2.1 = σ.2.1) (hno : ∀ i q, i ≠ k → V.2.1[i]? = some q → q.1 < 11 → ∀ cd ∈ q.2, cd ≠ 2 ∧ cd ≠ 3) : wld V τ = (wld V σ).set k (V.2.2.1 k, celE V τ k sh) := by
  have hf : ∀ (i j : Nat) (l : List Nat), (∀ cd ∈ l, cd ≠ 2 ∧ cd ≠ 3) → flds V τ i j l = flds V σ i j l := by
    intro i j l
    induction l generalizing j with
    | nil => intro _; rfl
    | cons cd r ih =>
      intro hl
      rw [flds, flds, ih (j + 1) (fun c hc => hl c (List.mem_cons_of_mem _ hc))]
      have := hl cd List.mem_cons_self
      congr 1
      match cd, this with
      | 0, _ => simp [fldV, h1]
      | 1, _ => simp [fldV, h2]
      | 2, hh => exact absurd rfl hh.1
      | 3, hh => exact absurd rfl hh.2
      | n + 4, _ => simp [fldV]
  apply List.ext_getElem?
  intro i
  have hk : k < V.2.1.length := (List.getElem?_eq_some_iff.mp h).1
  rw [List.getElem?_set]
  by_cases e : k = i
  · subst e
    rw [wld_get h]
    simp [wld, hk]
  · rw [if_neg e]
    simp only [wld, List.getElem?_mapIdx]
    cases hq : V.2.1[i]? with
    | none => rfl
    | some q =>
      simp only [Option.map_some]
      have : celE V τ i q = celE V σ i q := by
        unfold celE
        by_cases h11 : q.1 < 11
        · rw [if_pos h11, if_pos h11, hf i 0 q.2 (hno i q (fun z => e z.symm) hq h11)]
        · rw [if_neg h11, if_neg h11, h1]
      rw [this]
theorem wld_addr {V : Wv} {σ : St} {k : Nat} {q : Nat × va_E} (h : (wld V σ)[k]? = some q) : q.1 = V.2.2.1 k ∧ k < V.2.1.length := by
  simp only [wld, List.getElem?_mapIdx] at h
  cases hq : V.2.1[k]? with
  | none => rw [hq] at h; cases h
  | some sh => rw [hq] at h; cases h; exact ⟨rfl, (List.getElem?_eq_some_iff.mp hq).1⟩
/-- addresses don't depend on the state -/
theorem wld_D {V : Wv} {σ τ : St} {A : Nat → Prop} (h : va_D A (wld V σ)) : va_D A (wld V τ) := by
  have conv : ∀ (i : Nat) (q : Nat × va_E), (wld V τ)[i]? = some q → ∃ q', (wld V σ)[i]? = some q' ∧ q'.1 = q.1 := by
    intro i q hq
    obtain ⟨h1, h2⟩ := wld_addr hq
    have hs : V.2.1[i]? = some (V.2.1[i]) := List.getElem?_eq_getElem h2
    exact ⟨_, wld_get hs, h1.symm⟩
  refine ⟨fun i j p q hi hj hpq => ?_, fun k q hk => ?_⟩
  · obtain ⟨p', h1, h2⟩ := conv i p hi
    obtain ⟨q', h3, h4⟩ := conv j q hj
    exact h.1 i j p' q' h1 h3 (by rw [h2, h4, hpq])
  · obtain ⟨q', h1, h2⟩ := conv k q hk
    rw [← h2]
    exact h.2 k q' h1
theorem wld_A {V : Wv} {σ τ : St} {sz q : Nat} (h : va_A (wld V σ) sz q) : va_A (wld V τ) sz q := by
  rcases h with ⟨k, e, h⟩ | h
  · obtain ⟨h1, h2⟩ := wld_addr h
    have hs : V.2.1[k]? = some (V.2.1[k]) := List.getElem?_eq_getElem h2
    have h3 := wld_get (σ := τ) hs
    exact Or.inl ⟨k, _, by rw [h3]; simp only [Option.some.injEq, Prod.mk.injEq]; exact ⟨h1.symm, rfl⟩⟩
  · exact Or.inr h
/-! changes of the state -/
def stI (σ : St) (k j : Nat) (v : Int32) : St := (va_up σ.1 k (upd (σ.1 k) j v), σ.2)
def stL (σ : St) (k : Nat) (v : Int64) : St := (σ.1, va_up σ.2.1 k v, σ.2.2)
def stG (σ : St) (g : Nat) : St := (σ.1, σ.2.1, (g, σ.2.2.2))
def stH (σ : St) (g : Nat) : St := (σ.1, σ.2.1, (σ.2.2.1, g))
def stC (σ : St) (src dst sp dp n : Nat) : St := (va_up σ.1 dst (va_cpy (σ.1 src) (σ.1 dst) sp dp n), σ.2)
theorem up_ne {α : Type} {f : Nat → α} {k a : Nat} {v : α} (h : a ≠ k) : va_up f k v a = f a := by simp [va_up, h]
theorem up_eq {α : Type} {f : Nat → α} {k : Nat} {v : α} : va_up f k v k = v := by simp [va_up]
theorem flds_get {V : Wv} {σ : St} {k : Nat} : ∀ (l : List Nat) (j i cd : Nat), l[i]? = some cd → (flds V σ k j l)[i]? = some (fldV V σ k (j + i) cd)
  | [], _, i, _, h => by simp at h
  | c :: r, j, 0, cd, h => by simp at h; subst h; simp [flds]
  | c :: r, j, i + 1, cd, h => by
    simp only [List.getElem?_cons_succ] at h
    have := flds_get (V := V) (σ := σ) (k := k) r (j + 1) i cd h
    rw [flds, List.getElem?_cons_succ, this]
    congr 2
    omega
theorem flds_length {V : Wv} {σ : St} {k : Nat} : ∀ (l : List Nat) (j : Nat), (flds V σ k j l).length = l.length
  | [], _ => rfl
  | c :: r, j => by simp [flds, flds_length r]
/-- a field that is put: all the others stay -/
theorem flds_put {V : Wv} {σ τ : St} {k i : Nat} {v : Value} (l : List Nat) (hi : i < l.length) (hv : ∀ cd, l[i]? = some cd → fldV V τ k i cd = v) (ho : ∀ j cd, j ≠ i → l[j]? = some cd → fldV V τ k j cd = fldV V σ k j cd) : flds V τ k 0 l = (flds V σ k 0 l).set i v := by
  apply List.ext_getElem?
  intro j
  rw [List.getElem?_set, flds_length]
  by_cases e : i = j
  · subst e
    rw [if_pos rfl, if_pos hi]
    have h1 : l[i]? = some l[i] := List.getElem?_eq_getElem hi
    rw [flds_get l 0 i _ h1, Nat.zero_add, hv _ h1]
  · rw [if_neg e]
    cases hq : l[j]? with
    | none =>
      have hl : l.length ≤ j := List.getElem?_eq_none_iff.mp hq
      rw [List.getElem?_eq_none (by rw [flds_length]; exact hl), List.getElem?_eq_none (by rw [flds_length]; exact hl)]
    | some cd => rw [flds_get l 0 j cd hq, flds_get l 0 j cd hq, Nat.zero_add, ho j cd (fun z => e z.symm) hq]
