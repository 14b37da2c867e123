/-! THE STATE AT THE START -/
def S00 : Sp := ([], (2, []), ([], [], [], 0), [], (none, none), [], 0)
theorem ways00 : waysL (2, []) = [] := by decide +kernel
theorem okS00 : okSp S00 := by
  have h := okD0
  refine ⟨by decide, fun a ha => (by cases ha), h.1, h.2, by decide, fun N hN => (by cases hN), fun N hN => (by cases hN), fun N hN => (by cases hN), by decide, fun t ht => (by cases ht)⟩
section FST
variable {t2 t3 tm : St}
theorem row0 {f : Nat → Int32} {n : Nat} : rowAt f n [] := by
  intro i x hx
  cases hx
theorem ground00 (h : GroundC 0 (2, []) t2) : GroundC 3 (2, []) (glS t2 t3 tm) := by
  obtain ⟨h1, h2, h3, h4⟩ := h
  have e0 := glS_3 (t2 := t2) (t3 := t3) (tm := tm) 0 (by decide)
  have e4 := glS_3 (t2 := t2) (t3 := t3) (tm := tm) 4 (by decide)
  refine ⟨?_, ?_, fun i a b s hh => (by cases hh), fun a b ha hb => ?_⟩
  · exact (congrFun e0 0).trans h1
  · exact (congrFun e0 1).trans h2
  · exact (congrFun e4 _).trans (h4 a b ha hb)
theorem model00 {S : Sp} (h : RM 0 S tm) : RM 99 S (glS t2 t3 tm) := by
  have e : ∀ c, c < 25 → (glS t2 t3 tm).1 (99 + c) = tm.1 (0 + c) := fun c hc => by rw [glS_99 c hc, Nat.zero_add]
  have e0 : (glS t2 t3 tm).1 99 = tm.1 0 := glS_99 0 (by decide)
  have f0 : (glS t2 t3 tm).2.1 99 = tm.2.1 0 := glT_99 0 (by decide)
  unfold RM TextM LandM UndoM ImgM TookM WaysM at h ⊢
  rw [e0, f0, e 1 (by decide), e 2 (by decide), e 3 (by decide), e 4 (by decide), e 5 (by decide), e 7 (by decide), e 8 (by decide), e 9 (by decide), e 10 (by decide), e 11 (by decide), e 12 (by decide), e 13 (by decide), e 14 (by decide), e 15 (by decide), e 16 (by decide)]
  exact h
theorem inv00 (hg : GroundC 0 (2, []) t2) (hm : RM 0 S00 tm) : InvL (glS t2 t3 tm) := by
  refine ⟨S00, ⟨⟨rfl, row0⟩, Or.inl rfl, ground00 hg, ⟨row0, rfl, fun m w hh => (by cases hh), ⟨rfl, row0⟩, rfl⟩, ⟨0, by decide, rfl, rfl, fun j N hh => (by cases hh)⟩, ⟨⟨0, by decide, rfl, rfl, rfl⟩, fun N hh => (by cases hh), fun N hh => (by cases hh)⟩, ⟨rfl, rfl, rfl⟩, ⟨?_, fun i w hh => ?_⟩, Or.inl rfl, Or.inl rfl, rfl⟩, model00 hm, okS00⟩
  · show (glS t2 t3 tm).1 21 0 = nI (waysL (2, [])).length
    rw [ways00]
    rfl
  · have h2 : (waysL (2, []))[i]? = some w := hh
    rw [ways00] at h2
    cases h2
end FST
