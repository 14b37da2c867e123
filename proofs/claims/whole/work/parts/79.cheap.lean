/-! the class's search: leastCost -/
section GOC
variable {ls : List Lane} {L0 : List Nat} {B : List (Nat × Nat)}
theorem costL_nil (a : List Lane) (b : List Nat) : costL a b [] = 0 := by cases a <;> cases b <;> rfl
theorem sX4_goCheapest (ho : okSr ls L0 B) : ∀ (d : Nat) (pre : List Nat) (c least : Nat) (s : St) (Q : St → Prop), pre.length + d = ls.length + 1 → pre.length ≤ ls.length → in15 pre → okP B pre = true → SrI ls L0 B pre s → s.1 72 2 = nI least → c ≤ 1000 → least ≤ 1000 → (∀ u least', Frs s u → SrI ls L0 B pre u → u.1 72 2 = nI least' → least' ≤ least → (∀ E, E ∈ allL (ls.length - pre.length) → okP B (pre ++ E) = true → least' ≤ c + costL (ls.drop pre.length) (L0.drop pre.length) E) → (least' = least ∨ ∃ E, E ∈ allL (ls.length - pre.length) ∧ okP B (pre ++ E) = true ∧ least' = c + costL (ls.drop pre.length) (L0.drop pre.length) E) → Q u) → wX4_goCheapest d 72 (nI pre.length) (nI c) s Q := by
  obtain ⟨hB, hn, hL, hL0, hsp⟩ := ho
  intro d
  induction d with
  | zero => intro pre c least s Q hd hpl; omega
  | succ d ih =>
    intro pre c least s Q hd hpl hp hok hI h72 hc hle hQ
    unfold wX4_goCheapest
    rw [hI.1]
    by_cases cl : pre.length < ls.length
    · have cI : nI pre.length < nI ls.length := nI_lt cl (by omega)
      refine ⟨fun _ => ?_, fun z => absurd cI z⟩
      refine sX4_lowest hI hB (by omega) hp (fun lo hl1 hl2 hlo => ?_)
      refine sX4_highest hI hB (by omega) hp (fun hi hh1 hh2 hhi => ?_)
      obtain ⟨k, hk⟩ : ∃ k, ls.length - pre.length = k + 1 := ⟨ls.length - pre.length - 1, by omega⟩
      have ek : ls.length - (pre.length + 1) = k := by omega
      have nx := fun x : Nat => okP_next (x := x) hB hok hlo hhi
      have l5 := hL0.at (show pre.length < L0.length by omega)
      have hs9 : (ls.getD pre.length (0, 0, 0)).2.2 ≤ 9 := hsp _ (List.mem_of_getElem? (laneG cl))
      have hdl : ls.drop pre.length = ls.getD pre.length (0, 0, 0) :: ls.drop (pre.length + 1) := drop_lane cl
      have hdL : L0.drop pre.length = L0.getD pre.length 0 :: L0.drop (pre.length + 1) := drop_getD (by omega)
      rw [hk, hdl, hdL] at hQ
      generalize hsv : (ls.getD pre.length (0, 0, 0)) = ln at hs9 hQ
      generalize hLv : L0.getD pre.length 0 = lv at l5 hQ
      have e83 : ∀ u, SrI ls L0 B pre u → u.1 83 pre.length = nI lv := fun u hIu => by
        have := hIu.2.2.2.1 pre.length lv (by rw [getD_get (by omega), hLv])
        rw [Nat.zero_add] at this; exact this
      have e84 : ∀ u, SrI ls L0 B pre u → u.1 84 pre.length = nI ln.2.2 := fun u hIu => by
        have := hIu.2.2.2.2.1 pre.length ln.2.2 (by rw [List.getElem?_map, laneG cl, ← hsv]; rfl)
        rw [Nat.zero_add] at this; exact this
      have vp : vp_in (nI pre.length) 6 := vp_in_nI (by omega) (by omega)
      have br : ∀ (xz : Int) (st l1 : Nat) (u : St) (K : St → Prop), (xz = (lv : Int) - st ∨ xz = (lv : Int) + st) → st ≤ 4 → Frs s u → SrI ls L0 B pre u → u.1 72 2 = nI l1 → l1 ≤ least → (∀ w l2, Frs s w → SrI ls L0 B pre w → w.1 72 2 = nI l2 → l2 ≤ l1 → (∀ (x : Nat) E, (x : Int) = xz → 1 ≤ x → x ≤ 5 → E ∈ allL k → okP B (pre ++ x :: E) = true → l2 ≤ c + costL (ln :: ls.drop (pre.length + 1)) (lv :: L0.drop (pre.length + 1)) (x :: E)) → (l2 = l1 ∨ ∃ (x : Nat) (E : List Nat), 1 ≤ x ∧ x ≤ 5 ∧ E ∈ allL k ∧ okP B (pre ++ x :: E) = true ∧ l2 = c + costL (ln :: ls.drop (pre.length + 1)) (lv :: L0.drop (pre.length + 1)) (x :: E)) → K w) → ((zI xz < zI lo → K u) ∧ (¬ zI xz < zI lo → ((zI hi < zI xz → K u) ∧ (¬ zI hi < zI xz → (((u.1 72 2) ≤ nI (c + st * ln.2.2) → K u) ∧ (¬ (u.1 72 2) ≤ nI (c + st * ln.2.2) → wX4_choose 72 (nI pre.length) (zI xz) u (fun v => wX4_goCheapest d 72 (nI pre.length + 1) (nI (c + st * ln.2.2)) v (fun w => K w)))))))) := by
        intro xz st l1 u K hxz hst hfu hIu hu hl1 hK
        have hmul : st * ln.2.2 ≤ 4 * 9 := Nat.mul_le_mul hst hs9
        have hdif : ∀ x : Nat, (x : Int) = xz → dif lv x = st := fun x hx => by unfold dif; split <;> omega
        have skip : (¬ (lo ≤ xz ∧ xz ≤ hi)) → K u := by
          intro hno
          refine hK u l1 hfu hIu hu (Nat.le_refl _) (fun x E hx h1 h5 hE hx2 => ?_) (Or.inl rfl)
          exfalso
          rw [show pre ++ x :: E = (pre ++ [x]) ++ E by simp] at hx2
          have := (nx x).mpr ⟨h1, h5, okP_dn hx2⟩
          rw [hx] at this
          exact hno this
        refine ⟨fun z => ?_, fun z => ⟨fun z2 => ?_, fun z2 => ?_⟩⟩
        · rw [zI_lt (by omega) (by omega) (by omega) (by omega)] at z
          exact skip (by omega)
        · rw [zI_lt (by omega) (by omega) (by omega) (by omega)] at z2
          exact skip (by omega)
        · rw [zI_lt (by omega) (by omega) (by omega) (by omega)] at z z2
          obtain ⟨x, hx⟩ : ∃ x : Nat, xz = (x : Int) := ⟨xz.toNat, by omega⟩
          subst hx
          have hx3 := (nx x).mp ⟨by omega, by omega⟩
          have hdx := hdif x rfl
          rw [hu]
          refine ⟨fun z3 => ?_, fun z3 => ?_⟩
          · have z3' := (nI_leI (by omega) (by omega)).mp z3
            refine hK u l1 hfu hIu hu (Nat.le_refl _) (fun y E hy h1 h5 hE hx2 => ?_) (Or.inl rfl)
            have : y = x := by omega
            subst this
            rw [costL_cons, hdx, Nat.mul_comm]
            omega
          · have z3' : c + st * ln.2.2 < l1 := by
              rcases Nat.lt_or_ge (c + st * ln.2.2) l1 with h | h
              · exact h
              · exact absurd ((nI_leI (by omega) (by omega)).mpr h) z3
            rw [← nI_z]
            refine sX4_choose hIu hB (by omega) hp hx3.1 hx3.2.1 (fun v hfv h72v hIv => ?_)
            have hl2 : (pre ++ [x]).length = pre.length + 1 := by rw [List.length_append]; rfl
            rw [show nI pre.length + (1 : Int32) = nI (pre ++ [x]).length by rw [hl2]; exact (nI_succ _).symm]
            refine ih (pre ++ [x]) (c + st * ln.2.2) l1 v _ (by omega) (by omega) (hp.snoc hx3.1 hx3.2.1) hx3.2.2 hIv (by rw [h72v]; exact hu) (by omega) (by omega) (fun w l2 hfw hIw hw hl2' hall hex => ?_)
            rw [hl2, ek] at hall hex
            refine hK w l2 ((hfu.tr hfv).tr hfw) hIw.dn hw hl2' (fun y E hy h1 h5 hE hx2 => ?_) ?_
            · have : y = x := by omega
              subst this
              have := hall E hE (by rw [List.append_assoc]; exact hx2)
              rw [costL_cons, hdx, Nat.mul_comm]
              omega
            · rcases hex with h | ⟨E, hE, h1, h2⟩
              · exact Or.inl h
              · refine Or.inr ⟨x, E, hx3.1, hx3.2.1, hE, by rw [List.append_assoc] at h1; exact h1, ?_⟩
                rw [costL_cons, hdx, Nat.mul_comm]
                omega
      have key : ∀ e (st l1 : Nat) (u : St), st + e = 5 → Frs s u → SrI ls L0 B pre u → u.1 72 2 = nI l1 → l1 ≤ least → (∀ (x : Nat) E, 1 ≤ x → x ≤ 5 → dif lv x < st → E ∈ allL k → okP B (pre ++ x :: E) = true → l1 ≤ c + costL (ln :: ls.drop (pre.length + 1)) (lv :: L0.drop (pre.length + 1)) (x :: E)) → (l1 = least ∨ ∃ (x : Nat) (E : List Nat), 1 ≤ x ∧ x ≤ 5 ∧ E ∈ allL k ∧ okP B (pre ++ x :: E) = true ∧ l1 = c + costL (ln :: ls.drop (pre.length + 1)) (lv :: L0.drop (pre.length + 1)) (x :: E)) → wX4_goCheapest_37 (wX4_goCheapest d) 72 (nI pre.length) (nI c) (zI lo) (zI hi) Q (e + 1) (nI st) u := by
        intro e
        induction e with
        | zero =>
          intro st l1 u hst hfu hIu hu hl1 hall hex
          unfold wX4_goCheapest_37
          have e5 : 5 ≤ st := by omega
          have e5' : (5 : Int32) ≤ nI st := (nI_leI (a := 5) (by omega) (by omega)).mpr e5
          refine ⟨fun _ => ?_, fun z => absurd e5' z⟩
          refine hQ u l1 hfu hIu hu hl1 (fun E hE hx => ?_) ?_
          · obtain ⟨hE1, hE2⟩ := allL_in.mp hE
            cases E with
            | nil => cases hE1
            | cons x E =>
              have hx15 := hE2 x (List.mem_cons_self ..)
              refine hall x E hx15.1 hx15.2 (by unfold dif; split <;> omega) (allL_in.mpr ⟨by simpa using hE1, fun y hy => hE2 y (List.mem_cons_of_mem _ hy)⟩) hx
          · rcases hex with h | ⟨x, E, h1, h5, hE, h2, h3⟩
            · exact Or.inl h
            · obtain ⟨hE1, hE2⟩ := allL_in.mp hE
              refine Or.inr ⟨x :: E, allL_in.mpr ⟨by rw [List.length_cons, hE1], fun y hy => ?_⟩, h2, h3⟩
              rcases List.mem_cons.mp hy with rfl | hy
              · exact ⟨h1, h5⟩
              · exact hE2 y hy
        | succ e ihe =>
          intro st l1 u hst hfu hIu hu hl1 hall hex
          unfold wX4_goCheapest_37
          have e5' : ¬ (5 : Int32) ≤ nI st := fun z => by have := (nI_leI (a := 5) (by omega) (by omega)).mp z; omega
          refine ⟨fun z => absurd z e5', fun _ => ⟨vp, vp, vp, ?_⟩⟩
          rw [nI_clamp (by omega), show (72 + 12) = 84 from rfl, show (72 + 11) = 83 from rfl, e83 u hIu, e84 u hIu, show nI lv - nI st = zI ((lv : Int) - st) by rw [nI_z, nI_z, zI_sub], show nI lv + nI st = zI ((lv : Int) + st) by rw [nI_z, nI_z, zI_add], pk_mul, nI_add]
          refine br _ st l1 u _ (Or.inl rfl) (by omega) hfu hIu hu hl1 (fun w l2 hfw hIw hw hl2 hA1 hA2 => ?_)
          unfold wX4_goCheapest_116 wX4_goCheapest_159
          have rest : ∀ v l3, Frs s v → SrI ls L0 B pre v → v.1 72 2 = nI l3 → l3 ≤ l2 → (∀ (x : Nat) E, (x : Int) = (lv : Int) + st → 1 ≤ x → x ≤ 5 → E ∈ allL k → okP B (pre ++ x :: E) = true → l3 ≤ c + costL (ln :: ls.drop (pre.length + 1)) (lv :: L0.drop (pre.length + 1)) (x :: E)) → (l3 = l2 ∨ ∃ (x : Nat) (E : List Nat), 1 ≤ x ∧ x ≤ 5 ∧ E ∈ allL k ∧ okP B (pre ++ x :: E) = true ∧ l3 = c + costL (ln :: ls.drop (pre.length + 1)) (lv :: L0.drop (pre.length + 1)) (x :: E)) → wX4_goCheapest_37 (wX4_goCheapest d) 72 (nI pre.length) (nI c) (zI lo) (zI hi) Q (e + 1) (nI st + 1) v := by
            intro v l3 hfv hIv hv hl3 hB1 hB2
            rw [show nI st + (1 : Int32) = nI (st + 1) from (nI_succ _).symm]
            refine ihe (st + 1) l3 v (by omega) hfv hIv hv (by omega) (fun x E h1 h5 hdx hE hx => ?_) ?_
            · rcases Nat.lt_or_ge (dif lv x) st with h | h
              · have := hall x E h1 h5 h hE hx; omega
              · have h' : dif lv x = st := by omega
                by_cases c2 : lv < x
                · refine hB1 x E ?_ h1 h5 hE hx
                  unfold dif at h'
                  rw [if_pos c2] at h'
                  omega
                · have := hA1 x E (by unfold dif at h'; rw [if_neg c2] at h'; omega) h1 h5 hE hx
                  omega
            · rcases hB2 with h | h
              · rw [h]
                rcases hA2 with h | h
                · rw [h]; exact hex
                · exact Or.inr h
              · exact Or.inr h
          by_cases c0 : st = 0
          · subst c0
            refine ⟨fun _ => ?_, fun z => absurd (show nI 0 ≤ 0 by decide) z⟩
            exact rest w l2 hfw hIw hw (Nat.le_refl _) (fun x E hx h1 h5 hE hx2 => hA1 x E (by omega) h1 h5 hE hx2) (Or.inl rfl)
          · have cz : ¬ nI st ≤ 0 := fun z => by have := (nI_leI (b := 0) (by omega) (by omega)).mp z; omega
            refine ⟨fun z => absurd z cz, fun _ => ?_⟩
            exact br _ st l2 w _ (Or.inr rfl) (by omega) hfw hIw hw (by omega) (fun v l3 hfv hIv hv hl3 hB1 hB2 => rest v l3 hfv hIv hv hl3 hB1 hB2)
      exact ⟨_, key 5 0 least s (by omega) Fr.rf hI h72 (Nat.le_refl _) (fun x E _ _ h => by omega) (Or.inl rfl)⟩
    · have cI : ¬ nI pre.length < nI ls.length := nI_nlt (by omega) (by omega)
      refine ⟨fun z => absurd z cI, fun _ => ?_⟩
      intro t ht
      have e0 : ls.length - pre.length = 0 := by omega
      have hm : (if nI c < s.1 72 2 then nI c else s.1 72 2) = nI (if c < least then c else least) := by
        rw [h72]
        by_cases cc : c < least
        · rw [if_pos cc, if_pos ((nI_ltI (by omega) (by omega)).mpr cc)]
        · rw [if_neg cc, if_neg (fun z => cc ((nI_ltI (by omega) (by omega)).mp z))]
      rw [hm] at ht
      have tk : ∀ k, k ≠ 72 → t.1 k = s.1 k := fun k hk => by rw [ht, rI_ne hk]
      have t72 : ∀ j, j ≠ 2 → t.1 72 j = s.1 72 j := fun j hj => by rw [ht, rI_nj hj]
      refine hQ t (if c < least then c else least) (by rw [ht]; exact Fr.rf.I (by omega)) ?_ (by rw [ht, rI_eq]) (by split <;> omega) (fun E hE hx => ?_) ?_
      · obtain ⟨h1, h2, h3, h4, h5, h6⟩ := hI
        refine ⟨by rw [t72 0 (by omega)]; exact h1, by rw [t72 1 (by omega)]; exact h2, fun i b hb => ?_, by rw [tk 83 (by omega)]; exact h4, by rw [tk 84 (by omega)]; exact h5, by rw [tk 85 (by omega)]; exact h6⟩
        obtain ⟨a1, a2, a3⟩ := h3 i b hb
        refine ⟨by rw [tk 73 (by omega)]; exact a1, by rw [tk 74 (by omega)]; exact a2, fun j hj => by rw [tk _ (by omega)]; exact a3 j hj⟩
      · split <;> omega
      · by_cases cc : c < least
        · right
          refine ⟨[], by rw [e0]; exact List.mem_singleton.mpr rfl, by rw [List.append_nil]; exact hok, ?_⟩
          rw [if_pos cc, costL_nil]; rfl
        · left; rw [if_neg cc]
end GOC
