/-! the class's search: findFirst -/
theorem fLp_none (f : Nat → Option (List Nat)) : ∀ e x, (∀ y, x ≤ y → y < x + e → f y = none) → fLp f e x = none
  | 0, _, _ => rfl
  | e + 1, x, h => by
    unfold fLp
    rw [h x (Nat.le_refl _) (by omega)]
    exact fLp_none f e (x + 1) (fun y h1 h2 => h y (by omega) (by omega))
theorem fLp_skip (f : Nat → Option (List Nat)) (e : Nat) : ∀ m x, (∀ y, x ≤ y → y < x + m → f y = none) → fLp f (m + e) x = fLp f e (x + m)
  | 0, x, _ => by rw [Nat.zero_add, Nat.add_zero]
  | m + 1, x, h => by
    rw [show m + 1 + e = (m + e) + 1 by omega]
    show (match f x with | some E => some (x :: E) | none => fLp f (m + e) (x + 1)) = _
    rw [h x (Nat.le_refl _) (by omega)]
    show fLp f (m + e) (x + 1) = _
    rw [fLp_skip f e m (x + 1) (fun y h1 h2 => h y (by omega) (by omega))]
    congr 1
    omega
theorem drop_lane {ls : List Lane} {k : Nat} (h : k < ls.length) : ls.drop k = ls.getD k (0, 0, 0) :: ls.drop (k + 1) := by
  rw [List.drop_eq_getElem_cons h, List.getD_eq_getElem?_getD, List.getElem?_eq_getElem h]; rfl
theorem laneG {ls : List Lane} {k : Nat} (h : k < ls.length) : ls[k]? = some (ls.getD k (0, 0, 0)) := by rw [List.getD_eq_getElem?_getD, List.getElem?_eq_getElem h]; rfl
theorem abs_nI {x y : Nat} (hx : x ≤ 1000) (hy : y ≤ 1000) : (if 0 ≤ nI x - nI y then nI x - nI y else 0 - (nI x - nI y)) = nI (dif y x) := by
  unfold dif
  by_cases c : y ≤ x
  · rw [nI_sub c, if_pos (show (0 : Int32) ≤ nI (x - y) from nI_pos' (by omega))]
    by_cases c2 : y < x
    · rw [if_pos c2]
    · rw [if_neg c2]; congr 1; omega
  · have e : ¬ (0 : Int32) ≤ nI x - nI y := by
      rw [nI_z, nI_z, zI_sub, show (0 : Int32) = zI 0 from rfl, zI_le (by omega) (by omega) (by omega) (by omega)]; omega
    rw [if_neg e, if_neg (by omega), nI_z, nI_z, zI_sub, show (0 : Int32) = zI 0 from rfl, zI_sub, nI_z]
    congr 1
    omega
section GOF
variable {ls : List Lane} {L0 : List Nat} {B : List (Nat × Nat)}
def okSr (ls : List Lane) (L0 : List Nat) (B : List (Nat × Nat)) : Prop := okBd B ∧ ls.length ≤ 6 ∧ L0.length = ls.length ∧ in15 L0 ∧ ∀ ln ∈ ls, ln.2.2 ≤ 9
theorem fE_cons {k : Nat} {pre : List Nat} {x left : Nat} (hl : pre.length < ls.length) (hL : L0.length = ls.length) (hle : (ls.getD pre.length (0, 0, 0)).2.2 * dif (L0.getD pre.length 0) x ≤ left) : fE ls L0 B k (pre ++ [x]) (left - (ls.getD pre.length (0, 0, 0)).2.2 * dif (L0.getD pre.length 0) x) = (allL k).find? (fun E => okP B (pre ++ x :: E) && decide (costL (ls.drop pre.length) (L0.drop pre.length) (x :: E) ≤ left)) := by
  unfold fE
  congr 1
  funext E
  rw [List.append_assoc, List.length_append, drop_lane hl, drop_getD (show pre.length < L0.length by omega), costL_cons]
  show (okP B (pre ++ x :: E) && decide (costL (ls.drop (pre.length + 1)) (L0.drop (pre.length + 1)) E ≤ _)) = _
  congr 1
  rw [decide_eq_decide]
  omega
theorem sX4_goFirst (ho : okSr ls L0 B) : ∀ (d : Nat) (pre : List Nat) (left : Nat) (s : St) (Q : Int32 → St → Prop), pre.length + d = ls.length + 1 → pre.length ≤ ls.length → in15 pre → okP B pre = true → SrI ls L0 B pre s → left ≤ 1000 → (∀ u, Frs s u → u.1 72 = s.1 72 → SrI ls L0 B pre u → (∀ E, fE ls L0 B (ls.length - pre.length) pre left = some E → SrI ls L0 B (pre ++ E) u) → Q (if (fE ls L0 B (ls.length - pre.length) pre left).isSome then 1 else 0) u) → wX4_goFirst d 72 (nI pre.length) (nI left) s Q := by
  obtain ⟨hB, hn, hL, hL0, hsp⟩ := ho
  intro d
  induction d with
  | zero =>
    intro pre left s Q hd hpl; omega
  | succ d ih =>
    intro pre left s Q hd hpl hp hok hI hle hQ
    unfold wX4_goFirst
    rw [hI.1]
    by_cases cl : pre.length < ls.length
    · have cI : nI pre.length < nI ls.length := nI_lt cl (by omega)
      refine ⟨fun _ => ?_, fun z => absurd cI z⟩
      refine sX4_highest hI hB (by omega) hp (fun hi hh1 hh2 hhi => ?_)
      refine sX4_lowest hI hB (by omega) hp (fun lo hl1 hl2 hlo => ?_)
      obtain ⟨k, hk⟩ : ∃ k, ls.length - pre.length = k + 1 := ⟨ls.length - pre.length - 1, by omega⟩
      rw [hk] at hQ
      unfold fE at hQ
      rw [fLp_all] at hQ
      generalize hF : (fun x => (allL k).find? (fun E => okP B (pre ++ x :: E) && decide (costL (ls.drop pre.length) (L0.drop pre.length) (x :: E) ≤ left))) = F at hQ
      have nx := fun x : Nat => okP_next (x := x) hB hok hlo hhi
      have fno : ∀ y : Nat, 1 ≤ y → y ≤ 5 → ¬ (lo ≤ (y : Int) ∧ (y : Int) ≤ hi) → F y = none := by
        intro y h1 h5 hno
        have : okP B (pre ++ [y]) = false := by
          cases c : okP B (pre ++ [y]) with
          | false => rfl
          | true => exact absurd ((nx y).mpr ⟨h1, h5, c⟩) hno
        rw [← hF]
        show (allL k).find? _ = none
        rw [List.find?_eq_none]
        intro E hE hc
        rw [Bool.and_eq_true, show pre ++ y :: E = (pre ++ [y]) ++ E by simp] at hc
        rw [okP_dn hc.1] at this
        cases this
      have l5 := hL0.at (show pre.length < L0.length by omega)
      have hs9 : (ls.getD pre.length (0, 0, 0)).2.2 ≤ 9 := hsp _ (List.mem_of_getElem? (laneG cl))
      generalize hsv : (ls.getD pre.length (0, 0, 0)).2.2 = sp at hs9
      generalize hLv : L0.getD pre.length 0 = Lv at l5
      have key : ∀ e (x : Nat) (u : St), x + e = 6 → 1 ≤ x → lo ≤ (x : Int) → Frs s u → u.1 72 = s.1 72 → SrI ls L0 B pre u → (∀ v, Frs s v → v.1 72 = s.1 72 → SrI ls L0 B pre v → (∀ E, fLp F e x = some E → SrI ls L0 B (pre ++ E) v) → Q (if (fLp F e x).isSome then 1 else 0) v) → wX4_goFirst_23 (wX4_goFirst d) 72 (nI pre.length) (nI left) (zI hi) Q (e + 1) (nI x) u := by
        intro e
        induction e with
        | zero =>
          intro x u hx h1 hxl hfu h72 hIu hq
          unfold wX4_goFirst_23
          have c : zI hi < nI x := by rw [nI_z, zI_lt (by omega) (by omega) (by omega) (by omega)]; omega
          refine ⟨fun _ => ?_, fun z => absurd c z⟩
          exact hq u hfu h72 hIu (fun E hE => by cases hE)
        | succ e ihe =>
          intro x u hx h1 hxl hfu h72 hIu hq
          unfold wX4_goFirst_23 wX4_goFirst_78
          by_cases ch : hi < (x : Int)
          · have c : zI hi < nI x := by rw [nI_z, zI_lt (by omega) (by omega) (by omega) (by omega)]; omega
            refine ⟨fun _ => ?_, fun z => absurd c z⟩
            have hno : fLp F (e + 1) x = none := fLp_none F _ _ (fun y h1' h2' => fno y (by omega) (by omega) (by omega))
            rw [hno] at hq
            exact hq u hfu h72 hIu (fun E hE => by cases hE)
          · have c : ¬ zI hi < nI x := by rw [nI_z, zI_lt (by omega) (by omega) (by omega) (by omega)]; omega
            refine ⟨fun z => absurd z c, fun _ => ?_⟩
            have e83 := hIu.2.2.2.1 pre.length Lv (by rw [getD_get (by omega), hLv])
            have e84 := hIu.2.2.2.2.1 pre.length sp (by rw [List.getElem?_map, laneG cl, ← hsv]; rfl)
            rw [Nat.zero_add] at e83 e84
            have vp : vp_in (nI pre.length) 6 := vp_in_nI (by omega) (by omega)
            refine ⟨vp, vp, ?_⟩
            rw [nI_clamp (by omega), show (72 + 12) = 84 from rfl, show (72 + 11) = 83 from rfl, e83, e84, abs_nI (by omega) (by omega), pk_mul]
            have hd5 : dif Lv x ≤ 5 := by unfold dif; split <;> omega
            have hmul : sp * dif Lv x ≤ 9 * 5 := Nat.mul_le_mul hs9 hd5
            have hno_or : ∀ v, Frs s v → v.1 72 = s.1 72 → SrI ls L0 B pre v → F x = none → wX4_goFirst_23 (wX4_goFirst d) 72 (nI pre.length) (nI left) (zI hi) Q (e + 1) (nI x + 1) v := by
              intro v hfv h72v hIv hFx
              rw [show nI x + (1 : Int32) = nI (x + 1) from (nI_succ x).symm]
              refine ihe (x + 1) v (by omega) (by omega) (by omega) hfv h72v hIv ?_
              have : fLp F (e + 1) x = fLp F e (x + 1) := by
                show (match F x with | some E => some (x :: E) | none => fLp F e (x + 1)) = _
                rw [hFx]
              rw [this] at hq
              exact hq
            by_cases cc : left < sp * dif Lv x
            · have c2 : nI left - nI (sp * dif Lv x) < 0 := by
                rw [nI_z, nI_z, zI_sub, show (0 : Int32) = zI 0 from rfl, zI_lt (by omega) (by omega) (by omega) (by omega)]; omega
              refine ⟨fun _ => ?_, fun z => absurd c2 z⟩
              refine hno_or u hfu h72 hIu ?_
              rw [← hF]
              show (allL k).find? _ = none
              rw [List.find?_eq_none]
              intro E hE hc
              rw [Bool.and_eq_true, decide_eq_true_eq, drop_lane cl, drop_getD (by omega), costL_cons, hsv, hLv] at hc
              omega
            · rw [nI_sub (by omega)]
              have c2 : ¬ nI (left - sp * dif Lv x) < 0 := nI_pos (by omega)
              refine ⟨fun z => absurd z c2, fun _ => ?_⟩
              refine sX4_choose hIu hB (by omega) hp h1 (by omega) (fun v hfv h72v hIv => ?_)
              have hl2 : (pre ++ [x]).length = pre.length + 1 := by rw [List.length_append]; rfl
              rw [show nI pre.length + (1 : Int32) = nI (pre ++ [x]).length by rw [hl2]; exact (nI_succ _).symm]
              have hx5 := (nx x).mp ⟨hxl, by omega⟩
              refine ih (pre ++ [x]) _ v _ (by omega) (by omega) (hp.snoc h1 (by omega)) hx5.2.2 hIv (by omega) (fun w hfw h72w hIw hw => ?_)
              have hfE : fE ls L0 B (ls.length - (pre ++ [x]).length) (pre ++ [x]) (left - sp * dif Lv x) = F x := by
                rw [show ls.length - (pre ++ [x]).length = k by omega, ← hF, ← hsv, ← hLv]
                exact fE_cons cl hL (by rw [hsv, hLv]; omega)
              rw [hfE] at hw ⊢
              have h72' : w.1 72 = s.1 72 := by rw [h72w, h72v, h72]
              cases hz : F x with
              | none =>
                exact ⟨fun _ => hno_or w ((hfu.tr hfv).tr hfw) h72' hIw.dn hz, fun z => absurd rfl z⟩
              | some E =>
                refine ⟨fun z => absurd z (show ¬ (1 : Int32) = 0 by decide), fun _ => ?_⟩
                have hs : fLp F (e + 1) x = some (x :: E) := by
                  show (match F x with | some E => some (x :: E) | none => fLp F e (x + 1)) = _
                  rw [hz]
                rw [hs] at hq
                refine hq w ((hfu.tr hfv).tr hfw) h72' hIw.dn (fun E' hE' => ?_)
                cases hE'
                have := hw E hz
                rw [List.append_assoc] at this
                exact this
      by_cases c6 : lo ≤ 5
      · obtain ⟨x, hx⟩ : ∃ x : Nat, lo = (x : Int) := ⟨lo.toNat, by omega⟩
        subst hx
        refine ⟨(6 - x) + 1, ?_⟩
        rw [← nI_z]
        refine key (6 - x) x s (by omega) (by omega) (Int.le_refl _) Fr.rf rfl hI ?_
        have : fLp F 5 1 = fLp F (6 - x) x := by
          have := fLp_skip F (6 - x) (x - 1) 1 (fun y h1 h2 => fno y h1 (by omega) (by omega))
          rw [show x - 1 + (6 - x) = 5 by omega, show 1 + (x - 1) = x by omega] at this
          exact this
        rw [this] at hQ
        exact hQ
      · refine ⟨1, ?_⟩
        unfold wX4_goFirst_23
        have c : zI hi < zI lo := by rw [zI_lt (by omega) (by omega) (by omega) (by omega)]; omega
        refine ⟨fun _ => ?_, fun z => absurd c z⟩
        have hno : fLp F 5 1 = none := fLp_none F _ _ (fun y h1 h2 => fno y h1 (by omega) (by omega))
        rw [hno] at hQ
        exact hQ s Fr.rf rfl hI (fun E hE => by cases hE)
    · have cI : ¬ nI pre.length < nI ls.length := nI_nlt (by omega) (by omega)
      refine ⟨fun z => absurd z cI, fun _ => ?_⟩
      have e0 : ls.length - pre.length = 0 := by omega
      have hfe : fE ls L0 B 0 pre left = some [] := by
        unfold fE allL
        rw [List.find?_cons]
        have : costL (ls.drop pre.length) (L0.drop pre.length) [] = 0 := by cases (ls.drop pre.length) <;> cases (L0.drop pre.length) <;> rfl
        rw [this, List.append_nil, hok]
        simp
      rw [e0, hfe] at hQ
      exact hQ s Fr.rf rfl hI (fun E hE => by cases hE; rw [List.append_nil]; exact hI)
end GOF
