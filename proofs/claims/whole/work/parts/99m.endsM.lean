/-! the reference: the ends of a set of lanes -/
theorem degP_ext {ls : List Lane} {b p : Nat} (hb : b < 2 ^ ls.length) : ∀ d, degP ls b p (ls.length + d) = degP ls b p ls.length
  | 0 => rfl
  | d + 1 => by
    show degP ls b p (ls.length + d) + (if (b.testBit (ls.length + d) && incB (ls.getD (ls.length + d) (0, 0, 0)) p) = true then 1 else 0) = _
    rw [Nat.testBit_lt_two_pow (Nat.lt_of_lt_of_le hb (p2_le (by omega))), Bool.false_and, degP_ext hb d]
    rfl
theorem deg_6 {ls : List Lane} {b p : Nat} (hb : b < 2 ^ ls.length) (hl : ls.length ≤ 6) : degP ls b p 6 = deg ls b p := by
  unfold deg
  rw [← degP_ext (p := p) hb (6 - ls.length), show ls.length + (6 - ls.length) = 6 by omega]
theorem degP_le (ls : List Lane) (b p : Nat) : ∀ k, degP ls b p k ≤ k
  | 0 => Nat.le_refl _
  | k + 1 => by have := degP_le ls b p k; unfold degP; split <;> omega
theorem eS_lo {ls : List Lane} {b : Nat} : ∀ p, (eS ls b p).1 = none → (eS ls b p).2.1 = none
  | 0, _ => rfl
  | p + 1, h => by
    unfold eS at h ⊢
    dsimp only at h ⊢
    split at h
    · cases h
    · rename_i c
      rw [if_neg (fun z => z.2.1 h)]
      exact eS_lo p h
theorem eS_lt {ls : List Lane} {b : Nat} : ∀ p q, ((eS ls b p).1 = some q → q < p) ∧ ((eS ls b p).2.1 = some q → q < p)
  | 0, q => ⟨fun h => (by cases h), fun h => (by cases h)⟩
  | p + 1, q => by
    have ih := eS_lt (ls := ls) (b := b) p q
    unfold eS
    dsimp only
    refine ⟨fun h => ?_, fun h => ?_⟩
    · split at h
      · cases h; omega
      · have := ih.1 h; omega
    · split at h
      · cases h; omega
      · have := ih.2 h; omega
section EDM
variable {x : Nat} {s : St} {ls : List Lane}
def lanesM (x : Nat) (ls : List Lane) (s : St) : Prop := ∀ l, l < ls.length → s.1 (x + 3) l = nI (ls.getD l (0, 0, 0)).1 ∧ s.1 (x + 4) l = nI (ls.getD l (0, 0, 0)).2.1
theorem sX10_deg {b p : Nat} {x2 x3 x4 : Int32} {K : Int32 → St → Prop} {Q : Int32 → St → Prop} (ho : okLs ls) (hl : lanesM x ls s) (hb : b < 2 ^ ls.length) (hp : p < 5) (hK : K (nI (deg ls b p)) s) : ∃ k, wX10_endsOf_32 x (nI b) x2 x3 x4 (nI p) K Q k 0 0 s := by
  have l6 := ho.2.2
  have b64 : b < 64 := Nat.lt_of_lt_of_le hb (p2_le l6)
  have key : ∀ d k, k + d = 6 → wX10_endsOf_32 x (nI b) x2 x3 x4 (nI p) K Q (d + 1) (nI (degP ls b p k)) (nI k) s := by
    intro d
    induction d with
    | zero =>
      intro k hk
      have ek : k = 6 := by omega
      subst ek
      unfold wX10_endsOf_32
      rw [deg_6 hb l6]
      exact ⟨fun _ => hK, fun z => absurd (Int32.le_refl _) z⟩
    | succ d ih =>
      intro k hk
      have ih2 := ih (k + 1) (by omega)
      unfold degP at ih2
      have esh : (nI b >>> (nI k &&& 31)) &&& 1 = nI (if b.testBit k then 1 else 0) := by
        rw [show (1 : Int32) = nI 1 from rfl, show (31 : Int32) = nI 31 from rfl, fa_and, shr1 (by omega) (by omega)]
      unfold wX10_endsOf_32 wX10_endsOf_79 wX10_endsOf_75 wX10_endsOf_80
      rw [esh, nI_clamp (show k < 2 ^ 31 by omega), show nI k + (1 : Int32) = nI (k + 1) from nI_add _ 1, show nI (degP ls b p k) + (0 : Int32) = nI (degP ls b p k + 0) from nI_add _ 0, show nI (degP ls b p k) + (1 : Int32) = nI (degP ls b p k + 1) from nI_add _ 1]
      refine ⟨fun z => absurd ((nI_leI (a := 6) (by omega) (by omega)).mp z) (by omega), fun _ => ?_⟩
      cases ht : b.testBit k with
      | false =>
        rw [ht] at ih2
        exact ⟨fun _ => ih2, fun z => absurd z (show ¬ (0 : Int32) = 1 by decide)⟩
      | true =>
        have hkl : k < ls.length := by
          rcases Nat.lt_or_ge k ls.length with c | c
          · exact c
          · rw [Nat.testBit_lt_two_pow (Nat.lt_of_lt_of_le hb (p2_le c))] at ht
            cases ht
        obtain ⟨b1, b2⟩ := hl k hkl
        have hlt := ho.1 k hkl
        rw [ht, Bool.true_and] at ih2
        rw [b1, b2]
        refine ⟨fun z => absurd rfl z, fun _ => ⟨vp_in_nI (by omega) (by omega), fun c => ?_, fun c => ⟨vp_in_nI (by omega) (by omega), fun c2 => ?_, fun c2 => ?_⟩⟩⟩
        · rw [if_pos (incB_iff.mpr (Or.inl (nI_inj (by omega) (by omega) c)))] at ih2
          exact ih2
        · rw [if_neg (fun z => by
            rcases incB_iff.mp z with y | y
            · exact c (by rw [y])
            · exact c2 (by rw [y]))] at ih2
          exact ih2
        · rw [if_pos (incB_iff.mpr (Or.inr (nI_inj (by omega) (by omega) c2)))] at ih2
          exact ih2
  exact ⟨_, key 6 0 (by omega)⟩
theorem sX10_lst {b p : Nat} {x2 x3 x7 : Int32} {K : Int32 → St → Prop} {Q : Int32 → St → Prop} (ho : okLs ls) (hl : lanesM x ls s) (hb : b < 2 ^ ls.length) (hp : p < 5) (hK : K (oI (lstL ls b p)) s) : ∃ k, wX10_endsOf_205 x x2 x3 (nI b) (nI p) x7 K Q k (-9) 0 s := by
  have l6 := ho.2.2
  have b64 : b < 64 := Nat.lt_of_lt_of_le hb (p2_le l6)
  have key : ∀ d k, k + d = 6 → wX10_endsOf_205 x x2 x3 (nI b) (nI p) x7 K Q (d + 1) (oI (lstP ls b p k)) (nI k) s := by
    intro d
    induction d with
    | zero =>
      intro k hk
      have ek : k = 6 := by omega
      subst ek
      unfold wX10_endsOf_205
      rw [show 6 = ls.length + (6 - ls.length) by omega, lstP_ext hb]
      exact ⟨fun _ => hK, fun z => absurd (by rw [show ls.length + (6 - ls.length) = 6 by omega]; exact Int32.le_refl _) z⟩
    | succ d ih =>
      intro k hk
      have ih2 := ih (k + 1) (by omega)
      unfold lstP at ih2
      have esh : (nI b >>> (nI k &&& 31)) &&& 1 = nI (if b.testBit k then 1 else 0) := by
        rw [show (1 : Int32) = nI 1 from rfl, show (31 : Int32) = nI 31 from rfl, fa_and, shr1 (by omega) (by omega)]
      unfold wX10_endsOf_205 wX10_endsOf_252 wX10_endsOf_247 wX10_endsOf_254
      rw [esh, nI_clamp (show k < 2 ^ 31 by omega), show nI k + (1 : Int32) = nI (k + 1) from nI_add _ 1]
      refine ⟨fun z => absurd ((nI_leI (a := 6) (by omega) (by omega)).mp z) (by omega), fun _ => ?_⟩
      cases ht : b.testBit k with
      | false =>
        rw [ht] at ih2
        exact ⟨fun _ => ih2, fun z => absurd z (show ¬ (0 : Int32) = 1 by decide)⟩
      | true =>
        have hkl : k < ls.length := by
          rcases Nat.lt_or_ge k ls.length with c | c
          · exact c
          · rw [Nat.testBit_lt_two_pow (Nat.lt_of_lt_of_le hb (p2_le c))] at ht
            cases ht
        obtain ⟨b1, b2⟩ := hl k hkl
        have hlt := ho.1 k hkl
        rw [ht, Bool.true_and] at ih2
        rw [b1, b2]
        refine ⟨fun z => absurd rfl z, fun _ => ⟨vp_in_nI (by omega) (by omega), fun c => ?_, fun c => ⟨vp_in_nI (by omega) (by omega), fun c2 => ?_, fun c2 => ?_⟩⟩⟩
        · rw [if_pos (incB_iff.mpr (Or.inl (nI_inj (by omega) (by omega) c)))] at ih2
          exact ih2
        · rw [if_neg (fun z => by
            rcases incB_iff.mp z with y | y
            · exact c (by rw [y])
            · exact c2 (by rw [y]))] at ih2
          exact ih2
        · rw [if_pos (incB_iff.mpr (Or.inr (nI_inj (by omega) (by omega) c2)))] at ih2
          exact ih2
  exact ⟨_, key 6 0 (by omega)⟩
theorem oI_ne9 {o : Option Nat} (h : ∀ q, o = some q → q < 100) : oI o = -9 ↔ o = none := by
  cases o with
  | none => exact ⟨fun _ => rfl, fun _ => rfl⟩
  | some q =>
    have := h q rfl
    constructor
    · intro z; exact (nI_m9 (n := q) (by omega) ▸ z : False).elim
    · intro z; cases z
theorem sX10_endsOf {b : Nat} {Q : Int32 → St → Prop} (ho : okLs ls) (hl : lanesM x ls s) (hb : b < 2 ^ ls.length) (h0 : b ≠ 0) (hQ : Q (nI (endsV ls b)) s) : wX10_endsOf x (nI b) s Q := by
  have l6 := ho.2.2
  have b64 : b < 64 := Nat.lt_of_lt_of_le hb (p2_le l6)
  have walk : ∀ (K : Int32 → St → Prop) (x2 x3 : Int32) (d k c p : Nat), k + d = 6 → c < 2 ^ ls.length → p < 5 → K (nI (wk ls d c p).1) s → wX10_endsOf_191 x x2 x3 K Q (d + 1) (nI c) (nI p) (nI k) s := by
    intro K x2 x3 d
    induction d with
    | zero =>
      intro k c p hk hc hp hK
      have ek : k = 6 := by omega
      subst ek
      unfold wX10_endsOf_191
      exact ⟨fun _ => hK, fun z => absurd (Int32.le_refl _) z⟩
    | succ d ih =>
      intro k c p hk hc hp hK
      unfold wX10_endsOf_191
      refine ⟨fun z => absurd ((nI_leI (a := 6) (by omega) (by omega)).mp z) (by omega), fun _ => ?_⟩
      refine sX10_lst ho hl hc hp ?_
      unfold wk at hK
      unfold wX10_endsOf_311 wX10_endsOf_309 wX10_endsOf_311
      rw [show nI k + (1 : Int32) = nI (k + 1) from nI_add _ 1]
      cases hz : lstL ls c p with
      | none =>
        rw [hz] at hK
        exact ⟨fun _ => ih (k + 1) c p (by omega) hc hp hK, fun z => absurd rfl z⟩
      | some l =>
        rw [hz] at hK
        dsimp only at hK
        obtain ⟨q1, q2, q3⟩ := lstP_some hz
        obtain ⟨b1, b2⟩ := hl l q1
        have hlt := ho.1 l q1
        have c64 : c < 64 := Nat.lt_of_lt_of_le hc (p2_le l6)
        have pl := p2_le (show l ≤ 5 by omega)
        have eleft : nI c &&& (((1 : Int32) <<< (nI l &&& 31)) ^^^ -1) = nI (andn c (2 ^ l)) := by
          rw [show ((1 : Int32) <<< (nI l &&& 31)) = nI (2 ^ l) by rw [show (1 : Int32) = nI 1 from rfl, show (31 : Int32) = nI 31 from rfl, fa_and, shl1 (by omega)]]
          exact andnI (by omega) (by omega)
        have hcl : andn c (2 ^ l) < 2 ^ ls.length := by
          have := andn_p2 c64 q2
          omega
        show (nI l = -9 → _) ∧ (¬ nI l = -9 → _)
        rw [show oI (some l) = nI l from rfl, nI_clamp (by omega), b1, b2, eleft]
        refine ⟨fun z => (nI_m9 (n := l) (by omega) ▸ z : False).elim, fun _ => ⟨vp_in_nI (by omega) (by omega), fun y => ⟨vp_in_nI (by omega) (by omega), ?_⟩, fun y => ⟨vp_in_nI (by omega) (by omega), ?_⟩⟩⟩
        · have eo : oth (ls.getD l (0, 0, 0)) p = (ls.getD l (0, 0, 0)).1 := by
            unfold oth
            rw [if_neg (fun z => y (by rw [z]))]
          rw [eo] at hK
          exact ih (k + 1) _ _ (by omega) hcl hlt.1 hK
        · have y' : (ls.getD l (0, 0, 0)).1 = p := nI_inj (by omega) (by omega) y
          have eo : oth (ls.getD l (0, 0, 0)) p = (ls.getD l (0, 0, 0)).2.1 := by
            unfold oth
            rw [if_pos y']
          rw [eo] at hK
          exact ih (k + 1) _ _ (by omega) hcl hlt.2.1 hK
  have scan : ∀ (K : Int32 → Int32 → Int32 → St → Prop), K (oI (eS ls b 5).1) (oI (eS ls b 5).2.1) (if (eS ls b 5).2.2 then 1 else 0) s → ∀ d p, p + d = 5 → wX10_endsOf_20 x (nI b) K Q (d + 1) (oI (eS ls b p).1) (oI (eS ls b p).2.1) (if (eS ls b p).2.2 then 1 else 0) (nI p) s := by
    intro K hK d
    induction d with
    | zero =>
      intro p hp
      have ep : p = 5 := by omega
      subst ep
      unfold wX10_endsOf_20
      exact ⟨fun _ => hK, fun z => absurd (Int32.le_refl _) z⟩
    | succ d ih =>
      intro p hp
      have ih2 := ih (p + 1) (by omega)
      unfold eS at ih2
      dsimp only at ih2
      have h1 := oI_ne9 (o := (eS ls b p).1) (fun q hq => by have := (eS_lt (ls := ls) (b := b) p q).1 hq; omega)
      have h2 := oI_ne9 (o := (eS ls b p).2.1) (fun q hq => by have := (eS_lt (ls := ls) (b := b) p q).2 hq; omega)
      have hdl : deg ls b p ≤ 6 := Nat.le_trans (degP_le ls b p ls.length) l6
      have hlo := eS_lo (ls := ls) (b := b) p
      unfold wX10_endsOf_20
      refine ⟨fun z => absurd ((nI_leI (a := 5) (by omega) (by omega)).mp z) (by omega), fun _ => ?_⟩
      refine sX10_deg ho hl hb (by omega) ?_
      generalize (eS ls b p).1 = lo at *
      generalize (eS ls b p).2.1 = hi at *
      generalize (eS ls b p).2.2 = is at *
      generalize deg ls b p = n at *

      have ends : ∀ (is2 : Bool), is2 = (is && decide (n < 3) && !(decide (n = 1) && hi.isSome)) → wX10_endsOf_117 (wX10_endsOf_20 x (nI b) K Q (d + 1)) K Q x (nI b) (oI lo) (oI hi) (nI p) (nI n) (if is2 then 1 else 0) s := by
        intro is2 his
        rw [← his] at ih2
        unfold wX10_endsOf_117 wX10_endsOf_142 wX10_endsOf_143 wX10_endsOf_161 wX10_endsOf_162
        rw [show nI p + (1 : Int32) = nI (p + 1) from nI_add _ 1]
        by_cases cn : n = 1
        · subst cn
          refine ⟨fun y => absurd rfl y, fun _ => ⟨fun y => ?_, fun y => ⟨fun y2 => ?_, fun y2 => ?_⟩⟩⟩
          · have y' := h1.mp y
            subst y'
            rw [if_pos ⟨rfl, rfl⟩, if_neg (fun w => w.2.1 rfl)] at ih2
            exact ⟨fun w => absurd rfl w, fun _ => ⟨fun w => absurd rfl w, fun _ => ih2⟩⟩
          · have y' : lo ≠ none := fun w => y (h1.mpr w)
            have y2' : hi ≠ none := fun w => y2 (h2.mpr w)
            rw [if_neg (fun w => y' w.2), if_neg (fun w => y2' w.2.2)] at ih2
            exact ⟨fun w => absurd rfl w, fun _ => ⟨fun _ => ih2, fun w => absurd w y⟩⟩
          · have y' : lo ≠ none := fun w => y (h1.mpr w)
            have y2' := h2.mp y2
            rw [if_neg (fun w => y' w.2), if_pos ⟨rfl, y', y2'⟩] at ih2
            exact ⟨fun w => absurd rfl w, fun _ => ⟨fun _ => ih2, fun w => absurd w y⟩⟩
        · have cn' : ¬ nI n = 1 := fun w => cn (nI_inj (b := 1) (by omega) (by omega) w)
          rw [if_neg (fun w => cn w.1), if_neg (fun w => cn w.1)] at ih2
          exact ⟨fun _ => ⟨fun _ => ih2, fun w => absurd w cn'⟩, fun w => absurd w cn'⟩
      unfold wX10_endsOf_116 wX10_endsOf_112
      refine ⟨fun z => ?_, fun z => ⟨fun y => ?_, fun y => ⟨fun y2 => ?_, fun y2 => ⟨fun y3 => ?_, fun y3 => ?_⟩⟩⟩⟩
      · have z' : is = false := by
          cases hi2 : is with
          | false => rfl
          | true => rw [hi2] at z; exact absurd z (by decide)
        exact ends false (by rw [z']; rfl)
      · have y' := (nI_leI (a := 3) (by omega) (by omega)).mp y
        exact ends false (by rw [decide_eq_false (show ¬ n < 3 by omega), Bool.and_false]; rfl)
      · have z' : is = true := by
          cases hi2 : is with
          | true => rfl
          | false => rw [hi2] at z; exact absurd rfl z
        have y' : n < 3 := by
          rcases Nat.lt_or_ge n 3 with w | w
          · exact w
          · exact absurd ((nI_leI (a := 3) (by omega) (by omega)).mpr w) y
        have y2' : ¬ n = 1 := fun w => y2 (by rw [w]; rfl)
        exact ends true (by rw [z', decide_eq_true y', decide_eq_false y2']; rfl)
      · have y2' : n = 1 := nI_inj (b := 1) (by omega) (by omega) y2
        have y3' : hi ≠ none := fun w => y3 (h2.mpr w)
        refine ends false ?_
        rw [decide_eq_true y2']
        cases hi with
        | none => exact absurd rfl y3'
        | some q => simp
      · have z' : is = true := by
          cases hi2 : is with
          | true => rfl
          | false => rw [hi2] at z; exact absurd rfl z
        have y2' : n = 1 := nI_inj (b := 1) (by omega) (by omega) y2
        have y3' := h2.mp y3
        refine ends true ?_
        rw [z', decide_eq_true (show n < 3 by omega), y3']
        simp
  unfold wX10_endsOf
  refine ⟨fun z => absurd (nI_inj (b := 0) (by omega) (by omega) z) h0, fun _ => ?_⟩
  unfold wX10_endsOf_15
  refine ⟨_, scan _ ?_ 5 0 (by omega)⟩
  have h2 := oI_ne9 (o := (eS ls b 5).2.1) (fun q hq => by have := (eS_lt (ls := ls) (b := b) 5 q).2 hq; omega)
  have hlo := eS_lo (ls := ls) (b := b) 5
  have hlt := eS_lt (ls := ls) (b := b) 5
  unfold endsV at hQ
  cases he : eS ls b 5 with
  | mk lo r =>
    cases r with
    | mk hi is =>
      rw [he] at hQ h2 hlo hlt
      dsimp only at hQ h2 hlo hlt ⊢
      cases is with
      | false =>
        refine ⟨fun _ => ?_, fun z => absurd rfl z⟩
        cases lo with
        | none => exact hQ
        | some a => cases hi with
          | none => exact hQ
          | some c => exact hQ
      | true =>
        refine ⟨fun z => absurd z (show ¬ (1 : Int32) = 0 by decide), fun _ => ⟨fun y => ?_, fun y => ?_⟩⟩
        · cases hi with
          | none => exact absurd rfl y
          | some c =>
            cases lo with
            | none => have := hlo rfl; cases this
            | some a =>
              dsimp only at hQ
              have ha := (hlt a).1 rfl
              have hc := (hlt c).2 rfl
              refine ⟨_, walk _ _ _ 6 0 b a (by omega) hb ha ?_⟩
              by_cases cz : (wk ls 6 b a).1 = 0
              · rw [if_pos cz] at hQ
                refine ⟨fun w => absurd (by rw [cz]; rfl) w, fun _ => ?_⟩
                show Q ((5 : Int32) * nI a + nI c + 1) s
                rw [show (5 : Int32) = nI 5 from rfl, show (1 : Int32) = nI 1 from rfl, pk_mul, nI_add, nI_add]
                exact hQ
              · rw [if_neg cz] at hQ
                refine ⟨fun _ => hQ, fun w => ?_⟩
                have hwb : ∀ (d c p : Nat), c < 64 → (wk ls d c p).1 < 64 := by
                  intro d
                  induction d with
                  | zero => intro c p hc; exact hc
                  | succ d ih =>
                    intro c p hc
                    unfold wk
                    cases lstL ls c p with
                    | none => exact ih c p hc
                    | some l => exact ih _ _ (andn_lt hc)
                have := hwb 6 b a b64
                exact absurd (nI_inj (b := 0) (by omega) (by omega) w) cz
        · have y' := h2.mp y
          subst y'
          cases lo with
          | none => exact hQ
          | some a => exact hQ
end EDM
