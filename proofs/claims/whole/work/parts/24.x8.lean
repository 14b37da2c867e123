/-! printed by program: what each method does to the state (w..), and that its code does so (b.., m..) -/
def wX8_isShortest (x0 : Nat) (x1 : Int32) (s : St) (Q : Int32 → St → Prop) : Prop :=
  ((x1 < 0 → Q (0 : Int32) s) ∧ (¬ x1 < 0 → (((s.1 x0 0) ≤ x1 → Q (0 : Int32) s) ∧ (¬ (s.1 x0 0) ≤ x1 → vp_in x1 33 ∧ vp_in x1 33 ∧ vp_in (s.1 (x0 + 3) x1.toNatClampNeg) 25 ∧ ((¬ (s.1 (x0 + 5) x1.toNatClampNeg) = (s.1 (x0 + 6) (s.1 (x0 + 3) x1.toNatClampNeg).toNatClampNeg) → Q (0 : Int32) s) ∧ ((s.1 (x0 + 5) x1.toNatClampNeg) = (s.1 (x0 + 6) (s.1 (x0 + 3) x1.toNatClampNeg).toNatClampNeg) → Q (1 : Int32) s))))))
set_option maxHeartbeats 4000000 in
set_option maxRecDepth 100000 in
theorem mX8_isShortest {l : Launch} {V : Wv} {x0 : Nat} {x1 : Int32} {s : St} {Q : Int32 → St → Prop} (hx0 : isX8 V x0) (h : wX8_isShortest x0 x1 s Q) : Ci yX8_isShortest cX8_isShortest 2 (some .boolean) (0) l V [rf V x0, .int x1] s Q := by
  unfold wX8_isShortest at h
  refine Cz.of mvX8_isShortest.1 (Nat.le_of_ble_eq_true rfl) (fun X F hR => ?_)
  refine g_lv (lv' := [(_, _), (_, _)]) rfl ?_
  refine g_iload_n (pc := 0) F dX8_isShortest_0 rfl 1 rfl ?_
  refine g_if_lt (pc := 1) F 36 dX8_isShortest_1 (by decide) (fun c => ?_) (fun c => ?_)
  · have h := h.1 c
    refine g_iconst (pc := 36) F dX8_isShortest_36 ic_0 ?_
    exact hR _ _ _ _ dX8_isShortest_37 (Or.inl rfl) h
  · have h := h.2 c
    refine g_iload_n (pc := 4) F dX8_isShortest_4 rfl 1 rfl ?_
    refine g_aload_n (pc := 5) F dX8_isShortest_5 rfl 0 rfl ?_
    refine g_getI (pc := 6) F clX8 hx0.1 0 rfl (by decide) uX8_9 dX8_isShortest_6 ?_
    refine g_icmp_ge (pc := 9) F 36 dX8_isShortest_9 (by decide) (fun c => ?_) (fun c => ?_)
    · have h := h.1 c
      refine g_iconst (pc := 36) F dX8_isShortest_36 ic_0 ?_
      exact hR _ _ _ _ dX8_isShortest_37 (Or.inl rfl) h
    · have h := h.2 c
      refine g_aload_n (pc := 12) F dX8_isShortest_12 rfl 0 rfl ?_
      refine g_getR (pc := 13) F clX8 hx0.1 5 _ rfl (by decide) uX8_28 dX8_isShortest_13 ?_
      refine g_iload_n (pc := 16) F dX8_isShortest_16 rfl 1 rfl ?_
      obtain ⟨hb_17, h⟩ := h
      refine g_iald (pc := 17) F hx0.2.2.2.2.2.1 hb_17 dX8_isShortest_17 ?_
      refine g_aload_n (pc := 18) F dX8_isShortest_18 rfl 0 rfl ?_
      refine g_getR (pc := 19) F clX8 hx0.1 6 _ rfl (by decide) uX8_31 dX8_isShortest_19 ?_
      refine g_aload_n (pc := 22) F dX8_isShortest_22 rfl 0 rfl ?_
      refine g_getR (pc := 23) F clX8 hx0.1 3 _ rfl (by decide) uX8_22 dX8_isShortest_23 ?_
      refine g_iload_n (pc := 26) F dX8_isShortest_26 rfl 1 rfl ?_
      obtain ⟨hb_27, h⟩ := h
      refine g_iald (pc := 27) F hx0.2.2.2.1 hb_27 dX8_isShortest_27 ?_
      obtain ⟨hb_28, h⟩ := h
      refine g_iald (pc := 28) F hx0.2.2.2.2.2.2.1 hb_28 dX8_isShortest_28 ?_
      refine g_icmp_ne (pc := 29) F 36 dX8_isShortest_29 (by decide) (fun c => ?_) (fun c => ?_)
      · have h := h.1 c
        refine g_iconst (pc := 36) F dX8_isShortest_36 ic_0 ?_
        exact hR _ _ _ _ dX8_isShortest_37 (Or.inl rfl) h
      · have h := h.2 c
        refine g_iconst (pc := 32) F dX8_isShortest_32 ic_1 ?_
        refine g_goto (pc := 33) F 37 dX8_isShortest_33 (by decide) ?_
        exact hR _ _ _ _ dX8_isShortest_37 (Or.inr rfl) h
def wX8_addTrail (x0 : Nat) (x1 : Int32) (x2 : Int32) (s : St) (Q : St → Prop) : Prop :=
  (((s.1 x0 0) < (33 : Int32) → cpOk (0 : Int32) ((s.1 x0 0) * (5 : Int32)) x1 5 165 ∧ ∀ s_26 : St, s_26 = stC s (x0 + 7) (x0 + 1) (0 : Int32).toNatClampNeg ((s.1 x0 0) * (5 : Int32)).toNatClampNeg x1.toNatClampNeg → vp_in (s_26.1 x0 0) 33 ∧ ∀ s_38 : St, s_38 = stI s_26 (x0 + 2) (s_26.1 x0 0).toNatClampNeg x1 → vp_in (0 : Int32) 5 ∧ vp_in (x1 - (1 : Int32)) 5 ∧ vp_in (s_38.1 x0 0) 33 ∧ ∀ s_64 : St, s_64 = stI s_38 (x0 + 3) (s_38.1 x0 0).toNatClampNeg (((s_38.1 (x0 + 7) (0 : Int32).toNatClampNeg) * (5 : Int32)) + (s_38.1 (x0 + 7) (x1 - (1 : Int32)).toNatClampNeg)) → vp_in (s_64.1 x0 0) 33 ∧ ∀ s_74 : St, s_74 = stI s_64 (x0 + 4) (s_64.1 x0 0).toNatClampNeg x2 → ∀ s_82 : St, s_82 = stI s_74 x0 0 ((s_74.1 x0 0) + (1 : Int32)) → Q s_82) ∧ (¬ (s.1 x0 0) < (33 : Int32) → Q s))
set_option maxHeartbeats 4000000 in
set_option maxRecDepth 100000 in
theorem mX8_addTrail {l : Launch} {V : Wv} {x0 : Nat} {x1 : Int32} {x2 : Int32} {s : St} {Q : St → Prop} (hx0 : isX8 V x0) (h : wX8_addTrail x0 x1 x2 s Q) : Cv yX8_addTrail cX8_addTrail 3 (1) l V [rf V x0, .int x1, .int x2] s Q := by
  unfold wX8_addTrail at h
  refine Cv.of mvX8_addTrail.1 (Nat.le_of_ble_eq_true rfl) (fun X F hR => ?_)
  refine g_lv (lv' := [(_, _), (_, _), (_, _)]) rfl ?_
  refine g_aload_n (pc := 0) F dX8_addTrail_0 rfl 0 rfl ?_
  refine g_getI (pc := 1) F clX8 hx0.1 0 rfl (by decide) uX8_9 dX8_addTrail_1 ?_
  refine g_bipush (pc := 4) F dX8_addTrail_4 bp_33 ?_
  refine g_icmp_lt (pc := 6) F 10 dX8_addTrail_6 (by decide) (fun c => ?_) (fun c => ?_)
  · have h := h.1 c
    refine g_aload_n (pc := 10) F dX8_addTrail_10 rfl 0 rfl ?_
    refine g_getR (pc := 11) F clX8 hx0.1 7 _ rfl (by decide) uX8_34 dX8_addTrail_11 ?_
    refine g_iconst (pc := 14) F dX8_addTrail_14 ic_0 ?_
    refine g_aload_n (pc := 15) F dX8_addTrail_15 rfl 0 rfl ?_
    refine g_getR (pc := 16) F clX8 hx0.1 1 _ rfl (by decide) uX8_15 dX8_addTrail_16 ?_
    refine g_aload_n (pc := 19) F dX8_addTrail_19 rfl 0 rfl ?_
    refine g_getI (pc := 20) F clX8 hx0.1 0 rfl (by decide) uX8_9 dX8_addTrail_20 ?_
    refine g_iconst (pc := 23) F dX8_addTrail_23 ic_5 ?_
    refine g_imul (pc := 24) F dX8_addTrail_24 ?_
    refine g_iload_n (pc := 25) F dX8_addTrail_25 rfl 1 rfl ?_
    obtain ⟨hb_26, h⟩ := h
    have h := h _ rfl
    refine g_copy (pc := 26) F hx0.2.2.2.2.2.2.2 hx0.2.1 hb_26.1 hb_26.2.1 hb_26.2.2.1 hb_26.2.2.2.1 hb_26.2.2.2.2 (by decide) (Nat.le_of_ble_eq_true rfl) uX8_58 dX8_addTrail_26 ?_
    refine g_aload_n (pc := 29) F dX8_addTrail_29 rfl 0 rfl ?_
    refine g_getR (pc := 30) F clX8 hx0.1 2 _ rfl (by decide) uX8_19 dX8_addTrail_30 ?_
    refine g_aload_n (pc := 33) F dX8_addTrail_33 rfl 0 rfl ?_
    refine g_getI (pc := 34) F clX8 hx0.1 0 rfl (by decide) uX8_9 dX8_addTrail_34 ?_
    refine g_iload_n (pc := 37) F dX8_addTrail_37 rfl 1 rfl ?_
    obtain ⟨hb_38, h⟩ := h
    have h := h _ rfl
    refine g_iast (pc := 38) F hx0.2.2.1 hb_38 dX8_addTrail_38 ?_
    refine g_aload_n (pc := 39) F dX8_addTrail_39 rfl 0 rfl ?_
    refine g_getR (pc := 40) F clX8 hx0.1 3 _ rfl (by decide) uX8_22 dX8_addTrail_40 ?_
    refine g_aload_n (pc := 43) F dX8_addTrail_43 rfl 0 rfl ?_
    refine g_getI (pc := 44) F clX8 hx0.1 0 rfl (by decide) uX8_9 dX8_addTrail_44 ?_
    refine g_aload_n (pc := 47) F dX8_addTrail_47 rfl 0 rfl ?_
    refine g_getR (pc := 48) F clX8 hx0.1 7 _ rfl (by decide) uX8_34 dX8_addTrail_48 ?_
    refine g_iconst (pc := 51) F dX8_addTrail_51 ic_0 ?_
    obtain ⟨hb_52, h⟩ := h
    refine g_iald (pc := 52) F hx0.2.2.2.2.2.2.2 hb_52 dX8_addTrail_52 ?_
    refine g_iconst (pc := 53) F dX8_addTrail_53 ic_5 ?_
    refine g_imul (pc := 54) F dX8_addTrail_54 ?_
    refine g_aload_n (pc := 55) F dX8_addTrail_55 rfl 0 rfl ?_
    refine g_getR (pc := 56) F clX8 hx0.1 7 _ rfl (by decide) uX8_34 dX8_addTrail_56 ?_
    refine g_iload_n (pc := 59) F dX8_addTrail_59 rfl 1 rfl ?_
    refine g_iconst (pc := 60) F dX8_addTrail_60 ic_1 ?_
    refine g_isub (pc := 61) F dX8_addTrail_61 ?_
    obtain ⟨hb_62, h⟩ := h
    refine g_iald (pc := 62) F hx0.2.2.2.2.2.2.2 hb_62 dX8_addTrail_62 ?_
    refine g_iadd (pc := 63) F dX8_addTrail_63 ?_
    obtain ⟨hb_64, h⟩ := h
    have h := h _ rfl
    refine g_iast (pc := 64) F hx0.2.2.2.1 hb_64 dX8_addTrail_64 ?_
    refine g_aload_n (pc := 65) F dX8_addTrail_65 rfl 0 rfl ?_
    refine g_getR (pc := 66) F clX8 hx0.1 4 _ rfl (by decide) uX8_25 dX8_addTrail_66 ?_
    refine g_aload_n (pc := 69) F dX8_addTrail_69 rfl 0 rfl ?_
    refine g_getI (pc := 70) F clX8 hx0.1 0 rfl (by decide) uX8_9 dX8_addTrail_70 ?_
    refine g_iload_n (pc := 73) F dX8_addTrail_73 rfl 2 rfl ?_
    obtain ⟨hb_74, h⟩ := h
    have h := h _ rfl
    refine g_iast (pc := 74) F hx0.2.2.2.2.1 hb_74 dX8_addTrail_74 ?_
    refine g_aload_n (pc := 75) F dX8_addTrail_75 rfl 0 rfl ?_
    refine g_dup (pc := 76) F dX8_addTrail_76 rfl ?_
    refine g_getI (pc := 77) F clX8 hx0.1 0 rfl (by decide) uX8_9 dX8_addTrail_77 ?_
    refine g_iconst (pc := 80) F dX8_addTrail_80 ic_1 ?_
    refine g_iadd (pc := 81) F dX8_addTrail_81 ?_
    have h := h _ rfl
    refine g_putI (pc := 82) F clX8 hx0.1 0 rfl (by decide) rfl (tyX8_ok 0 (by decide)) uX8_9 dX8_addTrail_82 ?_
    exact hR _ _ _ dX8_addTrail_85 h
  · have h := h.2 c
    exact hR _ _ _ dX8_addTrail_9 h
def wX8_onTrail_2 (x0 : Nat) (x1 : Int32) (x2 : Int32) (Q : Int32 → St → Prop) : Nat → Int32 → St → Prop
  | 0, _, _ => False
  | n + 1, x3, s =>
  ((x2 ≤ x3 → Q (0 : Int32) s) ∧ (¬ x2 ≤ x3 → vp_in x3 5 ∧ ((¬ (s.1 (x0 + 7) x3.toNatClampNeg) = x1 → wX8_onTrail_2 x0 x1 x2 Q n (x3 + (1 : Int32)) s) ∧ ((s.1 (x0 + 7) x3.toNatClampNeg) = x1 → Q (1 : Int32) s))))
set_option maxHeartbeats 4000000 in
set_option maxRecDepth 100000 in
theorem bX8_onTrail_2 {l : Launch} {V : Wv} {X : Mx} {x0 : Nat} {x1 : Int32} {x2 : Int32} {Q : Int32 → St → Prop} (F : Fx V X cX8_onTrail RX8 4 0) (hR : RtZ l V X 4 cX8_onTrail Q) (hx0 : isX8 V x0)  : ∀ (n : Nat) (x3 : Int32) (s : St), wX8_onTrail_2 x0 x1 x2 Q n x3 s → G l V X 4 2 [(0, rf V x0), (1, .int x1), (2, .int x2), (3, .int x3)] [] s := by
  intro n
  induction n with
  | zero => intro x3 s h; unfold wX8_onTrail_2 at h; exact h.elim
  | succ n ih =>
    intro x3 s h
    unfold wX8_onTrail_2 at h
    refine g_iload_n (pc := 2) F dX8_onTrail_2 rfl 3 rfl ?_
    refine g_iload_n (pc := 3) F dX8_onTrail_3 rfl 2 rfl ?_
    refine g_icmp_ge (pc := 4) F 25 dX8_onTrail_4 (by decide) (fun c => ?_) (fun c => ?_)
    · have h := h.1 c
      refine g_iconst (pc := 25) F dX8_onTrail_25 ic_0 ?_
      exact hR _ _ _ _ dX8_onTrail_26 (Or.inl rfl) h
    · have h := h.2 c
      refine g_aload_n (pc := 7) F dX8_onTrail_7 rfl 0 rfl ?_
      refine g_getR (pc := 8) F clX8 hx0.1 7 _ rfl (by decide) uX8_34 dX8_onTrail_8 ?_
      refine g_iload_n (pc := 11) F dX8_onTrail_11 rfl 3 rfl ?_
      obtain ⟨hb_12, h⟩ := h
      refine g_iald (pc := 12) F hx0.2.2.2.2.2.2.2 hb_12 dX8_onTrail_12 ?_
      refine g_iload_n (pc := 13) F dX8_onTrail_13 rfl 1 rfl ?_
      refine g_icmp_ne (pc := 14) F 19 dX8_onTrail_14 (by decide) (fun c => ?_) (fun c => ?_)
      · have h := h.1 c
        refine g_iinc (pc := 19) (lv' := [(_, _), (_, _), (_, _), (_, _)]) F dX8_onTrail_19 3 rfl (congrArg _ ic_1) (by decide) rfl ?_
        refine g_goto (pc := 22) F 2 dX8_onTrail_22 (by decide) ?_
        exact g_weak [1, 2, 3, 0] rfl (ih _ _ h)
      · have h := h.2 c
        refine g_iconst (pc := 17) F dX8_onTrail_17 ic_1 ?_
        exact hR _ _ _ _ dX8_onTrail_18 (Or.inr rfl) h
def wX8_onTrail (x0 : Nat) (x1 : Int32) (x2 : Int32) (s : St) (Q : Int32 → St → Prop) : Prop :=
  (∃ k_2, wX8_onTrail_2  x0 x1 x2  Q k_2 (0 : Int32) s)
set_option maxHeartbeats 4000000 in
set_option maxRecDepth 100000 in
theorem mX8_onTrail {l : Launch} {V : Wv} {x0 : Nat} {x1 : Int32} {x2 : Int32} {s : St} {Q : Int32 → St → Prop} (hx0 : isX8 V x0) (h : wX8_onTrail x0 x1 x2 s Q) : Ci yX8_onTrail cX8_onTrail 4 (some .boolean) (0) l V [rf V x0, .int x1, .int x2] s Q := by
  unfold wX8_onTrail at h
  refine Cz.of mvX8_onTrail.1 (Nat.le_of_ble_eq_true rfl) (fun X F hR => ?_)
  refine g_lv (lv' := [(_, _), (_, _), (_, _)]) rfl ?_
  refine g_iconst (pc := 0) F dX8_onTrail_0 ic_0 ?_
  refine g_istore_n (pc := 1) (lv' := [(_, _), (_, _), (_, _), (_, _)]) F dX8_onTrail_1 rfl (by decide) rfl ?_
  obtain ⟨k_2, h⟩ := h
  refine g_weak [1, 2, 3, 0] rfl (bX8_onTrail_2 F hR hx0 k_2 _ _ h)
def wX8_walk_93 (self : Nat → Nat → Int32 → Int32 → St → (St → Prop) → Prop) (rec : Int32 → St → Prop) (Q : St → Prop) (x0 : Nat) (x1 : Nat) (x2 : Int32) (x3 : Int32) (x4 : Int32) (x5 : Int32) (s : St) : Prop :=
  rec (x5 + (1 : Int32)) s
set_option maxHeartbeats 4000000 in
set_option maxRecDepth 100000 in
theorem bX8_walk_93 {l : Launch} {V : Wv} {X : Mx} {d : Nat} {self : Nat → Nat → Int32 → Int32 → St → (St → Prop) → Prop} {rec : Int32 → St → Prop} {Q : St → Prop} {x0 : Nat} {x1 : Nat} {x2 : Int32} {x3 : Int32} {x4 : Int32} {x5 : Int32} (F : Fx V X cX8_walk RX8 7 (2 + (d + 1))) (hR : RtV l V X 7 cX8_walk Q) (hx0 : isX8 V x0) (hx1 : isX1 V x1) (hself : ∀ (x0 : Nat) (x1 : Nat) (x2 : Int32) (x3 : Int32) (σ : St) (P : St → Prop), isX8 V x0 → isX1 V x1 →  self x0 x1 x2 x3 σ P → Cv yX8_walk cX8_walk 7 (2 + d) l V [rf V x0, rf V x1, .int x2, .int x3] σ P) (hrec : ∀ (y5 : Int32) (s : St), rec y5 s → G l V X 7 30 [(0, rf V x0), (1, rf V x1), (2, .int x2), (3, .int x3), (4, .int x4), (5, .int y5)] [] s) {s : St} (h : wX8_walk_93 self rec Q x0 x1 x2 x3 x4 x5 s) : G l V X 7 93 [(0, rf V x0), (1, rf V x1), (2, .int x2), (3, .int x3), (4, .int x4), (5, .int x5)] [] s := by
  unfold wX8_walk_93 at h
  refine g_iinc (pc := 93) (lv' := [(_, _), (_, _), (_, _), (_, _), (_, _), (_, _)]) F dX8_walk_93 5 rfl (congrArg _ ic_1) (by decide) rfl ?_
  refine g_goto (pc := 96) F 30 dX8_walk_96 (by decide) ?_
  exact g_weak [1, 2, 3, 4, 5, 0] rfl (hrec _ _ h)
def wX8_walk_30 (self : Nat → Nat → Int32 → Int32 → St → (St → Prop) → Prop) (x0 : Nat) (x1 : Nat) (x2 : Int32) (x3 : Int32) (x4 : Int32) (Q : St → Prop) : Nat → Int32 → St → Prop
  | 0, _, _ => False
  | n + 1, x5, s =>
  (((s.1 x1 0) ≤ x5 → Q s) ∧ (¬ (s.1 x1 0) ≤ x5 → (((5 : Int32) ≤ x2 → Q s) ∧ (¬ (5 : Int32) ≤ x2 → wX1_laneBetween x1 x4 x5 s (fun r_49 s_49 => ((r_49 = (-9 : Int32) → wX8_walk_93 self (wX8_walk_30 self x0 x1 x2 x3 x4 Q n) Q x0 x1 x2 x3 x4 x5 s_49) ∧ (¬ r_49 = (-9 : Int32) → wX8_onTrail x0 x5 x2 s_49 (fun r_65 s_65 => ((¬ r_65 = 0 → wX8_walk_93 self (wX8_walk_30 self x0 x1 x2 x3 x4 Q n) Q x0 x1 x2 x3 x4 x5 s_65) ∧ (r_65 = 0 → vp_in x2 5 ∧ ∀ s_78 : St, s_78 = stI s_65 (x0 + 7) x2.toNatClampNeg x5 → self x0 x1 (x2 + (1 : Int32)) (x3 ||| ((1 : Int32) <<< (r_49 &&& 31))) s_78 (fun s_90 => wX8_walk_93 self (wX8_walk_30 self x0 x1 x2 x3 x4 Q n) Q x0 x1 x2 x3 x4 x5 s_90)))))))))))
set_option maxHeartbeats 4000000 in
set_option maxRecDepth 100000 in
theorem bX8_walk_30 {l : Launch} {V : Wv} {X : Mx} {d : Nat} {self : Nat → Nat → Int32 → Int32 → St → (St → Prop) → Prop} {x0 : Nat} {x1 : Nat} {x2 : Int32} {x3 : Int32} {x4 : Int32} {Q : St → Prop} (F : Fx V X cX8_walk RX8 7 (2 + (d + 1))) (hR : RtV l V X 7 cX8_walk Q) (hx0 : isX8 V x0) (hx1 : isX1 V x1) (hself : ∀ (x0 : Nat) (x1 : Nat) (x2 : Int32) (x3 : Int32) (σ : St) (P : St → Prop), isX8 V x0 → isX1 V x1 →  self x0 x1 x2 x3 σ P → Cv yX8_walk cX8_walk 7 (2 + d) l V [rf V x0, rf V x1, .int x2, .int x3] σ P) : ∀ (n : Nat) (x5 : Int32) (s : St), wX8_walk_30 self x0 x1 x2 x3 x4 Q n x5 s → G l V X 7 30 [(0, rf V x0), (1, rf V x1), (2, .int x2), (3, .int x3), (4, .int x4), (5, .int x5)] [] s := by
  intro n
  induction n with
  | zero => intro x5 s h; unfold wX8_walk_30 at h; exact h.elim
  | succ n ih =>
    intro x5 s h
    unfold wX8_walk_30 at h
    refine g_iload (pc := 30) F dX8_walk_30 5 rfl ?_
    refine g_aload_n (pc := 32) F dX8_walk_32 rfl 1 rfl ?_
    refine g_getI (pc := 33) F clX1 hx1.1 0 rfl (by decide) uX8_37 dX8_walk_33 ?_
    refine g_icmp_ge (pc := 36) F 99 dX8_walk_36 (by decide) (fun c => ?_) (fun c => ?_)
    · have h := h.1 c
      exact hR _ _ _ dX8_walk_99 h
    · have h := h.2 c
      refine g_iload_n (pc := 39) F dX8_walk_39 rfl 2 rfl ?_
      refine g_iconst (pc := 40) F dX8_walk_40 ic_5 ?_
      refine g_icmp_ge (pc := 41) F 99 dX8_walk_41 (by decide) (fun c => ?_) (fun c => ?_)
      · have h := h.1 c
        exact hR _ _ _ dX8_walk_99 h
      · have h := h.2 c
        refine g_aload_n (pc := 44) F dX8_walk_44 rfl 1 rfl ?_
        refine g_iload (pc := 45) F dX8_walk_45 4 rfl ?_
        refine g_iload (pc := 47) F dX8_walk_47 5 rfl ?_
        refine g_callVi (pc := 49) F (mX1_laneBetween hx1 h) mvX1_laneBetween uX8_50 (by omega) clX1 hx1.1 rfl rfl (Nat.le_of_ble_eq_true rfl) dX8_walk_49 (fun r_49 s_49 h => ?_)
        refine g_istore (pc := 52) (lv' := [(_, _), (_, _), (_, _), (_, _), (_, _), (_, _), (_, _)]) F dX8_walk_52 (by decide) rfl ?_
        refine g_iload (pc := 54) F dX8_walk_54 0 rfl ?_
        refine g_bipush (pc := 56) F dX8_walk_56 bp_m9 ?_
        refine g_icmp_eq (pc := 58) F 93 dX8_walk_58 (by decide) (fun c => ?_) (fun c => ?_)
        · have h := h.1 c
          exact g_weak [1, 2, 3, 4, 5, 6] rfl (bX8_walk_93 F hR hx0 hx1 hself ih h)
        · have h := h.2 c
          refine g_aload_n (pc := 61) F dX8_walk_61 rfl 1 rfl ?_
          refine g_iload (pc := 62) F dX8_walk_62 6 rfl ?_
          refine g_iload_n (pc := 64) F dX8_walk_64 rfl 3 rfl ?_
          refine g_callVi (pc := 65) F (mX8_onTrail hx0 h) mvX8_onTrail uX8_54 (by omega) clX8 hx0.1 rfl rfl (Nat.le_of_ble_eq_true rfl) dX8_walk_65 (fun r_65 s_65 h => ?_)
          refine g_if_ne (pc := 68) F 93 dX8_walk_68 (by decide) (fun c => ?_) (fun c => ?_)
          · have h := h.1 c
            exact g_weak [1, 2, 3, 4, 5, 6] rfl (bX8_walk_93 F hR hx0 hx1 hself ih h)
          · have h := h.2 c
            refine g_aload_n (pc := 71) F dX8_walk_71 rfl 1 rfl ?_
            refine g_getR (pc := 72) F clX8 hx0.1 7 _ rfl (by decide) uX8_34 dX8_walk_72 ?_
            refine g_iload_n (pc := 75) F dX8_walk_75 rfl 3 rfl ?_
            refine g_iload (pc := 76) F dX8_walk_76 6 rfl ?_
            obtain ⟨hb_78, h⟩ := h
            have h := h _ rfl
            refine g_iast (pc := 78) F hx0.2.2.2.2.2.2.2 hb_78 dX8_walk_78 ?_
            refine g_aload_n (pc := 79) F dX8_walk_79 rfl 1 rfl ?_
            refine g_aload_n (pc := 80) F dX8_walk_80 rfl 2 rfl ?_
            refine g_iload_n (pc := 81) F dX8_walk_81 rfl 3 rfl ?_
            refine g_iconst (pc := 82) F dX8_walk_82 ic_1 ?_
            refine g_iadd (pc := 83) F dX8_walk_83 ?_
            refine g_iload_n (pc := 84) F dX8_walk_84 rfl 4 rfl ?_
            refine g_iconst (pc := 85) F dX8_walk_85 ic_1 ?_
            refine g_iload (pc := 86) F dX8_walk_86 0 rfl ?_
            refine g_ishl (pc := 88) F dX8_walk_88 ?_
            refine g_ior (pc := 89) F dX8_walk_89 ?_
            refine g_callSv (pc := 90) F (hself _ _ _ _ _ _ hx0 hx1 h) mvX8_walk uX8_42 (by omega)  rfl rfl (Nat.le_of_ble_eq_true rfl) dX8_walk_90 (fun s_90 h => ?_)
            exact g_weak [1, 2, 3, 4, 5, 6] rfl (bX8_walk_93 F hR hx0 hx1 hself ih h)
def wX8_walk_27 (self : Nat → Nat → Int32 → Int32 → St → (St → Prop) → Prop) (Q : St → Prop) (x0 : Nat) (x1 : Nat) (x2 : Int32) (x3 : Int32) (x4 : Int32) (s : St) : Prop :=
  (∃ k_30, wX8_walk_30 self x0 x1 x2 x3 x4  Q k_30 (0 : Int32) s)
set_option maxHeartbeats 4000000 in
set_option maxRecDepth 100000 in
theorem bX8_walk_27 {l : Launch} {V : Wv} {X : Mx} {d : Nat} {self : Nat → Nat → Int32 → Int32 → St → (St → Prop) → Prop} {Q : St → Prop} {x0 : Nat} {x1 : Nat} {x2 : Int32} {x3 : Int32} {x4 : Int32} (F : Fx V X cX8_walk RX8 7 (2 + (d + 1))) (hR : RtV l V X 7 cX8_walk Q) (hx0 : isX8 V x0) (hx1 : isX1 V x1) (hself : ∀ (x0 : Nat) (x1 : Nat) (x2 : Int32) (x3 : Int32) (σ : St) (P : St → Prop), isX8 V x0 → isX1 V x1 →  self x0 x1 x2 x3 σ P → Cv yX8_walk cX8_walk 7 (2 + d) l V [rf V x0, rf V x1, .int x2, .int x3] σ P) {s : St} (h : wX8_walk_27 self Q x0 x1 x2 x3 x4 s) : G l V X 7 27 [(0, rf V x0), (1, rf V x1), (2, .int x2), (3, .int x3), (4, .int x4)] [] s := by
  unfold wX8_walk_27 at h
  refine g_iconst (pc := 27) F dX8_walk_27 ic_0 ?_
  refine g_istore (pc := 28) (lv' := [(_, _), (_, _), (_, _), (_, _), (_, _), (_, _)]) F dX8_walk_28 (by decide) rfl ?_
  obtain ⟨k_30, h⟩ := h
  refine g_weak [1, 2, 3, 4, 5, 0] rfl (bX8_walk_30 F hR hx0 hx1 hself k_30 _ _ h)
def wX8_walk : Nat → Nat → Nat → Int32 → Int32 → St → (St → Prop) → Prop
  | 0, _, _, _, _, _, _ => False
  | d + 1, x0, x1, x2, x3, s, Q =>
  vp_in (x2 - (1 : Int32)) 5 ∧ vp_in (0 : Int32) 5 ∧ (((s.1 (x0 + 7) (x2 - (1 : Int32)).toNatClampNeg) ≤ (s.1 (x0 + 7) (0 : Int32).toNatClampNeg) → wX8_walk_27 (wX8_walk d) Q x0 x1 x2 x3 (s.1 (x0 + 7) (x2 - (1 : Int32)).toNatClampNeg) s) ∧ (¬ (s.1 (x0 + 7) (x2 - (1 : Int32)).toNatClampNeg) ≤ (s.1 (x0 + 7) (0 : Int32).toNatClampNeg) → wX8_addTrail x0 x2 x3 s (fun s_24 => wX8_walk_27 (wX8_walk d) Q x0 x1 x2 x3 (s.1 (x0 + 7) (x2 - (1 : Int32)).toNatClampNeg) s_24)))
set_option maxHeartbeats 4000000 in
set_option maxRecDepth 100000 in
theorem mX8_walk_all {l : Launch} {V : Wv} : ∀ (d : Nat) (x0 : Nat) (x1 : Nat) (x2 : Int32) (x3 : Int32) (s : St) (Q : St → Prop), isX8 V x0 → isX1 V x1 → wX8_walk d x0 x1 x2 x3 s Q → Cv yX8_walk cX8_walk 7 (2 + d) l V [rf V x0, rf V x1, .int x2, .int x3] s Q := by
  intro d
  induction d with
  | zero => intro x0 x1 x2 x3 s Q hx0 hx1 h; unfold wX8_walk at h; exact h.elim
  | succ d hself =>
    intro x0 x1 x2 x3 s Q hx0 hx1 h
    unfold wX8_walk at h
    refine Cv.of mvX8_walk.1 (Nat.le_of_ble_eq_true rfl) (fun X F hR => ?_)
    refine g_lv (lv' := [(_, _), (_, _), (_, _), (_, _)]) rfl ?_
    refine g_aload_n (pc := 0) F dX8_walk_0 rfl 0 rfl ?_
    refine g_getR (pc := 1) F clX8 hx0.1 7 _ rfl (by decide) uX8_34 dX8_walk_1 ?_
    refine g_iload_n (pc := 4) F dX8_walk_4 rfl 2 rfl ?_
    refine g_iconst (pc := 5) F dX8_walk_5 ic_1 ?_
    refine g_isub (pc := 6) F dX8_walk_6 ?_
    obtain ⟨hb_7, h⟩ := h
    refine g_iald (pc := 7) F hx0.2.2.2.2.2.2.2 hb_7 dX8_walk_7 ?_
    refine g_istore (pc := 8) (lv' := [(_, _), (_, _), (_, _), (_, _), (_, _)]) F dX8_walk_8 (by decide) rfl ?_
    refine g_iload (pc := 10) F dX8_walk_10 0 rfl ?_
    refine g_aload_n (pc := 12) F dX8_walk_12 rfl 1 rfl ?_
    refine g_getR (pc := 13) F clX8 hx0.1 7 _ rfl (by decide) uX8_34 dX8_walk_13 ?_
    refine g_iconst (pc := 16) F dX8_walk_16 ic_0 ?_
    obtain ⟨hb_17, h⟩ := h
    refine g_iald (pc := 17) F hx0.2.2.2.2.2.2.2 hb_17 dX8_walk_17 ?_
    refine g_icmp_le (pc := 18) F 27 dX8_walk_18 (by decide) (fun c => ?_) (fun c => ?_)
    · have h := h.1 c
      exact g_weak [1, 2, 3, 4, 0] rfl (bX8_walk_27 F hR hx0 hx1 hself h)
    · have h := h.2 c
      refine g_aload_n (pc := 21) F dX8_walk_21 rfl 1 rfl ?_
      refine g_iload_n (pc := 22) F dX8_walk_22 rfl 3 rfl ?_
      refine g_iload_n (pc := 23) F dX8_walk_23 rfl 4 rfl ?_
      refine g_callVv (pc := 24) F (mX8_addTrail hx0 h) mvX8_addTrail uX8_46 (by omega) clX8 hx0.1 rfl rfl (Nat.le_of_ble_eq_true rfl) dX8_walk_24 (fun s_24 h => ?_)
      exact g_weak [1, 2, 3, 4, 0] rfl (bX8_walk_27 F hR hx0 hx1 hself h)
theorem mX8_walk {l : Launch} {V : Wv} (d : Nat) {x0 : Nat} {x1 : Nat} {x2 : Int32} {x3 : Int32} {s : St} {Q : St → Prop} (hx0 : isX8 V x0) (hx1 : isX1 V x1) (h : wX8_walk d x0 x1 x2 x3 s Q) : Cv yX8_walk cX8_walk 7 (2 + d) l V [rf V x0, rf V x1, .int x2, .int x3] s Q := mX8_walk_all d x0 x1 x2 x3 s Q hx0 hx1 h
def wX8_find_7 (x0 : Nat) (x1 : Nat) (Q : St → Prop) : Nat → Int32 → St → Prop
  | 0, _, _ => False
  | n + 1, x2, s =>
  (((s.1 x1 0) ≤ x2 → Q s) ∧ (¬ (s.1 x1 0) ≤ x2 → vp_in (0 : Int32) 5 ∧ ∀ s_21 : St, s_21 = stI s (x0 + 7) (0 : Int32).toNatClampNeg x2 → ∃ d, d ≤ 7 ∧ wX8_walk d x0 x1 (1 : Int32) (0 : Int32) s_21 (fun s_26 => wX8_find_7 x0 x1 Q n (x2 + (1 : Int32)) s_26)))
set_option maxHeartbeats 4000000 in
set_option maxRecDepth 100000 in
theorem bX8_find_7 {l : Launch} {V : Wv} {X : Mx} {x0 : Nat} {x1 : Nat} {Q : St → Prop} (F : Fx V X cX8_find RX8 3 10) (hR : RtV l V X 3 cX8_find Q) (hx0 : isX8 V x0) (hx1 : isX1 V x1)  : ∀ (n : Nat) (x2 : Int32) (s : St), wX8_find_7 x0 x1 Q n x2 s → G l V X 3 7 [(0, rf V x0), (1, rf V x1), (2, .int x2)] [] s := by
  intro n
  induction n with
  | zero => intro x2 s h; unfold wX8_find_7 at h; exact h.elim
  | succ n ih =>
    intro x2 s h
    unfold wX8_find_7 at h
    refine g_iload_n (pc := 7) F dX8_find_7 rfl 2 rfl ?_
    refine g_aload_n (pc := 8) F dX8_find_8 rfl 1 rfl ?_
    refine g_getI (pc := 9) F clX1 hx1.1 0 rfl (by decide) uX8_37 dX8_find_9 ?_
    refine g_icmp_ge (pc := 12) F 35 dX8_find_12 (by decide) (fun c => ?_) (fun c => ?_)
    · have h := h.1 c
      exact hR _ _ _ dX8_find_35 h
    · have h := h.2 c
      refine g_aload_n (pc := 15) F dX8_find_15 rfl 0 rfl ?_
      refine g_getR (pc := 16) F clX8 hx0.1 7 _ rfl (by decide) uX8_34 dX8_find_16 ?_
      refine g_iconst (pc := 19) F dX8_find_19 ic_0 ?_
      refine g_iload_n (pc := 20) F dX8_find_20 rfl 2 rfl ?_
      obtain ⟨hb_21, h⟩ := h
      have h := h _ rfl
      refine g_iast (pc := 21) F hx0.2.2.2.2.2.2.2 hb_21 dX8_find_21 ?_
      refine g_aload_n (pc := 22) F dX8_find_22 rfl 0 rfl ?_
      refine g_aload_n (pc := 23) F dX8_find_23 rfl 1 rfl ?_
      refine g_iconst (pc := 24) F dX8_find_24 ic_1 ?_
      refine g_iconst (pc := 25) F dX8_find_25 ic_0 ?_
      obtain ⟨d_26, hd_26, h⟩ := h
      refine g_callSv (pc := 26) F (mX8_walk d_26 hx0 hx1 h) mvX8_walk uX8_42 (by omega)  rfl rfl (Nat.le_of_ble_eq_true rfl) dX8_find_26 (fun s_26 h => ?_)
      refine g_iinc (pc := 29) (lv' := [(_, _), (_, _), (_, _)]) F dX8_find_29 2 rfl (congrArg _ ic_1) (by decide) rfl ?_
      refine g_goto (pc := 32) F 7 dX8_find_32 (by decide) ?_
      exact g_weak [1, 2, 0] rfl (ih _ _ h)
def wX8_find (x0 : Nat) (x1 : Nat) (s : St) (Q : St → Prop) : Prop :=
  ∀ s_2 : St, s_2 = stI s x0 0 (0 : Int32) → (∃ k_7, wX8_find_7  x0 x1  Q k_7 (0 : Int32) s_2)
set_option maxHeartbeats 4000000 in
set_option maxRecDepth 100000 in
theorem mX8_find {l : Launch} {V : Wv} {x0 : Nat} {x1 : Nat} {s : St} {Q : St → Prop} (hx0 : isX8 V x0) (hx1 : isX1 V x1) (h : wX8_find x0 x1 s Q) : Cv yX8_find cX8_find 3 (10) l V [rf V x0, rf V x1] s Q := by
  unfold wX8_find at h
  refine Cv.of mvX8_find.1 (Nat.le_of_ble_eq_true rfl) (fun X F hR => ?_)
  refine g_lv (lv' := [(_, _), (_, _)]) rfl ?_
  refine g_aload_n (pc := 0) F dX8_find_0 rfl 0 rfl ?_
  refine g_iconst (pc := 1) F dX8_find_1 ic_0 ?_
  have h := h _ rfl
  refine g_putI (pc := 2) F clX8 hx0.1 0 rfl (by decide) rfl (tyX8_ok 0 (by decide)) uX8_9 dX8_find_2 ?_
  refine g_iconst (pc := 5) F dX8_find_5 ic_0 ?_
  refine g_istore_n (pc := 6) (lv' := [(_, _), (_, _), (_, _)]) F dX8_find_6 rfl (by decide) rfl ?_
  obtain ⟨k_7, h⟩ := h
  refine g_weak [1, 2, 0] rfl (bX8_find_7 F hR hx0 hx1 k_7 _ _ h)
def wX8_measure_2 (x0 : Nat) (x1 : Nat) (x2 : Nat) (n2 : Nat) (K25 : St → Prop) (Q : St → Prop) : Nat → Int32 → St → Prop
  | 0, _, _ => False
  | n + 1, x3, s =>
  (((25 : Int32) ≤ x3 → K25  s) ∧ (¬ (25 : Int32) ≤ x3 → vp_in x3 25 ∧ ∀ s_18 : St, s_18 = stI s (x0 + 6) x3.toNatClampNeg (-9 : Int32) → wX8_measure_2 x0 x1 x2 n2 K25 Q n (x3 + (1 : Int32)) s_18))
set_option maxHeartbeats 4000000 in
set_option maxRecDepth 100000 in
theorem bX8_measure_2 {l : Launch} {V : Wv} {X : Mx} {x0 : Nat} {x1 : Nat} {x2 : Nat} {n2 : Nat} {K25 : St → Prop} {Q : St → Prop} (F : Fx V X cX8_measure RX8 5 1) (hR : RtV l V X 5 cX8_measure Q) (hx0 : isX8 V x0) (hx1 : isX1 V x1) (hx2 : V.2.1[x2]? = some (11, [n2])) (hK25 : ∀  (s : St), K25  s → G l V X 5 25 [(0, rf V x0), (1, rf V x1), (2, rf V x2)] [] s) : ∀ (n : Nat) (x3 : Int32) (s : St), wX8_measure_2 x0 x1 x2 n2 K25 Q n x3 s → G l V X 5 2 [(0, rf V x0), (1, rf V x1), (2, rf V x2), (3, .int x3)] [] s := by
  intro n
  induction n with
  | zero => intro x3 s h; unfold wX8_measure_2 at h; exact h.elim
  | succ n ih =>
    intro x3 s h
    unfold wX8_measure_2 at h
    refine g_iload_n (pc := 2) F dX8_measure_2 rfl 3 rfl ?_
    refine g_aload_n (pc := 3) F dX8_measure_3 rfl 0 rfl ?_
    refine g_getR (pc := 4) F clX8 hx0.1 6 _ rfl (by decide) uX8_31 dX8_measure_4 ?_
    refine g_alen (pc := 7) F hx0.2.2.2.2.2.2.1 al_25 dX8_measure_7 ?_
    refine g_icmp_ge (pc := 8) F 25 dX8_measure_8 (by decide) (fun c => ?_) (fun c => ?_)
    · have h := h.1 c
      exact g_weak [0, 1, 2] rfl (hK25 _ h)
    · have h := h.2 c
      refine g_aload_n (pc := 11) F dX8_measure_11 rfl 0 rfl ?_
      refine g_getR (pc := 12) F clX8 hx0.1 6 _ rfl (by decide) uX8_31 dX8_measure_12 ?_
      refine g_iload_n (pc := 15) F dX8_measure_15 rfl 3 rfl ?_
      refine g_bipush (pc := 16) F dX8_measure_16 bp_m9 ?_
      obtain ⟨hb_18, h⟩ := h
      have h := h _ rfl
      refine g_iast (pc := 18) F hx0.2.2.2.2.2.2.1 hb_18 dX8_measure_18 ?_
      refine g_iinc (pc := 19) (lv' := [(_, _), (_, _), (_, _), (_, _)]) F dX8_measure_19 3 rfl (congrArg _ ic_1) (by decide) rfl ?_
      refine g_goto (pc := 22) F 2 dX8_measure_22 (by decide) ?_
      exact g_weak [1, 2, 3, 0] rfl (ih _ _ h)
def wX8_measure_102 (rec : Int32 → St → Prop) (Q : St → Prop) (x0 : Nat) (x1 : Nat) (x2 : Nat) (n2 : Nat) (x3 : Int32) (t0 : Int32) (t1 : Int32) (t2 : Nat) (s : St) : Prop :=
  vp_in t1 25 ∧ ∀ s_102 : St, s_102 = stI s t2 t1.toNatClampNeg t0 → rec (x3 + (1 : Int32)) s_102
set_option maxHeartbeats 4000000 in
set_option maxRecDepth 100000 in
theorem bX8_measure_102 {l : Launch} {V : Wv} {X : Mx} {rec : Int32 → St → Prop} {Q : St → Prop} {x0 : Nat} {x1 : Nat} {x2 : Nat} {n2 : Nat} {x3 : Int32} {t0 : Int32} {t1 : Int32} {t2 : Nat} (F : Fx V X cX8_measure RX8 5 1) (hR : RtV l V X 5 cX8_measure Q) (hx0 : isX8 V x0) (hx1 : isX1 V x1) (hx2 : V.2.1[x2]? = some (11, [n2])) (ht2 : V.2.1[t2]? = some (11, [25])) (hrec : ∀ (y3 : Int32) (s : St), rec y3 s → G l V X 5 27 [(0, rf V x0), (1, rf V x1), (2, rf V x2), (3, .int y3)] [] s) {s : St} (h : wX8_measure_102 rec Q x0 x1 x2 n2 x3 t0 t1 t2 s) : G l V X 5 102 [(0, rf V x0), (1, rf V x1), (2, rf V x2), (3, .int x3)] [.int t0, .int t1, rf V t2] s := by
  unfold wX8_measure_102 at h
  obtain ⟨hb_102, h⟩ := h
  have h := h _ rfl
  refine g_iast (pc := 102) F ht2 hb_102 dX8_measure_102 ?_
  refine g_iinc (pc := 103) (lv' := [(_, _), (_, _), (_, _), (_, _)]) F dX8_measure_103 3 rfl (congrArg _ ic_1) (by decide) rfl ?_
  refine g_goto (pc := 106) F 27 dX8_measure_106 (by decide) ?_
  exact g_weak [1, 2, 3, 0] rfl (hrec _ _ h)
def wX8_measure_27 (x0 : Nat) (x1 : Nat) (x2 : Nat) (n2 : Nat) (Q : St → Prop) : Nat → Int32 → St → Prop
  | 0, _, _ => False
  | n + 1, x3, s =>
  (((s.1 x0 0) ≤ x3 → Q s) ∧ (¬ (s.1 x0 0) ≤ x3 → vp_in x3 33 ∧ wX1_lengthOf x1 (s.1 (x0 + 4) x3.toNatClampNeg) x2 n2 s (fun r_48 s_48 => vp_in x3 33 ∧ ∀ s_51 : St, s_51 = stI s_48 (x0 + 5) x3.toNatClampNeg r_48 → vp_in x3 33 ∧ vp_in (s_51.1 (x0 + 3) x3.toNatClampNeg) 25 ∧ vp_in x3 33 ∧ ((¬ (s_51.1 (x0 + 6) (s_51.1 (x0 + 3) x3.toNatClampNeg).toNatClampNeg) = (-9 : Int32) → vp_in x3 33 ∧ wX8_measure_102 (wX8_measure_27 x0 x1 x2 n2 Q n) Q x0 x1 x2 n2 x3 (if (s_51.1 (x0 + 5) x3.toNatClampNeg) < (s_51.1 (x0 + 6) (s_51.1 (x0 + 3) x3.toNatClampNeg).toNatClampNeg) then (s_51.1 (x0 + 5) x3.toNatClampNeg) else (s_51.1 (x0 + 6) (s_51.1 (x0 + 3) x3.toNatClampNeg).toNatClampNeg)) (s_51.1 (x0 + 3) x3.toNatClampNeg) (x0 + 6) s_51) ∧ ((s_51.1 (x0 + 6) (s_51.1 (x0 + 3) x3.toNatClampNeg).toNatClampNeg) = (-9 : Int32) → vp_in x3 33 ∧ wX8_measure_102 (wX8_measure_27 x0 x1 x2 n2 Q n) Q x0 x1 x2 n2 x3 (s_51.1 (x0 + 5) x3.toNatClampNeg) (s_51.1 (x0 + 3) x3.toNatClampNeg) (x0 + 6) s_51)))))
set_option maxHeartbeats 4000000 in
set_option maxRecDepth 100000 in
theorem bX8_measure_27 {l : Launch} {V : Wv} {X : Mx} {x0 : Nat} {x1 : Nat} {x2 : Nat} {n2 : Nat} {Q : St → Prop} (F : Fx V X cX8_measure RX8 5 1) (hR : RtV l V X 5 cX8_measure Q) (hx0 : isX8 V x0) (hx1 : isX1 V x1) (hx2 : V.2.1[x2]? = some (11, [n2]))  : ∀ (n : Nat) (x3 : Int32) (s : St), wX8_measure_27 x0 x1 x2 n2 Q n x3 s → G l V X 5 27 [(0, rf V x0), (1, rf V x1), (2, rf V x2), (3, .int x3)] [] s := by
  intro n
  induction n with
  | zero => intro x3 s h; unfold wX8_measure_27 at h; exact h.elim
  | succ n ih =>
    intro x3 s h
    unfold wX8_measure_27 at h
    refine g_iload_n (pc := 27) F dX8_measure_27 rfl 3 rfl ?_
    refine g_aload_n (pc := 28) F dX8_measure_28 rfl 0 rfl ?_
    refine g_getI (pc := 29) F clX8 hx0.1 0 rfl (by decide) uX8_9 dX8_measure_29 ?_
    refine g_icmp_ge (pc := 32) F 109 dX8_measure_32 (by decide) (fun c => ?_) (fun c => ?_)
    · have h := h.1 c
      exact hR _ _ _ dX8_measure_109 h
    · have h := h.2 c
      refine g_aload_n (pc := 35) F dX8_measure_35 rfl 0 rfl ?_
      refine g_getR (pc := 36) F clX8 hx0.1 5 _ rfl (by decide) uX8_28 dX8_measure_36 ?_
      refine g_iload_n (pc := 39) F dX8_measure_39 rfl 3 rfl ?_
      refine g_aload_n (pc := 40) F dX8_measure_40 rfl 1 rfl ?_
      refine g_aload_n (pc := 41) F dX8_measure_41 rfl 0 rfl ?_
      refine g_getR (pc := 42) F clX8 hx0.1 4 _ rfl (by decide) uX8_25 dX8_measure_42 ?_
      refine g_iload_n (pc := 45) F dX8_measure_45 rfl 3 rfl ?_
      obtain ⟨hb_46, h⟩ := h
      refine g_iald (pc := 46) F hx0.2.2.2.2.1 hb_46 dX8_measure_46 ?_
      refine g_aload_n (pc := 47) F dX8_measure_47 rfl 2 rfl ?_
      refine g_callVi (pc := 48) F (mX1_lengthOf hx1 hx2 h) mvX1_lengthOf uX8_64 (by decide) clX1 hx1.1 rfl rfl (Nat.le_of_ble_eq_true rfl) dX8_measure_48 (fun r_48 s_48 h => ?_)
      obtain ⟨hb_51, h⟩ := h
      have h := h _ rfl
      refine g_iast (pc := 51) F hx0.2.2.2.2.2.1 hb_51 dX8_measure_51 ?_
      refine g_aload_n (pc := 52) F dX8_measure_52 rfl 0 rfl ?_
      refine g_getR (pc := 53) F clX8 hx0.1 6 _ rfl (by decide) uX8_31 dX8_measure_53 ?_
      refine g_aload_n (pc := 56) F dX8_measure_56 rfl 0 rfl ?_
      refine g_getR (pc := 57) F clX8 hx0.1 3 _ rfl (by decide) uX8_22 dX8_measure_57 ?_
      refine g_iload_n (pc := 60) F dX8_measure_60 rfl 3 rfl ?_
      obtain ⟨hb_61, h⟩ := h
      refine g_iald (pc := 61) F hx0.2.2.2.1 hb_61 dX8_measure_61 ?_
      obtain ⟨hb_62, h⟩ := h
      refine g_iald (pc := 62) F hx0.2.2.2.2.2.2.1 hb_62 dX8_measure_62 ?_
      refine g_istore (pc := 63) (lv' := [(_, _), (_, _), (_, _), (_, _), (_, _)]) F dX8_measure_63 (by decide) rfl ?_
      refine g_aload_n (pc := 65) F dX8_measure_65 rfl 1 rfl ?_
      refine g_getR (pc := 66) F clX8 hx0.1 6 _ rfl (by decide) uX8_31 dX8_measure_66 ?_
      refine g_aload_n (pc := 69) F dX8_measure_69 rfl 1 rfl ?_
      refine g_getR (pc := 70) F clX8 hx0.1 3 _ rfl (by decide) uX8_22 dX8_measure_70 ?_
      refine g_iload_n (pc := 73) F dX8_measure_73 rfl 4 rfl ?_
      obtain ⟨hb_74, h⟩ := h
      refine g_iald (pc := 74) F hx0.2.2.2.1 hb_74 dX8_measure_74 ?_
      refine g_iload (pc := 75) F dX8_measure_75 0 rfl ?_
      refine g_bipush (pc := 77) F dX8_measure_77 bp_m9 ?_
      refine g_icmp_ne (pc := 79) F 91 dX8_measure_79 (by decide) (fun c => ?_) (fun c => ?_)
      · have h := h.1 c
        refine g_iload (pc := 91) F dX8_measure_91 0 rfl ?_
        refine g_aload_n (pc := 93) F dX8_measure_93 rfl 1 rfl ?_
        refine g_getR (pc := 94) F clX8 hx0.1 5 _ rfl (by decide) uX8_28 dX8_measure_94 ?_
        refine g_iload_n (pc := 97) F dX8_measure_97 rfl 4 rfl ?_
        obtain ⟨hb_98, h⟩ := h
        refine g_iald (pc := 98) F hx0.2.2.2.2.2.1 hb_98 dX8_measure_98 ?_
        refine g_min (pc := 99) F (by decide) (Nat.le_of_ble_eq_true rfl) uX8_68 dX8_measure_99 ?_
        exact g_weak [1, 2, 3, 4] rfl (bX8_measure_102 F hR hx0 hx1 hx2 hx0.2.2.2.2.2.2.1 ih h)
      · have h := h.2 c
        refine g_aload_n (pc := 82) F dX8_measure_82 rfl 1 rfl ?_
        refine g_getR (pc := 83) F clX8 hx0.1 5 _ rfl (by decide) uX8_28 dX8_measure_83 ?_
        refine g_iload_n (pc := 86) F dX8_measure_86 rfl 4 rfl ?_
        obtain ⟨hb_87, h⟩ := h
        refine g_iald (pc := 87) F hx0.2.2.2.2.2.1 hb_87 dX8_measure_87 ?_
        refine g_goto (pc := 88) F 102 dX8_measure_88 (by decide) ?_
        exact g_weak [1, 2, 3, 4] rfl (bX8_measure_102 F hR hx0 hx1 hx2 hx0.2.2.2.2.2.2.1 ih h)
def wX8_measure (x0 : Nat) (x1 : Nat) (x2 : Nat) (n2 : Nat) (s : St) (Q : St → Prop) : Prop :=
  (∃ k_2, wX8_measure_2  x0 x1 x2 n2 (fun  s_k25 => (∃ k_27, wX8_measure_27  x0 x1 x2 n2  Q k_27 (0 : Int32) s_k25)) Q k_2 (0 : Int32) s)
set_option maxHeartbeats 4000000 in
set_option maxRecDepth 100000 in
theorem mX8_measure {l : Launch} {V : Wv} {x0 : Nat} {x1 : Nat} {x2 : Nat} {n2 : Nat} {s : St} {Q : St → Prop} (hx0 : isX8 V x0) (hx1 : isX1 V x1) (hx2 : V.2.1[x2]? = some (11, [n2])) (h : wX8_measure x0 x1 x2 n2 s Q) : Cv yX8_measure cX8_measure 5 (1) l V [rf V x0, rf V x1, rf V x2] s Q := by
  unfold wX8_measure at h
  refine Cv.of mvX8_measure.1 (Nat.le_of_ble_eq_true rfl) (fun X F hR => ?_)
  refine g_lv (lv' := [(_, _), (_, _), (_, _)]) rfl ?_
  refine g_iconst (pc := 0) F dX8_measure_0 ic_0 ?_
  refine g_istore_n (pc := 1) (lv' := [(_, _), (_, _), (_, _), (_, _)]) F dX8_measure_1 rfl (by decide) rfl ?_
  obtain ⟨k_2, h⟩ := h
  refine g_weak [1, 2, 3, 0] rfl (bX8_measure_2 F hR hx0 hx1 hx2 (fun  s_k25 h => ?_) k_2 _ _ h)
  · refine g_iconst (pc := 25) F dX8_measure_25 ic_0 ?_
    refine g_istore_n (pc := 26) (lv' := [(_, _), (_, _), (_, _), (_, _)]) F dX8_measure_26 rfl (by decide) rfl ?_
    obtain ⟨k_27, h⟩ := h
    refine g_weak [1, 2, 3, 0] rfl (bX8_measure_27 F hR hx0 hx1 hx2 k_27 _ _ h)
def wX8_leastBetween (x0 : Nat) (x1 : Int32) (x2 : Int32) (s : St) (Q : Int32 → St → Prop) : Prop :=
  vp_in (((if x2 < x1 then x2 else x1) * (5 : Int32)) + (if x1 < x2 then x2 else x1)) 25 ∧ Q (s.1 (x0 + 6) (((if x2 < x1 then x2 else x1) * (5 : Int32)) + (if x1 < x2 then x2 else x1)).toNatClampNeg) s
set_option maxHeartbeats 4000000 in
set_option maxRecDepth 100000 in
theorem mX8_leastBetween {l : Launch} {V : Wv} {x0 : Nat} {x1 : Int32} {x2 : Int32} {s : St} {Q : Int32 → St → Prop} (hx0 : isX8 V x0) (h : wX8_leastBetween x0 x1 x2 s Q) : Ci yX8_leastBetween cX8_leastBetween 3 (some .int) (1) l V [rf V x0, .int x1, .int x2] s Q := by
  unfold wX8_leastBetween at h
  refine Ci.of mvX8_leastBetween.1 (Nat.le_of_ble_eq_true rfl) (fun X F hR => ?_)
  refine g_lv (lv' := [(_, _), (_, _), (_, _)]) rfl ?_
  refine g_aload_n (pc := 0) F dX8_leastBetween_0 rfl 0 rfl ?_
  refine g_getR (pc := 1) F clX8 hx0.1 6 _ rfl (by decide) uX8_31 dX8_leastBetween_1 ?_
  refine g_iload_n (pc := 4) F dX8_leastBetween_4 rfl 1 rfl ?_
  refine g_iload_n (pc := 5) F dX8_leastBetween_5 rfl 2 rfl ?_
  refine g_min (pc := 6) F (by decide) (Nat.le_of_ble_eq_true rfl) uX8_68 dX8_leastBetween_6 ?_
  refine g_iconst (pc := 9) F dX8_leastBetween_9 ic_5 ?_
  refine g_imul (pc := 10) F dX8_leastBetween_10 ?_
  refine g_iload_n (pc := 11) F dX8_leastBetween_11 rfl 1 rfl ?_
  refine g_iload_n (pc := 12) F dX8_leastBetween_12 rfl 2 rfl ?_
  refine g_max (pc := 13) F (by decide) (Nat.le_of_ble_eq_true rfl) uX8_73 dX8_leastBetween_13 ?_
  refine g_iadd (pc := 16) F dX8_leastBetween_16 ?_
  obtain ⟨hb_17, h⟩ := h
  refine g_iald (pc := 17) F hx0.2.2.2.2.2.2.1 hb_17 dX8_leastBetween_17 ?_
  exact hR _ _ _ _ dX8_leastBetween_18 h
def wX8_shortestBetween_52 (rec : Int32 → Int32 → St → Prop) (Q : Int32 → St → Prop) (x0 : Nat) (x3 : Int32) (x4 : Int32) (x5 : Int32) (s : St) : Prop :=
  rec x4 (x5 + (1 : Int32)) s
set_option maxHeartbeats 4000000 in
set_option maxRecDepth 100000 in
theorem bX8_shortestBetween_52 {l : Launch} {V : Wv} {X : Mx} {rec : Int32 → Int32 → St → Prop} {Q : Int32 → St → Prop} {x0 : Nat} {x3 : Int32} {x4 : Int32} {x5 : Int32} (F : Fx V X cX8_shortestBetween RX8 6 1) (hR : RtI l V X 6 cX8_shortestBetween Q) (hx0 : isX8 V x0) (hrec : ∀ (y4 : Int32) (y5 : Int32) (s : St), rec y4 y5 s → G l V X 6 20 [(0, rf V x0), (3, .int x3), (4, .int y4), (5, .int y5)] [] s) {s : St} (h : wX8_shortestBetween_52 rec Q x0 x3 x4 x5 s) : G l V X 6 52 [(0, rf V x0), (3, .int x3), (4, .int x4), (5, .int x5)] [] s := by
  unfold wX8_shortestBetween_52 at h
  refine g_iinc (pc := 52) (lv' := [(_, _), (_, _), (_, _), (_, _)]) F dX8_shortestBetween_52 3 rfl (congrArg _ ic_1) (by decide) rfl ?_
  refine g_goto (pc := 55) F 20 dX8_shortestBetween_55 (by decide) ?_
  exact g_weak [1, 2, 3, 0] rfl (hrec _ _ _ h)
def wX8_shortestBetween_20 (x0 : Nat) (x3 : Int32) (Q : Int32 → St → Prop) : Nat → Int32 → Int32 → St → Prop
  | 0, _, _, _ => False
  | n + 1, x4, x5, s =>
  (((s.1 x0 0) ≤ x5 → Q x4 s) ∧ (¬ (s.1 x0 0) ≤ x5 → vp_in x5 33 ∧ ((¬ (s.1 (x0 + 3) x5.toNatClampNeg) = x3 → wX8_shortestBetween_52 (wX8_shortestBetween_20 x0 x3 Q n) Q x0 x3 x4 x5 s) ∧ ((s.1 (x0 + 3) x5.toNatClampNeg) = x3 → wX8_isShortest x0 x5 s (fun r_43 s_43 => ((r_43 = 0 → wX8_shortestBetween_52 (wX8_shortestBetween_20 x0 x3 Q n) Q x0 x3 x4 x5 s_43) ∧ (¬ r_43 = 0 → wX8_shortestBetween_52 (wX8_shortestBetween_20 x0 x3 Q n) Q x0 x3 (x4 + (1 : Int32)) x5 s_43)))))))
set_option maxHeartbeats 4000000 in
set_option maxRecDepth 100000 in
theorem bX8_shortestBetween_20 {l : Launch} {V : Wv} {X : Mx} {x0 : Nat} {x3 : Int32} {Q : Int32 → St → Prop} (F : Fx V X cX8_shortestBetween RX8 6 1) (hR : RtI l V X 6 cX8_shortestBetween Q) (hx0 : isX8 V x0)  : ∀ (n : Nat) (x4 : Int32) (x5 : Int32) (s : St), wX8_shortestBetween_20 x0 x3 Q n x4 x5 s → G l V X 6 20 [(0, rf V x0), (3, .int x3), (4, .int x4), (5, .int x5)] [] s := by
  intro n
  induction n with
  | zero => intro x4 x5 s h; unfold wX8_shortestBetween_20 at h; exact h.elim
  | succ n ih =>
    intro x4 x5 s h
    unfold wX8_shortestBetween_20 at h
    refine g_iload (pc := 20) F dX8_shortestBetween_20 3 rfl ?_
    refine g_aload_n (pc := 22) F dX8_shortestBetween_22 rfl 0 rfl ?_
    refine g_getI (pc := 23) F clX8 hx0.1 0 rfl (by decide) uX8_9 dX8_shortestBetween_23 ?_
    refine g_icmp_ge (pc := 26) F 58 dX8_shortestBetween_26 (by decide) (fun c => ?_) (fun c => ?_)
    · have h := h.1 c
      refine g_iload (pc := 58) F dX8_shortestBetween_58 2 rfl ?_
      exact hR _ _ _ _ dX8_shortestBetween_60 h
    · have h := h.2 c
      refine g_aload_n (pc := 29) F dX8_shortestBetween_29 rfl 0 rfl ?_
      refine g_getR (pc := 30) F clX8 hx0.1 3 _ rfl (by decide) uX8_22 dX8_shortestBetween_30 ?_
      refine g_iload (pc := 33) F dX8_shortestBetween_33 3 rfl ?_
      obtain ⟨hb_35, h⟩ := h
      refine g_iald (pc := 35) F hx0.2.2.2.1 hb_35 dX8_shortestBetween_35 ?_
      refine g_iload_n (pc := 36) F dX8_shortestBetween_36 rfl 1 rfl ?_
      refine g_icmp_ne (pc := 37) F 52 dX8_shortestBetween_37 (by decide) (fun c => ?_) (fun c => ?_)
      · have h := h.1 c
        exact g_weak [0, 1, 2, 3] rfl (bX8_shortestBetween_52 F hR hx0 ih h)
      · have h := h.2 c
        refine g_aload_n (pc := 40) F dX8_shortestBetween_40 rfl 0 rfl ?_
        refine g_iload (pc := 41) F dX8_shortestBetween_41 3 rfl ?_
        refine g_callVi (pc := 43) F (mX8_isShortest hx0 h) mvX8_isShortest uX8_76 (by decide) clX8 hx0.1 rfl rfl (Nat.le_of_ble_eq_true rfl) dX8_shortestBetween_43 (fun r_43 s_43 h => ?_)
        refine g_if_eq (pc := 46) F 52 dX8_shortestBetween_46 (by decide) (fun c => ?_) (fun c => ?_)
        · have h := h.1 c
          exact g_weak [0, 1, 2, 3] rfl (bX8_shortestBetween_52 F hR hx0 ih h)
        · have h := h.2 c
          refine g_iinc (pc := 49) (lv' := [(_, _), (_, _), (_, _), (_, _)]) F dX8_shortestBetween_49 2 rfl (congrArg _ ic_1) (by decide) rfl ?_
          exact g_weak [1, 2, 0, 3] rfl (bX8_shortestBetween_52 F hR hx0 ih h)
def wX8_shortestBetween (x0 : Nat) (x1 : Int32) (x2 : Int32) (s : St) (Q : Int32 → St → Prop) : Prop :=
  (∃ k_20, wX8_shortestBetween_20  x0 (((if x2 < x1 then x2 else x1) * (5 : Int32)) + (if x1 < x2 then x2 else x1))  Q k_20 (0 : Int32) (0 : Int32) s)
set_option maxHeartbeats 4000000 in
set_option maxRecDepth 100000 in
theorem mX8_shortestBetween {l : Launch} {V : Wv} {x0 : Nat} {x1 : Int32} {x2 : Int32} {s : St} {Q : Int32 → St → Prop} (hx0 : isX8 V x0) (h : wX8_shortestBetween x0 x1 x2 s Q) : Ci yX8_shortestBetween cX8_shortestBetween 6 (some .int) (1) l V [rf V x0, .int x1, .int x2] s Q := by
  unfold wX8_shortestBetween at h
  refine Ci.of mvX8_shortestBetween.1 (Nat.le_of_ble_eq_true rfl) (fun X F hR => ?_)
  refine g_lv (lv' := [(_, _), (_, _), (_, _)]) rfl ?_
  refine g_iload_n (pc := 0) F dX8_shortestBetween_0 rfl 1 rfl ?_
  refine g_iload_n (pc := 1) F dX8_shortestBetween_1 rfl 2 rfl ?_
  refine g_min (pc := 2) F (by decide) (Nat.le_of_ble_eq_true rfl) uX8_68 dX8_shortestBetween_2 ?_
  refine g_iconst (pc := 5) F dX8_shortestBetween_5 ic_5 ?_
  refine g_imul (pc := 6) F dX8_shortestBetween_6 ?_
  refine g_iload_n (pc := 7) F dX8_shortestBetween_7 rfl 1 rfl ?_
  refine g_iload_n (pc := 8) F dX8_shortestBetween_8 rfl 2 rfl ?_
  refine g_max (pc := 9) F (by decide) (Nat.le_of_ble_eq_true rfl) uX8_73 dX8_shortestBetween_9 ?_
  refine g_iadd (pc := 12) F dX8_shortestBetween_12 ?_
  refine g_istore_n (pc := 13) (lv' := [(_, _), (_, _), (_, _), (_, _)]) F dX8_shortestBetween_13 rfl (by decide) rfl ?_
  refine g_iconst (pc := 14) F dX8_shortestBetween_14 ic_0 ?_
  refine g_istore (pc := 15) (lv' := [(_, _), (_, _), (_, _), (_, _), (_, _)]) F dX8_shortestBetween_15 (by decide) rfl ?_
  refine g_iconst (pc := 17) F dX8_shortestBetween_17 ic_0 ?_
  refine g_istore (pc := 18) (lv' := [(_, _), (_, _), (_, _), (_, _), (_, _), (_, _)]) F dX8_shortestBetween_18 (by decide) rfl ?_
  obtain ⟨k_20, h⟩ := h
  refine g_weak [3, 2, 1, 0] rfl (bX8_shortestBetween_20 F hR hx0 k_20 _ _ _ h)
def wX8_placeAt (x0 : Nat) (x1 : Int32) (x2 : Int32) (s : St) (Q : Int32 → St → Prop) : Prop :=
  ((x1 < 0 → Q (-9 : Int32) s) ∧ (¬ x1 < 0 → (((s.1 x0 0) ≤ x1 → Q (-9 : Int32) s) ∧ (¬ (s.1 x0 0) ≤ x1 → ((x2 < 0 → Q (-9 : Int32) s) ∧ (¬ x2 < 0 → vp_in x1 33 ∧ (((s.1 (x0 + 2) x1.toNatClampNeg) ≤ x2 → Q (-9 : Int32) s) ∧ (¬ (s.1 (x0 + 2) x1.toNatClampNeg) ≤ x2 → vp_in ((x1 * (5 : Int32)) + x2) 165 ∧ Q (s.1 (x0 + 1) ((x1 * (5 : Int32)) + x2).toNatClampNeg) s))))))))
set_option maxHeartbeats 4000000 in
set_option maxRecDepth 100000 in
theorem mX8_placeAt {l : Launch} {V : Wv} {x0 : Nat} {x1 : Int32} {x2 : Int32} {s : St} {Q : Int32 → St → Prop} (hx0 : isX8 V x0) (h : wX8_placeAt x0 x1 x2 s Q) : Ci yX8_placeAt cX8_placeAt 3 (some .int) (0) l V [rf V x0, .int x1, .int x2] s Q := by
  unfold wX8_placeAt at h
  refine Ci.of mvX8_placeAt.1 (Nat.le_of_ble_eq_true rfl) (fun X F hR => ?_)
  refine g_lv (lv' := [(_, _), (_, _), (_, _)]) rfl ?_
  refine g_iload_n (pc := 0) F dX8_placeAt_0 rfl 1 rfl ?_
  refine g_if_lt (pc := 1) F 39 dX8_placeAt_1 (by decide) (fun c => ?_) (fun c => ?_)
  · have h := h.1 c
    refine g_bipush (pc := 39) F dX8_placeAt_39 bp_m9 ?_
    exact hR _ _ _ _ dX8_placeAt_41 h
  · have h := h.2 c
    refine g_iload_n (pc := 4) F dX8_placeAt_4 rfl 1 rfl ?_
    refine g_aload_n (pc := 5) F dX8_placeAt_5 rfl 0 rfl ?_
    refine g_getI (pc := 6) F clX8 hx0.1 0 rfl (by decide) uX8_9 dX8_placeAt_6 ?_
    refine g_icmp_ge (pc := 9) F 39 dX8_placeAt_9 (by decide) (fun c => ?_) (fun c => ?_)
    · have h := h.1 c
      refine g_bipush (pc := 39) F dX8_placeAt_39 bp_m9 ?_
      exact hR _ _ _ _ dX8_placeAt_41 h
    · have h := h.2 c
      refine g_iload_n (pc := 12) F dX8_placeAt_12 rfl 2 rfl ?_
      refine g_if_lt (pc := 13) F 39 dX8_placeAt_13 (by decide) (fun c => ?_) (fun c => ?_)
      · have h := h.1 c
        refine g_bipush (pc := 39) F dX8_placeAt_39 bp_m9 ?_
        exact hR _ _ _ _ dX8_placeAt_41 h
      · have h := h.2 c
        refine g_iload_n (pc := 16) F dX8_placeAt_16 rfl 2 rfl ?_
        refine g_aload_n (pc := 17) F dX8_placeAt_17 rfl 0 rfl ?_
        refine g_getR (pc := 18) F clX8 hx0.1 2 _ rfl (by decide) uX8_19 dX8_placeAt_18 ?_
        refine g_iload_n (pc := 21) F dX8_placeAt_21 rfl 1 rfl ?_
        obtain ⟨hb_22, h⟩ := h
        refine g_iald (pc := 22) F hx0.2.2.1 hb_22 dX8_placeAt_22 ?_
        refine g_icmp_ge (pc := 23) F 39 dX8_placeAt_23 (by decide) (fun c => ?_) (fun c => ?_)
        · have h := h.1 c
          refine g_bipush (pc := 39) F dX8_placeAt_39 bp_m9 ?_
          exact hR _ _ _ _ dX8_placeAt_41 h
        · have h := h.2 c
          refine g_aload_n (pc := 26) F dX8_placeAt_26 rfl 0 rfl ?_
          refine g_getR (pc := 27) F clX8 hx0.1 1 _ rfl (by decide) uX8_15 dX8_placeAt_27 ?_
          refine g_iload_n (pc := 30) F dX8_placeAt_30 rfl 1 rfl ?_
          refine g_iconst (pc := 31) F dX8_placeAt_31 ic_5 ?_
          refine g_imul (pc := 32) F dX8_placeAt_32 ?_
          refine g_iload_n (pc := 33) F dX8_placeAt_33 rfl 2 rfl ?_
          refine g_iadd (pc := 34) F dX8_placeAt_34 ?_
          obtain ⟨hb_35, h⟩ := h
          refine g_iald (pc := 35) F hx0.2.1 hb_35 dX8_placeAt_35 ?_
          refine g_goto (pc := 36) F 41 dX8_placeAt_36 (by decide) ?_
          exact hR _ _ _ _ dX8_placeAt_41 h
def wX8_wayBy_2 (x0 : Nat) (x1 : Int32) (Q : Int32 → St → Prop) : Nat → Int32 → St → Prop
  | 0, _, _ => False
  | n + 1, x2, s =>
  (((s.1 x0 0) ≤ x2 → Q (-9 : Int32) s) ∧ (¬ (s.1 x0 0) ≤ x2 → vp_in x2 33 ∧ ((¬ (s.1 (x0 + 4) x2.toNatClampNeg) = x1 → wX8_wayBy_2 x0 x1 Q n (x2 + (1 : Int32)) s) ∧ ((s.1 (x0 + 4) x2.toNatClampNeg) = x1 → Q x2 s))))
set_option maxHeartbeats 4000000 in
set_option maxRecDepth 100000 in
theorem bX8_wayBy_2 {l : Launch} {V : Wv} {X : Mx} {x0 : Nat} {x1 : Int32} {Q : Int32 → St → Prop} (F : Fx V X cX8_wayBy RX8 3 0) (hR : RtI l V X 3 cX8_wayBy Q) (hx0 : isX8 V x0)  : ∀ (n : Nat) (x2 : Int32) (s : St), wX8_wayBy_2 x0 x1 Q n x2 s → G l V X 3 2 [(0, rf V x0), (1, .int x1), (2, .int x2)] [] s := by
  intro n
  induction n with
  | zero => intro x2 s h; unfold wX8_wayBy_2 at h; exact h.elim
  | succ n ih =>
    intro x2 s h
    unfold wX8_wayBy_2 at h
    refine g_iload_n (pc := 2) F dX8_wayBy_2 rfl 2 rfl ?_
    refine g_aload_n (pc := 3) F dX8_wayBy_3 rfl 0 rfl ?_
    refine g_getI (pc := 4) F clX8 hx0.1 0 rfl (by decide) uX8_9 dX8_wayBy_4 ?_
    refine g_icmp_ge (pc := 7) F 28 dX8_wayBy_7 (by decide) (fun c => ?_) (fun c => ?_)
    · have h := h.1 c
      refine g_bipush (pc := 28) F dX8_wayBy_28 bp_m9 ?_
      exact hR _ _ _ _ dX8_wayBy_30 h
    · have h := h.2 c
      refine g_aload_n (pc := 10) F dX8_wayBy_10 rfl 0 rfl ?_
      refine g_getR (pc := 11) F clX8 hx0.1 4 _ rfl (by decide) uX8_25 dX8_wayBy_11 ?_
      refine g_iload_n (pc := 14) F dX8_wayBy_14 rfl 2 rfl ?_
      obtain ⟨hb_15, h⟩ := h
      refine g_iald (pc := 15) F hx0.2.2.2.2.1 hb_15 dX8_wayBy_15 ?_
      refine g_iload_n (pc := 16) F dX8_wayBy_16 rfl 1 rfl ?_
      refine g_icmp_ne (pc := 17) F 22 dX8_wayBy_17 (by decide) (fun c => ?_) (fun c => ?_)
      · have h := h.1 c
        refine g_iinc (pc := 22) (lv' := [(_, _), (_, _), (_, _)]) F dX8_wayBy_22 2 rfl (congrArg _ ic_1) (by decide) rfl ?_
        refine g_goto (pc := 25) F 2 dX8_wayBy_25 (by decide) ?_
        exact g_weak [1, 2, 0] rfl (ih _ _ h)
      · have h := h.2 c
        refine g_iload_n (pc := 20) F dX8_wayBy_20 rfl 2 rfl ?_
        exact hR _ _ _ _ dX8_wayBy_21 h
def wX8_wayBy (x0 : Nat) (x1 : Int32) (s : St) (Q : Int32 → St → Prop) : Prop :=
  (∃ k_2, wX8_wayBy_2  x0 x1  Q k_2 (0 : Int32) s)
set_option maxHeartbeats 4000000 in
set_option maxRecDepth 100000 in
theorem mX8_wayBy {l : Launch} {V : Wv} {x0 : Nat} {x1 : Int32} {s : St} {Q : Int32 → St → Prop} (hx0 : isX8 V x0) (h : wX8_wayBy x0 x1 s Q) : Ci yX8_wayBy cX8_wayBy 3 (some .int) (0) l V [rf V x0, .int x1] s Q := by
  unfold wX8_wayBy at h
  refine Ci.of mvX8_wayBy.1 (Nat.le_of_ble_eq_true rfl) (fun X F hR => ?_)
  refine g_lv (lv' := [(_, _), (_, _)]) rfl ?_
  refine g_iconst (pc := 0) F dX8_wayBy_0 ic_0 ?_
  refine g_istore_n (pc := 1) (lv' := [(_, _), (_, _), (_, _)]) F dX8_wayBy_1 rfl (by decide) rfl ?_
  obtain ⟨k_2, h⟩ := h
  refine g_weak [1, 2, 0] rfl (bX8_wayBy_2 F hR hx0 k_2 _ _ h)
def wX8_bitBy (x0 : Nat) (x1 : Int32) (s : St) (Q : Int64 → St → Prop) : Prop :=
  wX8_wayBy x0 x1 s (fun r_2 s_2 => ((¬ r_2 = (-9 : Int32) → Q ((1 : Int64) <<< (r_2.toInt64 &&& 63)) s_2) ∧ (r_2 = (-9 : Int32) → Q (0 : Int64) s_2)))
set_option maxHeartbeats 4000000 in
set_option maxRecDepth 100000 in
theorem mX8_bitBy {l : Launch} {V : Wv} {x0 : Nat} {x1 : Int32} {s : St} {Q : Int64 → St → Prop} (hx0 : isX8 V x0) (h : wX8_bitBy x0 x1 s Q) : Cl yX8_bitBy cX8_bitBy 3 (1) l V [rf V x0, .int x1] s Q := by
  unfold wX8_bitBy at h
  refine Cl.of mvX8_bitBy.1 (Nat.le_of_ble_eq_true rfl) (fun X F hR => ?_)
  refine g_lv (lv' := [(_, _), (_, _)]) rfl ?_
  refine g_aload_n (pc := 0) F dX8_bitBy_0 rfl 0 rfl ?_
  refine g_iload_n (pc := 1) F dX8_bitBy_1 rfl 1 rfl ?_
  refine g_callVi (pc := 2) F (mX8_wayBy hx0 h) mvX8_wayBy uX8_80 (by decide) clX8 hx0.1 rfl rfl (Nat.le_of_ble_eq_true rfl) dX8_bitBy_2 (fun r_2 s_2 h => ?_)
  refine g_istore_n (pc := 5) (lv' := [(_, _), (_, _), (_, _)]) F dX8_bitBy_5 rfl (by decide) rfl ?_
  refine g_iload_n (pc := 6) F dX8_bitBy_6 rfl 0 rfl ?_
  refine g_bipush (pc := 7) F dX8_bitBy_7 bp_m9 ?_
  refine g_icmp_ne (pc := 9) F 16 dX8_bitBy_9 (by decide) (fun c => ?_) (fun c => ?_)
  · have h := h.1 c
    refine g_lconst (pc := 16) (v := 1) F dX8_bitBy_16 (by decide) ?_
    refine g_iload_n (pc := 17) F dX8_bitBy_17 rfl 0 rfl ?_
    refine g_lshl (pc := 18) F dX8_bitBy_18 ?_
    exact hR _ _ _ _ dX8_bitBy_19 h
  · have h := h.2 c
    refine g_lconst (pc := 12) (v := 0) F dX8_bitBy_12 (by decide) ?_
    refine g_goto (pc := 13) F 19 dX8_bitBy_13 (by decide) ?_
    exact hR _ _ _ _ dX8_bitBy_19 h
