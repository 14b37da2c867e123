/-! printed by program: what each method does to the state (w..), and that its code does so (b.., m..) -/
def wX1_empty_12 (x0 : Nat) (Q : St → Prop) : Nat → Int32 → St → Prop
  | 0, _, _ => False
  | n + 1, x1, s =>
  (((25 : Int32) ≤ x1 → Q s) ∧ (¬ (25 : Int32) ≤ x1 → vp_in x1 25 ∧ ∀ s_28 : St, s_28 = stI s (x0 + 4) x1.toNatClampNeg (-9 : Int32) → wX1_empty_12 x0 Q n (x1 + (1 : Int32)) s_28))
set_option maxHeartbeats 4000000 in
set_option maxRecDepth 100000 in
theorem bX1_empty_12 {l : Launch} {V : Wv} {X : Mx} {x0 : Nat} {Q : St → Prop} (F : Fx V X cX1_empty RX1 2 0) (hR : RtV l V X 2 cX1_empty Q) (hx0 : isX1 V x0)  : ∀ (n : Nat) (x1 : Int32) (s : St), wX1_empty_12 x0 Q n x1 s → G l V X 2 12 [(0, rf V x0), (1, .int x1)] [] s := by
  intro n
  induction n with
  | zero => intro x1 s h; unfold wX1_empty_12 at h; exact h.elim
  | succ n ih =>
    intro x1 s h
    unfold wX1_empty_12 at h
    refine g_iload_n (pc := 12) F dX1_empty_12 rfl 1 rfl ?_
    refine g_aload_n (pc := 13) F dX1_empty_13 rfl 0 rfl ?_
    refine g_getR (pc := 14) F clX1 hx0.1 5 _ rfl (by decide) uX1_21 dX1_empty_14 ?_
    refine g_alen (pc := 17) F hx0.2.2.2.2 al_25 dX1_empty_17 ?_
    refine g_icmp_ge (pc := 18) F 35 dX1_empty_18 (by decide) (fun c => ?_) (fun c => ?_)
    · have h := h.1 c
      exact hR _ _ _ dX1_empty_35 h
    · have h := h.2 c
      refine g_aload_n (pc := 21) F dX1_empty_21 rfl 0 rfl ?_
      refine g_getR (pc := 22) F clX1 hx0.1 5 _ rfl (by decide) uX1_21 dX1_empty_22 ?_
      refine g_iload_n (pc := 25) F dX1_empty_25 rfl 1 rfl ?_
      refine g_bipush (pc := 26) F dX1_empty_26 bp_m9 ?_
      obtain ⟨hb_28, h⟩ := h
      have h := h _ rfl
      refine g_iast (pc := 28) F hx0.2.2.2.2 hb_28 dX1_empty_28 ?_
      refine g_iinc (pc := 29) (lv' := [(_, _), (_, _)]) F dX1_empty_29 1 rfl (congrArg _ ic_1) (by decide) rfl ?_
      refine g_goto (pc := 32) F 12 dX1_empty_32 (by decide) ?_
      exact g_weak [1, 0] rfl (ih _ _ h)
def wX1_empty (x0 : Nat) (s : St) (Q : St → Prop) : Prop :=
  ∀ s_2 : St, s_2 = stI s x0 0 (2 : Int32) → ∀ s_7 : St, s_7 = stI s_2 x0 1 (0 : Int32) → (∃ k_12, wX1_empty_12  x0  Q k_12 (0 : Int32) s_7)
set_option maxHeartbeats 4000000 in
set_option maxRecDepth 100000 in
theorem mX1_empty {l : Launch} {V : Wv} {x0 : Nat} {s : St} {Q : St → Prop} (hx0 : isX1 V x0) (h : wX1_empty x0 s Q) : Cv yX1_empty cX1_empty 2 (0) l V [rf V x0] s Q := by
  unfold wX1_empty at h
  refine Cv.of mvX1_empty.1 (Nat.le_of_ble_eq_true rfl) (fun X F hR => ?_)
  refine g_lv (lv' := [(_, _)]) rfl ?_
  refine g_aload_n (pc := 0) F dX1_empty_0 rfl 0 rfl ?_
  refine g_iconst (pc := 1) F dX1_empty_1 ic_2 ?_
  have h := h _ rfl
  refine g_putI (pc := 2) F clX1 hx0.1 0 rfl (by decide) rfl (tyX1_ok 0 (by decide)) uX1_27 dX1_empty_2 ?_
  refine g_aload_n (pc := 5) F dX1_empty_5 rfl 0 rfl ?_
  refine g_iconst (pc := 6) F dX1_empty_6 ic_0 ?_
  have h := h _ rfl
  refine g_putI (pc := 7) F clX1 hx0.1 1 rfl (by decide) rfl (tyX1_ok 1 (by decide)) uX1_31 dX1_empty_7 ?_
  refine g_iconst (pc := 10) F dX1_empty_10 ic_0 ?_
  refine g_istore_n (pc := 11) (lv' := [(_, _), (_, _)]) F dX1_empty_11 rfl (by decide) rfl ?_
  obtain ⟨k_12, h⟩ := h
  refine g_weak [1, 0] rfl (bX1_empty_12 F hR hx0 k_12 _ _ h)
def wX1_laneBetween (x0 : Nat) (x1 : Int32) (x2 : Int32) (s : St) (Q : Int32 → St → Prop) : Prop :=
  ((x1 < 0 → Q (-9 : Int32) s) ∧ (¬ x1 < 0 → (((s.1 x0 0) ≤ x1 → Q (-9 : Int32) s) ∧ (¬ (s.1 x0 0) ≤ x1 → ((x2 < 0 → Q (-9 : Int32) s) ∧ (¬ x2 < 0 → ((x2 < (s.1 x0 0) → vp_in ((x1 * (5 : Int32)) + x2) 25 ∧ Q (s.1 (x0 + 4) ((x1 * (5 : Int32)) + x2).toNatClampNeg) s) ∧ (¬ x2 < (s.1 x0 0) → Q (-9 : Int32) s))))))))
set_option maxHeartbeats 4000000 in
set_option maxRecDepth 100000 in
theorem mX1_laneBetween {l : Launch} {V : Wv} {x0 : Nat} {x1 : Int32} {x2 : Int32} {s : St} {Q : Int32 → St → Prop} (hx0 : isX1 V x0) (h : wX1_laneBetween x0 x1 x2 s Q) : Ci yX1_laneBetween cX1_laneBetween 3 (some .int) (0) l V [rf V x0, .int x1, .int x2] s Q := by
  unfold wX1_laneBetween at h
  refine Ci.of mvX1_laneBetween.1 (Nat.le_of_ble_eq_true rfl) (fun X F hR => ?_)
  refine g_lv (lv' := [(_, _), (_, _), (_, _)]) rfl ?_
  refine g_iload_n (pc := 0) F dX1_laneBetween_0 rfl 1 rfl ?_
  refine g_if_lt (pc := 1) F 24 dX1_laneBetween_1 (by decide) (fun c => ?_) (fun c => ?_)
  · have h := h.1 c
    refine g_bipush (pc := 24) F dX1_laneBetween_24 bp_m9 ?_
    exact hR _ _ _ _ dX1_laneBetween_26 h
  · have h := h.2 c
    refine g_iload_n (pc := 4) F dX1_laneBetween_4 rfl 1 rfl ?_
    refine g_aload_n (pc := 5) F dX1_laneBetween_5 rfl 0 rfl ?_
    refine g_getI (pc := 6) F clX1 hx0.1 0 rfl (by decide) uX1_27 dX1_laneBetween_6 ?_
    refine g_icmp_ge (pc := 9) F 24 dX1_laneBetween_9 (by decide) (fun c => ?_) (fun c => ?_)
    · have h := h.1 c
      refine g_bipush (pc := 24) F dX1_laneBetween_24 bp_m9 ?_
      exact hR _ _ _ _ dX1_laneBetween_26 h
    · have h := h.2 c
      refine g_iload_n (pc := 12) F dX1_laneBetween_12 rfl 2 rfl ?_
      refine g_if_lt (pc := 13) F 24 dX1_laneBetween_13 (by decide) (fun c => ?_) (fun c => ?_)
      · have h := h.1 c
        refine g_bipush (pc := 24) F dX1_laneBetween_24 bp_m9 ?_
        exact hR _ _ _ _ dX1_laneBetween_26 h
      · have h := h.2 c
        refine g_iload_n (pc := 16) F dX1_laneBetween_16 rfl 2 rfl ?_
        refine g_aload_n (pc := 17) F dX1_laneBetween_17 rfl 0 rfl ?_
        refine g_getI (pc := 18) F clX1 hx0.1 0 rfl (by decide) uX1_27 dX1_laneBetween_18 ?_
        refine g_icmp_lt (pc := 21) F 27 dX1_laneBetween_21 (by decide) (fun c => ?_) (fun c => ?_)
        · have h := h.1 c
          refine g_aload_n (pc := 27) F dX1_laneBetween_27 rfl 0 rfl ?_
          refine g_getR (pc := 28) F clX1 hx0.1 5 _ rfl (by decide) uX1_21 dX1_laneBetween_28 ?_
          refine g_iload_n (pc := 31) F dX1_laneBetween_31 rfl 1 rfl ?_
          refine g_iconst (pc := 32) F dX1_laneBetween_32 ic_5 ?_
          refine g_imul (pc := 33) F dX1_laneBetween_33 ?_
          refine g_iload_n (pc := 34) F dX1_laneBetween_34 rfl 2 rfl ?_
          refine g_iadd (pc := 35) F dX1_laneBetween_35 ?_
          obtain ⟨hb_36, h⟩ := h
          refine g_iald (pc := 36) F hx0.2.2.2.2 hb_36 dX1_laneBetween_36 ?_
          exact hR _ _ _ _ dX1_laneBetween_37 h
        · have h := h.2 c
          refine g_bipush (pc := 24) F dX1_laneBetween_24 bp_m9 ?_
          exact hR _ _ _ _ dX1_laneBetween_26 h
def wX1_addLane (x0 : Nat) (x1 : Int32) (x2 : Int32) (x3 : Int32) (s : St) (Q : St → Prop) : Prop :=
  (((6 : Int32) ≤ (s.1 x0 1) → Q s) ∧ (¬ (6 : Int32) ≤ (s.1 x0 1) → ((x1 < 0 → Q s) ∧ (¬ x1 < 0 → (((s.1 x0 0) ≤ x1 → Q s) ∧ (¬ (s.1 x0 0) ≤ x1 → ((x2 < 0 → Q s) ∧ (¬ x2 < 0 → ((x2 < (s.1 x0 0) → vp_in (s.1 x0 1) 6 ∧ ∀ s_43 : St, s_43 = stI s (x0 + 1) (s.1 x0 1).toNatClampNeg x1 → vp_in (s_43.1 x0 1) 6 ∧ ∀ s_53 : St, s_53 = stI s_43 (x0 + 2) (s_43.1 x0 1).toNatClampNeg x2 → vp_in (s_53.1 x0 1) 6 ∧ ∀ s_63 : St, s_63 = stI s_53 (x0 + 3) (s_53.1 x0 1).toNatClampNeg x3 → vp_in ((x1 * (5 : Int32)) + x2) 25 ∧ ∀ s_77 : St, s_77 = stI s_63 (x0 + 4) ((x1 * (5 : Int32)) + x2).toNatClampNeg (s_63.1 x0 1) → vp_in ((x2 * (5 : Int32)) + x1) 25 ∧ ∀ s_91 : St, s_91 = stI s_77 (x0 + 4) ((x2 * (5 : Int32)) + x1).toNatClampNeg (s_77.1 x0 1) → ∀ s_99 : St, s_99 = stI s_91 x0 1 ((s_91.1 x0 1) + (1 : Int32)) → Q s_99) ∧ (¬ x2 < (s.1 x0 0) → Q s))))))))))
set_option maxHeartbeats 4000000 in
set_option maxRecDepth 100000 in
theorem mX1_addLane {l : Launch} {V : Wv} {x0 : Nat} {x1 : Int32} {x2 : Int32} {x3 : Int32} {s : St} {Q : St → Prop} (hx0 : isX1 V x0) (h : wX1_addLane x0 x1 x2 x3 s Q) : Cv yX1_addLane cX1_addLane 4 (0) l V [rf V x0, .int x1, .int x2, .int x3] s Q := by
  unfold wX1_addLane at h
  refine Cv.of mvX1_addLane.1 (Nat.le_of_ble_eq_true rfl) (fun X F hR => ?_)
  refine g_lv (lv' := [(_, _), (_, _), (_, _), (_, _)]) rfl ?_
  refine g_aload_n (pc := 0) F dX1_addLane_0 rfl 0 rfl ?_
  refine g_getI (pc := 1) F clX1 hx0.1 1 rfl (by decide) uX1_31 dX1_addLane_1 ?_
  refine g_bipush (pc := 4) F dX1_addLane_4 bp_6 ?_
  refine g_icmp_ge (pc := 6) F 33 dX1_addLane_6 (by decide) (fun c => ?_) (fun c => ?_)
  · have h := h.1 c
    exact hR _ _ _ dX1_addLane_33 h
  · have h := h.2 c
    refine g_iload_n (pc := 9) F dX1_addLane_9 rfl 1 rfl ?_
    refine g_if_lt (pc := 10) F 33 dX1_addLane_10 (by decide) (fun c => ?_) (fun c => ?_)
    · have h := h.1 c
      exact hR _ _ _ dX1_addLane_33 h
    · have h := h.2 c
      refine g_iload_n (pc := 13) F dX1_addLane_13 rfl 1 rfl ?_
      refine g_aload_n (pc := 14) F dX1_addLane_14 rfl 0 rfl ?_
      refine g_getI (pc := 15) F clX1 hx0.1 0 rfl (by decide) uX1_27 dX1_addLane_15 ?_
      refine g_icmp_ge (pc := 18) F 33 dX1_addLane_18 (by decide) (fun c => ?_) (fun c => ?_)
      · have h := h.1 c
        exact hR _ _ _ dX1_addLane_33 h
      · have h := h.2 c
        refine g_iload_n (pc := 21) F dX1_addLane_21 rfl 2 rfl ?_
        refine g_if_lt (pc := 22) F 33 dX1_addLane_22 (by decide) (fun c => ?_) (fun c => ?_)
        · have h := h.1 c
          exact hR _ _ _ dX1_addLane_33 h
        · have h := h.2 c
          refine g_iload_n (pc := 25) F dX1_addLane_25 rfl 2 rfl ?_
          refine g_aload_n (pc := 26) F dX1_addLane_26 rfl 0 rfl ?_
          refine g_getI (pc := 27) F clX1 hx0.1 0 rfl (by decide) uX1_27 dX1_addLane_27 ?_
          refine g_icmp_lt (pc := 30) F 34 dX1_addLane_30 (by decide) (fun c => ?_) (fun c => ?_)
          · have h := h.1 c
            refine g_aload_n (pc := 34) F dX1_addLane_34 rfl 0 rfl ?_
            refine g_getR (pc := 35) F clX1 hx0.1 2 _ rfl (by decide) uX1_9 dX1_addLane_35 ?_
            refine g_aload_n (pc := 38) F dX1_addLane_38 rfl 0 rfl ?_
            refine g_getI (pc := 39) F clX1 hx0.1 1 rfl (by decide) uX1_31 dX1_addLane_39 ?_
            refine g_iload_n (pc := 42) F dX1_addLane_42 rfl 1 rfl ?_
            obtain ⟨hb_43, h⟩ := h
            have h := h _ rfl
            refine g_iast (pc := 43) F hx0.2.1 hb_43 dX1_addLane_43 ?_
            refine g_aload_n (pc := 44) F dX1_addLane_44 rfl 0 rfl ?_
            refine g_getR (pc := 45) F clX1 hx0.1 3 _ rfl (by decide) uX1_15 dX1_addLane_45 ?_
            refine g_aload_n (pc := 48) F dX1_addLane_48 rfl 0 rfl ?_
            refine g_getI (pc := 49) F clX1 hx0.1 1 rfl (by decide) uX1_31 dX1_addLane_49 ?_
            refine g_iload_n (pc := 52) F dX1_addLane_52 rfl 2 rfl ?_
            obtain ⟨hb_53, h⟩ := h
            have h := h _ rfl
            refine g_iast (pc := 53) F hx0.2.2.1 hb_53 dX1_addLane_53 ?_
            refine g_aload_n (pc := 54) F dX1_addLane_54 rfl 0 rfl ?_
            refine g_getR (pc := 55) F clX1 hx0.1 4 _ rfl (by decide) uX1_18 dX1_addLane_55 ?_
            refine g_aload_n (pc := 58) F dX1_addLane_58 rfl 0 rfl ?_
            refine g_getI (pc := 59) F clX1 hx0.1 1 rfl (by decide) uX1_31 dX1_addLane_59 ?_
            refine g_iload_n (pc := 62) F dX1_addLane_62 rfl 3 rfl ?_
            obtain ⟨hb_63, h⟩ := h
            have h := h _ rfl
            refine g_iast (pc := 63) F hx0.2.2.2.1 hb_63 dX1_addLane_63 ?_
            refine g_aload_n (pc := 64) F dX1_addLane_64 rfl 0 rfl ?_
            refine g_getR (pc := 65) F clX1 hx0.1 5 _ rfl (by decide) uX1_21 dX1_addLane_65 ?_
            refine g_iload_n (pc := 68) F dX1_addLane_68 rfl 1 rfl ?_
            refine g_iconst (pc := 69) F dX1_addLane_69 ic_5 ?_
            refine g_imul (pc := 70) F dX1_addLane_70 ?_
            refine g_iload_n (pc := 71) F dX1_addLane_71 rfl 2 rfl ?_
            refine g_iadd (pc := 72) F dX1_addLane_72 ?_
            refine g_aload_n (pc := 73) F dX1_addLane_73 rfl 0 rfl ?_
            refine g_getI (pc := 74) F clX1 hx0.1 1 rfl (by decide) uX1_31 dX1_addLane_74 ?_
            obtain ⟨hb_77, h⟩ := h
            have h := h _ rfl
            refine g_iast (pc := 77) F hx0.2.2.2.2 hb_77 dX1_addLane_77 ?_
            refine g_aload_n (pc := 78) F dX1_addLane_78 rfl 0 rfl ?_
            refine g_getR (pc := 79) F clX1 hx0.1 5 _ rfl (by decide) uX1_21 dX1_addLane_79 ?_
            refine g_iload_n (pc := 82) F dX1_addLane_82 rfl 2 rfl ?_
            refine g_iconst (pc := 83) F dX1_addLane_83 ic_5 ?_
            refine g_imul (pc := 84) F dX1_addLane_84 ?_
            refine g_iload_n (pc := 85) F dX1_addLane_85 rfl 1 rfl ?_
            refine g_iadd (pc := 86) F dX1_addLane_86 ?_
            refine g_aload_n (pc := 87) F dX1_addLane_87 rfl 0 rfl ?_
            refine g_getI (pc := 88) F clX1 hx0.1 1 rfl (by decide) uX1_31 dX1_addLane_88 ?_
            obtain ⟨hb_91, h⟩ := h
            have h := h _ rfl
            refine g_iast (pc := 91) F hx0.2.2.2.2 hb_91 dX1_addLane_91 ?_
            refine g_aload_n (pc := 92) F dX1_addLane_92 rfl 0 rfl ?_
            refine g_dup (pc := 93) F dX1_addLane_93 rfl ?_
            refine g_getI (pc := 94) F clX1 hx0.1 1 rfl (by decide) uX1_31 dX1_addLane_94 ?_
            refine g_iconst (pc := 97) F dX1_addLane_97 ic_1 ?_
            refine g_iadd (pc := 98) F dX1_addLane_98 ?_
            have h := h _ rfl
            refine g_putI (pc := 99) F clX1 hx0.1 1 rfl (by decide) rfl (tyX1_ok 1 (by decide)) uX1_31 dX1_addLane_99 ?_
            exact hR _ _ _ dX1_addLane_102 h
          · have h := h.2 c
            exact hR _ _ _ dX1_addLane_33 h
def wX1_lengthOf_31 (rec : Int32 → Int32 → St → Prop) (Q : Int32 → St → Prop) (x0 : Nat) (x1 : Int32) (x2 : Nat) (n2 : Nat) (x3 : Int32) (x4 : Int32) (s : St) : Prop :=
  rec x3 (x4 + (1 : Int32)) s
set_option maxHeartbeats 4000000 in
set_option maxRecDepth 100000 in
theorem bX1_lengthOf_31 {l : Launch} {V : Wv} {X : Mx} {rec : Int32 → Int32 → St → Prop} {Q : Int32 → St → Prop} {x0 : Nat} {x1 : Int32} {x2 : Nat} {n2 : Nat} {x3 : Int32} {x4 : Int32} (F : Fx V X cX1_lengthOf RX1 5 0) (hR : RtI l V X 5 cX1_lengthOf Q) (hx0 : isX1 V x0) (hx2 : V.2.1[x2]? = some (11, [n2])) (hrec : ∀ (y3 : Int32) (y4 : Int32) (s : St), rec y3 y4 s → G l V X 5 5 [(0, rf V x0), (1, .int x1), (2, rf V x2), (3, .int y3), (4, .int y4)] [] s) {s : St} (h : wX1_lengthOf_31 rec Q x0 x1 x2 n2 x3 x4 s) : G l V X 5 31 [(0, rf V x0), (1, .int x1), (2, rf V x2), (3, .int x3), (4, .int x4)] [] s := by
  unfold wX1_lengthOf_31 at h
  refine g_iinc (pc := 31) (lv' := [(_, _), (_, _), (_, _), (_, _), (_, _)]) F dX1_lengthOf_31 4 rfl (congrArg _ ic_1) (by decide) rfl ?_
  refine g_goto (pc := 34) F 5 dX1_lengthOf_34 (by decide) ?_
  exact g_weak [1, 2, 3, 4, 0] rfl (hrec _ _ _ h)
def wX1_lengthOf_5 (x0 : Nat) (x1 : Int32) (x2 : Nat) (n2 : Nat) (Q : Int32 → St → Prop) : Nat → Int32 → Int32 → St → Prop
  | 0, _, _, _ => False
  | n + 1, x3, x4, s =>
  (((s.1 x0 1) ≤ x4 → Q x3 s) ∧ (¬ (s.1 x0 1) ≤ x4 → ((¬ ((x1 >>> (x4 &&& 31)) &&& (1 : Int32)) = (1 : Int32) → wX1_lengthOf_31 (wX1_lengthOf_5 x0 x1 x2 n2 Q n) Q x0 x1 x2 n2 x3 x4 s) ∧ (((x1 >>> (x4 &&& 31)) &&& (1 : Int32)) = (1 : Int32) → vp_in x4 n2 ∧ wX1_lengthOf_31 (wX1_lengthOf_5 x0 x1 x2 n2 Q n) Q x0 x1 x2 n2 (x3 + (s.1 x2 x4.toNatClampNeg)) x4 s))))
set_option maxHeartbeats 4000000 in
set_option maxRecDepth 100000 in
theorem bX1_lengthOf_5 {l : Launch} {V : Wv} {X : Mx} {x0 : Nat} {x1 : Int32} {x2 : Nat} {n2 : Nat} {Q : Int32 → St → Prop} (F : Fx V X cX1_lengthOf RX1 5 0) (hR : RtI l V X 5 cX1_lengthOf Q) (hx0 : isX1 V x0) (hx2 : V.2.1[x2]? = some (11, [n2]))  : ∀ (n : Nat) (x3 : Int32) (x4 : Int32) (s : St), wX1_lengthOf_5 x0 x1 x2 n2 Q n x3 x4 s → G l V X 5 5 [(0, rf V x0), (1, .int x1), (2, rf V x2), (3, .int x3), (4, .int x4)] [] s := by
  intro n
  induction n with
  | zero => intro x3 x4 s h; unfold wX1_lengthOf_5 at h; exact h.elim
  | succ n ih =>
    intro x3 x4 s h
    unfold wX1_lengthOf_5 at h
    refine g_iload (pc := 5) F dX1_lengthOf_5 4 rfl ?_
    refine g_aload_n (pc := 7) F dX1_lengthOf_7 rfl 0 rfl ?_
    refine g_getI (pc := 8) F clX1 hx0.1 1 rfl (by decide) uX1_31 dX1_lengthOf_8 ?_
    refine g_icmp_ge (pc := 11) F 37 dX1_lengthOf_11 (by decide) (fun c => ?_) (fun c => ?_)
    · have h := h.1 c
      refine g_iload_n (pc := 37) F dX1_lengthOf_37 rfl 3 rfl ?_
      exact hR _ _ _ _ dX1_lengthOf_38 h
    · have h := h.2 c
      refine g_iload_n (pc := 14) F dX1_lengthOf_14 rfl 1 rfl ?_
      refine g_iload (pc := 15) F dX1_lengthOf_15 4 rfl ?_
      refine g_ishr (pc := 17) F dX1_lengthOf_17 ?_
      refine g_iconst (pc := 18) F dX1_lengthOf_18 ic_1 ?_
      refine g_iand (pc := 19) F dX1_lengthOf_19 ?_
      refine g_iconst (pc := 20) F dX1_lengthOf_20 ic_1 ?_
      refine g_icmp_ne (pc := 21) F 31 dX1_lengthOf_21 (by decide) (fun c => ?_) (fun c => ?_)
      · have h := h.1 c
        exact g_weak [0, 1, 2, 3, 4] rfl (bX1_lengthOf_31 F hR hx0 hx2 ih h)
      · have h := h.2 c
        refine g_iload_n (pc := 24) F dX1_lengthOf_24 rfl 3 rfl ?_
        refine g_aload_n (pc := 25) F dX1_lengthOf_25 rfl 2 rfl ?_
        refine g_iload (pc := 26) F dX1_lengthOf_26 4 rfl ?_
        obtain ⟨hb_28, h⟩ := h
        refine g_iald (pc := 28) F hx2 hb_28 dX1_lengthOf_28 ?_
        refine g_iadd (pc := 29) F dX1_lengthOf_29 ?_
        refine g_istore_n (pc := 30) (lv' := [(_, _), (_, _), (_, _), (_, _), (_, _)]) F dX1_lengthOf_30 rfl (by decide) rfl ?_
        exact g_weak [1, 2, 3, 0, 4] rfl (bX1_lengthOf_31 F hR hx0 hx2 ih h)
def wX1_lengthOf (x0 : Nat) (x1 : Int32) (x2 : Nat) (n2 : Nat) (s : St) (Q : Int32 → St → Prop) : Prop :=
  (∃ k_5, wX1_lengthOf_5  x0 x1 x2 n2  Q k_5 (0 : Int32) (0 : Int32) s)
set_option maxHeartbeats 4000000 in
set_option maxRecDepth 100000 in
theorem mX1_lengthOf {l : Launch} {V : Wv} {x0 : Nat} {x1 : Int32} {x2 : Nat} {n2 : Nat} {s : St} {Q : Int32 → St → Prop} (hx0 : isX1 V x0) (hx2 : V.2.1[x2]? = some (11, [n2])) (h : wX1_lengthOf x0 x1 x2 n2 s Q) : Ci yX1_lengthOf cX1_lengthOf 5 (some .int) (0) l V [rf V x0, .int x1, rf V x2] s Q := by
  unfold wX1_lengthOf at h
  refine Ci.of mvX1_lengthOf.1 (Nat.le_of_ble_eq_true rfl) (fun X F hR => ?_)
  refine g_lv (lv' := [(_, _), (_, _), (_, _)]) rfl ?_
  refine g_iconst (pc := 0) F dX1_lengthOf_0 ic_0 ?_
  refine g_istore_n (pc := 1) (lv' := [(_, _), (_, _), (_, _), (_, _)]) F dX1_lengthOf_1 rfl (by decide) rfl ?_
  refine g_iconst (pc := 2) F dX1_lengthOf_2 ic_0 ?_
  refine g_istore (pc := 3) (lv' := [(_, _), (_, _), (_, _), (_, _), (_, _)]) F dX1_lengthOf_3 (by decide) rfl ?_
  obtain ⟨k_5, h⟩ := h
  refine g_weak [2, 3, 4, 1, 0] rfl (bX1_lengthOf_5 F hR hx0 hx2 k_5 _ _ _ h)
