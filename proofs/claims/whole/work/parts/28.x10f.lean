/-! printed by program: what each method does to the state (w..), and that its code does so (b.., m..) -/
def wX10_far (x1 : Int32) (x2 : Int32) (s : St) (Q : Int32 → St → Prop) : Prop :=
  ∀ s_2 : St, s_2 = stI s 99 0 (0 : Int32) → wX10_isPlace x1 s_2 (fun r_7 s_7 => ((r_7 = 0 → Q (-1 : Int32) s_7) ∧ (¬ r_7 = 0 → wX10_isPlace x2 s_7 (fun r_15 s_15 => ((¬ r_15 = 0 → wX10_measures 106 38 s_15 (fun s_28 => ((¬ x1 = x2 → wX10_endsBetween x1 x2 s_28 (fun r_46 s_46 => vp_in r_46 26 ∧ ((¬ (s_46.1 117 r_46.toNatClampNeg) = (1000000 : Int32) → wX10_endsBetween x1 x2 s_46 (fun r_66 s_66 => vp_in r_66 26 ∧ Q (s_66.1 117 r_66.toNatClampNeg) s_66)) ∧ ((s_46.1 117 r_46.toNatClampNeg) = (1000000 : Int32) → Q (-9 : Int32) s_46)))) ∧ (x1 = x2 → Q (0 : Int32) s_28)))) ∧ (r_15 = 0 → Q (-1 : Int32) s_15))))))
set_option maxHeartbeats 4000000 in
set_option maxRecDepth 100000 in
theorem mX10_far {l : Launch} {V : Wv} {x1 : Int32} {x2 : Int32} {s : St} {Q : Int32 → St → Prop} (hV : V.2.1 = DESC) (h : wX10_far x1 x2 s Q) : Ci yX10_far cX10_far 3 (some .int) (2) l V [rf V 99, .int x1, .int x2] s Q := by
  unfold wX10_far at h
  refine Ci.of mvX10_far.1 (Nat.le_of_ble_eq_true rfl) (fun X F hR => ?_)
  refine g_lv (lv' := [(_, _), (_, _), (_, _)]) rfl ?_
  refine g_aload_n (pc := 0) F dX10_far_0 rfl 0 rfl ?_
  refine g_iconst (pc := 1) F dX10_far_1 ic_0 ?_
  have h := h _ rfl
  refine g_putI (pc := 2) F clX10 (sh_99 hV) 0 rfl (by decide) rfl (tyX10_ok 0 (by decide)) uX10_89 dX10_far_2 ?_
  refine g_aload_n (pc := 5) F dX10_far_5 rfl 0 rfl ?_
  refine g_iload_n (pc := 6) F dX10_far_6 rfl 1 rfl ?_
  refine g_callVi (pc := 7) F (mX10_isPlace hV h) mvX10_isPlace uX10_188 (by decide) clX10 (sh_99 hV) rfl rfl (Nat.le_of_ble_eq_true rfl) dX10_far_7 (fun r_7 s_7 h => ?_)
  refine g_if_eq (pc := 10) F 21 dX10_far_10 (by decide) (fun c => ?_) (fun c => ?_)
  · have h := h.1 c
    refine g_iconst (pc := 21) F dX10_far_21 ic_m1 ?_
    exact hR _ _ _ _ dX10_far_22 h
  · have h := h.2 c
    refine g_aload_n (pc := 13) F dX10_far_13 rfl 0 rfl ?_
    refine g_iload_n (pc := 14) F dX10_far_14 rfl 2 rfl ?_
    refine g_callVi (pc := 15) F (mX10_isPlace hV h) mvX10_isPlace uX10_188 (by decide) clX10 (sh_99 hV) rfl rfl (Nat.le_of_ble_eq_true rfl) dX10_far_15 (fun r_15 s_15 h => ?_)
    refine g_if_ne (pc := 18) F 23 dX10_far_18 (by decide) (fun c => ?_) (fun c => ?_)
    · have h := h.1 c
      refine g_aload_n (pc := 23) F dX10_far_23 rfl 0 rfl ?_
      refine g_aload_n (pc := 24) F dX10_far_24 rfl 0 rfl ?_
      refine g_getR (pc := 25) F clX10 (sh_99 hV) 14 _ rfl (by decide) uX10_28 dX10_far_25 ?_
      refine g_callVv (pc := 28) F (mX10_measures hV (sh_106 hV) h) mvX10_measures uX10_181 (by decide) clX10 (sh_99 hV) rfl rfl (Nat.le_of_ble_eq_true rfl) dX10_far_28 (fun s_28 h => ?_)
      refine g_iload_n (pc := 31) F dX10_far_31 rfl 1 rfl ?_
      refine g_iload_n (pc := 32) F dX10_far_32 rfl 2 rfl ?_
      refine g_icmp_ne (pc := 33) F 40 dX10_far_33 (by decide) (fun c => ?_) (fun c => ?_)
      · have h := h.1 c
        refine g_aload_n (pc := 40) F dX10_far_40 rfl 0 rfl ?_
        refine g_getR (pc := 41) F clX10 (sh_99 hV) 28 _ rfl (by decide) uX10_62 dX10_far_41 ?_
        refine g_iload_n (pc := 44) F dX10_far_44 rfl 1 rfl ?_
        refine g_iload_n (pc := 45) F dX10_far_45 rfl 2 rfl ?_
        refine g_callSi (pc := 46) F (mX10_endsBetween hV h) mvX10_endsBetween uX10_214 (by decide)  rfl rfl (Nat.le_of_ble_eq_true rfl) dX10_far_46 (fun r_46 s_46 h => ?_)
        obtain ⟨hb_49, h⟩ := h
        refine g_iald (pc := 49) F (sh_117 hV) hb_49 dX10_far_49 ?_
        refine g_ldc (pc := 50) F dX10_far_50 uX10_167 ?_
        refine g_icmp_ne (pc := 52) F 60 dX10_far_52 (by decide) (fun c => ?_) (fun c => ?_)
        · have h := h.1 c
          refine g_aload_n (pc := 60) F dX10_far_60 rfl 0 rfl ?_
          refine g_getR (pc := 61) F clX10 (sh_99 hV) 28 _ rfl (by decide) uX10_62 dX10_far_61 ?_
          refine g_iload_n (pc := 64) F dX10_far_64 rfl 1 rfl ?_
          refine g_iload_n (pc := 65) F dX10_far_65 rfl 2 rfl ?_
          refine g_callSi (pc := 66) F (mX10_endsBetween hV h) mvX10_endsBetween uX10_214 (by decide)  rfl rfl (Nat.le_of_ble_eq_true rfl) dX10_far_66 (fun r_66 s_66 h => ?_)
          obtain ⟨hb_69, h⟩ := h
          refine g_iald (pc := 69) F (sh_117 hV) hb_69 dX10_far_69 ?_
          exact hR _ _ _ _ dX10_far_70 h
        · have h := h.2 c
          refine g_bipush (pc := 55) F dX10_far_55 bp_m9 ?_
          refine g_goto (pc := 57) F 70 dX10_far_57 (by decide) ?_
          exact hR _ _ _ _ dX10_far_70 h
      · have h := h.2 c
        refine g_iconst (pc := 36) F dX10_far_36 ic_0 ?_
        refine g_goto (pc := 37) F 70 dX10_far_37 (by decide) ?_
        exact hR _ _ _ _ dX10_far_70 h
    · have h := h.2 c
      refine g_iconst (pc := 21) F dX10_far_21 ic_m1 ?_
      exact hR _ _ _ _ dX10_far_22 h
def wX10_by_78 (rec : Int32 → Int32 → St → Prop) (Q : Int32 → St → Prop) (x1 : Int32) (x2 : Int32) (x4 : Int32) (t0 : Int32) (t1 : Int32) (s : St) : Prop :=
  rec (t1 + t0) (x4 + (1 : Int32)) s
set_option maxHeartbeats 4000000 in
set_option maxRecDepth 100000 in
theorem bX10_by_78 {l : Launch} {V : Wv} {X : Mx} {rec : Int32 → Int32 → St → Prop} {Q : Int32 → St → Prop} {x1 : Int32} {x2 : Int32} {x4 : Int32} {t0 : Int32} {t1 : Int32} (F : Fx V X cX10_by RX10 5 2) (hR : RtI l V X 5 cX10_by Q) (hV : V.2.1 = DESC) (hrec : ∀ (y3 : Int32) (y4 : Int32) (s : St), rec y3 y4 s → G l V X 5 41 [(0, rf V 99), (1, .int x1), (2, .int x2), (3, .int y3), (4, .int y4)] [] s) {s : St} (h : wX10_by_78 rec Q x1 x2 x4 t0 t1 s) : G l V X 5 78 [(0, rf V 99), (1, .int x1), (2, .int x2), (4, .int x4)] [.int t0, .int t1] s := by
  unfold wX10_by_78 at h
  refine g_iadd (pc := 78) F dX10_by_78 ?_
  refine g_istore_n (pc := 79) (lv' := [(_, _), (_, _), (_, _), (_, _), (_, _)]) F dX10_by_79 rfl (by decide) rfl ?_
  refine g_iinc (pc := 80) (lv' := [(_, _), (_, _), (_, _), (_, _), (_, _)]) F dX10_by_80 4 rfl (congrArg _ ic_1) (by decide) rfl ?_
  refine g_goto (pc := 83) F 41 dX10_by_83 (by decide) ?_
  exact g_weak [2, 3, 4, 1, 0] rfl (hrec _ _ _ h)
def wX10_by_77 (rec : Int32 → Int32 → St → Prop) (Q : Int32 → St → Prop) (x1 : Int32) (x2 : Int32) (x4 : Int32) (t0 : Int32) (s : St) : Prop :=
  wX10_by_78 (rec) Q x1 x2 x4 (0 : Int32) t0 s
set_option maxHeartbeats 4000000 in
set_option maxRecDepth 100000 in
theorem bX10_by_77 {l : Launch} {V : Wv} {X : Mx} {rec : Int32 → Int32 → St → Prop} {Q : Int32 → St → Prop} {x1 : Int32} {x2 : Int32} {x4 : Int32} {t0 : Int32} (F : Fx V X cX10_by RX10 5 2) (hR : RtI l V X 5 cX10_by Q) (hV : V.2.1 = DESC) (hrec : ∀ (y3 : Int32) (y4 : Int32) (s : St), rec y3 y4 s → G l V X 5 41 [(0, rf V 99), (1, .int x1), (2, .int x2), (3, .int y3), (4, .int y4)] [] s) {s : St} (h : wX10_by_77 rec Q x1 x2 x4 t0 s) : G l V X 5 77 [(0, rf V 99), (1, .int x1), (2, .int x2), (4, .int x4)] [.int t0] s := by
  unfold wX10_by_77 at h
  refine g_iconst (pc := 77) F dX10_by_77 ic_0 ?_
  exact g_weak [0, 1, 2, 3] rfl (bX10_by_78 F hR hV hrec h)
def wX10_by_41 (x1 : Int32) (x2 : Int32) (Q : Int32 → St → Prop) : Nat → Int32 → Int32 → St → Prop
  | 0, _, _, _ => False
  | n + 1, x3, x4, s =>
  (((64 : Int32) ≤ x4 → Q x3 s) ∧ (¬ (64 : Int32) ≤ x4 → vp_in x4 64 ∧ wX10_endsBetween x1 x2 s (fun r_58 s_58 => ((¬ (s.1 112 x4.toNatClampNeg) = r_58 → wX10_by_77 (wX10_by_41 x1 x2 Q n) Q x1 x2 x4 x3 s_58) ∧ ((s.1 112 x4.toNatClampNeg) = r_58 → wX10_holds x4 s_58 (fun r_67 s_67 => ((r_67 = 0 → wX10_by_77 (wX10_by_41 x1 x2 Q n) Q x1 x2 x4 x3 s_67) ∧ (¬ r_67 = 0 → wX10_by_78 (wX10_by_41 x1 x2 Q n) Q x1 x2 x4 (1 : Int32) x3 s_67))))))))
set_option maxHeartbeats 4000000 in
set_option maxRecDepth 100000 in
theorem bX10_by_41 {l : Launch} {V : Wv} {X : Mx} {x1 : Int32} {x2 : Int32} {Q : Int32 → St → Prop} (F : Fx V X cX10_by RX10 5 2) (hR : RtI l V X 5 cX10_by Q) (hV : V.2.1 = DESC)  : ∀ (n : Nat) (x3 : Int32) (x4 : Int32) (s : St), wX10_by_41 x1 x2 Q n x3 x4 s → G l V X 5 41 [(0, rf V 99), (1, .int x1), (2, .int x2), (3, .int x3), (4, .int x4)] [] s := by
  intro n
  induction n with
  | zero => intro x3 x4 s h; unfold wX10_by_41 at h; exact h.elim
  | succ n ih =>
    intro x3 x4 s h
    unfold wX10_by_41 at h
    refine g_iload (pc := 41) F dX10_by_41 4 rfl ?_
    refine g_bipush (pc := 43) F dX10_by_43 bp_64 ?_
    refine g_icmp_ge (pc := 45) F 86 dX10_by_45 (by decide) (fun c => ?_) (fun c => ?_)
    · have h := h.1 c
      refine g_iload_n (pc := 86) F dX10_by_86 rfl 3 rfl ?_
      exact hR _ _ _ _ dX10_by_87 h
    · have h := h.2 c
      refine g_iload_n (pc := 48) F dX10_by_48 rfl 3 rfl ?_
      refine g_aload_n (pc := 49) F dX10_by_49 rfl 0 rfl ?_
      refine g_getR (pc := 50) F clX10 (sh_99 hV) 22 _ rfl (by decide) uX10_47 dX10_by_50 ?_
      refine g_iload (pc := 53) F dX10_by_53 4 rfl ?_
      obtain ⟨hb_55, h⟩ := h
      refine g_iald (pc := 55) F (sh_112 hV) hb_55 dX10_by_55 ?_
      refine g_iload_n (pc := 56) F dX10_by_56 rfl 1 rfl ?_
      refine g_iload_n (pc := 57) F dX10_by_57 rfl 2 rfl ?_
      refine g_callSi (pc := 58) F (mX10_endsBetween hV h) mvX10_endsBetween uX10_214 (by decide)  rfl rfl (Nat.le_of_ble_eq_true rfl) dX10_by_58 (fun r_58 s_58 h => ?_)
      refine g_icmp_ne (pc := 61) F 77 dX10_by_61 (by decide) (fun c => ?_) (fun c => ?_)
      · have h := h.1 c
        exact g_weak [0, 1, 2, 4] rfl (bX10_by_77 F hR hV ih h)
      · have h := h.2 c
        refine g_aload_n (pc := 64) F dX10_by_64 rfl 0 rfl ?_
        refine g_iload (pc := 65) F dX10_by_65 4 rfl ?_
        refine g_callVi (pc := 67) F (mX10_holds hV h) mvX10_holds uX10_185 (by decide) clX10 (sh_99 hV) rfl rfl (Nat.le_of_ble_eq_true rfl) dX10_by_67 (fun r_67 s_67 h => ?_)
        refine g_if_eq (pc := 70) F 77 dX10_by_70 (by decide) (fun c => ?_) (fun c => ?_)
        · have h := h.1 c
          exact g_weak [0, 1, 2, 4] rfl (bX10_by_77 F hR hV ih h)
        · have h := h.2 c
          refine g_iconst (pc := 73) F dX10_by_73 ic_1 ?_
          refine g_goto (pc := 74) F 78 dX10_by_74 (by decide) ?_
          exact g_weak [0, 1, 2, 4] rfl (bX10_by_78 F hR hV ih h)
def wX10_by (x1 : Int32) (x2 : Int32) (s : St) (Q : Int32 → St → Prop) : Prop :=
  ∀ s_2 : St, s_2 = stI s 99 0 (0 : Int32) → wX10_isPlace x1 s_2 (fun r_7 s_7 => ((r_7 = 0 → Q (-1 : Int32) s_7) ∧ (¬ r_7 = 0 → wX10_isPlace x2 s_7 (fun r_15 s_15 => ((r_15 = 0 → Q (-1 : Int32) s_15) ∧ (¬ r_15 = 0 → ((¬ x1 = x2 → wX10_measures 106 38 s_15 (fun s_33 => (∃ k_41, wX10_by_41  x1 x2  Q k_41 (0 : Int32) (1 : Int32) s_33))) ∧ (x1 = x2 → Q (-1 : Int32) s_15))))))))
set_option maxHeartbeats 4000000 in
set_option maxRecDepth 100000 in
theorem mX10_by {l : Launch} {V : Wv} {x1 : Int32} {x2 : Int32} {s : St} {Q : Int32 → St → Prop} (hV : V.2.1 = DESC) (h : wX10_by x1 x2 s Q) : Ci yX10_by cX10_by 5 (some .int) (2) l V [rf V 99, .int x1, .int x2] s Q := by
  unfold wX10_by at h
  refine Ci.of mvX10_by.1 (Nat.le_of_ble_eq_true rfl) (fun X F hR => ?_)
  refine g_lv (lv' := [(_, _), (_, _), (_, _)]) rfl ?_
  refine g_aload_n (pc := 0) F dX10_by_0 rfl 0 rfl ?_
  refine g_iconst (pc := 1) F dX10_by_1 ic_0 ?_
  have h := h _ rfl
  refine g_putI (pc := 2) F clX10 (sh_99 hV) 0 rfl (by decide) rfl (tyX10_ok 0 (by decide)) uX10_89 dX10_by_2 ?_
  refine g_aload_n (pc := 5) F dX10_by_5 rfl 0 rfl ?_
  refine g_iload_n (pc := 6) F dX10_by_6 rfl 1 rfl ?_
  refine g_callVi (pc := 7) F (mX10_isPlace hV h) mvX10_isPlace uX10_188 (by decide) clX10 (sh_99 hV) rfl rfl (Nat.le_of_ble_eq_true rfl) dX10_by_7 (fun r_7 s_7 h => ?_)
  refine g_if_eq (pc := 10) F 26 dX10_by_10 (by decide) (fun c => ?_) (fun c => ?_)
  · have h := h.1 c
    refine g_iconst (pc := 26) F dX10_by_26 ic_m1 ?_
    exact hR _ _ _ _ dX10_by_27 h
  · have h := h.2 c
    refine g_aload_n (pc := 13) F dX10_by_13 rfl 0 rfl ?_
    refine g_iload_n (pc := 14) F dX10_by_14 rfl 2 rfl ?_
    refine g_callVi (pc := 15) F (mX10_isPlace hV h) mvX10_isPlace uX10_188 (by decide) clX10 (sh_99 hV) rfl rfl (Nat.le_of_ble_eq_true rfl) dX10_by_15 (fun r_15 s_15 h => ?_)
    refine g_if_eq (pc := 18) F 26 dX10_by_18 (by decide) (fun c => ?_) (fun c => ?_)
    · have h := h.1 c
      refine g_iconst (pc := 26) F dX10_by_26 ic_m1 ?_
      exact hR _ _ _ _ dX10_by_27 h
    · have h := h.2 c
      refine g_iload_n (pc := 21) F dX10_by_21 rfl 1 rfl ?_
      refine g_iload_n (pc := 22) F dX10_by_22 rfl 2 rfl ?_
      refine g_icmp_ne (pc := 23) F 28 dX10_by_23 (by decide) (fun c => ?_) (fun c => ?_)
      · have h := h.1 c
        refine g_aload_n (pc := 28) F dX10_by_28 rfl 0 rfl ?_
        refine g_aload_n (pc := 29) F dX10_by_29 rfl 0 rfl ?_
        refine g_getR (pc := 30) F clX10 (sh_99 hV) 14 _ rfl (by decide) uX10_28 dX10_by_30 ?_
        refine g_callVv (pc := 33) F (mX10_measures hV (sh_106 hV) h) mvX10_measures uX10_181 (by decide) clX10 (sh_99 hV) rfl rfl (Nat.le_of_ble_eq_true rfl) dX10_by_33 (fun s_33 h => ?_)
        refine g_iconst (pc := 36) F dX10_by_36 ic_0 ?_
        refine g_istore_n (pc := 37) (lv' := [(_, _), (_, _), (_, _), (_, _)]) F dX10_by_37 rfl (by decide) rfl ?_
        refine g_iconst (pc := 38) F dX10_by_38 ic_1 ?_
        refine g_istore (pc := 39) (lv' := [(_, _), (_, _), (_, _), (_, _), (_, _)]) F dX10_by_39 (by decide) rfl ?_
        obtain ⟨k_41, h⟩ := h
        refine g_weak [2, 3, 4, 1, 0] rfl (bX10_by_41 F hR hV k_41 _ _ _ h)
      · have h := h.2 c
        refine g_iconst (pc := 26) F dX10_by_26 ic_m1 ?_
        exact hR _ _ _ _ dX10_by_27 h
def wX10_knot_69 (rec : Int32 → Int32 → St → Prop) (Q : Int32 → St → Prop) (x1 : Int32) (x3 : Int32) (t0 : Int32) (t1 : Int32) (s : St) : Prop :=
  rec (t1 + t0) (x3 + (1 : Int32)) s
set_option maxHeartbeats 4000000 in
set_option maxRecDepth 100000 in
theorem bX10_knot_69 {l : Launch} {V : Wv} {X : Mx} {rec : Int32 → Int32 → St → Prop} {Q : Int32 → St → Prop} {x1 : Int32} {x3 : Int32} {t0 : Int32} {t1 : Int32} (F : Fx V X cX10_knot RX10 4 2) (hR : RtI l V X 4 cX10_knot Q) (hV : V.2.1 = DESC) (hrec : ∀ (y2 : Int32) (y3 : Int32) (s : St), rec y2 y3 s → G l V X 4 19 [(0, rf V 99), (1, .int x1), (2, .int y2), (3, .int y3)] [] s) {s : St} (h : wX10_knot_69 rec Q x1 x3 t0 t1 s) : G l V X 4 69 [(0, rf V 99), (1, .int x1), (3, .int x3)] [.int t0, .int t1] s := by
  unfold wX10_knot_69 at h
  refine g_iadd (pc := 69) F dX10_knot_69 ?_
  refine g_istore_n (pc := 70) (lv' := [(_, _), (_, _), (_, _), (_, _)]) F dX10_knot_70 rfl (by decide) rfl ?_
  refine g_iinc (pc := 71) (lv' := [(_, _), (_, _), (_, _), (_, _)]) F dX10_knot_71 3 rfl (congrArg _ ic_1) (by decide) rfl ?_
  refine g_goto (pc := 74) F 19 dX10_knot_74 (by decide) ?_
  exact g_weak [2, 3, 1, 0] rfl (hrec _ _ _ h)
def wX10_knot_50 (rec : Int32 → Int32 → St → Prop) (Q : Int32 → St → Prop) (x1 : Int32) (x3 : Int32) (t0 : Int32) (s : St) : Prop :=
  vp_in x3 12 ∧ vp_in ((0 : Int32) + x3) 38 ∧ wX10_knot_69 (rec) Q x1 x3 ((s.1 104 x3.toNatClampNeg) * (s.1 106 ((0 : Int32) + x3).toNatClampNeg)) t0 s
set_option maxHeartbeats 4000000 in
set_option maxRecDepth 100000 in
theorem bX10_knot_50 {l : Launch} {V : Wv} {X : Mx} {rec : Int32 → Int32 → St → Prop} {Q : Int32 → St → Prop} {x1 : Int32} {x3 : Int32} {t0 : Int32} (F : Fx V X cX10_knot RX10 4 2) (hR : RtI l V X 4 cX10_knot Q) (hV : V.2.1 = DESC) (hrec : ∀ (y2 : Int32) (y3 : Int32) (s : St), rec y2 y3 s → G l V X 4 19 [(0, rf V 99), (1, .int x1), (2, .int y2), (3, .int y3)] [] s) {s : St} (h : wX10_knot_50 rec Q x1 x3 t0 s) : G l V X 4 50 [(0, rf V 99), (1, .int x1), (3, .int x3)] [.int t0] s := by
  unfold wX10_knot_50 at h
  refine g_aload_n (pc := 50) F dX10_knot_50 rfl 0 rfl ?_
  refine g_getR (pc := 51) F clX10 (sh_99 hV) 12 _ rfl (by decide) uX10_22 dX10_knot_51 ?_
  refine g_iload_n (pc := 54) F dX10_knot_54 rfl 2 rfl ?_
  obtain ⟨hb_55, h⟩ := h
  refine g_iald (pc := 55) F (sh_104 hV) hb_55 dX10_knot_55 ?_
  refine g_aload_n (pc := 56) F dX10_knot_56 rfl 0 rfl ?_
  refine g_getR (pc := 57) F clX10 (sh_99 hV) 14 _ rfl (by decide) uX10_28 dX10_knot_57 ?_
  refine g_iconst (pc := 60) F dX10_knot_60 ic_0 ?_
  refine g_iload_n (pc := 61) F dX10_knot_61 rfl 2 rfl ?_
  refine g_iadd (pc := 62) F dX10_knot_62 ?_
  obtain ⟨hb_63, h⟩ := h
  refine g_iald (pc := 63) F (sh_106 hV) hb_63 dX10_knot_63 ?_
  refine g_imul (pc := 64) F dX10_knot_64 ?_
  refine g_goto (pc := 65) F 69 dX10_knot_65 (by decide) ?_
  exact g_weak [0, 1, 2] rfl (bX10_knot_69 F hR hV hrec h)
def wX10_knot_19 (x1 : Int32) (Q : Int32 → St → Prop) : Nat → Int32 → Int32 → St → Prop
  | 0, _, _, _ => False
  | n + 1, x2, x3, s =>
  vp_in (1 : Int32) 4 ∧ (((s.1 101 (1 : Int32).toNatClampNeg) ≤ x3 → Q x2 s) ∧ (¬ (s.1 101 (1 : Int32).toNatClampNeg) ≤ x3 → vp_in x3 12 ∧ (((s.1 102 x3.toNatClampNeg) = x1 → wX10_knot_50 (wX10_knot_19 x1 Q n) Q x1 x3 x2 s) ∧ (¬ (s.1 102 x3.toNatClampNeg) = x1 → vp_in x3 12 ∧ ((¬ (s.1 103 x3.toNatClampNeg) = x1 → wX10_knot_69 (wX10_knot_19 x1 Q n) Q x1 x3 (0 : Int32) x2 s) ∧ ((s.1 103 x3.toNatClampNeg) = x1 → wX10_knot_50 (wX10_knot_19 x1 Q n) Q x1 x3 x2 s))))))
set_option maxHeartbeats 4000000 in
set_option maxRecDepth 100000 in
theorem bX10_knot_19 {l : Launch} {V : Wv} {X : Mx} {x1 : Int32} {Q : Int32 → St → Prop} (F : Fx V X cX10_knot RX10 4 2) (hR : RtI l V X 4 cX10_knot Q) (hV : V.2.1 = DESC)  : ∀ (n : Nat) (x2 : Int32) (x3 : Int32) (s : St), wX10_knot_19 x1 Q n x2 x3 s → G l V X 4 19 [(0, rf V 99), (1, .int x1), (2, .int x2), (3, .int x3)] [] s := by
  intro n
  induction n with
  | zero => intro x2 x3 s h; unfold wX10_knot_19 at h; exact h.elim
  | succ n ih =>
    intro x2 x3 s h
    unfold wX10_knot_19 at h
    refine g_iload_n (pc := 19) F dX10_knot_19 rfl 3 rfl ?_
    refine g_aload_n (pc := 20) F dX10_knot_20 rfl 0 rfl ?_
    refine g_getR (pc := 21) F clX10 (sh_99 hV) 9 _ rfl (by decide) uX10_13 dX10_knot_21 ?_
    refine g_iconst (pc := 24) F dX10_knot_24 ic_1 ?_
    obtain ⟨hb_25, h⟩ := h
    refine g_iald (pc := 25) F (sh_101 hV) hb_25 dX10_knot_25 ?_
    refine g_icmp_ge (pc := 26) F 77 dX10_knot_26 (by decide) (fun c => ?_) (fun c => ?_)
    · have h := h.1 c
      refine g_iload_n (pc := 77) F dX10_knot_77 rfl 2 rfl ?_
      exact hR _ _ _ _ dX10_knot_78 h
    · have h := h.2 c
      refine g_iload_n (pc := 29) F dX10_knot_29 rfl 2 rfl ?_
      refine g_aload_n (pc := 30) F dX10_knot_30 rfl 0 rfl ?_
      refine g_getR (pc := 31) F clX10 (sh_99 hV) 10 _ rfl (by decide) uX10_16 dX10_knot_31 ?_
      refine g_iload_n (pc := 34) F dX10_knot_34 rfl 3 rfl ?_
      obtain ⟨hb_35, h⟩ := h
      refine g_iald (pc := 35) F (sh_102 hV) hb_35 dX10_knot_35 ?_
      refine g_iload_n (pc := 36) F dX10_knot_36 rfl 1 rfl ?_
      refine g_icmp_eq (pc := 37) F 50 dX10_knot_37 (by decide) (fun c => ?_) (fun c => ?_)
      · have h := h.1 c
        exact g_weak [0, 1, 3] rfl (bX10_knot_50 F hR hV ih h)
      · have h := h.2 c
        refine g_aload_n (pc := 40) F dX10_knot_40 rfl 0 rfl ?_
        refine g_getR (pc := 41) F clX10 (sh_99 hV) 11 _ rfl (by decide) uX10_19 dX10_knot_41 ?_
        refine g_iload_n (pc := 44) F dX10_knot_44 rfl 3 rfl ?_
        obtain ⟨hb_45, h⟩ := h
        refine g_iald (pc := 45) F (sh_103 hV) hb_45 dX10_knot_45 ?_
        refine g_iload_n (pc := 46) F dX10_knot_46 rfl 1 rfl ?_
        refine g_icmp_ne (pc := 47) F 68 dX10_knot_47 (by decide) (fun c => ?_) (fun c => ?_)
        · have h := h.1 c
          refine g_iconst (pc := 68) F dX10_knot_68 ic_0 ?_
          exact g_weak [0, 1, 3] rfl (bX10_knot_69 F hR hV ih h)
        · have h := h.2 c
          exact g_weak [0, 1, 3] rfl (bX10_knot_50 F hR hV ih h)
def wX10_knot (x1 : Int32) (s : St) (Q : Int32 → St → Prop) : Prop :=
  ∀ s_2 : St, s_2 = stI s 99 0 (0 : Int32) → wX10_isPlace x1 s_2 (fun r_7 s_7 => ((¬ r_7 = 0 → (∃ k_19, wX10_knot_19  x1  Q k_19 (0 : Int32) (0 : Int32) s_7)) ∧ (r_7 = 0 → Q (-1 : Int32) s_7)))
set_option maxHeartbeats 4000000 in
set_option maxRecDepth 100000 in
theorem mX10_knot {l : Launch} {V : Wv} {x1 : Int32} {s : St} {Q : Int32 → St → Prop} (hV : V.2.1 = DESC) (h : wX10_knot x1 s Q) : Ci yX10_knot cX10_knot 4 (some .int) (2) l V [rf V 99, .int x1] s Q := by
  unfold wX10_knot at h
  refine Ci.of mvX10_knot.1 (Nat.le_of_ble_eq_true rfl) (fun X F hR => ?_)
  refine g_lv (lv' := [(_, _), (_, _)]) rfl ?_
  refine g_aload_n (pc := 0) F dX10_knot_0 rfl 0 rfl ?_
  refine g_iconst (pc := 1) F dX10_knot_1 ic_0 ?_
  have h := h _ rfl
  refine g_putI (pc := 2) F clX10 (sh_99 hV) 0 rfl (by decide) rfl (tyX10_ok 0 (by decide)) uX10_89 dX10_knot_2 ?_
  refine g_aload_n (pc := 5) F dX10_knot_5 rfl 0 rfl ?_
  refine g_iload_n (pc := 6) F dX10_knot_6 rfl 1 rfl ?_
  refine g_callVi (pc := 7) F (mX10_isPlace hV h) mvX10_isPlace uX10_188 (by decide) clX10 (sh_99 hV) rfl rfl (Nat.le_of_ble_eq_true rfl) dX10_knot_7 (fun r_7 s_7 h => ?_)
  refine g_if_ne (pc := 10) F 15 dX10_knot_10 (by decide) (fun c => ?_) (fun c => ?_)
  · have h := h.1 c
    refine g_iconst (pc := 15) F dX10_knot_15 ic_0 ?_
    refine g_istore_n (pc := 16) (lv' := [(_, _), (_, _), (_, _)]) F dX10_knot_16 rfl (by decide) rfl ?_
    refine g_iconst (pc := 17) F dX10_knot_17 ic_0 ?_
    refine g_istore_n (pc := 18) (lv' := [(_, _), (_, _), (_, _), (_, _)]) F dX10_knot_18 rfl (by decide) rfl ?_
    obtain ⟨k_19, h⟩ := h
    refine g_weak [2, 3, 1, 0] rfl (bX10_knot_19 F hR hV k_19 _ _ _ h)
  · have h := h.2 c
    refine g_iconst (pc := 13) F dX10_knot_13 ic_m1 ?_
    exact hR _ _ _ _ dX10_knot_14 h
def wX10_asking_20 (Q : Int32 → St → Prop) (x1 : Int32) (s : St) : Prop :=
  wX10_draftLanes  s (fun r_22 s_22 => wX10_scans r_22 s_22 (fun s_25 => wX10_allMaps  s_25 (fun r_30 s_30 => wX10_costOf r_30 s_30 (fun r_33 s_33 => ((¬ r_33 = (1000000 : Int32) → ((¬ x1 = (-1 : Int32) → vp_in x1 6 ∧ Q (s_33.1 120 x1.toNatClampNeg) s_33) ∧ (x1 = (-1 : Int32) → Q r_33 s_33))) ∧ (r_33 = (1000000 : Int32) → Q (-9 : Int32) s_33))))))
set_option maxHeartbeats 4000000 in
set_option maxRecDepth 100000 in
theorem bX10_asking_20 {l : Launch} {V : Wv} {X : Mx} {Q : Int32 → St → Prop} {x1 : Int32} (F : Fx V X cX10_asking RX10 3 4) (hR : RtI l V X 3 cX10_asking Q) (hV : V.2.1 = DESC)  {s : St} (h : wX10_asking_20 Q x1 s) : G l V X 3 20 [(0, rf V 99), (1, .int x1)] [] s := by
  unfold wX10_asking_20 at h
  refine g_aload_n (pc := 20) F dX10_asking_20 rfl 0 rfl ?_
  refine g_aload_n (pc := 21) F dX10_asking_21 rfl 0 rfl ?_
  refine g_callVi (pc := 22) F (mX10_draftLanes hV h) mvX10_draftLanes uX10_195 (by decide) clX10 (sh_99 hV) rfl rfl (Nat.le_of_ble_eq_true rfl) dX10_asking_22 (fun r_22 s_22 h => ?_)
  refine g_callVv (pc := 25) F (mX10_scans hV h) mvX10_scans uX10_199 (by decide) clX10 (sh_99 hV) rfl rfl (Nat.le_of_ble_eq_true rfl) dX10_asking_25 (fun s_25 h => ?_)
  refine g_aload_n (pc := 28) F dX10_asking_28 rfl 0 rfl ?_
  refine g_aload_n (pc := 29) F dX10_asking_29 rfl 0 rfl ?_
  refine g_callVi (pc := 30) F (mX10_allMaps hV h) mvX10_allMaps uX10_202 (by decide) clX10 (sh_99 hV) rfl rfl (Nat.le_of_ble_eq_true rfl) dX10_asking_30 (fun r_30 s_30 h => ?_)
  refine g_callVi (pc := 33) F (mX10_costOf hV h) mvX10_costOf uX10_205 (by decide) clX10 (sh_99 hV) rfl rfl (Nat.le_of_ble_eq_true rfl) dX10_asking_33 (fun r_33 s_33 h => ?_)
  refine g_istore_n (pc := 36) (lv' := [(_, _), (_, _), (_, _)]) F dX10_asking_36 rfl (by decide) rfl ?_
  refine g_iload_n (pc := 37) F dX10_asking_37 rfl 0 rfl ?_
  refine g_ldc (pc := 38) F dX10_asking_38 uX10_167 ?_
  refine g_icmp_ne (pc := 40) F 48 dX10_asking_40 (by decide) (fun c => ?_) (fun c => ?_)
  · have h := h.1 c
    refine g_iload_n (pc := 48) F dX10_asking_48 rfl 2 rfl ?_
    refine g_iconst (pc := 49) F dX10_asking_49 ic_m1 ?_
    refine g_icmp_ne (pc := 50) F 57 dX10_asking_50 (by decide) (fun c => ?_) (fun c => ?_)
    · have h := h.1 c
      refine g_aload_n (pc := 57) F dX10_asking_57 rfl 1 rfl ?_
      refine g_getR (pc := 58) F clX10 (sh_99 hV) 31 _ rfl (by decide) uX10_71 dX10_asking_58 ?_
      refine g_iload_n (pc := 61) F dX10_asking_61 rfl 2 rfl ?_
      obtain ⟨hb_62, h⟩ := h
      refine g_iald (pc := 62) F (sh_120 hV) hb_62 dX10_asking_62 ?_
      exact hR _ _ _ _ dX10_asking_63 h
    · have h := h.2 c
      refine g_iload_n (pc := 53) F dX10_asking_53 rfl 0 rfl ?_
      refine g_goto (pc := 54) F 63 dX10_asking_54 (by decide) ?_
      exact hR _ _ _ _ dX10_asking_63 h
  · have h := h.2 c
    refine g_bipush (pc := 43) F dX10_asking_43 bp_m9 ?_
    refine g_goto (pc := 45) F 63 dX10_asking_45 (by decide) ?_
    exact hR _ _ _ _ dX10_asking_63 h
def wX10_asking (x1 : Int32) (s : St) (Q : Int32 → St → Prop) : Prop :=
  ∀ s_2 : St, s_2 = stI s 99 0 (0 : Int32) → ((x1 = (-1 : Int32) → wX10_asking_20 Q x1 s_2) ∧ (¬ x1 = (-1 : Int32) → wX10_isLane x1 s_2 (fun r_12 s_12 => ((¬ r_12 = 0 → wX10_asking_20 Q x1 s_12) ∧ (r_12 = 0 → Q (-1 : Int32) s_12)))))
set_option maxHeartbeats 4000000 in
set_option maxRecDepth 100000 in
theorem mX10_asking {l : Launch} {V : Wv} {x1 : Int32} {s : St} {Q : Int32 → St → Prop} (hV : V.2.1 = DESC) (h : wX10_asking x1 s Q) : Ci yX10_asking cX10_asking 3 (some .int) (4) l V [rf V 99, .int x1] s Q := by
  unfold wX10_asking at h
  refine Ci.of mvX10_asking.1 (Nat.le_of_ble_eq_true rfl) (fun X F hR => ?_)
  refine g_lv (lv' := [(_, _), (_, _)]) rfl ?_
  refine g_aload_n (pc := 0) F dX10_asking_0 rfl 0 rfl ?_
  refine g_iconst (pc := 1) F dX10_asking_1 ic_0 ?_
  have h := h _ rfl
  refine g_putI (pc := 2) F clX10 (sh_99 hV) 0 rfl (by decide) rfl (tyX10_ok 0 (by decide)) uX10_89 dX10_asking_2 ?_
  refine g_iload_n (pc := 5) F dX10_asking_5 rfl 1 rfl ?_
  refine g_iconst (pc := 6) F dX10_asking_6 ic_m1 ?_
  refine g_icmp_eq (pc := 7) F 20 dX10_asking_7 (by decide) (fun c => ?_) (fun c => ?_)
  · have h := h.1 c
    exact g_weak [0, 1] rfl (bX10_asking_20 F hR hV h)
  · have h := h.2 c
    refine g_aload_n (pc := 10) F dX10_asking_10 rfl 0 rfl ?_
    refine g_iload_n (pc := 11) F dX10_asking_11 rfl 1 rfl ?_
    refine g_callVi (pc := 12) F (mX10_isLane hV h) mvX10_isLane uX10_171 (by decide) clX10 (sh_99 hV) rfl rfl (Nat.le_of_ble_eq_true rfl) dX10_asking_12 (fun r_12 s_12 h => ?_)
    refine g_if_ne (pc := 15) F 20 dX10_asking_15 (by decide) (fun c => ?_) (fun c => ?_)
    · have h := h.1 c
      exact g_weak [0, 1] rfl (bX10_asking_20 F hR hV h)
    · have h := h.2 c
      refine g_iconst (pc := 18) F dX10_asking_18 ic_m1 ?_
      exact hR _ _ _ _ dX10_asking_19 h
def wX10_clash_65 (rec : Int32 → Int32 → St → Prop) (Q : Int32 → St → Prop) (x2 : Int32) (t0 : Int32) (s : St) : Prop :=
  rec t0 (x2 + (1 : Int32)) s
set_option maxHeartbeats 4000000 in
set_option maxRecDepth 100000 in
theorem bX10_clash_65 {l : Launch} {V : Wv} {X : Mx} {rec : Int32 → Int32 → St → Prop} {Q : Int32 → St → Prop} {x2 : Int32} {t0 : Int32} (F : Fx V X cX10_clash RX10 4 4) (hR : RtI l V X 4 cX10_clash Q) (hV : V.2.1 = DESC) (hrec : ∀ (y1 : Int32) (y2 : Int32) (s : St), rec y1 y2 s → G l V X 4 17 [(0, rf V 99), (1, .int y1), (2, .int y2)] [] s) {s : St} (h : wX10_clash_65 rec Q x2 t0 s) : G l V X 4 65 [(0, rf V 99), (2, .int x2)] [.int t0] s := by
  unfold wX10_clash_65 at h
  refine g_istore_n (pc := 65) (lv' := [(_, _), (_, _), (_, _)]) F dX10_clash_65 rfl (by decide) rfl ?_
  refine g_iinc (pc := 66) (lv' := [(_, _), (_, _), (_, _)]) F dX10_clash_66 2 rfl (congrArg _ ic_1) (by decide) rfl ?_
  refine g_goto (pc := 69) F 17 dX10_clash_69 (by decide) ?_
  exact g_weak [2, 1, 0] rfl (hrec _ _ _ h)
def wX10_clash_64 (rec : Int32 → Int32 → St → Prop) (Q : Int32 → St → Prop) (x1 : Int32) (x2 : Int32) (s : St) : Prop :=
  wX10_clash_65 (rec) Q x2 x1 s
set_option maxHeartbeats 4000000 in
set_option maxRecDepth 100000 in
theorem bX10_clash_64 {l : Launch} {V : Wv} {X : Mx} {rec : Int32 → Int32 → St → Prop} {Q : Int32 → St → Prop} {x1 : Int32} {x2 : Int32} (F : Fx V X cX10_clash RX10 4 4) (hR : RtI l V X 4 cX10_clash Q) (hV : V.2.1 = DESC) (hrec : ∀ (y1 : Int32) (y2 : Int32) (s : St), rec y1 y2 s → G l V X 4 17 [(0, rf V 99), (1, .int y1), (2, .int y2)] [] s) {s : St} (h : wX10_clash_64 rec Q x1 x2 s) : G l V X 4 64 [(0, rf V 99), (1, .int x1), (2, .int x2)] [] s := by
  unfold wX10_clash_64 at h
  refine g_iload_n (pc := 64) F dX10_clash_64 rfl 1 rfl ?_
  exact g_weak [0, 2] rfl (bX10_clash_65 F hR hV hrec h)
def wX10_clash_45 (rec : Int32 → Int32 → St → Prop) (Q : Int32 → St → Prop) (x1 : Int32) (x2 : Int32) (t0 : Int32) (s : St) : Prop :=
  ((t0 = 0 → wX10_clash_64 (rec) Q x1 x2 s) ∧ (¬ t0 = 0 → wX10_costOf x2 s (fun r_52 s_52 => ((¬ r_52 = (1000000 : Int32) → wX10_clash_64 (rec) Q x1 x2 s_52) ∧ (r_52 = (1000000 : Int32) → wX10_clash_65 (rec) Q x2 x2 s_52)))))
set_option maxHeartbeats 4000000 in
set_option maxRecDepth 100000 in
theorem bX10_clash_45 {l : Launch} {V : Wv} {X : Mx} {rec : Int32 → Int32 → St → Prop} {Q : Int32 → St → Prop} {x1 : Int32} {x2 : Int32} {t0 : Int32} (F : Fx V X cX10_clash RX10 4 4) (hR : RtI l V X 4 cX10_clash Q) (hV : V.2.1 = DESC) (hrec : ∀ (y1 : Int32) (y2 : Int32) (s : St), rec y1 y2 s → G l V X 4 17 [(0, rf V 99), (1, .int y1), (2, .int y2)] [] s) {s : St} (h : wX10_clash_45 rec Q x1 x2 t0 s) : G l V X 4 45 [(0, rf V 99), (1, .int x1), (2, .int x2)] [.int t0] s := by
  unfold wX10_clash_45 at h
  refine g_istore_n (pc := 45) (lv' := [(_, _), (_, _), (_, _), (_, _)]) F dX10_clash_45 rfl (by decide) rfl ?_
  refine g_iload_n (pc := 46) F dX10_clash_46 rfl 0 rfl ?_
  refine g_if_eq (pc := 47) F 64 dX10_clash_47 (by decide) (fun c => ?_) (fun c => ?_)
  · have h := h.1 c
    exact g_weak [1, 2, 3] rfl (bX10_clash_64 F hR hV hrec h)
  · have h := h.2 c
    refine g_aload_n (pc := 50) F dX10_clash_50 rfl 1 rfl ?_
    refine g_iload_n (pc := 51) F dX10_clash_51 rfl 3 rfl ?_
    refine g_callVi (pc := 52) F (mX10_costOf hV h) mvX10_costOf uX10_205 (by decide) clX10 (sh_99 hV) rfl rfl (Nat.le_of_ble_eq_true rfl) dX10_clash_52 (fun r_52 s_52 h => ?_)
    refine g_ldc (pc := 55) F dX10_clash_55 uX10_167 ?_
    refine g_icmp_ne (pc := 57) F 64 dX10_clash_57 (by decide) (fun c => ?_) (fun c => ?_)
    · have h := h.1 c
      exact g_weak [1, 2, 3] rfl (bX10_clash_64 F hR hV hrec h)
    · have h := h.2 c
      refine g_iload_n (pc := 60) F dX10_clash_60 rfl 3 rfl ?_
      refine g_goto (pc := 61) F 65 dX10_clash_61 (by decide) ?_
      exact g_weak [1, 3] rfl (bX10_clash_65 F hR hV hrec h)
def wX10_clash_40 (rec : Int32 → Int32 → St → Prop) (Q : Int32 → St → Prop) (x1 : Int32) (x2 : Int32) (s : St) : Prop :=
  wX10_clash_45 (rec) Q x1 x2 (1 : Int32) s
set_option maxHeartbeats 4000000 in
set_option maxRecDepth 100000 in
theorem bX10_clash_40 {l : Launch} {V : Wv} {X : Mx} {rec : Int32 → Int32 → St → Prop} {Q : Int32 → St → Prop} {x1 : Int32} {x2 : Int32} (F : Fx V X cX10_clash RX10 4 4) (hR : RtI l V X 4 cX10_clash Q) (hV : V.2.1 = DESC) (hrec : ∀ (y1 : Int32) (y2 : Int32) (s : St), rec y1 y2 s → G l V X 4 17 [(0, rf V 99), (1, .int y1), (2, .int y2)] [] s) {s : St} (h : wX10_clash_40 rec Q x1 x2 s) : G l V X 4 40 [(0, rf V 99), (1, .int x1), (2, .int x2)] [] s := by
  unfold wX10_clash_40 at h
  refine g_iconst (pc := 40) F dX10_clash_40 ic_1 ?_
  refine g_goto (pc := 41) F 45 dX10_clash_41 (by decide) ?_
  exact g_weak [0, 1, 2] rfl (bX10_clash_45 F hR hV hrec h)
def wX10_clash_17 (Q : Int32 → St → Prop) : Nat → Int32 → Int32 → St → Prop
  | 0, _, _, _ => False
  | n + 1, x1, x2, s =>
  wX10_allMaps  s (fun r_19 s_19 => ((r_19 < x2 → Q x1 s_19) ∧ (¬ r_19 < x2 → ((x1 = 0 → wX10_clash_40 (wX10_clash_17 Q n) Q x1 x2 s_19) ∧ (¬ x1 = 0 → wX10_ones x2 s_19 (fun r_30 s_30 => wX10_ones x1 s_30 (fun r_34 s_34 => ((r_34 ≤ r_30 → wX10_clash_45 (wX10_clash_17 Q n) Q x1 x2 (0 : Int32) s_34) ∧ (¬ r_34 ≤ r_30 → wX10_clash_40 (wX10_clash_17 Q n) Q x1 x2 s_34)))))))))
set_option maxHeartbeats 4000000 in
set_option maxRecDepth 100000 in
theorem bX10_clash_17 {l : Launch} {V : Wv} {X : Mx} {Q : Int32 → St → Prop} (F : Fx V X cX10_clash RX10 4 4) (hR : RtI l V X 4 cX10_clash Q) (hV : V.2.1 = DESC)  : ∀ (n : Nat) (x1 : Int32) (x2 : Int32) (s : St), wX10_clash_17 Q n x1 x2 s → G l V X 4 17 [(0, rf V 99), (1, .int x1), (2, .int x2)] [] s := by
  intro n
  induction n with
  | zero => intro x1 x2 s h; unfold wX10_clash_17 at h; exact h.elim
  | succ n ih =>
    intro x1 x2 s h
    unfold wX10_clash_17 at h
    refine g_iload_n (pc := 17) F dX10_clash_17 rfl 2 rfl ?_
    refine g_aload_n (pc := 18) F dX10_clash_18 rfl 0 rfl ?_
    refine g_callVi (pc := 19) F (mX10_allMaps hV h) mvX10_allMaps uX10_202 (by decide) clX10 (sh_99 hV) rfl rfl (Nat.le_of_ble_eq_true rfl) dX10_clash_19 (fun r_19 s_19 h => ?_)
    refine g_icmp_gt (pc := 22) F 72 dX10_clash_22 (by decide) (fun c => ?_) (fun c => ?_)
    · have h := h.1 c
      refine g_iload_n (pc := 72) F dX10_clash_72 rfl 1 rfl ?_
      exact hR _ _ _ _ dX10_clash_73 h
    · have h := h.2 c
      refine g_iload_n (pc := 25) F dX10_clash_25 rfl 1 rfl ?_
      refine g_if_eq (pc := 26) F 40 dX10_clash_26 (by decide) (fun c => ?_) (fun c => ?_)
      · have h := h.1 c
        exact g_weak [0, 1, 2] rfl (bX10_clash_40 F hR hV ih h)
      · have h := h.2 c
        refine g_iload_n (pc := 29) F dX10_clash_29 rfl 2 rfl ?_
        refine g_callSi (pc := 30) F (mX10_ones hV h) mvX10_ones uX10_223 (by decide)  rfl rfl (Nat.le_of_ble_eq_true rfl) dX10_clash_30 (fun r_30 s_30 h => ?_)
        refine g_iload_n (pc := 33) F dX10_clash_33 rfl 1 rfl ?_
        refine g_callSi (pc := 34) F (mX10_ones hV h) mvX10_ones uX10_223 (by decide)  rfl rfl (Nat.le_of_ble_eq_true rfl) dX10_clash_34 (fun r_34 s_34 h => ?_)
        refine g_icmp_ge (pc := 37) F 44 dX10_clash_37 (by decide) (fun c => ?_) (fun c => ?_)
        · have h := h.1 c
          refine g_iconst (pc := 44) F dX10_clash_44 ic_0 ?_
          exact g_weak [0, 1, 2] rfl (bX10_clash_45 F hR hV ih h)
        · have h := h.2 c
          exact g_weak [0, 1, 2] rfl (bX10_clash_40 F hR hV ih h)
def wX10_clash  (s : St) (Q : Int32 → St → Prop) : Prop :=
  ∀ s_2 : St, s_2 = stI s 99 0 (0 : Int32) → wX10_draftLanes  s_2 (fun r_7 s_7 => wX10_scans r_7 s_7 (fun s_10 => (∃ k_17, wX10_clash_17    Q k_17 (0 : Int32) (0 : Int32) s_10)))
set_option maxHeartbeats 4000000 in
set_option maxRecDepth 100000 in
theorem mX10_clash {l : Launch} {V : Wv}  {s : St} {Q : Int32 → St → Prop} (hV : V.2.1 = DESC) (h : wX10_clash  s Q) : Ci yX10_clash cX10_clash 4 (some .int) (4) l V [rf V 99] s Q := by
  unfold wX10_clash at h
  refine Ci.of mvX10_clash.1 (Nat.le_of_ble_eq_true rfl) (fun X F hR => ?_)
  refine g_lv (lv' := [(_, _)]) rfl ?_
  refine g_aload_n (pc := 0) F dX10_clash_0 rfl 0 rfl ?_
  refine g_iconst (pc := 1) F dX10_clash_1 ic_0 ?_
  have h := h _ rfl
  refine g_putI (pc := 2) F clX10 (sh_99 hV) 0 rfl (by decide) rfl (tyX10_ok 0 (by decide)) uX10_89 dX10_clash_2 ?_
  refine g_aload_n (pc := 5) F dX10_clash_5 rfl 0 rfl ?_
  refine g_aload_n (pc := 6) F dX10_clash_6 rfl 0 rfl ?_
  refine g_callVi (pc := 7) F (mX10_draftLanes hV h) mvX10_draftLanes uX10_195 (by decide) clX10 (sh_99 hV) rfl rfl (Nat.le_of_ble_eq_true rfl) dX10_clash_7 (fun r_7 s_7 h => ?_)
  refine g_callVv (pc := 10) F (mX10_scans hV h) mvX10_scans uX10_199 (by decide) clX10 (sh_99 hV) rfl rfl (Nat.le_of_ble_eq_true rfl) dX10_clash_10 (fun s_10 h => ?_)
  refine g_iconst (pc := 13) F dX10_clash_13 ic_0 ?_
  refine g_istore_n (pc := 14) (lv' := [(_, _), (_, _)]) F dX10_clash_14 rfl (by decide) rfl ?_
  refine g_iconst (pc := 15) F dX10_clash_15 ic_0 ?_
  refine g_istore_n (pc := 16) (lv' := [(_, _), (_, _), (_, _)]) F dX10_clash_16 rfl (by decide) rfl ?_
  obtain ⟨k_17, h⟩ := h
  refine g_weak [2, 1, 0] rfl (bX10_clash_17 F hR hV k_17 _ _ _ h)
def wX10_fire_88 (rec : Int32 → Int32 → St → Prop) (K95 : Int32 → St → Prop) (Q : Int32 → St → Prop) (x1 : Int32) (x3 : Int32) (t0 : Int32) (s : St) : Prop :=
  rec t0 (x3 + (1 : Int32)) s
set_option maxHeartbeats 4000000 in
set_option maxRecDepth 100000 in
theorem bX10_fire_88 {l : Launch} {V : Wv} {X : Mx} {rec : Int32 → Int32 → St → Prop} {K95 : Int32 → St → Prop} {Q : Int32 → St → Prop} {x1 : Int32} {x3 : Int32} {t0 : Int32} (F : Fx V X cX10_fire RX10 4 4) (hR : RtI l V X 4 cX10_fire Q) (hV : V.2.1 = DESC) (hrec : ∀ (y2 : Int32) (y3 : Int32) (s : St), rec y2 y3 s → G l V X 4 41 [(0, rf V 99), (1, .int x1), (2, .int y2), (3, .int y3)] [] s) (hK95 : ∀ (y2 : Int32) (s : St), K95 y2 s → G l V X 4 95 [(0, rf V 99), (1, .int x1), (2, .int y2)] [] s) {s : St} (h : wX10_fire_88 rec K95 Q x1 x3 t0 s) : G l V X 4 88 [(0, rf V 99), (1, .int x1), (3, .int x3)] [.int t0] s := by
  unfold wX10_fire_88 at h
  refine g_istore_n (pc := 88) (lv' := [(_, _), (_, _), (_, _), (_, _)]) F dX10_fire_88 rfl (by decide) rfl ?_
  refine g_iinc (pc := 89) (lv' := [(_, _), (_, _), (_, _), (_, _)]) F dX10_fire_89 3 rfl (congrArg _ ic_1) (by decide) rfl ?_
  refine g_goto (pc := 92) F 41 dX10_fire_92 (by decide) ?_
  exact g_weak [2, 3, 1, 0] rfl (hrec _ _ _ h)
def wX10_fire_41 (x1 : Int32) (K95 : Int32 → St → Prop) (Q : Int32 → St → Prop) : Nat → Int32 → Int32 → St → Prop
  | 0, _, _, _ => False
  | n + 1, x2, x3, s =>
  vp_in (6 : Int32) 38 ∧ (((s.1 106 (6 : Int32).toNatClampNeg) ≤ x3 → K95 x2 s) ∧ (¬ (s.1 106 (6 : Int32).toNatClampNeg) ≤ x3 → wX10_allMaps  s (fun r_54 s_54 => wX10_costOf (r_54 &&& (((1 : Int32) <<< (x3 &&& 31)) ^^^ (-1 : Int32))) s_54 (fun r_63 s_63 => wX10_allMaps  s_63 (fun r_68 s_68 => wX10_costOf (r_68 &&& (((1 : Int32) <<< (x2 &&& 31)) ^^^ (-1 : Int32))) s_68 (fun r_77 s_77 => ((r_77 ≤ r_63 → wX10_fire_88 (wX10_fire_41 x1 K95 Q n) (K95) Q x1 x3 x2 s_77) ∧ (¬ r_77 ≤ r_63 → wX10_fire_88 (wX10_fire_41 x1 K95 Q n) (K95) Q x1 x3 x3 s_77))))))))
set_option maxHeartbeats 4000000 in
set_option maxRecDepth 100000 in
theorem bX10_fire_41 {l : Launch} {V : Wv} {X : Mx} {x1 : Int32} {K95 : Int32 → St → Prop} {Q : Int32 → St → Prop} (F : Fx V X cX10_fire RX10 4 4) (hR : RtI l V X 4 cX10_fire Q) (hV : V.2.1 = DESC) (hK95 : ∀ (y2 : Int32) (s : St), K95 y2 s → G l V X 4 95 [(0, rf V 99), (1, .int x1), (2, .int y2)] [] s) : ∀ (n : Nat) (x2 : Int32) (x3 : Int32) (s : St), wX10_fire_41 x1 K95 Q n x2 x3 s → G l V X 4 41 [(0, rf V 99), (1, .int x1), (2, .int x2), (3, .int x3)] [] s := by
  intro n
  induction n with
  | zero => intro x2 x3 s h; unfold wX10_fire_41 at h; exact h.elim
  | succ n ih =>
    intro x2 x3 s h
    unfold wX10_fire_41 at h
    refine g_iload_n (pc := 41) F dX10_fire_41 rfl 3 rfl ?_
    refine g_aload_n (pc := 42) F dX10_fire_42 rfl 0 rfl ?_
    refine g_getR (pc := 43) F clX10 (sh_99 hV) 14 _ rfl (by decide) uX10_28 dX10_fire_43 ?_
    refine g_bipush (pc := 46) F dX10_fire_46 bp_6 ?_
    obtain ⟨hb_48, h⟩ := h
    refine g_iald (pc := 48) F (sh_106 hV) hb_48 dX10_fire_48 ?_
    refine g_icmp_ge (pc := 49) F 95 dX10_fire_49 (by decide) (fun c => ?_) (fun c => ?_)
    · have h := h.1 c
      exact g_weak [0, 1, 2] rfl (hK95 _ _ h)
    · have h := h.2 c
      refine g_aload_n (pc := 52) F dX10_fire_52 rfl 0 rfl ?_
      refine g_aload_n (pc := 53) F dX10_fire_53 rfl 0 rfl ?_
      refine g_callVi (pc := 54) F (mX10_allMaps hV h) mvX10_allMaps uX10_202 (by decide) clX10 (sh_99 hV) rfl rfl (Nat.le_of_ble_eq_true rfl) dX10_fire_54 (fun r_54 s_54 h => ?_)
      refine g_iconst (pc := 57) F dX10_fire_57 ic_1 ?_
      refine g_iload_n (pc := 58) F dX10_fire_58 rfl 3 rfl ?_
      refine g_ishl (pc := 59) F dX10_fire_59 ?_
      refine g_iconst (pc := 60) F dX10_fire_60 ic_m1 ?_
      refine g_ixor (pc := 61) F dX10_fire_61 ?_
      refine g_iand (pc := 62) F dX10_fire_62 ?_
      refine g_callVi (pc := 63) F (mX10_costOf hV h) mvX10_costOf uX10_205 (by decide) clX10 (sh_99 hV) rfl rfl (Nat.le_of_ble_eq_true rfl) dX10_fire_63 (fun r_63 s_63 h => ?_)
      refine g_aload_n (pc := 66) F dX10_fire_66 rfl 0 rfl ?_
      refine g_aload_n (pc := 67) F dX10_fire_67 rfl 0 rfl ?_
      refine g_callVi (pc := 68) F (mX10_allMaps hV h) mvX10_allMaps uX10_202 (by decide) clX10 (sh_99 hV) rfl rfl (Nat.le_of_ble_eq_true rfl) dX10_fire_68 (fun r_68 s_68 h => ?_)
      refine g_iconst (pc := 71) F dX10_fire_71 ic_1 ?_
      refine g_iload_n (pc := 72) F dX10_fire_72 rfl 2 rfl ?_
      refine g_ishl (pc := 73) F dX10_fire_73 ?_
      refine g_iconst (pc := 74) F dX10_fire_74 ic_m1 ?_
      refine g_ixor (pc := 75) F dX10_fire_75 ?_
      refine g_iand (pc := 76) F dX10_fire_76 ?_
      refine g_callVi (pc := 77) F (mX10_costOf hV h) mvX10_costOf uX10_205 (by decide) clX10 (sh_99 hV) rfl rfl (Nat.le_of_ble_eq_true rfl) dX10_fire_77 (fun r_77 s_77 h => ?_)
      refine g_icmp_ge (pc := 80) F 87 dX10_fire_80 (by decide) (fun c => ?_) (fun c => ?_)
      · have h := h.1 c
        refine g_iload_n (pc := 87) F dX10_fire_87 rfl 2 rfl ?_
        exact g_weak [0, 1, 3] rfl (bX10_fire_88 F hR hV ih hK95 h)
      · have h := h.2 c
        refine g_iload_n (pc := 83) F dX10_fire_83 rfl 3 rfl ?_
        refine g_goto (pc := 84) F 88 dX10_fire_84 (by decide) ?_
        exact g_weak [0, 1, 3] rfl (bX10_fire_88 F hR hV ih hK95 h)
def wX10_fire (x1 : Int32) (s : St) (Q : Int32 → St → Prop) : Prop :=
  ∀ s_2 : St, s_2 = stI s 99 0 (0 : Int32) → wX10_in x1 (0 : Int32) (1 : Int32) s_2 (fun r_8 s_8 => ((¬ r_8 = 0 → vp_in (6 : Int32) 38 ∧ ((¬ (s_8.1 106 (6 : Int32).toNatClampNeg) = 0 → wX10_draftLanes  s_8 (fun r_31 s_31 => wX10_scans r_31 s_31 (fun s_34 => (∃ k_41, wX10_fire_41  x1 (fun x2_95 s_k95 => wX10_allMaps  s_k95 (fun r_97 s_97 => wX10_costOf (r_97 &&& (((1 : Int32) <<< (x2_95 &&& 31)) ^^^ (-1 : Int32))) s_97 (fun r_106 s_106 => ((¬ x1 = 0 → ((¬ r_106 = (1000000 : Int32) → Q r_106 s_106) ∧ (r_106 = (1000000 : Int32) → Q (-9 : Int32) s_106))) ∧ (x1 = 0 → Q x2_95 s_106))))) Q k_41 (0 : Int32) (1 : Int32) s_34)))) ∧ ((s_8.1 106 (6 : Int32).toNatClampNeg) = 0 → Q (-9 : Int32) s_8))) ∧ (r_8 = 0 → Q (-1 : Int32) s_8)))
set_option maxHeartbeats 4000000 in
set_option maxRecDepth 100000 in
theorem mX10_fire {l : Launch} {V : Wv} {x1 : Int32} {s : St} {Q : Int32 → St → Prop} (hV : V.2.1 = DESC) (h : wX10_fire x1 s Q) : Ci yX10_fire cX10_fire 4 (some .int) (4) l V [rf V 99, .int x1] s Q := by
  unfold wX10_fire at h
  refine Ci.of mvX10_fire.1 (Nat.le_of_ble_eq_true rfl) (fun X F hR => ?_)
  refine g_lv (lv' := [(_, _), (_, _)]) rfl ?_
  refine g_aload_n (pc := 0) F dX10_fire_0 rfl 0 rfl ?_
  refine g_iconst (pc := 1) F dX10_fire_1 ic_0 ?_
  have h := h _ rfl
  refine g_putI (pc := 2) F clX10 (sh_99 hV) 0 rfl (by decide) rfl (tyX10_ok 0 (by decide)) uX10_89 dX10_fire_2 ?_
  refine g_iload_n (pc := 5) F dX10_fire_5 rfl 1 rfl ?_
  refine g_iconst (pc := 6) F dX10_fire_6 ic_0 ?_
  refine g_iconst (pc := 7) F dX10_fire_7 ic_1 ?_
  refine g_callSi (pc := 8) F (mX10_in hV h) mvX10_in uX10_93 (by decide)  rfl rfl (Nat.le_of_ble_eq_true rfl) dX10_fire_8 (fun r_8 s_8 h => ?_)
  refine g_if_ne (pc := 11) F 16 dX10_fire_11 (by decide) (fun c => ?_) (fun c => ?_)
  · have h := h.1 c
    refine g_aload_n (pc := 16) F dX10_fire_16 rfl 0 rfl ?_
    refine g_getR (pc := 17) F clX10 (sh_99 hV) 14 _ rfl (by decide) uX10_28 dX10_fire_17 ?_
    refine g_bipush (pc := 20) F dX10_fire_20 bp_6 ?_
    obtain ⟨hb_22, h⟩ := h
    refine g_iald (pc := 22) F (sh_106 hV) hb_22 dX10_fire_22 ?_
    refine g_if_ne (pc := 23) F 29 dX10_fire_23 (by decide) (fun c => ?_) (fun c => ?_)
    · have h := h.1 c
      refine g_aload_n (pc := 29) F dX10_fire_29 rfl 0 rfl ?_
      refine g_aload_n (pc := 30) F dX10_fire_30 rfl 0 rfl ?_
      refine g_callVi (pc := 31) F (mX10_draftLanes hV h) mvX10_draftLanes uX10_195 (by decide) clX10 (sh_99 hV) rfl rfl (Nat.le_of_ble_eq_true rfl) dX10_fire_31 (fun r_31 s_31 h => ?_)
      refine g_callVv (pc := 34) F (mX10_scans hV h) mvX10_scans uX10_199 (by decide) clX10 (sh_99 hV) rfl rfl (Nat.le_of_ble_eq_true rfl) dX10_fire_34 (fun s_34 h => ?_)
      refine g_iconst (pc := 37) F dX10_fire_37 ic_0 ?_
      refine g_istore_n (pc := 38) (lv' := [(_, _), (_, _), (_, _)]) F dX10_fire_38 rfl (by decide) rfl ?_
      refine g_iconst (pc := 39) F dX10_fire_39 ic_1 ?_
      refine g_istore_n (pc := 40) (lv' := [(_, _), (_, _), (_, _), (_, _)]) F dX10_fire_40 rfl (by decide) rfl ?_
      obtain ⟨k_41, h⟩ := h
      refine g_weak [2, 3, 1, 0] rfl (bX10_fire_41 F hR hV (fun x2_95 s_k95 h => ?_) k_41 _ _ _ h)
      · refine g_aload_n (pc := 95) F dX10_fire_95 rfl 0 rfl ?_
        refine g_aload_n (pc := 96) F dX10_fire_96 rfl 0 rfl ?_
        refine g_callVi (pc := 97) F (mX10_allMaps hV h) mvX10_allMaps uX10_202 (by decide) clX10 (sh_99 hV) rfl rfl (Nat.le_of_ble_eq_true rfl) dX10_fire_97 (fun r_97 s_97 h => ?_)
        refine g_iconst (pc := 100) F dX10_fire_100 ic_1 ?_
        refine g_iload_n (pc := 101) F dX10_fire_101 rfl 2 rfl ?_
        refine g_ishl (pc := 102) F dX10_fire_102 ?_
        refine g_iconst (pc := 103) F dX10_fire_103 ic_m1 ?_
        refine g_ixor (pc := 104) F dX10_fire_104 ?_
        refine g_iand (pc := 105) F dX10_fire_105 ?_
        refine g_callVi (pc := 106) F (mX10_costOf hV h) mvX10_costOf uX10_205 (by decide) clX10 (sh_99 hV) rfl rfl (Nat.le_of_ble_eq_true rfl) dX10_fire_106 (fun r_106 s_106 h => ?_)
        refine g_istore_n (pc := 109) (lv' := [(_, _), (_, _), (_, _), (_, _)]) F dX10_fire_109 rfl (by decide) rfl ?_
        refine g_iload_n (pc := 110) F dX10_fire_110 rfl 2 rfl ?_
        refine g_if_ne (pc := 111) F 118 dX10_fire_111 (by decide) (fun c => ?_) (fun c => ?_)
        · have h := h.1 c
          refine g_iload_n (pc := 118) F dX10_fire_118 rfl 0 rfl ?_
          refine g_ldc (pc := 119) F dX10_fire_119 uX10_167 ?_
          refine g_icmp_ne (pc := 121) F 129 dX10_fire_121 (by decide) (fun c => ?_) (fun c => ?_)
          · have h := h.1 c
            refine g_iload_n (pc := 129) F dX10_fire_129 rfl 0 rfl ?_
            exact hR _ _ _ _ dX10_fire_130 h
          · have h := h.2 c
            refine g_bipush (pc := 124) F dX10_fire_124 bp_m9 ?_
            refine g_goto (pc := 126) F 130 dX10_fire_126 (by decide) ?_
            exact hR _ _ _ _ dX10_fire_130 h
        · have h := h.2 c
          refine g_iload_n (pc := 114) F dX10_fire_114 rfl 3 rfl ?_
          refine g_goto (pc := 115) F 130 dX10_fire_115 (by decide) ?_
          exact hR _ _ _ _ dX10_fire_130 h
    · have h := h.2 c
      refine g_bipush (pc := 26) F dX10_fire_26 bp_m9 ?_
      exact hR _ _ _ _ dX10_fire_28 h
  · have h := h.2 c
    refine g_iconst (pc := 14) F dX10_fire_14 ic_m1 ?_
    exact hR _ _ _ _ dX10_fire_15 h
def wX10_reads_87 (rec : Int32 → Int32 → St → Prop) (K95 : Int32 → St → Prop) (Q : Int32 → St → Prop) (x2 : Int32) (x3 : Int32) (x5 : Int32) (t0 : Int32) (s : St) : Prop :=
  rec t0 (x5 + (1 : Int32)) s
set_option maxHeartbeats 4000000 in
set_option maxRecDepth 100000 in
theorem bX10_reads_87 {l : Launch} {V : Wv} {X : Mx} {rec : Int32 → Int32 → St → Prop} {K95 : Int32 → St → Prop} {Q : Int32 → St → Prop} {x2 : Int32} {x3 : Int32} {x5 : Int32} {t0 : Int32} (F : Fx V X cX10_reads RX10 6 0) (hR : RtI l V X 6 cX10_reads Q) (hV : V.2.1 = DESC) (hrec : ∀ (y4 : Int32) (y5 : Int32) (s : St), rec y4 y5 s → G l V X 6 31 [(0, rf V 99), (2, .int x2), (3, .int x3), (4, .int y4), (5, .int y5)] [] s) (hK95 : ∀ (y4 : Int32) (s : St), K95 y4 s → G l V X 6 95 [(0, rf V 99), (2, .int x2), (3, .int x3), (4, .int y4)] [] s) {s : St} (h : wX10_reads_87 rec K95 Q x2 x3 x5 t0 s) : G l V X 6 87 [(0, rf V 99), (2, .int x2), (3, .int x3), (5, .int x5)] [.int t0] s := by
  unfold wX10_reads_87 at h
  refine g_istore (pc := 87) (lv' := [(_, _), (_, _), (_, _), (_, _), (_, _)]) F dX10_reads_87 (by decide) rfl ?_
  refine g_iinc (pc := 89) (lv' := [(_, _), (_, _), (_, _), (_, _), (_, _)]) F dX10_reads_89 4 rfl (congrArg _ ic_1) (by decide) rfl ?_
  refine g_goto (pc := 92) F 31 dX10_reads_92 (by decide) ?_
  exact g_weak [2, 3, 4, 1, 0] rfl (hrec _ _ _ h)
def wX10_reads_85 (rec : Int32 → Int32 → St → Prop) (K95 : Int32 → St → Prop) (Q : Int32 → St → Prop) (x2 : Int32) (x3 : Int32) (x4 : Int32) (x5 : Int32) (s : St) : Prop :=
  wX10_reads_87 (rec) (K95) Q x2 x3 x5 x4 s
set_option maxHeartbeats 4000000 in
set_option maxRecDepth 100000 in
theorem bX10_reads_85 {l : Launch} {V : Wv} {X : Mx} {rec : Int32 → Int32 → St → Prop} {K95 : Int32 → St → Prop} {Q : Int32 → St → Prop} {x2 : Int32} {x3 : Int32} {x4 : Int32} {x5 : Int32} (F : Fx V X cX10_reads RX10 6 0) (hR : RtI l V X 6 cX10_reads Q) (hV : V.2.1 = DESC) (hrec : ∀ (y4 : Int32) (y5 : Int32) (s : St), rec y4 y5 s → G l V X 6 31 [(0, rf V 99), (2, .int x2), (3, .int x3), (4, .int y4), (5, .int y5)] [] s) (hK95 : ∀ (y4 : Int32) (s : St), K95 y4 s → G l V X 6 95 [(0, rf V 99), (2, .int x2), (3, .int x3), (4, .int y4)] [] s) {s : St} (h : wX10_reads_85 rec K95 Q x2 x3 x4 x5 s) : G l V X 6 85 [(0, rf V 99), (2, .int x2), (3, .int x3), (4, .int x4), (5, .int x5)] [] s := by
  unfold wX10_reads_85 at h
  refine g_iload (pc := 85) F dX10_reads_85 3 rfl ?_
  exact g_weak [0, 1, 2, 4] rfl (bX10_reads_87 F hR hV hrec hK95 h)
def wX10_reads_80 (rec : Int32 → Int32 → St → Prop) (K95 : Int32 → St → Prop) (Q : Int32 → St → Prop) (x2 : Int32) (x3 : Int32) (x5 : Int32) (s : St) : Prop :=
  wX10_reads_87 (rec) (K95) Q x2 x3 x5 x5 s
set_option maxHeartbeats 4000000 in
set_option maxRecDepth 100000 in
theorem bX10_reads_80 {l : Launch} {V : Wv} {X : Mx} {rec : Int32 → Int32 → St → Prop} {K95 : Int32 → St → Prop} {Q : Int32 → St → Prop} {x2 : Int32} {x3 : Int32} {x5 : Int32} (F : Fx V X cX10_reads RX10 6 0) (hR : RtI l V X 6 cX10_reads Q) (hV : V.2.1 = DESC) (hrec : ∀ (y4 : Int32) (y5 : Int32) (s : St), rec y4 y5 s → G l V X 6 31 [(0, rf V 99), (2, .int x2), (3, .int x3), (4, .int y4), (5, .int y5)] [] s) (hK95 : ∀ (y4 : Int32) (s : St), K95 y4 s → G l V X 6 95 [(0, rf V 99), (2, .int x2), (3, .int x3), (4, .int y4)] [] s) {s : St} (h : wX10_reads_80 rec K95 Q x2 x3 x5 s) : G l V X 6 80 [(0, rf V 99), (2, .int x2), (3, .int x3), (5, .int x5)] [] s := by
  unfold wX10_reads_80 at h
  refine g_iload (pc := 80) F dX10_reads_80 3 rfl ?_
  refine g_goto (pc := 82) F 87 dX10_reads_82 (by decide) ?_
  exact g_weak [0, 1, 2, 3] rfl (bX10_reads_87 F hR hV hrec hK95 h)
def wX10_reads_31 (x2 : Int32) (x3 : Int32) (K95 : Int32 → St → Prop) (Q : Int32 → St → Prop) : Nat → Int32 → Int32 → St → Prop
  | 0, _, _, _ => False
  | n + 1, x4, x5, s =>
  (((6 : Int32) ≤ x5 → K95 x4 s) ∧ (¬ (6 : Int32) ≤ x5 → ((¬ ((x2 >>> (x5 &&& 31)) &&& (1 : Int32)) = (1 : Int32) → wX10_reads_85 (wX10_reads_31 x2 x3 K95 Q n) (K95) Q x2 x3 x4 x5 s) ∧ (((x2 >>> (x5 &&& 31)) &&& (1 : Int32)) = (1 : Int32) → vp_in x5 12 ∧ vp_in x3 5 ∧ (((s.1 102 x5.toNatClampNeg) = (s.1 122 x3.toNatClampNeg) → wX10_reads_80 (wX10_reads_31 x2 x3 K95 Q n) (K95) Q x2 x3 x5 s) ∧ (¬ (s.1 102 x5.toNatClampNeg) = (s.1 122 x3.toNatClampNeg) → vp_in x5 12 ∧ vp_in x3 5 ∧ ((¬ (s.1 103 x5.toNatClampNeg) = (s.1 122 x3.toNatClampNeg) → wX10_reads_85 (wX10_reads_31 x2 x3 K95 Q n) (K95) Q x2 x3 x4 x5 s) ∧ ((s.1 103 x5.toNatClampNeg) = (s.1 122 x3.toNatClampNeg) → wX10_reads_80 (wX10_reads_31 x2 x3 K95 Q n) (K95) Q x2 x3 x5 s))))))))
set_option maxHeartbeats 4000000 in
set_option maxRecDepth 100000 in
theorem bX10_reads_31 {l : Launch} {V : Wv} {X : Mx} {x2 : Int32} {x3 : Int32} {K95 : Int32 → St → Prop} {Q : Int32 → St → Prop} (F : Fx V X cX10_reads RX10 6 0) (hR : RtI l V X 6 cX10_reads Q) (hV : V.2.1 = DESC) (hK95 : ∀ (y4 : Int32) (s : St), K95 y4 s → G l V X 6 95 [(0, rf V 99), (2, .int x2), (3, .int x3), (4, .int y4)] [] s) : ∀ (n : Nat) (x4 : Int32) (x5 : Int32) (s : St), wX10_reads_31 x2 x3 K95 Q n x4 x5 s → G l V X 6 31 [(0, rf V 99), (2, .int x2), (3, .int x3), (4, .int x4), (5, .int x5)] [] s := by
  intro n
  induction n with
  | zero => intro x4 x5 s h; unfold wX10_reads_31 at h; exact h.elim
  | succ n ih =>
    intro x4 x5 s h
    unfold wX10_reads_31 at h
    refine g_iload (pc := 31) F dX10_reads_31 4 rfl ?_
    refine g_bipush (pc := 33) F dX10_reads_33 bp_6 ?_
    refine g_icmp_ge (pc := 35) F 95 dX10_reads_35 (by decide) (fun c => ?_) (fun c => ?_)
    · have h := h.1 c
      exact g_weak [0, 1, 2, 3] rfl (hK95 _ _ h)
    · have h := h.2 c
      refine g_iload_n (pc := 38) F dX10_reads_38 rfl 1 rfl ?_
      refine g_iload (pc := 39) F dX10_reads_39 4 rfl ?_
      refine g_ishr (pc := 41) F dX10_reads_41 ?_
      refine g_iconst (pc := 42) F dX10_reads_42 ic_1 ?_
      refine g_iand (pc := 43) F dX10_reads_43 ?_
      refine g_iconst (pc := 44) F dX10_reads_44 ic_1 ?_
      refine g_icmp_ne (pc := 45) F 85 dX10_reads_45 (by decide) (fun c => ?_) (fun c => ?_)
      · have h := h.1 c
        exact g_weak [0, 1, 2, 3, 4] rfl (bX10_reads_85 F hR hV ih hK95 h)
      · have h := h.2 c
        refine g_aload_n (pc := 48) F dX10_reads_48 rfl 0 rfl ?_
        refine g_getR (pc := 49) F clX10 (sh_99 hV) 10 _ rfl (by decide) uX10_16 dX10_reads_49 ?_
        refine g_iload (pc := 52) F dX10_reads_52 4 rfl ?_
        obtain ⟨hb_54, h⟩ := h
        refine g_iald (pc := 54) F (sh_102 hV) hb_54 dX10_reads_54 ?_
        refine g_aload_n (pc := 55) F dX10_reads_55 rfl 0 rfl ?_
        refine g_getR (pc := 56) F clX10 (sh_99 hV) 33 _ rfl (by decide) uX10_77 dX10_reads_56 ?_
        refine g_iload_n (pc := 59) F dX10_reads_59 rfl 2 rfl ?_
        obtain ⟨hb_60, h⟩ := h
        refine g_iald (pc := 60) F (sh_122 hV) hb_60 dX10_reads_60 ?_
        refine g_icmp_eq (pc := 61) F 80 dX10_reads_61 (by decide) (fun c => ?_) (fun c => ?_)
        · have h := h.1 c
          exact g_weak [0, 1, 2, 4] rfl (bX10_reads_80 F hR hV ih hK95 h)
        · have h := h.2 c
          refine g_aload_n (pc := 64) F dX10_reads_64 rfl 0 rfl ?_
          refine g_getR (pc := 65) F clX10 (sh_99 hV) 11 _ rfl (by decide) uX10_19 dX10_reads_65 ?_
          refine g_iload (pc := 68) F dX10_reads_68 4 rfl ?_
          obtain ⟨hb_70, h⟩ := h
          refine g_iald (pc := 70) F (sh_103 hV) hb_70 dX10_reads_70 ?_
          refine g_aload_n (pc := 71) F dX10_reads_71 rfl 0 rfl ?_
          refine g_getR (pc := 72) F clX10 (sh_99 hV) 33 _ rfl (by decide) uX10_77 dX10_reads_72 ?_
          refine g_iload_n (pc := 75) F dX10_reads_75 rfl 2 rfl ?_
          obtain ⟨hb_76, h⟩ := h
          refine g_iald (pc := 76) F (sh_122 hV) hb_76 dX10_reads_76 ?_
          refine g_icmp_ne (pc := 77) F 85 dX10_reads_77 (by decide) (fun c => ?_) (fun c => ?_)
          · have h := h.1 c
            exact g_weak [0, 1, 2, 3, 4] rfl (bX10_reads_85 F hR hV ih hK95 h)
          · have h := h.2 c
            exact g_weak [0, 1, 2, 4] rfl (bX10_reads_80 F hR hV ih hK95 h)
def wX10_reads_144 (rec : Int32 → Int32 → St → Prop) (Q : Int32 → St → Prop) (x2 : Int32) (x3 : Int32) (t0 : Int32) (t1 : Int32) (s : St) : Prop :=
  vp_in t1 5 ∧ ∀ s_144 : St, s_144 = stI s 122 t1.toNatClampNeg t0 → rec x2 (x3 + (1 : Int32)) s_144
set_option maxHeartbeats 4000000 in
set_option maxRecDepth 100000 in
theorem bX10_reads_144 {l : Launch} {V : Wv} {X : Mx} {rec : Int32 → Int32 → St → Prop} {Q : Int32 → St → Prop} {x2 : Int32} {x3 : Int32} {t0 : Int32} {t1 : Int32} (F : Fx V X cX10_reads RX10 6 0) (hR : RtI l V X 6 cX10_reads Q) (hV : V.2.1 = DESC) (hrec : ∀ (y2 : Int32) (y3 : Int32) (s : St), rec y2 y3 s → G l V X 6 20 [(0, rf V 99), (2, .int y2), (3, .int y3)] [] s) {s : St} (h : wX10_reads_144 rec Q x2 x3 t0 t1 s) : G l V X 6 144 [(0, rf V 99), (2, .int x2), (3, .int x3)] [.int t0, .int t1, rf V 122] s := by
  unfold wX10_reads_144 at h
  obtain ⟨hb_144, h⟩ := h
  have h := h _ rfl
  refine g_iast (pc := 144) F (sh_122 hV) hb_144 dX10_reads_144 ?_
  refine g_iinc (pc := 145) (lv' := [(_, _), (_, _), (_, _)]) F dX10_reads_145 2 rfl (congrArg _ ic_1) (by decide) rfl ?_
  refine g_goto (pc := 148) F 20 dX10_reads_148 (by decide) ?_
  exact g_weak [1, 2, 0] rfl (hrec _ _ _ h)
def wX10_reads_20 (Q : Int32 → St → Prop) : Nat → Int32 → Int32 → St → Prop
  | 0, _, _, _ => False
  | n + 1, x2, x3, s =>
  ((x2 = 0 → Q (x3 + (1 : Int32)) s) ∧ (¬ x2 = 0 → (∃ k_31, wX10_reads_31  x2 x3 (fun x4_95 s_k95 => vp_in x4_95 12 ∧ vp_in x3 5 ∧ ((¬ (s_k95.1 102 x4_95.toNatClampNeg) = (s_k95.1 122 x3.toNatClampNeg) → vp_in x4_95 12 ∧ wX10_reads_144 (wX10_reads_20 Q n) Q (x2 &&& (((1 : Int32) <<< (x4_95 &&& 31)) ^^^ (-1 : Int32))) x3 (s_k95.1 102 x4_95.toNatClampNeg) (x3 + (1 : Int32)) s_k95) ∧ ((s_k95.1 102 x4_95.toNatClampNeg) = (s_k95.1 122 x3.toNatClampNeg) → vp_in x4_95 12 ∧ wX10_reads_144 (wX10_reads_20 Q n) Q (x2 &&& (((1 : Int32) <<< (x4_95 &&& 31)) ^^^ (-1 : Int32))) x3 (s_k95.1 103 x4_95.toNatClampNeg) (x3 + (1 : Int32)) s_k95))) Q k_31 (-9 : Int32) (0 : Int32) s)))
set_option maxHeartbeats 4000000 in
set_option maxRecDepth 100000 in
theorem bX10_reads_20 {l : Launch} {V : Wv} {X : Mx} {Q : Int32 → St → Prop} (F : Fx V X cX10_reads RX10 6 0) (hR : RtI l V X 6 cX10_reads Q) (hV : V.2.1 = DESC)  : ∀ (n : Nat) (x2 : Int32) (x3 : Int32) (s : St), wX10_reads_20 Q n x2 x3 s → G l V X 6 20 [(0, rf V 99), (2, .int x2), (3, .int x3)] [] s := by
  intro n
  induction n with
  | zero => intro x2 x3 s h; unfold wX10_reads_20 at h; exact h.elim
  | succ n ih =>
    intro x2 x3 s h
    unfold wX10_reads_20 at h
    refine g_iload_n (pc := 20) F dX10_reads_20 rfl 1 rfl ?_
    refine g_if_eq (pc := 21) F 151 dX10_reads_21 (by decide) (fun c => ?_) (fun c => ?_)
    · have h := h.1 c
      refine g_iload_n (pc := 151) F dX10_reads_151 rfl 2 rfl ?_
      refine g_iconst (pc := 152) F dX10_reads_152 ic_1 ?_
      refine g_iadd (pc := 153) F dX10_reads_153 ?_
      exact hR _ _ _ _ dX10_reads_154 h
    · have h := h.2 c
      refine g_bipush (pc := 24) F dX10_reads_24 bp_m9 ?_
      refine g_istore (pc := 26) (lv' := [(_, _), (_, _), (_, _), (_, _)]) F dX10_reads_26 (by decide) rfl ?_
      refine g_iconst (pc := 28) F dX10_reads_28 ic_0 ?_
      refine g_istore (pc := 29) (lv' := [(_, _), (_, _), (_, _), (_, _), (_, _)]) F dX10_reads_29 (by decide) rfl ?_
      obtain ⟨k_31, h⟩ := h
      refine g_weak [2, 3, 4, 1, 0] rfl (bX10_reads_31 F hR hV (fun x4_95 s_k95 h => ?_) k_31 _ _ _ h)
      · refine g_iload_n (pc := 95) F dX10_reads_95 rfl 1 rfl ?_
        refine g_iconst (pc := 96) F dX10_reads_96 ic_1 ?_
        refine g_iload (pc := 97) F dX10_reads_97 3 rfl ?_
        refine g_ishl (pc := 99) F dX10_reads_99 ?_
        refine g_iconst (pc := 100) F dX10_reads_100 ic_m1 ?_
        refine g_ixor (pc := 101) F dX10_reads_101 ?_
        refine g_iand (pc := 102) F dX10_reads_102 ?_
        refine g_istore_n (pc := 103) (lv' := [(_, _), (_, _), (_, _), (_, _)]) F dX10_reads_103 rfl (by decide) rfl ?_
        refine g_aload_n (pc := 104) F dX10_reads_104 rfl 1 rfl ?_
        refine g_getR (pc := 105) F clX10 (sh_99 hV) 33 _ rfl (by decide) uX10_77 dX10_reads_105 ?_
        refine g_iload_n (pc := 108) F dX10_reads_108 rfl 2 rfl ?_
        refine g_iconst (pc := 109) F dX10_reads_109 ic_1 ?_
        refine g_iadd (pc := 110) F dX10_reads_110 ?_
        refine g_aload_n (pc := 111) F dX10_reads_111 rfl 1 rfl ?_
        refine g_getR (pc := 112) F clX10 (sh_99 hV) 10 _ rfl (by decide) uX10_16 dX10_reads_112 ?_
        refine g_iload (pc := 115) F dX10_reads_115 3 rfl ?_
        obtain ⟨hb_117, h⟩ := h
        refine g_iald (pc := 117) F (sh_102 hV) hb_117 dX10_reads_117 ?_
        refine g_aload_n (pc := 118) F dX10_reads_118 rfl 1 rfl ?_
        refine g_getR (pc := 119) F clX10 (sh_99 hV) 33 _ rfl (by decide) uX10_77 dX10_reads_119 ?_
        refine g_iload_n (pc := 122) F dX10_reads_122 rfl 2 rfl ?_
        obtain ⟨hb_123, h⟩ := h
        refine g_iald (pc := 123) F (sh_122 hV) hb_123 dX10_reads_123 ?_
        refine g_icmp_ne (pc := 124) F 137 dX10_reads_124 (by decide) (fun c => ?_) (fun c => ?_)
        · have h := h.1 c
          refine g_aload_n (pc := 137) F dX10_reads_137 rfl 1 rfl ?_
          refine g_getR (pc := 138) F clX10 (sh_99 hV) 10 _ rfl (by decide) uX10_16 dX10_reads_138 ?_
          refine g_iload (pc := 141) F dX10_reads_141 3 rfl ?_
          obtain ⟨hb_143, h⟩ := h
          refine g_iald (pc := 143) F (sh_102 hV) hb_143 dX10_reads_143 ?_
          exact g_weak [1, 0, 2] rfl (bX10_reads_144 F hR hV ih h)
        · have h := h.2 c
          refine g_aload_n (pc := 127) F dX10_reads_127 rfl 1 rfl ?_
          refine g_getR (pc := 128) F clX10 (sh_99 hV) 11 _ rfl (by decide) uX10_19 dX10_reads_128 ?_
          refine g_iload (pc := 131) F dX10_reads_131 3 rfl ?_
          obtain ⟨hb_133, h⟩ := h
          refine g_iald (pc := 133) F (sh_103 hV) hb_133 dX10_reads_133 ?_
          refine g_goto (pc := 134) F 144 dX10_reads_134 (by decide) ?_
          exact g_weak [1, 0, 2] rfl (bX10_reads_144 F hR hV ih h)
def wX10_reads (x1 : Int32) (s : St) (Q : Int32 → St → Prop) : Prop :=
  vp_in x1 64 ∧ vp_in (0 : Int32) 5 ∧ ∀ s_19 : St, s_19 = stI s 122 (0 : Int32).toNatClampNeg (((s.1 112 x1.toNatClampNeg) - (1 : Int32)) / (5 : Int32)) → (∃ k_20, wX10_reads_20    Q k_20 x1 (0 : Int32) s_19)
set_option maxHeartbeats 4000000 in
set_option maxRecDepth 100000 in
theorem mX10_reads {l : Launch} {V : Wv} {x1 : Int32} {s : St} {Q : Int32 → St → Prop} (hV : V.2.1 = DESC) (h : wX10_reads x1 s Q) : Ci yX10_reads cX10_reads 6 (some .int) (0) l V [rf V 99, .int x1] s Q := by
  unfold wX10_reads at h
  refine Ci.of mvX10_reads.1 (Nat.le_of_ble_eq_true rfl) (fun X F hR => ?_)
  refine g_lv (lv' := [(_, _), (_, _)]) rfl ?_
  refine g_iload_n (pc := 0) F dX10_reads_0 rfl 1 rfl ?_
  refine g_istore_n (pc := 1) (lv' := [(_, _), (_, _), (_, _)]) F dX10_reads_1 rfl (by decide) rfl ?_
  refine g_iconst (pc := 2) F dX10_reads_2 ic_0 ?_
  refine g_istore_n (pc := 3) (lv' := [(_, _), (_, _), (_, _), (_, _)]) F dX10_reads_3 rfl (by decide) rfl ?_
  refine g_aload_n (pc := 4) F dX10_reads_4 rfl 2 rfl ?_
  refine g_getR (pc := 5) F clX10 (sh_99 hV) 33 _ rfl (by decide) uX10_77 dX10_reads_5 ?_
  refine g_iconst (pc := 8) F dX10_reads_8 ic_0 ?_
  refine g_aload_n (pc := 9) F dX10_reads_9 rfl 2 rfl ?_
  refine g_getR (pc := 10) F clX10 (sh_99 hV) 22 _ rfl (by decide) uX10_47 dX10_reads_10 ?_
  refine g_iload_n (pc := 13) F dX10_reads_13 rfl 3 rfl ?_
  obtain ⟨hb_14, h⟩ := h
  refine g_iald (pc := 14) F (sh_112 hV) hb_14 dX10_reads_14 ?_
  refine g_iconst (pc := 15) F dX10_reads_15 ic_1 ?_
  refine g_isub (pc := 16) F dX10_reads_16 ?_
  refine g_iconst (pc := 17) F dX10_reads_17 ic_5 ?_
  refine g_idiv (pc := 18) F dX10_reads_18 (by decide) ?_
  obtain ⟨hb_19, h⟩ := h
  have h := h _ rfl
  refine g_iast (pc := 19) F (sh_122 hV) hb_19 dX10_reads_19 ?_
  obtain ⟨k_20, h⟩ := h
  refine g_weak [2, 1, 0] rfl (bX10_reads_20 F hR hV k_20 _ _ _ h)
def wX10_isAhead_2 (x1 : Int32) (x2 : Int32) (K27 : Int32 → St → Prop) (K54 : St → Prop) (Q : Int32 → St → Prop) : Nat → Int32 → St → Prop
  | 0, _, _ => False
  | n + 1, x3, s =>
  ((x1 ≤ x3 → K54  s) ∧ (¬ x1 ≤ x3 → ((x2 ≤ x3 → K54  s) ∧ (¬ x2 ≤ x3 → vp_in x3 5 ∧ vp_in x3 5 ∧ (((s.1 122 x3.toNatClampNeg) = (s.1 123 x3.toNatClampNeg) → wX10_isAhead_2 x1 x2 K27 K54 Q n (x3 + (1 : Int32)) s) ∧ (¬ (s.1 122 x3.toNatClampNeg) = (s.1 123 x3.toNatClampNeg) → K27 x3 s))))))
set_option maxHeartbeats 4000000 in
set_option maxRecDepth 100000 in
theorem bX10_isAhead_2 {l : Launch} {V : Wv} {X : Mx} {x1 : Int32} {x2 : Int32} {K27 : Int32 → St → Prop} {K54 : St → Prop} {Q : Int32 → St → Prop} (F : Fx V X cX10_isAhead RX10 4 0) (hR : RtZ l V X 4 cX10_isAhead Q) (hV : V.2.1 = DESC) (hK27 : ∀ (y3 : Int32) (s : St), K27 y3 s → G l V X 4 27 [(0, rf V 99), (3, .int y3)] [] s) (hK54 : ∀  (s : St), K54  s → G l V X 4 54 [(1, .int x1), (2, .int x2)] [] s) : ∀ (n : Nat) (x3 : Int32) (s : St), wX10_isAhead_2 x1 x2 K27 K54 Q n x3 s → G l V X 4 2 [(0, rf V 99), (1, .int x1), (2, .int x2), (3, .int x3)] [] s := by
  intro n
  induction n with
  | zero => intro x3 s h; unfold wX10_isAhead_2 at h; exact h.elim
  | succ n ih =>
    intro x3 s h
    unfold wX10_isAhead_2 at h
    refine g_iload_n (pc := 2) F dX10_isAhead_2 rfl 3 rfl ?_
    refine g_iload_n (pc := 3) F dX10_isAhead_3 rfl 1 rfl ?_
    refine g_icmp_ge (pc := 4) F 54 dX10_isAhead_4 (by decide) (fun c => ?_) (fun c => ?_)
    · have h := h.1 c
      exact g_weak [1, 2] rfl (hK54 _ h)
    · have h := h.2 c
      refine g_iload_n (pc := 7) F dX10_isAhead_7 rfl 3 rfl ?_
      refine g_iload_n (pc := 8) F dX10_isAhead_8 rfl 2 rfl ?_
      refine g_icmp_ge (pc := 9) F 54 dX10_isAhead_9 (by decide) (fun c => ?_) (fun c => ?_)
      · have h := h.1 c
        exact g_weak [1, 2] rfl (hK54 _ h)
      · have h := h.2 c
        refine g_aload_n (pc := 12) F dX10_isAhead_12 rfl 0 rfl ?_
        refine g_getR (pc := 13) F clX10 (sh_99 hV) 33 _ rfl (by decide) uX10_77 dX10_isAhead_13 ?_
        refine g_iload_n (pc := 16) F dX10_isAhead_16 rfl 3 rfl ?_
        obtain ⟨hb_17, h⟩ := h
        refine g_iald (pc := 17) F (sh_122 hV) hb_17 dX10_isAhead_17 ?_
        refine g_aload_n (pc := 18) F dX10_isAhead_18 rfl 0 rfl ?_
        refine g_getR (pc := 19) F clX10 (sh_99 hV) 34 _ rfl (by decide) uX10_80 dX10_isAhead_19 ?_
        refine g_iload_n (pc := 22) F dX10_isAhead_22 rfl 3 rfl ?_
        obtain ⟨hb_23, h⟩ := h
        refine g_iald (pc := 23) F (sh_123 hV) hb_23 dX10_isAhead_23 ?_
        refine g_icmp_eq (pc := 24) F 48 dX10_isAhead_24 (by decide) (fun c => ?_) (fun c => ?_)
        · have h := h.1 c
          refine g_iinc (pc := 48) (lv' := [(_, _), (_, _), (_, _), (_, _)]) F dX10_isAhead_48 3 rfl (congrArg _ ic_1) (by decide) rfl ?_
          refine g_goto (pc := 51) F 2 dX10_isAhead_51 (by decide) ?_
          exact g_weak [1, 2, 3, 0] rfl (ih _ _ h)
        · have h := h.2 c
          exact g_weak [0, 3] rfl (hK27 _ _ h)
def wX10_isAhead (x1 : Int32) (x2 : Int32) (s : St) (Q : Int32 → St → Prop) : Prop :=
  (∃ k_2, wX10_isAhead_2  x1 x2 (fun x3_27 s_k27 => vp_in x3_27 5 ∧ vp_in x3_27 5 ∧ (((s_k27.1 123 x3_27.toNatClampNeg) ≤ (s_k27.1 122 x3_27.toNatClampNeg) → Q (0 : Int32) s_k27) ∧ (¬ (s_k27.1 123 x3_27.toNatClampNeg) ≤ (s_k27.1 122 x3_27.toNatClampNeg) → Q (1 : Int32) s_k27))) (fun  s_k54 => ((x2 ≤ x1 → Q (0 : Int32) s_k54) ∧ (¬ x2 ≤ x1 → Q (1 : Int32) s_k54))) Q k_2 (0 : Int32) s)
set_option maxHeartbeats 4000000 in
set_option maxRecDepth 100000 in
theorem mX10_isAhead {l : Launch} {V : Wv} {x1 : Int32} {x2 : Int32} {s : St} {Q : Int32 → St → Prop} (hV : V.2.1 = DESC) (h : wX10_isAhead x1 x2 s Q) : Ci yX10_isAhead cX10_isAhead 4 (some .boolean) (0) l V [rf V 99, .int x1, .int x2] s Q := by
  unfold wX10_isAhead at h
  refine Cz.of mvX10_isAhead.1 (Nat.le_of_ble_eq_true rfl) (fun X F hR => ?_)
  refine g_lv (lv' := [(_, _), (_, _), (_, _)]) rfl ?_
  refine g_iconst (pc := 0) F dX10_isAhead_0 ic_0 ?_
  refine g_istore_n (pc := 1) (lv' := [(_, _), (_, _), (_, _), (_, _)]) F dX10_isAhead_1 rfl (by decide) rfl ?_
  obtain ⟨k_2, h⟩ := h
  refine g_weak [1, 2, 3, 0] rfl (bX10_isAhead_2 F hR hV (fun x3_27 s_k27 h => ?_) (fun  s_k54 h => ?_) k_2 _ _ h)
  · refine g_aload_n (pc := 27) F dX10_isAhead_27 rfl 0 rfl ?_
    refine g_getR (pc := 28) F clX10 (sh_99 hV) 33 _ rfl (by decide) uX10_77 dX10_isAhead_28 ?_
    refine g_iload_n (pc := 31) F dX10_isAhead_31 rfl 1 rfl ?_
    obtain ⟨hb_32, h⟩ := h
    refine g_iald (pc := 32) F (sh_122 hV) hb_32 dX10_isAhead_32 ?_
    refine g_aload_n (pc := 33) F dX10_isAhead_33 rfl 0 rfl ?_
    refine g_getR (pc := 34) F clX10 (sh_99 hV) 34 _ rfl (by decide) uX10_80 dX10_isAhead_34 ?_
    refine g_iload_n (pc := 37) F dX10_isAhead_37 rfl 1 rfl ?_
    obtain ⟨hb_38, h⟩ := h
    refine g_iald (pc := 38) F (sh_123 hV) hb_38 dX10_isAhead_38 ?_
    refine g_icmp_ge (pc := 39) F 46 dX10_isAhead_39 (by decide) (fun c => ?_) (fun c => ?_)
    · have h := h.1 c
      refine g_iconst (pc := 46) F dX10_isAhead_46 ic_0 ?_
      exact hR _ _ _ _ dX10_isAhead_47 (Or.inl rfl) h
    · have h := h.2 c
      refine g_iconst (pc := 42) F dX10_isAhead_42 ic_1 ?_
      refine g_goto (pc := 43) F 47 dX10_isAhead_43 (by decide) ?_
      exact hR _ _ _ _ dX10_isAhead_47 (Or.inr rfl) h
  · refine g_iload_n (pc := 54) F dX10_isAhead_54 rfl 0 rfl ?_
    refine g_iload_n (pc := 55) F dX10_isAhead_55 rfl 1 rfl ?_
    refine g_icmp_ge (pc := 56) F 63 dX10_isAhead_56 (by decide) (fun c => ?_) (fun c => ?_)
    · have h := h.1 c
      refine g_iconst (pc := 63) F dX10_isAhead_63 ic_0 ?_
      exact hR _ _ _ _ dX10_isAhead_64 (Or.inl rfl) h
    · have h := h.2 c
      refine g_iconst (pc := 59) F dX10_isAhead_59 ic_1 ?_
      refine g_goto (pc := 60) F 64 dX10_isAhead_60 (by decide) ?_
      exact hR _ _ _ _ dX10_isAhead_64 (Or.inr rfl) h
