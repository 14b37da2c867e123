/-! printed by program: what each method does to the state (w..), and that its code does so (b.., m..) -/
def wX9_type (x1 : Int32) (s : St) (Q : Int32 → St → Prop) : Prop :=
  ((x1 < 0 → Q (-1 : Int32) s) ∧ (¬ x1 < 0 → ((x1 ≤ (255 : Int32) → wX7_add 1 x1 s (fun r_18 s_18 => ((r_18 = 0 → Q (-3 : Int32) s_18) ∧ (¬ r_18 = 0 → Q (s_18.1 1 0) s_18)))) ∧ (¬ x1 ≤ (255 : Int32) → Q (-1 : Int32) s))))
set_option maxHeartbeats 4000000 in
set_option maxRecDepth 100000 in
theorem mX9_type {l : Launch} {V : Wv} {x1 : Int32} {s : St} {Q : Int32 → St → Prop} (hV : V.2.1 = DESC) (h : wX9_type x1 s Q) : Ci yX9_type cX9_type 2 (some .int) (1) l V [rf V 0, .int x1] s Q := by
  unfold wX9_type at h
  refine Ci.of mvX9_type.1 (Nat.le_of_ble_eq_true rfl) (fun X F hR => ?_)
  refine g_lv (lv' := [(_, _), (_, _)]) rfl ?_
  refine g_iload_n (pc := 0) F dX9_type_0 rfl 1 rfl ?_
  refine g_if_lt (pc := 1) F 11 dX9_type_1 (by decide) (fun c => ?_) (fun c => ?_)
  · have h := h.1 c
    refine g_iconst (pc := 11) F dX9_type_11 ic_m1 ?_
    exact hR _ _ _ _ dX9_type_12 h
  · have h := h.2 c
    refine g_iload_n (pc := 4) F dX9_type_4 rfl 1 rfl ?_
    refine g_sipush (pc := 5) F dX9_type_5 sp_255 ?_
    refine g_icmp_le (pc := 8) F 13 dX9_type_8 (by decide) (fun c => ?_) (fun c => ?_)
    · have h := h.1 c
      refine g_aload_n (pc := 13) F dX9_type_13 rfl 0 rfl ?_
      refine g_getR (pc := 14) F clX9 (sh_0 hV) 0 _ rfl (by decide) uX9_12 dX9_type_14 ?_
      refine g_iload_n (pc := 17) F dX9_type_17 rfl 1 rfl ?_
      refine g_callVi (pc := 18) F (mX7_add (is_1 hV) h) mvX7_add uX9_90 (by decide) clX7 (is_1 hV).1 rfl rfl (Nat.le_of_ble_eq_true rfl) dX9_type_18 (fun r_18 s_18 h => ?_)
      refine g_if_eq (pc := 21) F 34 dX9_type_21 (by decide) (fun c => ?_) (fun c => ?_)
      · have h := h.1 c
        refine g_bipush (pc := 34) F dX9_type_34 bp_m3 ?_
        exact hR _ _ _ _ dX9_type_36 h
      · have h := h.2 c
        refine g_aload_n (pc := 24) F dX9_type_24 rfl 0 rfl ?_
        refine g_getR (pc := 25) F clX9 (sh_0 hV) 0 _ rfl (by decide) uX9_12 dX9_type_25 ?_
        refine g_getI (pc := 28) F clX7 (is_1 hV).1 0 rfl (by decide) uX9_94 dX9_type_28 ?_
        refine g_goto (pc := 31) F 36 dX9_type_31 (by decide) ?_
        exact hR _ _ _ _ dX9_type_36 h
    · have h := h.2 c
      refine g_iconst (pc := 11) F dX9_type_11 ic_m1 ?_
      exact hR _ _ _ _ dX9_type_12 h
def wX9_clear  (s : St) (Q : Int32 → St → Prop) : Prop :=
  wX7_empty 1 s (fun r_4 s_4 => Q r_4 s_4)
set_option maxHeartbeats 4000000 in
set_option maxRecDepth 100000 in
theorem mX9_clear {l : Launch} {V : Wv}  {s : St} {Q : Int32 → St → Prop} (hV : V.2.1 = DESC) (h : wX9_clear  s Q) : Ci yX9_clear cX9_clear 1 (some .int) (1) l V [rf V 0] s Q := by
  unfold wX9_clear at h
  refine Ci.of mvX9_clear.1 (Nat.le_of_ble_eq_true rfl) (fun X F hR => ?_)
  refine g_lv (lv' := [(_, _)]) rfl ?_
  refine g_aload_n (pc := 0) F dX9_clear_0 rfl 0 rfl ?_
  refine g_getR (pc := 1) F clX9 (sh_0 hV) 0 _ rfl (by decide) uX9_12 dX9_clear_1 ?_
  refine g_callVi (pc := 4) F (mX7_empty (is_1 hV) h) mvX7_empty uX9_97 (by decide) clX7 (is_1 hV).1 rfl rfl (Nat.le_of_ble_eq_true rfl) dX9_clear_4 (fun r_4 s_4 h => ?_)
  exact hR _ _ _ _ dX9_clear_7 h
def wX9_forgetAnswers  (s : St) (Q : St → Prop) : Prop :=
  ∀ s_5 : St, s_5 = stI s 86 0 (0 : Int32) → ∀ s_13 : St, s_13 = stI s_5 88 0 (0 : Int32) → Q s_13
set_option maxHeartbeats 4000000 in
set_option maxRecDepth 100000 in
theorem mX9_forgetAnswers {l : Launch} {V : Wv}  {s : St} {Q : St → Prop} (hV : V.2.1 = DESC) (h : wX9_forgetAnswers  s Q) : Cv yX9_forgetAnswers cX9_forgetAnswers 1 (0) l V [rf V 0] s Q := by
  unfold wX9_forgetAnswers at h
  refine Cv.of mvX9_forgetAnswers.1 (Nat.le_of_ble_eq_true rfl) (fun X F hR => ?_)
  refine g_lv (lv' := [(_, _)]) rfl ?_
  refine g_aload_n (pc := 0) F dX9_forgetAnswers_0 rfl 0 rfl ?_
  refine g_getR (pc := 1) F clX9 (sh_0 hV) 10 _ rfl (by decide) uX9_68 dX9_forgetAnswers_1 ?_
  refine g_iconst (pc := 4) F dX9_forgetAnswers_4 ic_0 ?_
  have h := h _ rfl
  refine g_putZ (pc := 5) F clX0 (is_86 hV).1 0 rfl (by decide) rfl (tyX0_ok 0 (by decide)) (by decide) (by decide) uX9_240 dX9_forgetAnswers_5 ?_
  refine g_aload_n (pc := 8) F dX9_forgetAnswers_8 rfl 0 rfl ?_
  refine g_getR (pc := 9) F clX9 (sh_0 hV) 11 _ rfl (by decide) uX9_75 dX9_forgetAnswers_9 ?_
  refine g_iconst (pc := 12) F dX9_forgetAnswers_12 ic_0 ?_
  have h := h _ rfl
  refine g_putZ (pc := 13) F clX5 (is_88 hV) 0 rfl (by decide) rfl (tyX5_ok 0 (by decide)) (by decide) (by decide) uX9_243 dX9_forgetAnswers_13 ?_
  exact hR _ _ _ dX9_forgetAnswers_16 h
def wX9_land  (s : St) (Q : Int32 → St → Prop) : Prop :=
  IsG s.2.2.2 ∧ wX1_empty s.2.2.2 s (fun s_4 => wX2_empty 17 s_4 (fun s_11 => IsG s_11.2.2.2 ∧ wX7_read 1 s_11.2.2.2 17 s_11 (fun r_26 s_26 => ((0 ≤ r_26 → wX7_empty 1 s_26 (fun r_40 s_40 => IsG s_40.2.2.1 ∧ IsG s_40.2.2.2 ∧ ∀ s_54 : St, s_54 = stG s_40 s_40.2.2.2 → ∀ s_59 : St, s_59 = stH s_54 s_40.2.2.1 → IsG s_59.2.2.1 ∧ wX8_find 21 s_59.2.2.1 s_59 (fun s_70 => wX2_become 13 17 s_70 (fun s_81 => wX3_empty 29 s_81 (fun s_88 => ∀ s_93 : St, s_93 = stI s_88 0 8 (0 : Int32) → wX6_empty 89 s_93 (fun r_100 s_100 => wX9_forgetAnswers  s_100 (fun s_105 => Q r_26 s_105))))))) ∧ (¬ 0 ≤ r_26 → Q r_26 s_26)))))
set_option maxHeartbeats 4000000 in
set_option maxRecDepth 100000 in
theorem mX9_land {l : Launch} {V : Wv}  {s : St} {Q : Int32 → St → Prop} (hV : V.2.1 = DESC) (h : wX9_land  s Q) : Ci yX9_land cX9_land 3 (some .int) (11) l V [rf V 0] s Q := by
  unfold wX9_land at h
  refine Ci.of mvX9_land.1 (Nat.le_of_ble_eq_true rfl) (fun X F hR => ?_)
  refine g_lv (lv' := [(_, _)]) rfl ?_
  refine g_aload_n (pc := 0) F dX9_land_0 rfl 0 rfl ?_
  obtain ⟨hg_1, h⟩ := h
  refine g_getH (pc := 1) F clX9 (sh_0 hV) 2 rfl (by decide) uX9_23 dX9_land_1 ?_
  refine g_callVv (pc := 4) F (mX1_empty (is_gr hV hg_1) h) mvX1_empty uX9_101 (by decide) clX1 (is_gr hV hg_1).1 rfl rfl (Nat.le_of_ble_eq_true rfl) dX9_land_4 (fun s_4 h => ?_)
  refine g_aload_n (pc := 7) F dX9_land_7 rfl 0 rfl ?_
  refine g_getR (pc := 8) F clX9 (sh_0 hV) 4 _ rfl (by decide) uX9_33 dX9_land_8 ?_
  refine g_callVv (pc := 11) F (mX2_empty (is_17 hV) h) mvX2_empty uX9_103 (by decide) clX2 (is_17 hV).1 rfl rfl (Nat.le_of_ble_eq_true rfl) dX9_land_11 (fun s_11 h => ?_)
  refine g_aload_n (pc := 14) F dX9_land_14 rfl 0 rfl ?_
  refine g_getR (pc := 15) F clX9 (sh_0 hV) 0 _ rfl (by decide) uX9_12 dX9_land_15 ?_
  refine g_aload_n (pc := 18) F dX9_land_18 rfl 0 rfl ?_
  obtain ⟨hg_19, h⟩ := h
  refine g_getH (pc := 19) F clX9 (sh_0 hV) 2 rfl (by decide) uX9_23 dX9_land_19 ?_
  refine g_aload_n (pc := 22) F dX9_land_22 rfl 0 rfl ?_
  refine g_getR (pc := 23) F clX9 (sh_0 hV) 4 _ rfl (by decide) uX9_33 dX9_land_23 ?_
  refine g_callVi (pc := 26) F (mX7_read (is_1 hV) (is_gr hV hg_19) (is_17 hV) h) mvX7_read uX9_104 (by decide) clX7 (is_1 hV).1 rfl rfl (Nat.le_of_ble_eq_true rfl) dX9_land_26 (fun r_26 s_26 h => ?_)
  refine g_istore_n (pc := 29) (lv' := [(_, _), (_, _)]) F dX9_land_29 rfl (by decide) rfl ?_
  refine g_iload_n (pc := 30) F dX9_land_30 rfl 0 rfl ?_
  refine g_if_ge (pc := 31) F 36 dX9_land_31 (by decide) (fun c => ?_) (fun c => ?_)
  · have h := h.1 c
    refine g_aload_n (pc := 36) F dX9_land_36 rfl 1 rfl ?_
    refine g_getR (pc := 37) F clX9 (sh_0 hV) 0 _ rfl (by decide) uX9_12 dX9_land_37 ?_
    refine g_callVi (pc := 40) F (mX7_empty (is_1 hV) h) mvX7_empty uX9_97 (by decide) clX7 (is_1 hV).1 rfl rfl (Nat.le_of_ble_eq_true rfl) dX9_land_40 (fun r_40 s_40 h => ?_)
    refine g_pop (pc := 43) F dX9_land_43 rfl ?_
    refine g_aload_n (pc := 44) F dX9_land_44 rfl 1 rfl ?_
    obtain ⟨hg_45, h⟩ := h
    refine g_getG (pc := 45) F clX9 (sh_0 hV) 1 rfl (by decide) uX9_19 dX9_land_45 ?_
    refine g_astore_n (pc := 48) (lv' := [(_, _), (_, _), (_, _)]) F dX9_land_48 rfl (by decide) rfl ?_
    refine g_aload_n (pc := 49) F dX9_land_49 rfl 2 rfl ?_
    refine g_aload_n (pc := 50) F dX9_land_50 rfl 2 rfl ?_
    obtain ⟨hg_51, h⟩ := h
    refine g_getH (pc := 51) F clX9 (sh_0 hV) 2 rfl (by decide) uX9_23 dX9_land_51 ?_
    have h := h _ rfl
    refine g_putG (pc := 54) F clX9 (sh_0 hV) 1 rfl oneG (noG hV) (by decide) rfl (tyX9_ok 1 (by decide)) uX9_19 dX9_land_54 ?_
    refine g_aload_n (pc := 57) F dX9_land_57 rfl 2 rfl ?_
    refine g_aload_n (pc := 58) F dX9_land_58 rfl 0 rfl ?_
    have h := h _ rfl
    refine g_putH (pc := 59) F clX9 (sh_0 hV) 2 rfl oneH (noG hV) (by decide) rfl (tyX9_ok 2 (by decide)) uX9_23 dX9_land_59 ?_
    refine g_aload_n (pc := 62) F dX9_land_62 rfl 2 rfl ?_
    refine g_getR (pc := 63) F clX9 (sh_0 hV) 5 _ rfl (by decide) uX9_39 dX9_land_63 ?_
    refine g_aload_n (pc := 66) F dX9_land_66 rfl 2 rfl ?_
    obtain ⟨hg_67, h⟩ := h
    refine g_getG (pc := 67) F clX9 (sh_0 hV) 1 rfl (by decide) uX9_19 dX9_land_67 ?_
    refine g_callVv (pc := 70) F (mX8_find (is_21 hV) (is_gr hV hg_67) h) mvX8_find uX9_108 (by decide) clX8 (is_21 hV).1 rfl rfl (Nat.le_of_ble_eq_true rfl) dX9_land_70 (fun s_70 h => ?_)
    refine g_aload_n (pc := 73) F dX9_land_73 rfl 2 rfl ?_
    refine g_getR (pc := 74) F clX9 (sh_0 hV) 3 _ rfl (by decide) uX9_29 dX9_land_74 ?_
    refine g_aload_n (pc := 77) F dX9_land_77 rfl 2 rfl ?_
    refine g_getR (pc := 78) F clX9 (sh_0 hV) 4 _ rfl (by decide) uX9_33 dX9_land_78 ?_
    refine g_callVv (pc := 81) F (mX2_become (is_13 hV) (is_17 hV) h) mvX2_become uX9_112 (by decide) clX2 (is_13 hV).1 rfl rfl (Nat.le_of_ble_eq_true rfl) dX9_land_81 (fun s_81 h => ?_)
    refine g_aload_n (pc := 84) F dX9_land_84 rfl 2 rfl ?_
    refine g_getR (pc := 85) F clX9 (sh_0 hV) 6 _ rfl (by decide) uX9_46 dX9_land_85 ?_
    refine g_callVv (pc := 88) F (mX3_empty (is_29 hV) h) mvX3_empty uX9_116 (by decide) clX3 (is_29 hV).1 rfl rfl (Nat.le_of_ble_eq_true rfl) dX9_land_88 (fun s_88 h => ?_)
    refine g_aload_n (pc := 91) F dX9_land_91 rfl 2 rfl ?_
    refine g_iconst (pc := 92) F dX9_land_92 ic_0 ?_
    have h := h _ rfl
    refine g_putI (pc := 93) F clX9 (sh_0 hV) 8 rfl (by decide) rfl (tyX9_ok 8 (by decide)) uX9_54 dX9_land_93 ?_
    refine g_aload_n (pc := 96) F dX9_land_96 rfl 2 rfl ?_
    refine g_getR (pc := 97) F clX9 (sh_0 hV) 12 _ rfl (by decide) uX9_82 dX9_land_97 ?_
    refine g_callVi (pc := 100) F (mX6_empty (is_89 hV) h) mvX6_empty uX9_117 (by decide) clX6 (is_89 hV).1 rfl rfl (Nat.le_of_ble_eq_true rfl) dX9_land_100 (fun r_100 s_100 h => ?_)
    refine g_pop (pc := 103) F dX9_land_103 rfl ?_
    refine g_aload_n (pc := 104) F dX9_land_104 rfl 2 rfl ?_
    refine g_callVv (pc := 105) F (mX9_forgetAnswers hV h) mvX9_forgetAnswers uX9_118 (by decide) clX9 (sh_0 hV) rfl rfl (Nat.le_of_ble_eq_true rfl) dX9_land_105 (fun s_105 h => ?_)
    refine g_iload_n (pc := 108) F dX9_land_108 rfl 1 rfl ?_
    exact hR _ _ _ _ dX9_land_109 h
  · have h := h.2 c
    refine g_iload_n (pc := 34) F dX9_land_34 rfl 0 rfl ?_
    exact hR _ _ _ _ dX9_land_35 h
def wX9_isLane (x1 : Int32) (s : St) (Q : Int32 → St → Prop) : Prop :=
  ((x1 < 0 → Q (0 : Int32) s) ∧ (¬ x1 < 0 → IsG s.2.2.1 ∧ (((s.1 s.2.2.1 1) ≤ x1 → Q (0 : Int32) s) ∧ (¬ (s.1 s.2.2.1 1) ≤ x1 → Q (1 : Int32) s))))
set_option maxHeartbeats 4000000 in
set_option maxRecDepth 100000 in
theorem mX9_isLane {l : Launch} {V : Wv} {x1 : Int32} {s : St} {Q : Int32 → St → Prop} (hV : V.2.1 = DESC) (h : wX9_isLane x1 s Q) : Ci yX9_isLane cX9_isLane 2 (some .boolean) (0) l V [rf V 0, .int x1] s Q := by
  unfold wX9_isLane at h
  refine Cz.of mvX9_isLane.1 (Nat.le_of_ble_eq_true rfl) (fun X F hR => ?_)
  refine g_lv (lv' := [(_, _), (_, _)]) rfl ?_
  refine g_iload_n (pc := 0) F dX9_isLane_0 rfl 1 rfl ?_
  refine g_if_lt (pc := 1) F 19 dX9_isLane_1 (by decide) (fun c => ?_) (fun c => ?_)
  · have h := h.1 c
    refine g_iconst (pc := 19) F dX9_isLane_19 ic_0 ?_
    exact hR _ _ _ _ dX9_isLane_20 (Or.inl rfl) h
  · have h := h.2 c
    refine g_iload_n (pc := 4) F dX9_isLane_4 rfl 1 rfl ?_
    refine g_aload_n (pc := 5) F dX9_isLane_5 rfl 0 rfl ?_
    obtain ⟨hg_6, h⟩ := h
    refine g_getG (pc := 6) F clX9 (sh_0 hV) 1 rfl (by decide) uX9_19 dX9_isLane_6 ?_
    refine g_getI (pc := 9) F clX1 (is_gr hV hg_6).1 1 rfl (by decide) uX9_171 dX9_isLane_9 ?_
    refine g_icmp_ge (pc := 12) F 19 dX9_isLane_12 (by decide) (fun c => ?_) (fun c => ?_)
    · have h := h.1 c
      refine g_iconst (pc := 19) F dX9_isLane_19 ic_0 ?_
      exact hR _ _ _ _ dX9_isLane_20 (Or.inl rfl) h
    · have h := h.2 c
      refine g_iconst (pc := 15) F dX9_isLane_15 ic_1 ?_
      refine g_goto (pc := 16) F 20 dX9_isLane_16 (by decide) ?_
      exact hR _ _ _ _ dX9_isLane_20 (Or.inr rfl) h
def wX9_mapsBy_4 (x1 : Int32) (Q : Int32 → St → Prop) : Nat → Int32 → Int32 → St → Prop
  | 0, _, _, _ => False
  | n + 1, x2, x3, s =>
  (((s.1 13 3) ≤ x3 → Q x2 s) ∧ (¬ (s.1 13 3) ≤ x3 → IsG s.2.2.1 ∧ wX2_lanesOf 13 s.2.2.1 x3 s (fun r_25 s_25 => wX9_mapsBy_4 x1 Q n (x2 + ((r_25 >>> (x1 &&& 31)) &&& (1 : Int32))) (x3 + (1 : Int32)) s_25)))
set_option maxHeartbeats 4000000 in
set_option maxRecDepth 100000 in
theorem bX9_mapsBy_4 {l : Launch} {V : Wv} {X : Mx} {x1 : Int32} {Q : Int32 → St → Prop} (F : Fx V X cX9_mapsBy RX9 4 2) (hR : RtI l V X 4 cX9_mapsBy Q) (hV : V.2.1 = DESC)  : ∀ (n : Nat) (x2 : Int32) (x3 : Int32) (s : St), wX9_mapsBy_4 x1 Q n x2 x3 s → G l V X 4 4 [(0, rf V 0), (1, .int x1), (2, .int x2), (3, .int x3)] [] s := by
  intro n
  induction n with
  | zero => intro x2 x3 s h; unfold wX9_mapsBy_4 at h; exact h.elim
  | succ n ih =>
    intro x2 x3 s h
    unfold wX9_mapsBy_4 at h
    refine g_iload_n (pc := 4) F dX9_mapsBy_4 rfl 3 rfl ?_
    refine g_aload_n (pc := 5) F dX9_mapsBy_5 rfl 0 rfl ?_
    refine g_getR (pc := 6) F clX9 (sh_0 hV) 3 _ rfl (by decide) uX9_29 dX9_mapsBy_6 ?_
    refine g_getI (pc := 9) F clX2 (is_13 hV).1 3 rfl (by decide) uX9_174 dX9_mapsBy_9 ?_
    refine g_icmp_ge (pc := 12) F 40 dX9_mapsBy_12 (by decide) (fun c => ?_) (fun c => ?_)
    · have h := h.1 c
      refine g_iload_n (pc := 40) F dX9_mapsBy_40 rfl 2 rfl ?_
      exact hR _ _ _ _ dX9_mapsBy_41 h
    · have h := h.2 c
      refine g_iload_n (pc := 15) F dX9_mapsBy_15 rfl 2 rfl ?_
      refine g_aload_n (pc := 16) F dX9_mapsBy_16 rfl 0 rfl ?_
      refine g_getR (pc := 17) F clX9 (sh_0 hV) 3 _ rfl (by decide) uX9_29 dX9_mapsBy_17 ?_
      refine g_aload_n (pc := 20) F dX9_mapsBy_20 rfl 0 rfl ?_
      obtain ⟨hg_21, h⟩ := h
      refine g_getG (pc := 21) F clX9 (sh_0 hV) 1 rfl (by decide) uX9_19 dX9_mapsBy_21 ?_
      refine g_iload_n (pc := 24) F dX9_mapsBy_24 rfl 3 rfl ?_
      refine g_callVi (pc := 25) F (mX2_lanesOf (is_13 hV) (is_gr hV hg_21) h) mvX2_lanesOf uX9_147 (by decide) clX2 (is_13 hV).1 rfl rfl (Nat.le_of_ble_eq_true rfl) dX9_mapsBy_25 (fun r_25 s_25 h => ?_)
      refine g_iload_n (pc := 28) F dX9_mapsBy_28 rfl 1 rfl ?_
      refine g_ishr (pc := 29) F dX9_mapsBy_29 ?_
      refine g_iconst (pc := 30) F dX9_mapsBy_30 ic_1 ?_
      refine g_iand (pc := 31) F dX9_mapsBy_31 ?_
      refine g_iadd (pc := 32) F dX9_mapsBy_32 ?_
      refine g_istore_n (pc := 33) (lv' := [(_, _), (_, _), (_, _), (_, _)]) F dX9_mapsBy_33 rfl (by decide) rfl ?_
      refine g_iinc (pc := 34) (lv' := [(_, _), (_, _), (_, _), (_, _)]) F dX9_mapsBy_34 3 rfl (congrArg _ ic_1) (by decide) rfl ?_
      refine g_goto (pc := 37) F 4 dX9_mapsBy_37 (by decide) ?_
      exact g_weak [2, 3, 1, 0] rfl (ih _ _ _ h)
def wX9_mapsBy (x1 : Int32) (s : St) (Q : Int32 → St → Prop) : Prop :=
  (∃ k_4, wX9_mapsBy_4  x1  Q k_4 (0 : Int32) (0 : Int32) s)
set_option maxHeartbeats 4000000 in
set_option maxRecDepth 100000 in
theorem mX9_mapsBy {l : Launch} {V : Wv} {x1 : Int32} {s : St} {Q : Int32 → St → Prop} (hV : V.2.1 = DESC) (h : wX9_mapsBy x1 s Q) : Ci yX9_mapsBy cX9_mapsBy 4 (some .int) (2) l V [rf V 0, .int x1] s Q := by
  unfold wX9_mapsBy at h
  refine Ci.of mvX9_mapsBy.1 (Nat.le_of_ble_eq_true rfl) (fun X F hR => ?_)
  refine g_lv (lv' := [(_, _), (_, _)]) rfl ?_
  refine g_iconst (pc := 0) F dX9_mapsBy_0 ic_0 ?_
  refine g_istore_n (pc := 1) (lv' := [(_, _), (_, _), (_, _)]) F dX9_mapsBy_1 rfl (by decide) rfl ?_
  refine g_iconst (pc := 2) F dX9_mapsBy_2 ic_0 ?_
  refine g_istore_n (pc := 3) (lv' := [(_, _), (_, _), (_, _), (_, _)]) F dX9_mapsBy_3 rfl (by decide) rfl ?_
  obtain ⟨k_4, h⟩ := h
  refine g_weak [2, 3, 1, 0] rfl (bX9_mapsBy_4 F hR hV k_4 _ _ _ h)
def wX9_lane (x1 : Int32) (x2 : Int32) (s : St) (Q : Int32 → St → Prop) : Prop :=
  wX9_isLane x1 s (fun r_2 s_2 => ((¬ r_2 = 0 → ((x2 = (0 : Int32) → IsG s_2.2.2.1 ∧ vp_in x1 6 ∧ Q (s_2.1 (s_2.2.2.1 + 1) x1.toNatClampNeg) s_2) ∧ (¬ x2 = (0 : Int32) → ((x2 = (1 : Int32) → IsG s_2.2.2.1 ∧ vp_in x1 6 ∧ Q (s_2.1 (s_2.2.2.1 + 2) x1.toNatClampNeg) s_2) ∧ (¬ x2 = (1 : Int32) → ((x2 = (2 : Int32) → vp_in x1 6 ∧ Q (s_2.1 14 x1.toNatClampNeg) s_2) ∧ (¬ x2 = (2 : Int32) → ((x2 = (3 : Int32) → IsG s_2.2.2.1 ∧ vp_in x1 6 ∧ Q (s_2.1 (s_2.2.2.1 + 3) x1.toNatClampNeg) s_2) ∧ (¬ x2 = (3 : Int32) → ((x2 = (4 : Int32) → wX9_mapsBy x1 s_2 (fun r_86 s_86 => Q r_86 s_86)) ∧ (¬ x2 = (4 : Int32) → Q (-1 : Int32) s_2))))))))))) ∧ (r_2 = 0 → Q (-1 : Int32) s_2)))
set_option maxHeartbeats 4000000 in
set_option maxRecDepth 100000 in
theorem mX9_lane {l : Launch} {V : Wv} {x1 : Int32} {x2 : Int32} {s : St} {Q : Int32 → St → Prop} (hV : V.2.1 = DESC) (h : wX9_lane x1 x2 s Q) : Ci yX9_lane cX9_lane 3 (some .int) (3) l V [rf V 0, .int x1, .int x2] s Q := by
  unfold wX9_lane at h
  refine Ci.of mvX9_lane.1 (Nat.le_of_ble_eq_true rfl) (fun X F hR => ?_)
  refine g_lv (lv' := [(_, _), (_, _), (_, _)]) rfl ?_
  refine g_aload_n (pc := 0) F dX9_lane_0 rfl 0 rfl ?_
  refine g_iload_n (pc := 1) F dX9_lane_1 rfl 1 rfl ?_
  refine g_callVi (pc := 2) F (mX9_isLane hV h) mvX9_isLane uX9_121 (by decide) clX9 (sh_0 hV) rfl rfl (Nat.le_of_ble_eq_true rfl) dX9_lane_2 (fun r_2 s_2 h => ?_)
  refine g_if_ne (pc := 5) F 10 dX9_lane_5 (by decide) (fun c => ?_) (fun c => ?_)
  · have h := h.1 c
    refine g_iload_n (pc := 10) F dX9_lane_10 rfl 2 rfl ?_
    by_cases c0 : x2 = (0 : Int32)
    · have h := h.1 c0
      refine g_tabIn (o := 33) (pc := 11) F 44 dX9_lane_11 (by rw [c0]; decide) (by rw [c0]; decide) (by rw [c0]; rfl) (by decide) ?_
      refine g_aload_n (pc := 44) F dX9_lane_44 rfl 0 rfl ?_
      obtain ⟨hg_45, h⟩ := h
      refine g_getG (pc := 45) F clX9 (sh_0 hV) 1 rfl (by decide) uX9_19 dX9_lane_45 ?_
      refine g_getR (pc := 48) F clX1 (is_gr hV hg_45).1 2 _ rfl (by decide) uX9_124 dX9_lane_48 ?_
      refine g_iload_n (pc := 51) F dX9_lane_51 rfl 1 rfl ?_
      obtain ⟨hb_52, h⟩ := h
      refine g_iald (pc := 52) F (is_gr hV hg_45).2.1 hb_52 dX9_lane_52 ?_
      exact hR _ _ _ _ dX9_lane_53 h
    · have h := h.2 c0
      by_cases c1 : x2 = (1 : Int32)
      · have h := h.1 c1
        refine g_tabIn (o := 43) (pc := 11) F 54 dX9_lane_11 (by rw [c1]; decide) (by rw [c1]; decide) (by rw [c1]; rfl) (by decide) ?_
        refine g_aload_n (pc := 54) F dX9_lane_54 rfl 0 rfl ?_
        obtain ⟨hg_55, h⟩ := h
        refine g_getG (pc := 55) F clX9 (sh_0 hV) 1 rfl (by decide) uX9_19 dX9_lane_55 ?_
        refine g_getR (pc := 58) F clX1 (is_gr hV hg_55).1 3 _ rfl (by decide) uX9_128 dX9_lane_58 ?_
        refine g_iload_n (pc := 61) F dX9_lane_61 rfl 1 rfl ?_
        obtain ⟨hb_62, h⟩ := h
        refine g_iald (pc := 62) F (is_gr hV hg_55).2.2.1 hb_62 dX9_lane_62 ?_
        exact hR _ _ _ _ dX9_lane_63 h
      · have h := h.2 c1
        by_cases c2 : x2 = (2 : Int32)
        · have h := h.1 c2
          refine g_tabIn (o := 53) (pc := 11) F 64 dX9_lane_11 (by rw [c2]; decide) (by rw [c2]; decide) (by rw [c2]; rfl) (by decide) ?_
          refine g_aload_n (pc := 64) F dX9_lane_64 rfl 0 rfl ?_
          refine g_getR (pc := 65) F clX9 (sh_0 hV) 3 _ rfl (by decide) uX9_29 dX9_lane_65 ?_
          refine g_getR (pc := 68) F clX2 (is_13 hV).1 0 _ rfl (by decide) uX9_131 dX9_lane_68 ?_
          refine g_iload_n (pc := 71) F dX9_lane_71 rfl 1 rfl ?_
          obtain ⟨hb_72, h⟩ := h
          refine g_iald (pc := 72) F (is_13 hV).2.1 hb_72 dX9_lane_72 ?_
          exact hR _ _ _ _ dX9_lane_73 h
        · have h := h.2 c2
          by_cases c3 : x2 = (3 : Int32)
          · have h := h.1 c3
            refine g_tabIn (o := 63) (pc := 11) F 74 dX9_lane_11 (by rw [c3]; decide) (by rw [c3]; decide) (by rw [c3]; rfl) (by decide) ?_
            refine g_aload_n (pc := 74) F dX9_lane_74 rfl 0 rfl ?_
            obtain ⟨hg_75, h⟩ := h
            refine g_getG (pc := 75) F clX9 (sh_0 hV) 1 rfl (by decide) uX9_19 dX9_lane_75 ?_
            refine g_getR (pc := 78) F clX1 (is_gr hV hg_75).1 4 _ rfl (by decide) uX9_134 dX9_lane_78 ?_
            refine g_iload_n (pc := 81) F dX9_lane_81 rfl 1 rfl ?_
            obtain ⟨hb_82, h⟩ := h
            refine g_iald (pc := 82) F (is_gr hV hg_75).2.2.2.1 hb_82 dX9_lane_82 ?_
            exact hR _ _ _ _ dX9_lane_83 h
          · have h := h.2 c3
            by_cases c4 : x2 = (4 : Int32)
            · have h := h.1 c4
              refine g_tabIn (o := 73) (pc := 11) F 84 dX9_lane_11 (by rw [c4]; decide) (by rw [c4]; decide) (by rw [c4]; rfl) (by decide) ?_
              refine g_aload_n (pc := 84) F dX9_lane_84 rfl 0 rfl ?_
              refine g_iload_n (pc := 85) F dX9_lane_85 rfl 1 rfl ?_
              refine g_callVi (pc := 86) F (mX9_mapsBy hV h) mvX9_mapsBy uX9_137 (by decide) clX9 (sh_0 hV) rfl rfl (Nat.le_of_ble_eq_true rfl) dX9_lane_86 (fun r_86 s_86 h => ?_)
              exact hR _ _ _ _ dX9_lane_89 h
            · have h := h.2 c4
              refine g_tabOut (pc := 11) F 90 dX9_lane_11 ?_ (by decide) ?_
              · have e0 := lv_neT c0 (show ((0 : Int32)).toInt = 0 from rfl); have e1 := lv_neT c1 (show ((1 : Int32)).toInt = 1 from rfl); have e2 := lv_neT c2 (show ((2 : Int32)).toInt = 2 from rfl); have e3 := lv_neT c3 (show ((3 : Int32)).toInt = 3 from rfl); have e4 := lv_neT c4 (show ((4 : Int32)).toInt = 4 from rfl); omega
              · refine g_iconst (pc := 90) F dX9_lane_90 ic_m1 ?_
                exact hR _ _ _ _ dX9_lane_91 h
  · have h := h.2 c
    refine g_iconst (pc := 8) F dX9_lane_8 ic_m1 ?_
    exact hR _ _ _ _ dX9_lane_9 h
def wX9_isMap (x1 : Int32) (s : St) (Q : Int32 → St → Prop) : Prop :=
  ((x1 < 0 → Q (0 : Int32) s) ∧ (¬ x1 < 0 → (((s.1 13 3) ≤ x1 → Q (0 : Int32) s) ∧ (¬ (s.1 13 3) ≤ x1 → Q (1 : Int32) s))))
set_option maxHeartbeats 4000000 in
set_option maxRecDepth 100000 in
theorem mX9_isMap {l : Launch} {V : Wv} {x1 : Int32} {s : St} {Q : Int32 → St → Prop} (hV : V.2.1 = DESC) (h : wX9_isMap x1 s Q) : Ci yX9_isMap cX9_isMap 2 (some .boolean) (0) l V [rf V 0, .int x1] s Q := by
  unfold wX9_isMap at h
  refine Cz.of mvX9_isMap.1 (Nat.le_of_ble_eq_true rfl) (fun X F hR => ?_)
  refine g_lv (lv' := [(_, _), (_, _)]) rfl ?_
  refine g_iload_n (pc := 0) F dX9_isMap_0 rfl 1 rfl ?_
  refine g_if_lt (pc := 1) F 19 dX9_isMap_1 (by decide) (fun c => ?_) (fun c => ?_)
  · have h := h.1 c
    refine g_iconst (pc := 19) F dX9_isMap_19 ic_0 ?_
    exact hR _ _ _ _ dX9_isMap_20 (Or.inl rfl) h
  · have h := h.2 c
    refine g_iload_n (pc := 4) F dX9_isMap_4 rfl 1 rfl ?_
    refine g_aload_n (pc := 5) F dX9_isMap_5 rfl 0 rfl ?_
    refine g_getR (pc := 6) F clX9 (sh_0 hV) 3 _ rfl (by decide) uX9_29 dX9_isMap_6 ?_
    refine g_getI (pc := 9) F clX2 (is_13 hV).1 3 rfl (by decide) uX9_174 dX9_isMap_9 ?_
    refine g_icmp_ge (pc := 12) F 19 dX9_isMap_12 (by decide) (fun c => ?_) (fun c => ?_)
    · have h := h.1 c
      refine g_iconst (pc := 19) F dX9_isMap_19 ic_0 ?_
      exact hR _ _ _ _ dX9_isMap_20 (Or.inl rfl) h
    · have h := h.2 c
      refine g_iconst (pc := 15) F dX9_isMap_15 ic_1 ?_
      refine g_goto (pc := 16) F 20 dX9_isMap_16 (by decide) ?_
      exact hR _ _ _ _ dX9_isMap_20 (Or.inr rfl) h
def wX9_heldMaps_68 (rec : Int32 → Int32 → St → Prop) (Q : Int32 → St → Prop) (x1 : Int32) (x2 : Int32) (s : St) : Prop :=
  rec x1 (x2 + (1 : Int32)) s
set_option maxHeartbeats 4000000 in
set_option maxRecDepth 100000 in
theorem bX9_heldMaps_68 {l : Launch} {V : Wv} {X : Mx} {rec : Int32 → Int32 → St → Prop} {Q : Int32 → St → Prop} {x1 : Int32} {x2 : Int32} (F : Fx V X cX9_heldMaps RX9 3 2) (hR : RtI l V X 3 cX9_heldMaps Q) (hV : V.2.1 = DESC) (hrec : ∀ (y1 : Int32) (y2 : Int32) (s : St), rec y1 y2 s → G l V X 3 22 [(0, rf V 0), (1, .int y1), (2, .int y2)] [] s) {s : St} (h : wX9_heldMaps_68 rec Q x1 x2 s) : G l V X 3 68 [(0, rf V 0), (1, .int x1), (2, .int x2)] [] s := by
  unfold wX9_heldMaps_68 at h
  refine g_iinc (pc := 68) (lv' := [(_, _), (_, _), (_, _)]) F dX9_heldMaps_68 2 rfl (congrArg _ ic_1) (by decide) rfl ?_
  refine g_goto (pc := 71) F 22 dX9_heldMaps_71 (by decide) ?_
  exact g_weak [1, 2, 0] rfl (hrec _ _ _ h)
def wX9_heldMaps_22 (Q : Int32 → St → Prop) : Nat → Int32 → Int32 → St → Prop
  | 0, _, _, _ => False
  | n + 1, x1, x2, s =>
  (((s.1 13 3) ≤ x2 → Q x1 s) ∧ (¬ (s.1 13 3) ≤ x2 → IsG s.2.2.1 ∧ wX2_lanesOf 13 s.2.2.1 x2 s (fun r_50 s_50 => wX8_wayBy 21 r_50 s_50 (fun r_53 s_53 => wX8_isShortest 21 r_53 s_53 (fun r_56 s_56 => ((r_56 = 0 → wX9_heldMaps_68 (wX9_heldMaps_22 Q n) Q x1 x2 s_56) ∧ (¬ r_56 = 0 → wX9_heldMaps_68 (wX9_heldMaps_22 Q n) Q (x1 ||| ((1 : Int32) <<< (x2 &&& 31))) x2 s_56)))))))
set_option maxHeartbeats 4000000 in
set_option maxRecDepth 100000 in
theorem bX9_heldMaps_22 {l : Launch} {V : Wv} {X : Mx} {Q : Int32 → St → Prop} (F : Fx V X cX9_heldMaps RX9 3 2) (hR : RtI l V X 3 cX9_heldMaps Q) (hV : V.2.1 = DESC)  : ∀ (n : Nat) (x1 : Int32) (x2 : Int32) (s : St), wX9_heldMaps_22 Q n x1 x2 s → G l V X 3 22 [(0, rf V 0), (1, .int x1), (2, .int x2)] [] s := by
  intro n
  induction n with
  | zero => intro x1 x2 s h; unfold wX9_heldMaps_22 at h; exact h.elim
  | succ n ih =>
    intro x1 x2 s h
    unfold wX9_heldMaps_22 at h
    refine g_iload_n (pc := 22) F dX9_heldMaps_22 rfl 2 rfl ?_
    refine g_aload_n (pc := 23) F dX9_heldMaps_23 rfl 0 rfl ?_
    refine g_getR (pc := 24) F clX9 (sh_0 hV) 3 _ rfl (by decide) uX9_29 dX9_heldMaps_24 ?_
    refine g_getI (pc := 27) F clX2 (is_13 hV).1 3 rfl (by decide) uX9_174 dX9_heldMaps_27 ?_
    refine g_icmp_ge (pc := 30) F 74 dX9_heldMaps_30 (by decide) (fun c => ?_) (fun c => ?_)
    · have h := h.1 c
      refine g_iload_n (pc := 74) F dX9_heldMaps_74 rfl 1 rfl ?_
      exact hR _ _ _ _ dX9_heldMaps_75 h
    · have h := h.2 c
      refine g_aload_n (pc := 33) F dX9_heldMaps_33 rfl 0 rfl ?_
      refine g_getR (pc := 34) F clX9 (sh_0 hV) 5 _ rfl (by decide) uX9_39 dX9_heldMaps_34 ?_
      refine g_aload_n (pc := 37) F dX9_heldMaps_37 rfl 0 rfl ?_
      refine g_getR (pc := 38) F clX9 (sh_0 hV) 5 _ rfl (by decide) uX9_39 dX9_heldMaps_38 ?_
      refine g_aload_n (pc := 41) F dX9_heldMaps_41 rfl 0 rfl ?_
      refine g_getR (pc := 42) F clX9 (sh_0 hV) 3 _ rfl (by decide) uX9_29 dX9_heldMaps_42 ?_
      refine g_aload_n (pc := 45) F dX9_heldMaps_45 rfl 0 rfl ?_
      obtain ⟨hg_46, h⟩ := h
      refine g_getG (pc := 46) F clX9 (sh_0 hV) 1 rfl (by decide) uX9_19 dX9_heldMaps_46 ?_
      refine g_iload_n (pc := 49) F dX9_heldMaps_49 rfl 2 rfl ?_
      refine g_callVi (pc := 50) F (mX2_lanesOf (is_13 hV) (is_gr hV hg_46) h) mvX2_lanesOf uX9_147 (by decide) clX2 (is_13 hV).1 rfl rfl (Nat.le_of_ble_eq_true rfl) dX9_heldMaps_50 (fun r_50 s_50 h => ?_)
      refine g_callVi (pc := 53) F (mX8_wayBy (is_21 hV) h) mvX8_wayBy uX9_181 (by decide) clX8 (is_21 hV).1 rfl rfl (Nat.le_of_ble_eq_true rfl) dX9_heldMaps_53 (fun r_53 s_53 h => ?_)
      refine g_callVi (pc := 56) F (mX8_isShortest (is_21 hV) h) mvX8_isShortest uX9_184 (by decide) clX8 (is_21 hV).1 rfl rfl (Nat.le_of_ble_eq_true rfl) dX9_heldMaps_56 (fun r_56 s_56 h => ?_)
      refine g_if_eq (pc := 59) F 68 dX9_heldMaps_59 (by decide) (fun c => ?_) (fun c => ?_)
      · have h := h.1 c
        exact g_weak [0, 1, 2] rfl (bX9_heldMaps_68 F hR hV ih h)
      · have h := h.2 c
        refine g_iload_n (pc := 62) F dX9_heldMaps_62 rfl 1 rfl ?_
        refine g_iconst (pc := 63) F dX9_heldMaps_63 ic_1 ?_
        refine g_iload_n (pc := 64) F dX9_heldMaps_64 rfl 2 rfl ?_
        refine g_ishl (pc := 65) F dX9_heldMaps_65 ?_
        refine g_ior (pc := 66) F dX9_heldMaps_66 ?_
        refine g_istore_n (pc := 67) (lv' := [(_, _), (_, _), (_, _)]) F dX9_heldMaps_67 rfl (by decide) rfl ?_
        exact g_weak [1, 0, 2] rfl (bX9_heldMaps_68 F hR hV ih h)
def wX9_heldMaps  (s : St) (Q : Int32 → St → Prop) : Prop :=
  IsG s.2.2.1 ∧ wX8_measure 21 s.2.2.1 14 6 s (fun s_15 => (∃ k_22, wX9_heldMaps_22    Q k_22 (0 : Int32) (0 : Int32) s_15))
set_option maxHeartbeats 4000000 in
set_option maxRecDepth 100000 in
theorem mX9_heldMaps {l : Launch} {V : Wv}  {s : St} {Q : Int32 → St → Prop} (hV : V.2.1 = DESC) (h : wX9_heldMaps  s Q) : Ci yX9_heldMaps cX9_heldMaps 3 (some .int) (2) l V [rf V 0] s Q := by
  unfold wX9_heldMaps at h
  refine Ci.of mvX9_heldMaps.1 (Nat.le_of_ble_eq_true rfl) (fun X F hR => ?_)
  refine g_lv (lv' := [(_, _)]) rfl ?_
  refine g_aload_n (pc := 0) F dX9_heldMaps_0 rfl 0 rfl ?_
  refine g_getR (pc := 1) F clX9 (sh_0 hV) 5 _ rfl (by decide) uX9_39 dX9_heldMaps_1 ?_
  refine g_aload_n (pc := 4) F dX9_heldMaps_4 rfl 0 rfl ?_
  obtain ⟨hg_5, h⟩ := h
  refine g_getG (pc := 5) F clX9 (sh_0 hV) 1 rfl (by decide) uX9_19 dX9_heldMaps_5 ?_
  refine g_aload_n (pc := 8) F dX9_heldMaps_8 rfl 0 rfl ?_
  refine g_getR (pc := 9) F clX9 (sh_0 hV) 3 _ rfl (by decide) uX9_29 dX9_heldMaps_9 ?_
  refine g_getR (pc := 12) F clX2 (is_13 hV).1 0 _ rfl (by decide) uX9_131 dX9_heldMaps_12 ?_
  refine g_callVv (pc := 15) F (mX8_measure (is_21 hV) (is_gr hV hg_5) (is_13 hV).2.1 h) mvX8_measure uX9_177 (by decide) clX8 (is_21 hV).1 rfl rfl (Nat.le_of_ble_eq_true rfl) dX9_heldMaps_15 (fun s_15 h => ?_)
  refine g_iconst (pc := 18) F dX9_heldMaps_18 ic_0 ?_
  refine g_istore_n (pc := 19) (lv' := [(_, _), (_, _)]) F dX9_heldMaps_19 rfl (by decide) rfl ?_
  refine g_iconst (pc := 20) F dX9_heldMaps_20 ic_0 ?_
  refine g_istore_n (pc := 21) (lv' := [(_, _), (_, _), (_, _)]) F dX9_heldMaps_21 rfl (by decide) rfl ?_
  obtain ⟨k_22, h⟩ := h
  refine g_weak [2, 1, 0] rfl (bX9_heldMaps_22 F hR hV k_22 _ _ _ h)
def wX9_map (x1 : Int32) (x2 : Int32) (s : St) (Q : Int32 → St → Prop) : Prop :=
  wX9_isMap x1 s (fun r_2 s_2 => ((¬ r_2 = 0 → ((x2 = (0 : Int32) → vp_in x1 5 ∧ Q (s_2.1 15 x1.toNatClampNeg) s_2) ∧ (¬ x2 = (0 : Int32) → ((x2 = (1 : Int32) → IsG s_2.2.2.1 ∧ IsG s_2.2.2.1 ∧ wX2_lanesOf 13 s_2.2.2.1 x1 s_2 (fun r_59 s_59 => wX1_lengthOf s_2.2.2.1 r_59 14 6 s_59 (fun r_69 s_69 => Q r_69 s_69))) ∧ (¬ x2 = (1 : Int32) → ((x2 = (2 : Int32) → wX9_heldMaps  s_2 (fun r_74 s_74 => Q ((r_74 >>> (x1 &&& 31)) &&& (1 : Int32)) s_74)) ∧ (¬ x2 = (2 : Int32) → Q (-1 : Int32) s_2))))))) ∧ (r_2 = 0 → Q (-1 : Int32) s_2)))
set_option maxHeartbeats 4000000 in
set_option maxRecDepth 100000 in
theorem mX9_map {l : Launch} {V : Wv} {x1 : Int32} {x2 : Int32} {s : St} {Q : Int32 → St → Prop} (hV : V.2.1 = DESC) (h : wX9_map x1 x2 s Q) : Ci yX9_map cX9_map 3 (some .int) (3) l V [rf V 0, .int x1, .int x2] s Q := by
  unfold wX9_map at h
  refine Ci.of mvX9_map.1 (Nat.le_of_ble_eq_true rfl) (fun X F hR => ?_)
  refine g_lv (lv' := [(_, _), (_, _), (_, _)]) rfl ?_
  refine g_aload_n (pc := 0) F dX9_map_0 rfl 0 rfl ?_
  refine g_iload_n (pc := 1) F dX9_map_1 rfl 1 rfl ?_
  refine g_callVi (pc := 2) F (mX9_isMap hV h) mvX9_isMap uX9_141 (by decide) clX9 (sh_0 hV) rfl rfl (Nat.le_of_ble_eq_true rfl) dX9_map_2 (fun r_2 s_2 h => ?_)
  refine g_if_ne (pc := 5) F 10 dX9_map_5 (by decide) (fun c => ?_) (fun c => ?_)
  · have h := h.1 c
    refine g_iload_n (pc := 10) F dX9_map_10 rfl 2 rfl ?_
    by_cases c0 : x2 = (0 : Int32)
    · have h := h.1 c0
      refine g_tabIn (o := 25) (pc := 11) F 36 dX9_map_11 (by rw [c0]; decide) (by rw [c0]; decide) (by rw [c0]; rfl) (by decide) ?_
      refine g_aload_n (pc := 36) F dX9_map_36 rfl 0 rfl ?_
      refine g_getR (pc := 37) F clX9 (sh_0 hV) 3 _ rfl (by decide) uX9_29 dX9_map_37 ?_
      refine g_getR (pc := 40) F clX2 (is_13 hV).1 1 _ rfl (by decide) uX9_144 dX9_map_40 ?_
      refine g_iload_n (pc := 43) F dX9_map_43 rfl 1 rfl ?_
      obtain ⟨hb_44, h⟩ := h
      refine g_iald (pc := 44) F (is_13 hV).2.2.1 hb_44 dX9_map_44 ?_
      exact hR _ _ _ _ dX9_map_45 h
    · have h := h.2 c0
      by_cases c1 : x2 = (1 : Int32)
      · have h := h.1 c1
        refine g_tabIn (o := 35) (pc := 11) F 46 dX9_map_11 (by rw [c1]; decide) (by rw [c1]; decide) (by rw [c1]; rfl) (by decide) ?_
        refine g_aload_n (pc := 46) F dX9_map_46 rfl 0 rfl ?_
        obtain ⟨hg_47, h⟩ := h
        refine g_getG (pc := 47) F clX9 (sh_0 hV) 1 rfl (by decide) uX9_19 dX9_map_47 ?_
        refine g_aload_n (pc := 50) F dX9_map_50 rfl 0 rfl ?_
        refine g_getR (pc := 51) F clX9 (sh_0 hV) 3 _ rfl (by decide) uX9_29 dX9_map_51 ?_
        refine g_aload_n (pc := 54) F dX9_map_54 rfl 0 rfl ?_
        obtain ⟨hg_55, h⟩ := h
        refine g_getG (pc := 55) F clX9 (sh_0 hV) 1 rfl (by decide) uX9_19 dX9_map_55 ?_
        refine g_iload_n (pc := 58) F dX9_map_58 rfl 1 rfl ?_
        refine g_callVi (pc := 59) F (mX2_lanesOf (is_13 hV) (is_gr hV hg_55) h) mvX2_lanesOf uX9_147 (by decide) clX2 (is_13 hV).1 rfl rfl (Nat.le_of_ble_eq_true rfl) dX9_map_59 (fun r_59 s_59 h => ?_)
        refine g_aload_n (pc := 62) F dX9_map_62 rfl 0 rfl ?_
        refine g_getR (pc := 63) F clX9 (sh_0 hV) 3 _ rfl (by decide) uX9_29 dX9_map_63 ?_
        refine g_getR (pc := 66) F clX2 (is_13 hV).1 0 _ rfl (by decide) uX9_131 dX9_map_66 ?_
        refine g_callVi (pc := 69) F (mX1_lengthOf (is_gr hV hg_47) (is_13 hV).2.1 h) mvX1_lengthOf uX9_151 (by decide) clX1 (is_gr hV hg_47).1 rfl rfl (Nat.le_of_ble_eq_true rfl) dX9_map_69 (fun r_69 s_69 h => ?_)
        exact hR _ _ _ _ dX9_map_72 h
      · have h := h.2 c1
        by_cases c2 : x2 = (2 : Int32)
        · have h := h.1 c2
          refine g_tabIn (o := 62) (pc := 11) F 73 dX9_map_11 (by rw [c2]; decide) (by rw [c2]; decide) (by rw [c2]; rfl) (by decide) ?_
          refine g_aload_n (pc := 73) F dX9_map_73 rfl 0 rfl ?_
          refine g_callVi (pc := 74) F (mX9_heldMaps hV h) mvX9_heldMaps uX9_155 (by decide) clX9 (sh_0 hV) rfl rfl (Nat.le_of_ble_eq_true rfl) dX9_map_74 (fun r_74 s_74 h => ?_)
          refine g_iload_n (pc := 77) F dX9_map_77 rfl 1 rfl ?_
          refine g_ishr (pc := 78) F dX9_map_78 ?_
          refine g_iconst (pc := 79) F dX9_map_79 ic_1 ?_
          refine g_iand (pc := 80) F dX9_map_80 ?_
          exact hR _ _ _ _ dX9_map_81 h
        · have h := h.2 c2
          refine g_tabOut (pc := 11) F 82 dX9_map_11 ?_ (by decide) ?_
          · have e0 := lv_neT c0 (show ((0 : Int32)).toInt = 0 from rfl); have e1 := lv_neT c1 (show ((1 : Int32)).toInt = 1 from rfl); have e2 := lv_neT c2 (show ((2 : Int32)).toInt = 2 from rfl); omega
          · refine g_iconst (pc := 82) F dX9_map_82 ic_m1 ?_
            exact hR _ _ _ _ dX9_map_83 h
  · have h := h.2 c
    refine g_iconst (pc := 8) F dX9_map_8 ic_m1 ?_
    exact hR _ _ _ _ dX9_map_9 h
def wX9_place_38 (Q : Int32 → St → Prop) (x2 : Int32) (t0 : Int32) (t1 : Nat) (s : St) : Prop :=
  wX2_placeAt t1 t0 x2 s (fun r_39 s_39 => Q r_39 s_39)
set_option maxHeartbeats 4000000 in
set_option maxRecDepth 100000 in
theorem bX9_place_38 {l : Launch} {V : Wv} {X : Mx} {Q : Int32 → St → Prop} {x2 : Int32} {t0 : Int32} {t1 : Nat} (F : Fx V X cX9_place RX9 3 1) (hR : RtI l V X 3 cX9_place Q) (hV : V.2.1 = DESC) (ht1 : isX2 V t1)  {s : St} (h : wX9_place_38 Q x2 t0 t1 s) : G l V X 3 38 [(2, .int x2)] [.int t0, rf V t1] s := by
  unfold wX9_place_38 at h
  refine g_iload_n (pc := 38) F dX9_place_38 rfl 0 rfl ?_
  refine g_callVi (pc := 39) F (mX2_placeAt ht1 h) mvX2_placeAt uX9_158 (by decide) clX2 ht1.1 rfl rfl (Nat.le_of_ble_eq_true rfl) dX9_place_39 (fun r_39 s_39 h => ?_)
  exact hR _ _ _ _ dX9_place_42 h
def wX9_place_13 (Q : Int32 → St → Prop) (x1 : Int32) (x2 : Int32) (s : St) : Prop :=
  ((x2 < 0 → Q (-1 : Int32) s) ∧ (¬ x2 < 0 → ((x2 < (5 : Int32) → ((¬ x1 = (-1 : Int32) → wX9_place_38 Q x2 x1 13 s) ∧ (x1 = (-1 : Int32) → wX9_place_38 Q x2 (4 : Int32) 13 s))) ∧ (¬ x2 < (5 : Int32) → Q (-1 : Int32) s))))
set_option maxHeartbeats 4000000 in
set_option maxRecDepth 100000 in
theorem bX9_place_13 {l : Launch} {V : Wv} {X : Mx} {Q : Int32 → St → Prop} {x1 : Int32} {x2 : Int32} (F : Fx V X cX9_place RX9 3 1) (hR : RtI l V X 3 cX9_place Q) (hV : V.2.1 = DESC)  {s : St} (h : wX9_place_13 Q x1 x2 s) : G l V X 3 13 [(0, rf V 0), (1, .int x1), (2, .int x2)] [] s := by
  unfold wX9_place_13 at h
  refine g_iload_n (pc := 13) F dX9_place_13 rfl 2 rfl ?_
  refine g_if_lt (pc := 14) F 22 dX9_place_14 (by decide) (fun c => ?_) (fun c => ?_)
  · have h := h.1 c
    refine g_iconst (pc := 22) F dX9_place_22 ic_m1 ?_
    exact hR _ _ _ _ dX9_place_23 h
  · have h := h.2 c
    refine g_iload_n (pc := 17) F dX9_place_17 rfl 2 rfl ?_
    refine g_iconst (pc := 18) F dX9_place_18 ic_5 ?_
    refine g_icmp_lt (pc := 19) F 24 dX9_place_19 (by decide) (fun c => ?_) (fun c => ?_)
    · have h := h.1 c
      refine g_aload_n (pc := 24) F dX9_place_24 rfl 0 rfl ?_
      refine g_getR (pc := 25) F clX9 (sh_0 hV) 3 _ rfl (by decide) uX9_29 dX9_place_25 ?_
      refine g_iload_n (pc := 28) F dX9_place_28 rfl 1 rfl ?_
      refine g_iconst (pc := 29) F dX9_place_29 ic_m1 ?_
      refine g_icmp_ne (pc := 30) F 37 dX9_place_30 (by decide) (fun c => ?_) (fun c => ?_)
      · have h := h.1 c
        refine g_iload_n (pc := 37) F dX9_place_37 rfl 1 rfl ?_
        exact g_weak [2] rfl (bX9_place_38 F hR hV (is_13 hV) h)
      · have h := h.2 c
        refine g_iconst (pc := 33) F dX9_place_33 ic_4 ?_
        refine g_goto (pc := 34) F 38 dX9_place_34 (by decide) ?_
        exact g_weak [2] rfl (bX9_place_38 F hR hV (is_13 hV) h)
    · have h := h.2 c
      refine g_iconst (pc := 22) F dX9_place_22 ic_m1 ?_
      exact hR _ _ _ _ dX9_place_23 h
def wX9_place (x1 : Int32) (x2 : Int32) (s : St) (Q : Int32 → St → Prop) : Prop :=
  ((x1 = (-1 : Int32) → wX9_place_13 Q x1 x2 s) ∧ (¬ x1 = (-1 : Int32) → wX9_isMap x1 s (fun r_7 s_7 => ((r_7 = 0 → Q (-1 : Int32) s_7) ∧ (¬ r_7 = 0 → wX9_place_13 Q x1 x2 s_7)))))
set_option maxHeartbeats 4000000 in
set_option maxRecDepth 100000 in
theorem mX9_place {l : Launch} {V : Wv} {x1 : Int32} {x2 : Int32} {s : St} {Q : Int32 → St → Prop} (hV : V.2.1 = DESC) (h : wX9_place x1 x2 s Q) : Ci yX9_place cX9_place 3 (some .int) (1) l V [rf V 0, .int x1, .int x2] s Q := by
  unfold wX9_place at h
  refine Ci.of mvX9_place.1 (Nat.le_of_ble_eq_true rfl) (fun X F hR => ?_)
  refine g_lv (lv' := [(_, _), (_, _), (_, _)]) rfl ?_
  refine g_iload_n (pc := 0) F dX9_place_0 rfl 1 rfl ?_
  refine g_iconst (pc := 1) F dX9_place_1 ic_m1 ?_
  refine g_icmp_eq (pc := 2) F 13 dX9_place_2 (by decide) (fun c => ?_) (fun c => ?_)
  · have h := h.1 c
    exact g_weak [0, 1, 2] rfl (bX9_place_13 F hR hV h)
  · have h := h.2 c
    refine g_aload_n (pc := 5) F dX9_place_5 rfl 0 rfl ?_
    refine g_iload_n (pc := 6) F dX9_place_6 rfl 1 rfl ?_
    refine g_callVi (pc := 7) F (mX9_isMap hV h) mvX9_isMap uX9_141 (by decide) clX9 (sh_0 hV) rfl rfl (Nat.le_of_ble_eq_true rfl) dX9_place_7 (fun r_7 s_7 h => ?_)
    refine g_if_eq (pc := 10) F 22 dX9_place_10 (by decide) (fun c => ?_) (fun c => ?_)
    · have h := h.1 c
      refine g_iconst (pc := 22) F dX9_place_22 ic_m1 ?_
      exact hR _ _ _ _ dX9_place_23 h
    · have h := h.2 c
      exact g_weak [0, 1, 2] rfl (bX9_place_13 F hR hV h)
def wX9_now (x1 : Int32) (s : St) (Q : Int32 → St → Prop) : Prop :=
  ((x1 = (0 : Int32) → wX9_heldMaps  s (fun r_33 s_33 => Q r_33 s_33)) ∧ (¬ x1 = (0 : Int32) → ((x1 = (1 : Int32) → vp_in (4 : Int32) 5 ∧ Q (s.1 15 (4 : Int32).toNatClampNeg) s) ∧ (¬ x1 = (1 : Int32) → ((x1 = (2 : Int32) → Q (s.1 13 4) s) ∧ (¬ x1 = (2 : Int32) → ((x1 = (3 : Int32) → Q (s.1 29 2) s) ∧ (¬ x1 = (3 : Int32) → Q (-1 : Int32) s))))))))
set_option maxHeartbeats 4000000 in
set_option maxRecDepth 100000 in
theorem mX9_now {l : Launch} {V : Wv} {x1 : Int32} {s : St} {Q : Int32 → St → Prop} (hV : V.2.1 = DESC) (h : wX9_now x1 s Q) : Ci yX9_now cX9_now 2 (some .int) (3) l V [rf V 0, .int x1] s Q := by
  unfold wX9_now at h
  refine Ci.of mvX9_now.1 (Nat.le_of_ble_eq_true rfl) (fun X F hR => ?_)
  refine g_lv (lv' := [(_, _), (_, _)]) rfl ?_
  refine g_iload_n (pc := 0) F dX9_now_0 rfl 1 rfl ?_
  by_cases c0 : x1 = (0 : Int32)
  · have h := h.1 c0
    refine g_tabIn (o := 31) (pc := 1) F 32 dX9_now_1 (by rw [c0]; decide) (by rw [c0]; decide) (by rw [c0]; rfl) (by decide) ?_
    refine g_aload_n (pc := 32) F dX9_now_32 rfl 0 rfl ?_
    refine g_callVi (pc := 33) F (mX9_heldMaps hV h) mvX9_heldMaps uX9_155 (by decide) clX9 (sh_0 hV) rfl rfl (Nat.le_of_ble_eq_true rfl) dX9_now_33 (fun r_33 s_33 h => ?_)
    exact hR _ _ _ _ dX9_now_36 h
  · have h := h.2 c0
    by_cases c1 : x1 = (1 : Int32)
    · have h := h.1 c1
      refine g_tabIn (o := 36) (pc := 1) F 37 dX9_now_1 (by rw [c1]; decide) (by rw [c1]; decide) (by rw [c1]; rfl) (by decide) ?_
      refine g_aload_n (pc := 37) F dX9_now_37 rfl 0 rfl ?_
      refine g_getR (pc := 38) F clX9 (sh_0 hV) 3 _ rfl (by decide) uX9_29 dX9_now_38 ?_
      refine g_getR (pc := 41) F clX2 (is_13 hV).1 1 _ rfl (by decide) uX9_144 dX9_now_41 ?_
      refine g_iconst (pc := 44) F dX9_now_44 ic_4 ?_
      obtain ⟨hb_45, h⟩ := h
      refine g_iald (pc := 45) F (is_13 hV).2.2.1 hb_45 dX9_now_45 ?_
      exact hR _ _ _ _ dX9_now_46 h
    · have h := h.2 c1
      by_cases c2 : x1 = (2 : Int32)
      · have h := h.1 c2
        refine g_tabIn (o := 46) (pc := 1) F 47 dX9_now_1 (by rw [c2]; decide) (by rw [c2]; decide) (by rw [c2]; rfl) (by decide) ?_
        refine g_aload_n (pc := 47) F dX9_now_47 rfl 0 rfl ?_
        refine g_getR (pc := 48) F clX9 (sh_0 hV) 3 _ rfl (by decide) uX9_29 dX9_now_48 ?_
        refine g_getI (pc := 51) F clX2 (is_13 hV).1 4 rfl (by decide) uX9_162 dX9_now_51 ?_
        exact hR _ _ _ _ dX9_now_54 h
      · have h := h.2 c2
        by_cases c3 : x1 = (3 : Int32)
        · have h := h.1 c3
          refine g_tabIn (o := 54) (pc := 1) F 55 dX9_now_1 (by rw [c3]; decide) (by rw [c3]; decide) (by rw [c3]; rfl) (by decide) ?_
          refine g_aload_n (pc := 55) F dX9_now_55 rfl 0 rfl ?_
          refine g_getR (pc := 56) F clX9 (sh_0 hV) 6 _ rfl (by decide) uX9_46 dX9_now_56 ?_
          refine g_getI (pc := 59) F clX3 (is_29 hV).1 2 rfl (by decide) uX9_165 dX9_now_59 ?_
          exact hR _ _ _ _ dX9_now_62 h
        · have h := h.2 c3
          refine g_tabOut (pc := 1) F 63 dX9_now_1 ?_ (by decide) ?_
          · have e0 := lv_neT c0 (show ((0 : Int32)).toInt = 0 from rfl); have e1 := lv_neT c1 (show ((1 : Int32)).toInt = 1 from rfl); have e2 := lv_neT c2 (show ((2 : Int32)).toInt = 2 from rfl); have e3 := lv_neT c3 (show ((3 : Int32)).toInt = 3 from rfl); omega
          · refine g_iconst (pc := 63) F dX9_now_63 ic_m1 ?_
            exact hR _ _ _ _ dX9_now_64 h
def wX9_isPlace (x1 : Int32) (s : St) (Q : Int32 → St → Prop) : Prop :=
  ((x1 < 0 → Q (0 : Int32) s) ∧ (¬ x1 < 0 → IsG s.2.2.1 ∧ (((s.1 s.2.2.1 0) ≤ x1 → Q (0 : Int32) s) ∧ (¬ (s.1 s.2.2.1 0) ≤ x1 → Q (1 : Int32) s))))
set_option maxHeartbeats 4000000 in
set_option maxRecDepth 100000 in
theorem mX9_isPlace {l : Launch} {V : Wv} {x1 : Int32} {s : St} {Q : Int32 → St → Prop} (hV : V.2.1 = DESC) (h : wX9_isPlace x1 s Q) : Ci yX9_isPlace cX9_isPlace 2 (some .boolean) (0) l V [rf V 0, .int x1] s Q := by
  unfold wX9_isPlace at h
  refine Cz.of mvX9_isPlace.1 (Nat.le_of_ble_eq_true rfl) (fun X F hR => ?_)
  refine g_lv (lv' := [(_, _), (_, _)]) rfl ?_
  refine g_iload_n (pc := 0) F dX9_isPlace_0 rfl 1 rfl ?_
  refine g_if_lt (pc := 1) F 19 dX9_isPlace_1 (by decide) (fun c => ?_) (fun c => ?_)
  · have h := h.1 c
    refine g_iconst (pc := 19) F dX9_isPlace_19 ic_0 ?_
    exact hR _ _ _ _ dX9_isPlace_20 (Or.inl rfl) h
  · have h := h.2 c
    refine g_iload_n (pc := 4) F dX9_isPlace_4 rfl 1 rfl ?_
    refine g_aload_n (pc := 5) F dX9_isPlace_5 rfl 0 rfl ?_
    obtain ⟨hg_6, h⟩ := h
    refine g_getG (pc := 6) F clX9 (sh_0 hV) 1 rfl (by decide) uX9_19 dX9_isPlace_6 ?_
    refine g_getI (pc := 9) F clX1 (is_gr hV hg_6).1 0 rfl (by decide) uX9_168 dX9_isPlace_9 ?_
    refine g_icmp_ge (pc := 12) F 19 dX9_isPlace_12 (by decide) (fun c => ?_) (fun c => ?_)
    · have h := h.1 c
      refine g_iconst (pc := 19) F dX9_isPlace_19 ic_0 ?_
      exact hR _ _ _ _ dX9_isPlace_20 (Or.inl rfl) h
    · have h := h.2 c
      refine g_iconst (pc := 15) F dX9_isPlace_15 ic_1 ?_
      refine g_goto (pc := 16) F 20 dX9_isPlace_16 (by decide) ?_
      exact hR _ _ _ _ dX9_isPlace_20 (Or.inr rfl) h
def wX9_beforeChange  (s : St) (Q : St → Prop) : Prop :=
  wX3_remember 29 13 s (fun s_8 => wX9_forgetAnswers  s_8 (fun s_12 => Q s_12))
set_option maxHeartbeats 4000000 in
set_option maxRecDepth 100000 in
theorem mX9_beforeChange {l : Launch} {V : Wv}  {s : St} {Q : St → Prop} (hV : V.2.1 = DESC) (h : wX9_beforeChange  s Q) : Cv yX9_beforeChange cX9_beforeChange 1 (3) l V [rf V 0] s Q := by
  unfold wX9_beforeChange at h
  refine Cv.of mvX9_beforeChange.1 (Nat.le_of_ble_eq_true rfl) (fun X F hR => ?_)
  refine g_lv (lv' := [(_, _)]) rfl ?_
  refine g_aload_n (pc := 0) F dX9_beforeChange_0 rfl 0 rfl ?_
  refine g_getR (pc := 1) F clX9 (sh_0 hV) 6 _ rfl (by decide) uX9_46 dX9_beforeChange_1 ?_
  refine g_aload_n (pc := 4) F dX9_beforeChange_4 rfl 0 rfl ?_
  refine g_getR (pc := 5) F clX9 (sh_0 hV) 3 _ rfl (by decide) uX9_29 dX9_beforeChange_5 ?_
  refine g_callVv (pc := 8) F (mX3_remember (is_29 hV) (is_13 hV) h) mvX3_remember uX9_237 (by decide) clX3 (is_29 hV).1 rfl rfl (Nat.le_of_ble_eq_true rfl) dX9_beforeChange_8 (fun s_8 h => ?_)
  refine g_aload_n (pc := 11) F dX9_beforeChange_11 rfl 0 rfl ?_
  refine g_callVv (pc := 12) F (mX9_forgetAnswers hV h) mvX9_forgetAnswers uX9_118 (by decide) clX9 (sh_0 hV) rfl rfl (Nat.le_of_ble_eq_true rfl) dX9_beforeChange_12 (fun s_12 h => ?_)
  exact hR _ _ _ dX9_beforeChange_15 h
def wX9_names (x1 : Int32) (s : St) (Q : Int32 → St → Prop) : Prop :=
  wX9_isPlace x1 s (fun r_2 s_2 => ((¬ r_2 = 0 → IsG s_2.2.2.1 ∧ wX2_fits 13 s_2.2.2.1 (4 : Int32) x1 s_2 (fun r_20 s_20 => ((¬ r_20 = 0 → wX9_beforeChange  s_20 (fun s_30 => wX2_append 13 (4 : Int32) x1 s_30 (fun s_39 => vp_in (4 : Int32) 5 ∧ Q (s_39.1 15 (4 : Int32).toNatClampNeg) s_39))) ∧ (r_20 = 0 → Q (-2 : Int32) s_20)))) ∧ (r_2 = 0 → Q (-1 : Int32) s_2)))
set_option maxHeartbeats 4000000 in
set_option maxRecDepth 100000 in
theorem mX9_names {l : Launch} {V : Wv} {x1 : Int32} {s : St} {Q : Int32 → St → Prop} (hV : V.2.1 = DESC) (h : wX9_names x1 s Q) : Ci yX9_names cX9_names 2 (some .int) (4) l V [rf V 0, .int x1] s Q := by
  unfold wX9_names at h
  refine Ci.of mvX9_names.1 (Nat.le_of_ble_eq_true rfl) (fun X F hR => ?_)
  refine g_lv (lv' := [(_, _), (_, _)]) rfl ?_
  refine g_aload_n (pc := 0) F dX9_names_0 rfl 0 rfl ?_
  refine g_iload_n (pc := 1) F dX9_names_1 rfl 1 rfl ?_
  refine g_callVi (pc := 2) F (mX9_isPlace hV h) mvX9_isPlace uX9_187 (by decide) clX9 (sh_0 hV) rfl rfl (Nat.le_of_ble_eq_true rfl) dX9_names_2 (fun r_2 s_2 h => ?_)
  refine g_if_ne (pc := 5) F 10 dX9_names_5 (by decide) (fun c => ?_) (fun c => ?_)
  · have h := h.1 c
    refine g_aload_n (pc := 10) F dX9_names_10 rfl 0 rfl ?_
    refine g_getR (pc := 11) F clX9 (sh_0 hV) 3 _ rfl (by decide) uX9_29 dX9_names_11 ?_
    refine g_aload_n (pc := 14) F dX9_names_14 rfl 0 rfl ?_
    obtain ⟨hg_15, h⟩ := h
    refine g_getG (pc := 15) F clX9 (sh_0 hV) 1 rfl (by decide) uX9_19 dX9_names_15 ?_
    refine g_iconst (pc := 18) F dX9_names_18 ic_4 ?_
    refine g_iload_n (pc := 19) F dX9_names_19 rfl 1 rfl ?_
    refine g_callVi (pc := 20) F (mX2_fits (is_13 hV) (is_gr hV hg_15) h) mvX2_fits uX9_190 (by decide) clX2 (is_13 hV).1 rfl rfl (Nat.le_of_ble_eq_true rfl) dX9_names_20 (fun r_20 s_20 h => ?_)
    refine g_if_ne (pc := 23) F 29 dX9_names_23 (by decide) (fun c => ?_) (fun c => ?_)
    · have h := h.1 c
      refine g_aload_n (pc := 29) F dX9_names_29 rfl 0 rfl ?_
      refine g_callVv (pc := 30) F (mX9_beforeChange hV h) mvX9_beforeChange uX9_194 (by decide) clX9 (sh_0 hV) rfl rfl (Nat.le_of_ble_eq_true rfl) dX9_names_30 (fun s_30 h => ?_)
      refine g_aload_n (pc := 33) F dX9_names_33 rfl 0 rfl ?_
      refine g_getR (pc := 34) F clX9 (sh_0 hV) 3 _ rfl (by decide) uX9_29 dX9_names_34 ?_
      refine g_iconst (pc := 37) F dX9_names_37 ic_4 ?_
      refine g_iload_n (pc := 38) F dX9_names_38 rfl 1 rfl ?_
      refine g_callVv (pc := 39) F (mX2_append (is_13 hV) h) mvX2_append uX9_197 (by decide) clX2 (is_13 hV).1 rfl rfl (Nat.le_of_ble_eq_true rfl) dX9_names_39 (fun s_39 h => ?_)
      refine g_aload_n (pc := 42) F dX9_names_42 rfl 0 rfl ?_
      refine g_getR (pc := 43) F clX9 (sh_0 hV) 3 _ rfl (by decide) uX9_29 dX9_names_43 ?_
      refine g_getR (pc := 46) F clX2 (is_13 hV).1 1 _ rfl (by decide) uX9_144 dX9_names_46 ?_
      refine g_iconst (pc := 49) F dX9_names_49 ic_4 ?_
      obtain ⟨hb_50, h⟩ := h
      refine g_iald (pc := 50) F (is_13 hV).2.2.1 hb_50 dX9_names_50 ?_
      exact hR _ _ _ _ dX9_names_51 h
    · have h := h.2 c
      refine g_bipush (pc := 26) F dX9_names_26 bp_m2 ?_
      exact hR _ _ _ _ dX9_names_28 h
  · have h := h.2 c
    refine g_iconst (pc := 8) F dX9_names_8 ic_m1 ?_
    exact hR _ _ _ _ dX9_names_9 h
def wX9_draftIsWay  (s : St) (Q : Int32 → St → Prop) : Prop :=
  vp_in (4 : Int32) 5 ∧ (((s.1 15 (4 : Int32).toNatClampNeg) < (2 : Int32) → Q (0 : Int32) s) ∧ (¬ (s.1 15 (4 : Int32).toNatClampNeg) < (2 : Int32) → Q (1 : Int32) s))
set_option maxHeartbeats 4000000 in
set_option maxRecDepth 100000 in
theorem mX9_draftIsWay {l : Launch} {V : Wv}  {s : St} {Q : Int32 → St → Prop} (hV : V.2.1 = DESC) (h : wX9_draftIsWay  s Q) : Ci yX9_draftIsWay cX9_draftIsWay 1 (some .boolean) (0) l V [rf V 0] s Q := by
  unfold wX9_draftIsWay at h
  refine Cz.of mvX9_draftIsWay.1 (Nat.le_of_ble_eq_true rfl) (fun X F hR => ?_)
  refine g_lv (lv' := [(_, _)]) rfl ?_
  refine g_aload_n (pc := 0) F dX9_draftIsWay_0 rfl 0 rfl ?_
  refine g_getR (pc := 1) F clX9 (sh_0 hV) 3 _ rfl (by decide) uX9_29 dX9_draftIsWay_1 ?_
  refine g_getR (pc := 4) F clX2 (is_13 hV).1 1 _ rfl (by decide) uX9_144 dX9_draftIsWay_4 ?_
  refine g_iconst (pc := 7) F dX9_draftIsWay_7 ic_4 ?_
  obtain ⟨hb_8, h⟩ := h
  refine g_iald (pc := 8) F (is_13 hV).2.2.1 hb_8 dX9_draftIsWay_8 ?_
  refine g_iconst (pc := 9) F dX9_draftIsWay_9 ic_2 ?_
  refine g_icmp_lt (pc := 10) F 17 dX9_draftIsWay_10 (by decide) (fun c => ?_) (fun c => ?_)
  · have h := h.1 c
    refine g_iconst (pc := 17) F dX9_draftIsWay_17 ic_0 ?_
    exact hR _ _ _ _ dX9_draftIsWay_18 (Or.inl rfl) h
  · have h := h.2 c
    refine g_iconst (pc := 13) F dX9_draftIsWay_13 ic_1 ?_
    refine g_goto (pc := 14) F 18 dX9_draftIsWay_14 (by decide) ?_
    exact hR _ _ _ _ dX9_draftIsWay_18 (Or.inr rfl) h
def wX9_allMaps  (s : St) (Q : Int32 → St → Prop) : Prop :=
  Q (((1 : Int32) <<< ((s.1 13 3) &&& 31)) - (1 : Int32)) s
set_option maxHeartbeats 4000000 in
set_option maxRecDepth 100000 in
theorem mX9_allMaps {l : Launch} {V : Wv}  {s : St} {Q : Int32 → St → Prop} (hV : V.2.1 = DESC) (h : wX9_allMaps  s Q) : Ci yX9_allMaps cX9_allMaps 1 (some .int) (0) l V [rf V 0] s Q := by
  unfold wX9_allMaps at h
  refine Ci.of mvX9_allMaps.1 (Nat.le_of_ble_eq_true rfl) (fun X F hR => ?_)
  refine g_lv (lv' := [(_, _)]) rfl ?_
  refine g_iconst (pc := 0) F dX9_allMaps_0 ic_1 ?_
  refine g_aload_n (pc := 1) F dX9_allMaps_1 rfl 0 rfl ?_
  refine g_getR (pc := 2) F clX9 (sh_0 hV) 3 _ rfl (by decide) uX9_29 dX9_allMaps_2 ?_
  refine g_getI (pc := 5) F clX2 (is_13 hV).1 3 rfl (by decide) uX9_174 dX9_allMaps_5 ?_
  refine g_ishl (pc := 8) F dX9_allMaps_8 ?_
  refine g_iconst (pc := 9) F dX9_allMaps_9 ic_1 ?_
  refine g_isub (pc := 10) F dX9_allMaps_10 ?_
  exact hR _ _ _ _ dX9_allMaps_11 h
def wX9_waysOf_50 (rec : Int64 → Int32 → St → Prop) (K56 : Int64 → St → Prop) (Q : Int64 → St → Prop) (x1 : Int32) (x2 : Int64) (x4 : Int32) (s : St) : Prop :=
  rec x2 (x4 + (1 : Int32)) s
set_option maxHeartbeats 4000000 in
set_option maxRecDepth 100000 in
theorem bX9_waysOf_50 {l : Launch} {V : Wv} {X : Mx} {rec : Int64 → Int32 → St → Prop} {K56 : Int64 → St → Prop} {Q : Int64 → St → Prop} {x1 : Int32} {x2 : Int64} {x4 : Int32} (F : Fx V X cX9_waysOf RX9 5 2) (hR : RtL l V X 5 cX9_waysOf Q) (hV : V.2.1 = DESC) (hrec : ∀ (y2 : Int64) (y4 : Int32) (s : St), rec y2 y4 s → G l V X 5 5 [(0, rf V 0), (1, .int x1), (2, .long y2), (4, .int y4)] [] s) (hK56 : ∀ (y2 : Int64) (s : St), K56 y2 s → G l V X 5 56 [(0, rf V 0), (2, .long y2)] [] s) {s : St} (h : wX9_waysOf_50 rec K56 Q x1 x2 x4 s) : G l V X 5 50 [(0, rf V 0), (1, .int x1), (2, .long x2), (4, .int x4)] [] s := by
  unfold wX9_waysOf_50 at h
  refine g_iinc (pc := 50) (lv' := [(_, _), (_, _), (_, _), (_, _)]) F dX9_waysOf_50 3 rfl (congrArg _ ic_1) (by decide) rfl ?_
  refine g_goto (pc := 53) F 5 dX9_waysOf_53 (by decide) ?_
  exact g_weak [1, 2, 3, 0] rfl (hrec _ _ _ h)
def wX9_waysOf_5 (x1 : Int32) (K56 : Int64 → St → Prop) (Q : Int64 → St → Prop) : Nat → Int64 → Int32 → St → Prop
  | 0, _, _, _ => False
  | n + 1, x2, x4, s =>
  (((s.1 13 3) ≤ x4 → K56 x2 s) ∧ (¬ (s.1 13 3) ≤ x4 → ((¬ ((x1 >>> (x4 &&& 31)) &&& (1 : Int32)) = (1 : Int32) → wX9_waysOf_50 (wX9_waysOf_5 x1 K56 Q n) (K56) Q x1 x2 x4 s) ∧ (((x1 >>> (x4 &&& 31)) &&& (1 : Int32)) = (1 : Int32) → IsG s.2.2.1 ∧ wX2_lanesOf 13 s.2.2.1 x4 s (fun r_42 s_42 => wX8_bitBy 21 r_42 s_42 (fun r_45 s_45 => wX9_waysOf_50 (wX9_waysOf_5 x1 K56 Q n) (K56) Q x1 (x2 ||| r_45) x4 s_45))))))
set_option maxHeartbeats 4000000 in
set_option maxRecDepth 100000 in
theorem bX9_waysOf_5 {l : Launch} {V : Wv} {X : Mx} {x1 : Int32} {K56 : Int64 → St → Prop} {Q : Int64 → St → Prop} (F : Fx V X cX9_waysOf RX9 5 2) (hR : RtL l V X 5 cX9_waysOf Q) (hV : V.2.1 = DESC) (hK56 : ∀ (y2 : Int64) (s : St), K56 y2 s → G l V X 5 56 [(0, rf V 0), (2, .long y2)] [] s) : ∀ (n : Nat) (x2 : Int64) (x4 : Int32) (s : St), wX9_waysOf_5 x1 K56 Q n x2 x4 s → G l V X 5 5 [(0, rf V 0), (1, .int x1), (2, .long x2), (4, .int x4)] [] s := by
  intro n
  induction n with
  | zero => intro x2 x4 s h; unfold wX9_waysOf_5 at h; exact h.elim
  | succ n ih =>
    intro x2 x4 s h
    unfold wX9_waysOf_5 at h
    refine g_iload (pc := 5) F dX9_waysOf_5 3 rfl ?_
    refine g_aload_n (pc := 7) F dX9_waysOf_7 rfl 0 rfl ?_
    refine g_getR (pc := 8) F clX9 (sh_0 hV) 3 _ rfl (by decide) uX9_29 dX9_waysOf_8 ?_
    refine g_getI (pc := 11) F clX2 (is_13 hV).1 3 rfl (by decide) uX9_174 dX9_waysOf_11 ?_
    refine g_icmp_ge (pc := 14) F 56 dX9_waysOf_14 (by decide) (fun c => ?_) (fun c => ?_)
    · have h := h.1 c
      exact g_weak [0, 2] rfl (hK56 _ _ h)
    · have h := h.2 c
      refine g_iload_n (pc := 17) F dX9_waysOf_17 rfl 1 rfl ?_
      refine g_iload (pc := 18) F dX9_waysOf_18 3 rfl ?_
      refine g_ishr (pc := 20) F dX9_waysOf_20 ?_
      refine g_iconst (pc := 21) F dX9_waysOf_21 ic_1 ?_
      refine g_iand (pc := 22) F dX9_waysOf_22 ?_
      refine g_iconst (pc := 23) F dX9_waysOf_23 ic_1 ?_
      refine g_icmp_ne (pc := 24) F 50 dX9_waysOf_24 (by decide) (fun c => ?_) (fun c => ?_)
      · have h := h.1 c
        exact g_weak [0, 1, 2, 3] rfl (bX9_waysOf_50 F hR hV ih hK56 h)
      · have h := h.2 c
        refine g_lload_n (pc := 27) F dX9_waysOf_27 rfl 2 rfl ?_
        refine g_aload_n (pc := 28) F dX9_waysOf_28 rfl 0 rfl ?_
        refine g_getR (pc := 29) F clX9 (sh_0 hV) 5 _ rfl (by decide) uX9_39 dX9_waysOf_29 ?_
        refine g_aload_n (pc := 32) F dX9_waysOf_32 rfl 0 rfl ?_
        refine g_getR (pc := 33) F clX9 (sh_0 hV) 3 _ rfl (by decide) uX9_29 dX9_waysOf_33 ?_
        refine g_aload_n (pc := 36) F dX9_waysOf_36 rfl 0 rfl ?_
        obtain ⟨hg_37, h⟩ := h
        refine g_getG (pc := 37) F clX9 (sh_0 hV) 1 rfl (by decide) uX9_19 dX9_waysOf_37 ?_
        refine g_iload (pc := 40) F dX9_waysOf_40 3 rfl ?_
        refine g_callVi (pc := 42) F (mX2_lanesOf (is_13 hV) (is_gr hV hg_37) h) mvX2_lanesOf uX9_147 (by decide) clX2 (is_13 hV).1 rfl rfl (Nat.le_of_ble_eq_true rfl) dX9_waysOf_42 (fun r_42 s_42 h => ?_)
        refine g_callVl (pc := 45) F (mX8_bitBy (is_21 hV) h) mvX8_bitBy uX9_291 (by decide) clX8 (is_21 hV).1 rfl rfl (Nat.le_of_ble_eq_true rfl) dX9_waysOf_45 (fun r_45 s_45 h => ?_)
        refine g_lor (pc := 48) F dX9_waysOf_48 ?_
        refine g_lstore_n (pc := 49) (lv' := [(_, _), (_, _), (_, _), (_, _)]) F dX9_waysOf_49 rfl (by decide) rfl ?_
        exact g_weak [1, 2, 0, 3] rfl (bX9_waysOf_50 F hR hV ih hK56 h)
def wX9_waysOf (x1 : Int32) (s : St) (Q : Int64 → St → Prop) : Prop :=
  (∃ k_5, wX9_waysOf_5  x1 (fun x2_56 s_k56 => wX9_draftIsWay  s_k56 (fun r_57 s_57 => ((r_57 = 0 → Q x2_56 s_57) ∧ (¬ r_57 = 0 → IsG s_57.2.2.1 ∧ wX2_lanesOf 13 s_57.2.2.1 (4 : Int32) s_57 (fun r_77 s_77 => wX8_bitBy 21 r_77 s_77 (fun r_80 s_80 => Q (x2_56 ||| r_80) s_80)))))) Q k_5 (0 : Int64) (0 : Int32) s)
set_option maxHeartbeats 4000000 in
set_option maxRecDepth 100000 in
theorem mX9_waysOf {l : Launch} {V : Wv} {x1 : Int32} {s : St} {Q : Int64 → St → Prop} (hV : V.2.1 = DESC) (h : wX9_waysOf x1 s Q) : Cl yX9_waysOf cX9_waysOf 5 (2) l V [rf V 0, .int x1] s Q := by
  unfold wX9_waysOf at h
  refine Cl.of mvX9_waysOf.1 (Nat.le_of_ble_eq_true rfl) (fun X F hR => ?_)
  refine g_lv (lv' := [(_, _), (_, _)]) rfl ?_
  refine g_lconst (pc := 0) (v := 0) F dX9_waysOf_0 (by decide) ?_
  refine g_lstore_n (pc := 1) (lv' := [(_, _), (_, _), (_, _)]) F dX9_waysOf_1 rfl (by decide) rfl ?_
  refine g_iconst (pc := 2) F dX9_waysOf_2 ic_0 ?_
  refine g_istore (pc := 3) (lv' := [(_, _), (_, _), (_, _), (_, _)]) F dX9_waysOf_3 (by decide) rfl ?_
  obtain ⟨k_5, h⟩ := h
  refine g_weak [2, 3, 1, 0] rfl (bX9_waysOf_5 F hR hV (fun x2_56 s_k56 h => ?_) k_5 _ _ _ h)
  · refine g_aload_n (pc := 56) F dX9_waysOf_56 rfl 0 rfl ?_
    refine g_callVi (pc := 57) F (mX9_draftIsWay hV h) mvX9_draftIsWay uX9_201 (by decide) clX9 (sh_0 hV) rfl rfl (Nat.le_of_ble_eq_true rfl) dX9_waysOf_57 (fun r_57 s_57 h => ?_)
    refine g_if_eq (pc := 60) F 87 dX9_waysOf_60 (by decide) (fun c => ?_) (fun c => ?_)
    · have h := h.1 c
      refine g_lload_n (pc := 87) F dX9_waysOf_87 rfl 1 rfl ?_
      exact hR _ _ _ _ dX9_waysOf_88 h
    · have h := h.2 c
      refine g_lload_n (pc := 63) F dX9_waysOf_63 rfl 1 rfl ?_
      refine g_aload_n (pc := 64) F dX9_waysOf_64 rfl 0 rfl ?_
      refine g_getR (pc := 65) F clX9 (sh_0 hV) 5 _ rfl (by decide) uX9_39 dX9_waysOf_65 ?_
      refine g_aload_n (pc := 68) F dX9_waysOf_68 rfl 0 rfl ?_
      refine g_getR (pc := 69) F clX9 (sh_0 hV) 3 _ rfl (by decide) uX9_29 dX9_waysOf_69 ?_
      refine g_aload_n (pc := 72) F dX9_waysOf_72 rfl 0 rfl ?_
      obtain ⟨hg_73, h⟩ := h
      refine g_getG (pc := 73) F clX9 (sh_0 hV) 1 rfl (by decide) uX9_19 dX9_waysOf_73 ?_
      refine g_iconst (pc := 76) F dX9_waysOf_76 ic_4 ?_
      refine g_callVi (pc := 77) F (mX2_lanesOf (is_13 hV) (is_gr hV hg_73) h) mvX2_lanesOf uX9_147 (by decide) clX2 (is_13 hV).1 rfl rfl (Nat.le_of_ble_eq_true rfl) dX9_waysOf_77 (fun r_77 s_77 h => ?_)
      refine g_callVl (pc := 80) F (mX8_bitBy (is_21 hV) h) mvX8_bitBy uX9_291 (by decide) clX8 (is_21 hV).1 rfl rfl (Nat.le_of_ble_eq_true rfl) dX9_waysOf_80 (fun r_80 s_80 h => ?_)
      refine g_lor (pc := 83) F dX9_waysOf_83 ?_
      refine g_goto (pc := 84) F 88 dX9_waysOf_84 (by decide) ?_
      exact hR _ _ _ _ dX9_waysOf_88 h
def wX9_costOf (x1 : Int64) (s : St) (Q : Int32 → St → Prop) : Prop :=
  IsG s.2.2.1 ∧ wX4_begin 72 s.2.2.1 21 14 6 x1 s (fun s_20 => wX4_leastCost 72 s_20 (fun r_27 s_27 => Q r_27 s_27))
set_option maxHeartbeats 4000000 in
set_option maxRecDepth 100000 in
theorem mX9_costOf {l : Launch} {V : Wv} {x1 : Int64} {s : St} {Q : Int32 → St → Prop} (hV : V.2.1 = DESC) (h : wX9_costOf x1 s Q) : Ci yX9_costOf cX9_costOf 3 (some .int) (11) l V [rf V 0, .long x1] s Q := by
  unfold wX9_costOf at h
  refine Ci.of mvX9_costOf.1 (Nat.le_of_ble_eq_true rfl) (fun X F hR => ?_)
  refine g_lv (lv' := [(_, _), (_, _)]) rfl ?_
  refine g_aload_n (pc := 0) F dX9_costOf_0 rfl 0 rfl ?_
  refine g_getR (pc := 1) F clX9 (sh_0 hV) 9 _ rfl (by decide) uX9_61 dX9_costOf_1 ?_
  refine g_aload_n (pc := 4) F dX9_costOf_4 rfl 0 rfl ?_
  obtain ⟨hg_5, h⟩ := h
  refine g_getG (pc := 5) F clX9 (sh_0 hV) 1 rfl (by decide) uX9_19 dX9_costOf_5 ?_
  refine g_aload_n (pc := 8) F dX9_costOf_8 rfl 0 rfl ?_
  refine g_getR (pc := 9) F clX9 (sh_0 hV) 5 _ rfl (by decide) uX9_39 dX9_costOf_9 ?_
  refine g_aload_n (pc := 12) F dX9_costOf_12 rfl 0 rfl ?_
  refine g_getR (pc := 13) F clX9 (sh_0 hV) 3 _ rfl (by decide) uX9_29 dX9_costOf_13 ?_
  refine g_getR (pc := 16) F clX2 (is_13 hV).1 0 _ rfl (by decide) uX9_131 dX9_costOf_16 ?_
  refine g_lload_n (pc := 19) F dX9_costOf_19 rfl 1 rfl ?_
  refine g_callVv (pc := 20) F (mX4_begin (is_72 hV) (is_gr hV hg_5) (is_21 hV) (is_13 hV).2.1 h) mvX4_begin uX9_294 (by decide) clX4 (is_72 hV).1 rfl rfl (Nat.le_of_ble_eq_true rfl) dX9_costOf_20 (fun s_20 h => ?_)
  refine g_aload_n (pc := 23) F dX9_costOf_23 rfl 0 rfl ?_
  refine g_getR (pc := 24) F clX9 (sh_0 hV) 9 _ rfl (by decide) uX9_61 dX9_costOf_24 ?_
  refine g_callVi (pc := 27) F (mX4_leastCost (is_72 hV) h) mvX4_leastCost uX9_298 (by decide) clX4 (is_72 hV).1 rfl rfl (Nat.le_of_ble_eq_true rfl) dX9_costOf_27 (fun r_27 s_27 h => ?_)
  exact hR _ _ _ _ dX9_costOf_30 h
def wX9_askedCost_79 (Q : Int32 → St → Prop)  (s : St) : Prop :=
  ∀ s_84 : St, s_84 = stI s 86 0 (1 : Int32) → Q (s_84.1 86 1) s_84
set_option maxHeartbeats 4000000 in
set_option maxRecDepth 100000 in
theorem bX9_askedCost_79 {l : Launch} {V : Wv} {X : Mx} {Q : Int32 → St → Prop}  (F : Fx V X cX9_askedCost RX9 1 12) (hR : RtI l V X 1 cX9_askedCost Q) (hV : V.2.1 = DESC)  {s : St} (h : wX9_askedCost_79 Q  s) : G l V X 1 79 [(0, rf V 0)] [] s := by
  unfold wX9_askedCost_79 at h
  refine g_aload_n (pc := 79) F dX9_askedCost_79 rfl 0 rfl ?_
  refine g_getR (pc := 80) F clX9 (sh_0 hV) 10 _ rfl (by decide) uX9_68 dX9_askedCost_80 ?_
  refine g_iconst (pc := 83) F dX9_askedCost_83 ic_1 ?_
  have h := h _ rfl
  refine g_putZ (pc := 84) F clX0 (is_86 hV).1 0 rfl (by decide) rfl (tyX0_ok 0 (by decide)) (by decide) (by decide) uX9_240 dX9_askedCost_84 ?_
  refine g_aload_n (pc := 87) F dX9_askedCost_87 rfl 0 rfl ?_
  refine g_getR (pc := 88) F clX9 (sh_0 hV) 10 _ rfl (by decide) uX9_68 dX9_askedCost_88 ?_
  refine g_getI (pc := 91) F clX0 (is_86 hV).1 1 rfl (by decide) uX9_304 dX9_askedCost_91 ?_
  exact hR _ _ _ _ dX9_askedCost_94 h
def wX9_askedCost  (s : St) (Q : Int32 → St → Prop) : Prop :=
  ((¬ (s.1 86 0) = 0 → Q (s.1 86 1) s) ∧ ((s.1 86 0) = 0 → wX9_allMaps  s (fun r_17 s_17 => wX9_waysOf r_17 s_17 (fun r_20 s_20 => wX9_costOf r_20 s_20 (fun r_23 s_23 => ∀ s_26 : St, s_26 = stI s_23 86 1 r_23 → (((s_26.1 86 1) = (-9 : Int32) → wX9_askedCost_79 Q  s_26) ∧ (¬ (s_26.1 86 1) = (-9 : Int32) → wX4_findFirst 72 (s_26.1 86 1) s_26 (fun r_52 s_52 => ((r_52 = 0 → wX9_askedCost_79 Q  s_52) ∧ (¬ r_52 = 0 → cpOk (0 : Int32) (0 : Int32) (6 : Int32) 6 6 ∧ ∀ s_76 : St, s_76 = stC s_52 85 87 (0 : Int32).toNatClampNeg (0 : Int32).toNatClampNeg (6 : Int32).toNatClampNeg → wX9_askedCost_79 Q  s_76))))))))))
set_option maxHeartbeats 4000000 in
set_option maxRecDepth 100000 in
theorem mX9_askedCost {l : Launch} {V : Wv}  {s : St} {Q : Int32 → St → Prop} (hV : V.2.1 = DESC) (h : wX9_askedCost  s Q) : Ci yX9_askedCost cX9_askedCost 1 (some .int) (12) l V [rf V 0] s Q := by
  unfold wX9_askedCost at h
  refine Ci.of mvX9_askedCost.1 (Nat.le_of_ble_eq_true rfl) (fun X F hR => ?_)
  refine g_lv (lv' := [(_, _)]) rfl ?_
  refine g_aload_n (pc := 0) F dX9_askedCost_0 rfl 0 rfl ?_
  refine g_getR (pc := 1) F clX9 (sh_0 hV) 10 _ rfl (by decide) uX9_68 dX9_askedCost_1 ?_
  refine g_getI (pc := 4) F clX0 (is_86 hV).1 0 rfl (by decide) uX9_240 dX9_askedCost_4 ?_
  refine g_if_ne (pc := 7) F 87 dX9_askedCost_7 (by decide) (fun c => ?_) (fun c => ?_)
  · have h := h.1 c
    refine g_aload_n (pc := 87) F dX9_askedCost_87 rfl 0 rfl ?_
    refine g_getR (pc := 88) F clX9 (sh_0 hV) 10 _ rfl (by decide) uX9_68 dX9_askedCost_88 ?_
    refine g_getI (pc := 91) F clX0 (is_86 hV).1 1 rfl (by decide) uX9_304 dX9_askedCost_91 ?_
    exact hR _ _ _ _ dX9_askedCost_94 h
  · have h := h.2 c
    refine g_aload_n (pc := 10) F dX9_askedCost_10 rfl 0 rfl ?_
    refine g_getR (pc := 11) F clX9 (sh_0 hV) 10 _ rfl (by decide) uX9_68 dX9_askedCost_11 ?_
    refine g_aload_n (pc := 14) F dX9_askedCost_14 rfl 0 rfl ?_
    refine g_aload_n (pc := 15) F dX9_askedCost_15 rfl 0 rfl ?_
    refine g_aload_n (pc := 16) F dX9_askedCost_16 rfl 0 rfl ?_
    refine g_callVi (pc := 17) F (mX9_allMaps hV h) mvX9_allMaps uX9_258 (by decide) clX9 (sh_0 hV) rfl rfl (Nat.le_of_ble_eq_true rfl) dX9_askedCost_17 (fun r_17 s_17 h => ?_)
    refine g_callVl (pc := 20) F (mX9_waysOf hV h) mvX9_waysOf uX9_261 (by decide) clX9 (sh_0 hV) rfl rfl (Nat.le_of_ble_eq_true rfl) dX9_askedCost_20 (fun r_20 s_20 h => ?_)
    refine g_callVi (pc := 23) F (mX9_costOf hV h) mvX9_costOf uX9_265 (by decide) clX9 (sh_0 hV) rfl rfl (Nat.le_of_ble_eq_true rfl) dX9_askedCost_23 (fun r_23 s_23 h => ?_)
    have h := h _ rfl
    refine g_putI (pc := 26) F clX0 (is_86 hV).1 1 rfl (by decide) rfl (tyX0_ok 1 (by decide)) uX9_304 dX9_askedCost_26 ?_
    refine g_aload_n (pc := 29) F dX9_askedCost_29 rfl 0 rfl ?_
    refine g_getR (pc := 30) F clX9 (sh_0 hV) 10 _ rfl (by decide) uX9_68 dX9_askedCost_30 ?_
    refine g_getI (pc := 33) F clX0 (is_86 hV).1 1 rfl (by decide) uX9_304 dX9_askedCost_33 ?_
    refine g_bipush (pc := 36) F dX9_askedCost_36 bp_m9 ?_
    refine g_icmp_eq (pc := 38) F 79 dX9_askedCost_38 (by decide) (fun c => ?_) (fun c => ?_)
    · have h := h.1 c
      exact g_weak [0] rfl (bX9_askedCost_79 F hR hV h)
    · have h := h.2 c
      refine g_aload_n (pc := 41) F dX9_askedCost_41 rfl 0 rfl ?_
      refine g_getR (pc := 42) F clX9 (sh_0 hV) 9 _ rfl (by decide) uX9_61 dX9_askedCost_42 ?_
      refine g_aload_n (pc := 45) F dX9_askedCost_45 rfl 0 rfl ?_
      refine g_getR (pc := 46) F clX9 (sh_0 hV) 10 _ rfl (by decide) uX9_68 dX9_askedCost_46 ?_
      refine g_getI (pc := 49) F clX0 (is_86 hV).1 1 rfl (by decide) uX9_304 dX9_askedCost_49 ?_
      refine g_callVi (pc := 52) F (mX4_findFirst (is_72 hV) h) mvX4_findFirst uX9_301 (by decide) clX4 (is_72 hV).1 rfl rfl (Nat.le_of_ble_eq_true rfl) dX9_askedCost_52 (fun r_52 s_52 h => ?_)
      refine g_if_eq (pc := 55) F 79 dX9_askedCost_55 (by decide) (fun c => ?_) (fun c => ?_)
      · have h := h.1 c
        exact g_weak [0] rfl (bX9_askedCost_79 F hR hV h)
      · have h := h.2 c
        refine g_aload_n (pc := 58) F dX9_askedCost_58 rfl 0 rfl ?_
        refine g_getR (pc := 59) F clX9 (sh_0 hV) 9 _ rfl (by decide) uX9_61 dX9_askedCost_59 ?_
        refine g_getR (pc := 62) F clX4 (is_72 hV).1 8 _ rfl (by decide) uX9_305 dX9_askedCost_62 ?_
        refine g_iconst (pc := 65) F dX9_askedCost_65 ic_0 ?_
        refine g_aload_n (pc := 66) F dX9_askedCost_66 rfl 0 rfl ?_
        refine g_getR (pc := 67) F clX9 (sh_0 hV) 10 _ rfl (by decide) uX9_68 dX9_askedCost_67 ?_
        refine g_getR (pc := 70) F clX0 (is_86 hV).1 2 _ rfl (by decide) uX9_208 dX9_askedCost_70 ?_
        refine g_iconst (pc := 73) F dX9_askedCost_73 ic_0 ?_
        refine g_bipush (pc := 74) F dX9_askedCost_74 bp_6 ?_
        obtain ⟨hb_76, h⟩ := h
        have h := h _ rfl
        refine g_copy (pc := 76) F (is_72 hV).2.2.2.2.2.2.1 (is_86 hV).2 hb_76.1 hb_76.2.1 hb_76.2.2.1 hb_76.2.2.2.1 hb_76.2.2.2.2 (by decide) (Nat.le_of_ble_eq_true rfl) uX9_209 dX9_askedCost_76 ?_
        exact g_weak [0] rfl (bX9_askedCost_79 F hR hV h)
def wX9_addDug (x1 : Int32) (s : St) (Q : St → Prop) : Prop :=
  ∀ s_18 : St, s_18 = stI s 13 4 (if ((s.1 13 4) + x1) < (99999 : Int32) then ((s.1 13 4) + x1) else (99999 : Int32)) → Q s_18
set_option maxHeartbeats 4000000 in
set_option maxRecDepth 100000 in
theorem mX9_addDug {l : Launch} {V : Wv} {x1 : Int32} {s : St} {Q : St → Prop} (hV : V.2.1 = DESC) (h : wX9_addDug x1 s Q) : Cv yX9_addDug cX9_addDug 2 (1) l V [rf V 0, .int x1] s Q := by
  unfold wX9_addDug at h
  refine Cv.of mvX9_addDug.1 (Nat.le_of_ble_eq_true rfl) (fun X F hR => ?_)
  refine g_lv (lv' := [(_, _), (_, _)]) rfl ?_
  refine g_aload_n (pc := 0) F dX9_addDug_0 rfl 0 rfl ?_
  refine g_getR (pc := 1) F clX9 (sh_0 hV) 3 _ rfl (by decide) uX9_29 dX9_addDug_1 ?_
  refine g_ldc (pc := 4) F dX9_addDug_4 uX9_233 ?_
  refine g_aload_n (pc := 6) F dX9_addDug_6 rfl 0 rfl ?_
  refine g_getR (pc := 7) F clX9 (sh_0 hV) 3 _ rfl (by decide) uX9_29 dX9_addDug_7 ?_
  refine g_getI (pc := 10) F clX2 (is_13 hV).1 4 rfl (by decide) uX9_162 dX9_addDug_10 ?_
  refine g_iload_n (pc := 13) F dX9_addDug_13 rfl 1 rfl ?_
  refine g_iadd (pc := 14) F dX9_addDug_14 ?_
  refine g_min (pc := 15) F (by decide) (Nat.le_of_ble_eq_true rfl) uX9_234 dX9_addDug_15 ?_
  have h := h _ rfl
  refine g_putI (pc := 18) F clX2 (is_13 hV).1 4 rfl (by decide) rfl (tyX2_ok 4 (by decide)) uX9_162 dX9_addDug_18 ?_
  exact hR _ _ _ dX9_addDug_21 h
