/-! printed by program: what each method does to the state (w..), and that its code does so (b.., m..) -/
def wX3_empty (x0 : Nat) (s : St) (Q : St → Prop) : Prop :=
  ∀ s_2 : St, s_2 = stI s x0 2 (0 : Int32) → Q s_2
set_option maxHeartbeats 4000000 in
set_option maxRecDepth 100000 in
theorem mX3_empty {l : Launch} {V : Wv} {x0 : Nat} {s : St} {Q : St → Prop} (hx0 : isX3 V x0) (h : wX3_empty x0 s Q) : Cv yX3_empty cX3_empty 1 (0) l V [rf V x0] s Q := by
  unfold wX3_empty at h
  refine Cv.of mvX3_empty.1 (Nat.le_of_ble_eq_true rfl) (fun X F hR => ?_)
  refine g_lv (lv' := [(_, _)]) rfl ?_
  refine g_aload_n (pc := 0) F dX3_empty_0 rfl 0 rfl ?_
  refine g_iconst (pc := 1) F dX3_empty_1 ic_0 ?_
  have h := h _ rfl
  refine g_putI (pc := 2) F clX3 hx0.1 2 rfl (by decide) rfl (tyX3_ok 2 (by decide)) uX3_21 dX3_empty_2 ?_
  exact hR _ _ _ dX3_empty_5 h
def wX3_remember (x0 : Nat) (x1 : Nat) (s : St) (Q : St → Prop) : Prop :=
  vp_in (s.1 x0 1) 10 ∧ wX2_become ((x0 + 2) + 4 * (s.1 x0 1).toNatClampNeg) x1 s (fun s_10 => ∀ s_23 : St, s_23 = stI s_10 x0 1 (((s_10.1 x0 1) + (1 : Int32)) - ((s_10.1 x0 1) + (1 : Int32)) / (10 : Int32) * (10 : Int32)) → ∀ s_38 : St, s_38 = stI s_23 x0 2 (if ((s_23.1 x0 2) + (1 : Int32)) < (10 : Int32) then ((s_23.1 x0 2) + (1 : Int32)) else (10 : Int32)) → Q s_38)
set_option maxHeartbeats 4000000 in
set_option maxRecDepth 100000 in
theorem mX3_remember {l : Launch} {V : Wv} {x0 : Nat} {x1 : Nat} {s : St} {Q : St → Prop} (hx0 : isX3 V x0) (hx1 : isX2 V x1) (h : wX3_remember x0 x1 s Q) : Cv yX3_remember cX3_remember 2 (2) l V [rf V x0, rf V x1] s Q := by
  unfold wX3_remember at h
  refine Cv.of mvX3_remember.1 (Nat.le_of_ble_eq_true rfl) (fun X F hR => ?_)
  refine g_lv (lv' := [(_, _), (_, _)]) rfl ?_
  refine g_aload_n (pc := 0) F dX3_remember_0 rfl 0 rfl ?_
  refine g_getR (pc := 1) F clX3 hx0.1 0 _ rfl (by decide) uX3_11 dX3_remember_1 ?_
  refine g_aload_n (pc := 4) F dX3_remember_4 rfl 0 rfl ?_
  refine g_getI (pc := 5) F clX3 hx0.1 1 rfl (by decide) uX3_17 dX3_remember_5 ?_
  obtain ⟨hb_8, h⟩ := h
  refine g_aaldN (pc := 8) F hx0.2.1 hb_8 dX3_remember_8 ?_
  refine g_aload_n (pc := 9) F dX3_remember_9 rfl 1 rfl ?_
  refine g_callVv (pc := 10) F (mX2_become (hx0.2.2 _ (vlt hb_8)) hx1 h) mvX2_become uX3_25 (by decide) clX2 (hx0.2.2 _ (vlt hb_8)).1 rfl rfl (Nat.le_of_ble_eq_true rfl) dX3_remember_10 (fun s_10 h => ?_)
  refine g_aload_n (pc := 13) F dX3_remember_13 rfl 0 rfl ?_
  refine g_aload_n (pc := 14) F dX3_remember_14 rfl 0 rfl ?_
  refine g_getI (pc := 15) F clX3 hx0.1 1 rfl (by decide) uX3_17 dX3_remember_15 ?_
  refine g_iconst (pc := 18) F dX3_remember_18 ic_1 ?_
  refine g_iadd (pc := 19) F dX3_remember_19 ?_
  refine g_bipush (pc := 20) F dX3_remember_20 bp_10 ?_
  refine g_irem (pc := 22) F dX3_remember_22 (by decide) ?_
  have h := h _ rfl
  refine g_putI (pc := 23) F clX3 hx0.1 1 rfl (by decide) rfl (tyX3_ok 1 (by decide)) uX3_17 dX3_remember_23 ?_
  refine g_aload_n (pc := 26) F dX3_remember_26 rfl 0 rfl ?_
  refine g_bipush (pc := 27) F dX3_remember_27 bp_10 ?_
  refine g_aload_n (pc := 29) F dX3_remember_29 rfl 0 rfl ?_
  refine g_getI (pc := 30) F clX3 hx0.1 2 rfl (by decide) uX3_21 dX3_remember_30 ?_
  refine g_iconst (pc := 33) F dX3_remember_33 ic_1 ?_
  refine g_iadd (pc := 34) F dX3_remember_34 ?_
  refine g_min (pc := 35) F (by decide) (Nat.le_of_ble_eq_true rfl) uX3_29 dX3_remember_35 ?_
  have h := h _ rfl
  refine g_putI (pc := 38) F clX3 hx0.1 2 rfl (by decide) rfl (tyX3_ok 2 (by decide)) uX3_21 dX3_remember_38 ?_
  exact hR _ _ _ dX3_remember_41 h
def wX3_restore (x0 : Nat) (x1 : Nat) (s : St) (Q : St → Prop) : Prop :=
  ((¬ (s.1 x0 2) = 0 → ∀ s_21 : St, s_21 = stI s x0 1 ((((s.1 x0 1) + (10 : Int32)) - (1 : Int32)) - (((s.1 x0 1) + (10 : Int32)) - (1 : Int32)) / (10 : Int32) * (10 : Int32)) → ∀ s_31 : St, s_31 = stI s_21 x0 2 ((s_21.1 x0 2) - (1 : Int32)) → vp_in (s_31.1 x0 1) 10 ∧ wX2_become x1 ((x0 + 2) + 4 * (s_31.1 x0 1).toNatClampNeg) s_31 (fun s_44 => Q s_44)) ∧ ((s.1 x0 2) = 0 → Q s))
set_option maxHeartbeats 4000000 in
set_option maxRecDepth 100000 in
theorem mX3_restore {l : Launch} {V : Wv} {x0 : Nat} {x1 : Nat} {s : St} {Q : St → Prop} (hx0 : isX3 V x0) (hx1 : isX2 V x1) (h : wX3_restore x0 x1 s Q) : Cv yX3_restore cX3_restore 2 (2) l V [rf V x0, rf V x1] s Q := by
  unfold wX3_restore at h
  refine Cv.of mvX3_restore.1 (Nat.le_of_ble_eq_true rfl) (fun X F hR => ?_)
  refine g_lv (lv' := [(_, _), (_, _)]) rfl ?_
  refine g_aload_n (pc := 0) F dX3_restore_0 rfl 0 rfl ?_
  refine g_getI (pc := 1) F clX3 hx0.1 2 rfl (by decide) uX3_21 dX3_restore_1 ?_
  refine g_if_ne (pc := 4) F 8 dX3_restore_4 (by decide) (fun c => ?_) (fun c => ?_)
  · have h := h.1 c
    refine g_aload_n (pc := 8) F dX3_restore_8 rfl 0 rfl ?_
    refine g_aload_n (pc := 9) F dX3_restore_9 rfl 0 rfl ?_
    refine g_getI (pc := 10) F clX3 hx0.1 1 rfl (by decide) uX3_17 dX3_restore_10 ?_
    refine g_bipush (pc := 13) F dX3_restore_13 bp_10 ?_
    refine g_iadd (pc := 15) F dX3_restore_15 ?_
    refine g_iconst (pc := 16) F dX3_restore_16 ic_1 ?_
    refine g_isub (pc := 17) F dX3_restore_17 ?_
    refine g_bipush (pc := 18) F dX3_restore_18 bp_10 ?_
    refine g_irem (pc := 20) F dX3_restore_20 (by decide) ?_
    have h := h _ rfl
    refine g_putI (pc := 21) F clX3 hx0.1 1 rfl (by decide) rfl (tyX3_ok 1 (by decide)) uX3_17 dX3_restore_21 ?_
    refine g_aload_n (pc := 24) F dX3_restore_24 rfl 0 rfl ?_
    refine g_dup (pc := 25) F dX3_restore_25 rfl ?_
    refine g_getI (pc := 26) F clX3 hx0.1 2 rfl (by decide) uX3_21 dX3_restore_26 ?_
    refine g_iconst (pc := 29) F dX3_restore_29 ic_1 ?_
    refine g_isub (pc := 30) F dX3_restore_30 ?_
    have h := h _ rfl
    refine g_putI (pc := 31) F clX3 hx0.1 2 rfl (by decide) rfl (tyX3_ok 2 (by decide)) uX3_21 dX3_restore_31 ?_
    refine g_aload_n (pc := 34) F dX3_restore_34 rfl 1 rfl ?_
    refine g_aload_n (pc := 35) F dX3_restore_35 rfl 0 rfl ?_
    refine g_getR (pc := 36) F clX3 hx0.1 0 _ rfl (by decide) uX3_11 dX3_restore_36 ?_
    refine g_aload_n (pc := 39) F dX3_restore_39 rfl 0 rfl ?_
    refine g_getI (pc := 40) F clX3 hx0.1 1 rfl (by decide) uX3_17 dX3_restore_40 ?_
    obtain ⟨hb_43, h⟩ := h
    refine g_aaldN (pc := 43) F hx0.2.1 hb_43 dX3_restore_43 ?_
    refine g_callVv (pc := 44) F (mX2_become hx1 (hx0.2.2 _ (vlt hb_43)) h) mvX2_become uX3_25 (by decide) clX2 hx1.1 rfl rfl (Nat.le_of_ble_eq_true rfl) dX3_restore_44 (fun s_44 h => ?_)
    exact hR _ _ _ dX3_restore_47 h
  · have h := h.2 c
    exact hR _ _ _ dX3_restore_7 h
def wJ6_bitCount_0f7a4 (x0 : Int32) (s : St) (Q : Int32 → St → Prop) : Prop :=
  Q ((((((((x0 - (((x0.toUInt32 >>> ((1 : Int32).toUInt32 &&& Int32.toUInt32 31)).toInt32) &&& (1431655765 : Int32))) &&& (858993459 : Int32)) + ((((x0 - (((x0.toUInt32 >>> ((1 : Int32).toUInt32 &&& Int32.toUInt32 31)).toInt32) &&& (1431655765 : Int32))).toUInt32 >>> ((2 : Int32).toUInt32 &&& Int32.toUInt32 31)).toInt32) &&& (858993459 : Int32))) + (((((x0 - (((x0.toUInt32 >>> ((1 : Int32).toUInt32 &&& Int32.toUInt32 31)).toInt32) &&& (1431655765 : Int32))) &&& (858993459 : Int32)) + ((((x0 - (((x0.toUInt32 >>> ((1 : Int32).toUInt32 &&& Int32.toUInt32 31)).toInt32) &&& (1431655765 : Int32))).toUInt32 >>> ((2 : Int32).toUInt32 &&& Int32.toUInt32 31)).toInt32) &&& (858993459 : Int32))).toUInt32 >>> ((4 : Int32).toUInt32 &&& Int32.toUInt32 31)).toInt32)) &&& (252645135 : Int32)) + (((((((x0 - (((x0.toUInt32 >>> ((1 : Int32).toUInt32 &&& Int32.toUInt32 31)).toInt32) &&& (1431655765 : Int32))) &&& (858993459 : Int32)) + ((((x0 - (((x0.toUInt32 >>> ((1 : Int32).toUInt32 &&& Int32.toUInt32 31)).toInt32) &&& (1431655765 : Int32))).toUInt32 >>> ((2 : Int32).toUInt32 &&& Int32.toUInt32 31)).toInt32) &&& (858993459 : Int32))) + (((((x0 - (((x0.toUInt32 >>> ((1 : Int32).toUInt32 &&& Int32.toUInt32 31)).toInt32) &&& (1431655765 : Int32))) &&& (858993459 : Int32)) + ((((x0 - (((x0.toUInt32 >>> ((1 : Int32).toUInt32 &&& Int32.toUInt32 31)).toInt32) &&& (1431655765 : Int32))).toUInt32 >>> ((2 : Int32).toUInt32 &&& Int32.toUInt32 31)).toInt32) &&& (858993459 : Int32))).toUInt32 >>> ((4 : Int32).toUInt32 &&& Int32.toUInt32 31)).toInt32)) &&& (252645135 : Int32)).toUInt32 >>> ((8 : Int32).toUInt32 &&& Int32.toUInt32 31)).toInt32)) + ((((((((x0 - (((x0.toUInt32 >>> ((1 : Int32).toUInt32 &&& Int32.toUInt32 31)).toInt32) &&& (1431655765 : Int32))) &&& (858993459 : Int32)) + ((((x0 - (((x0.toUInt32 >>> ((1 : Int32).toUInt32 &&& Int32.toUInt32 31)).toInt32) &&& (1431655765 : Int32))).toUInt32 >>> ((2 : Int32).toUInt32 &&& Int32.toUInt32 31)).toInt32) &&& (858993459 : Int32))) + (((((x0 - (((x0.toUInt32 >>> ((1 : Int32).toUInt32 &&& Int32.toUInt32 31)).toInt32) &&& (1431655765 : Int32))) &&& (858993459 : Int32)) + ((((x0 - (((x0.toUInt32 >>> ((1 : Int32).toUInt32 &&& Int32.toUInt32 31)).toInt32) &&& (1431655765 : Int32))).toUInt32 >>> ((2 : Int32).toUInt32 &&& Int32.toUInt32 31)).toInt32) &&& (858993459 : Int32))).toUInt32 >>> ((4 : Int32).toUInt32 &&& Int32.toUInt32 31)).toInt32)) &&& (252645135 : Int32)) + (((((((x0 - (((x0.toUInt32 >>> ((1 : Int32).toUInt32 &&& Int32.toUInt32 31)).toInt32) &&& (1431655765 : Int32))) &&& (858993459 : Int32)) + ((((x0 - (((x0.toUInt32 >>> ((1 : Int32).toUInt32 &&& Int32.toUInt32 31)).toInt32) &&& (1431655765 : Int32))).toUInt32 >>> ((2 : Int32).toUInt32 &&& Int32.toUInt32 31)).toInt32) &&& (858993459 : Int32))) + (((((x0 - (((x0.toUInt32 >>> ((1 : Int32).toUInt32 &&& Int32.toUInt32 31)).toInt32) &&& (1431655765 : Int32))) &&& (858993459 : Int32)) + ((((x0 - (((x0.toUInt32 >>> ((1 : Int32).toUInt32 &&& Int32.toUInt32 31)).toInt32) &&& (1431655765 : Int32))).toUInt32 >>> ((2 : Int32).toUInt32 &&& Int32.toUInt32 31)).toInt32) &&& (858993459 : Int32))).toUInt32 >>> ((4 : Int32).toUInt32 &&& Int32.toUInt32 31)).toInt32)) &&& (252645135 : Int32)).toUInt32 >>> ((8 : Int32).toUInt32 &&& Int32.toUInt32 31)).toInt32)).toUInt32 >>> ((16 : Int32).toUInt32 &&& Int32.toUInt32 31)).toInt32)) &&& (63 : Int32)) s
set_option maxHeartbeats 4000000 in
set_option maxRecDepth 100000 in
theorem mJ6_bitCount_0f7a4 {l : Launch} {V : Wv} {x0 : Int32} {s : St} {Q : Int32 → St → Prop}  (h : wJ6_bitCount_0f7a4 x0 s Q) : Ci yJ6_bitCount_0f7a4 cJ6_bitCount_0f7a4 1 (some .int) (0) l V [.int x0] s Q := by
  unfold wJ6_bitCount_0f7a4 at h
  refine Ci.of mvJ6_bitCount_0f7a4.1 (Nat.le_of_ble_eq_true rfl) (fun X F hR => ?_)
  refine g_lv (lv' := [(_, _)]) rfl ?_
  refine g_iload_n (pc := 0) F dJ6_bitCount_0f7a4_0 rfl 0 rfl ?_
  refine g_iload_n (pc := 1) F dJ6_bitCount_0f7a4_1 rfl 0 rfl ?_
  refine g_iconst (pc := 2) F dJ6_bitCount_0f7a4_2 ic_1 ?_
  refine g_iushr (pc := 3) F dJ6_bitCount_0f7a4_3 ?_
  refine g_ldcw (pc := 4) F dJ6_bitCount_0f7a4_4 uJ6_265 ?_
  refine g_iand (pc := 7) F dJ6_bitCount_0f7a4_7 ?_
  refine g_isub (pc := 8) F dJ6_bitCount_0f7a4_8 ?_
  refine g_istore_n (pc := 9) (lv' := [(_, _)]) F dJ6_bitCount_0f7a4_9 rfl (by decide) rfl ?_
  refine g_iload_n (pc := 10) F dJ6_bitCount_0f7a4_10 rfl 0 rfl ?_
  refine g_ldcw (pc := 11) F dJ6_bitCount_0f7a4_11 uJ6_266 ?_
  refine g_iand (pc := 14) F dJ6_bitCount_0f7a4_14 ?_
  refine g_iload_n (pc := 15) F dJ6_bitCount_0f7a4_15 rfl 0 rfl ?_
  refine g_iconst (pc := 16) F dJ6_bitCount_0f7a4_16 ic_2 ?_
  refine g_iushr (pc := 17) F dJ6_bitCount_0f7a4_17 ?_
  refine g_ldcw (pc := 18) F dJ6_bitCount_0f7a4_18 uJ6_266 ?_
  refine g_iand (pc := 21) F dJ6_bitCount_0f7a4_21 ?_
  refine g_iadd (pc := 22) F dJ6_bitCount_0f7a4_22 ?_
  refine g_istore_n (pc := 23) (lv' := [(_, _)]) F dJ6_bitCount_0f7a4_23 rfl (by decide) rfl ?_
  refine g_iload_n (pc := 24) F dJ6_bitCount_0f7a4_24 rfl 0 rfl ?_
  refine g_iload_n (pc := 25) F dJ6_bitCount_0f7a4_25 rfl 0 rfl ?_
  refine g_iconst (pc := 26) F dJ6_bitCount_0f7a4_26 ic_4 ?_
  refine g_iushr (pc := 27) F dJ6_bitCount_0f7a4_27 ?_
  refine g_iadd (pc := 28) F dJ6_bitCount_0f7a4_28 ?_
  refine g_ldcw (pc := 29) F dJ6_bitCount_0f7a4_29 uJ6_267 ?_
  refine g_iand (pc := 32) F dJ6_bitCount_0f7a4_32 ?_
  refine g_istore_n (pc := 33) (lv' := [(_, _)]) F dJ6_bitCount_0f7a4_33 rfl (by decide) rfl ?_
  refine g_iload_n (pc := 34) F dJ6_bitCount_0f7a4_34 rfl 0 rfl ?_
  refine g_iload_n (pc := 35) F dJ6_bitCount_0f7a4_35 rfl 0 rfl ?_
  refine g_bipush (pc := 36) F dJ6_bitCount_0f7a4_36 bp_8 ?_
  refine g_iushr (pc := 38) F dJ6_bitCount_0f7a4_38 ?_
  refine g_iadd (pc := 39) F dJ6_bitCount_0f7a4_39 ?_
  refine g_istore_n (pc := 40) (lv' := [(_, _)]) F dJ6_bitCount_0f7a4_40 rfl (by decide) rfl ?_
  refine g_iload_n (pc := 41) F dJ6_bitCount_0f7a4_41 rfl 0 rfl ?_
  refine g_iload_n (pc := 42) F dJ6_bitCount_0f7a4_42 rfl 0 rfl ?_
  refine g_bipush (pc := 43) F dJ6_bitCount_0f7a4_43 bp_16 ?_
  refine g_iushr (pc := 45) F dJ6_bitCount_0f7a4_45 ?_
  refine g_iadd (pc := 46) F dJ6_bitCount_0f7a4_46 ?_
  refine g_istore_n (pc := 47) (lv' := [(_, _)]) F dJ6_bitCount_0f7a4_47 rfl (by decide) rfl ?_
  refine g_iload_n (pc := 48) F dJ6_bitCount_0f7a4_48 rfl 0 rfl ?_
  refine g_bipush (pc := 49) F dJ6_bitCount_0f7a4_49 bp_63 ?_
  refine g_iand (pc := 51) F dJ6_bitCount_0f7a4_51 ?_
  exact hR _ _ _ _ dJ6_bitCount_0f7a4_52 h
def wX5_empty (x0 : Nat) (s : St) (Q : St → Prop) : Prop :=
  ∀ s_3 : St, s_3 = stI s x0 1 (-9 : Int32) → ∀ s_9 : St, s_9 = stI s_3 x0 2 (-9 : Int32) → ∀ s_14 : St, s_14 = stI s_9 x0 3 (0 : Int32) → Q s_14
set_option maxHeartbeats 4000000 in
set_option maxRecDepth 100000 in
theorem mX5_empty {l : Launch} {V : Wv} {x0 : Nat} {s : St} {Q : St → Prop} (hx0 : isX5 V x0) (h : wX5_empty x0 s Q) : Cv yX5_empty cX5_empty 1 (0) l V [rf V x0] s Q := by
  unfold wX5_empty at h
  refine Cv.of mvX5_empty.1 (Nat.le_of_ble_eq_true rfl) (fun X F hR => ?_)
  refine g_lv (lv' := [(_, _)]) rfl ?_
  refine g_aload_n (pc := 0) F dX5_empty_0 rfl 0 rfl ?_
  refine g_bipush (pc := 1) F dX5_empty_1 bp_m9 ?_
  have h := h _ rfl
  refine g_putI (pc := 3) F clX5 hx0 1 rfl (by decide) rfl (tyX5_ok 1 (by decide)) uX5_15 dX5_empty_3 ?_
  refine g_aload_n (pc := 6) F dX5_empty_6 rfl 0 rfl ?_
  refine g_bipush (pc := 7) F dX5_empty_7 bp_m9 ?_
  have h := h _ rfl
  refine g_putI (pc := 9) F clX5 hx0 2 rfl (by decide) rfl (tyX5_ok 2 (by decide)) uX5_19 dX5_empty_9 ?_
  refine g_aload_n (pc := 12) F dX5_empty_12 rfl 0 rfl ?_
  refine g_iconst (pc := 13) F dX5_empty_13 ic_0 ?_
  have h := h _ rfl
  refine g_putI (pc := 14) F clX5 hx0 3 rfl (by decide) rfl (tyX5_ok 3 (by decide)) uX5_22 dX5_empty_14 ?_
  exact hR _ _ _ dX5_empty_17 h
def wX5_see_36 (Q : St → Prop) (x0 : Nat) (x1 : Int32) (x2 : Int32) (s : St) : Prop :=
  ∀ s_38 : St, s_38 = stI s x0 2 x1 → ∀ s_43 : St, s_43 = stI s_38 x0 1 x2 → Q s_43
set_option maxHeartbeats 4000000 in
set_option maxRecDepth 100000 in
theorem bX5_see_36 {l : Launch} {V : Wv} {X : Mx} {Q : St → Prop} {x0 : Nat} {x1 : Int32} {x2 : Int32} (F : Fx V X cX5_see RX5 3 0) (hR : RtV l V X 3 cX5_see Q) (hx0 : isX5 V x0)  {s : St} (h : wX5_see_36 Q x0 x1 x2 s) : G l V X 3 36 [(0, rf V x0), (1, .int x1), (2, .int x2)] [] s := by
  unfold wX5_see_36 at h
  refine g_aload_n (pc := 36) F dX5_see_36 rfl 0 rfl ?_
  refine g_iload_n (pc := 37) F dX5_see_37 rfl 1 rfl ?_
  have h := h _ rfl
  refine g_putI (pc := 38) F clX5 hx0 2 rfl (by decide) rfl (tyX5_ok 2 (by decide)) uX5_19 dX5_see_38 ?_
  refine g_aload_n (pc := 41) F dX5_see_41 rfl 0 rfl ?_
  refine g_iload_n (pc := 42) F dX5_see_42 rfl 2 rfl ?_
  have h := h _ rfl
  refine g_putI (pc := 43) F clX5 hx0 1 rfl (by decide) rfl (tyX5_ok 1 (by decide)) uX5_15 dX5_see_43 ?_
  exact hR _ _ _ dX5_see_46 h
def wX5_see (x0 : Nat) (x1 : Int32) (x2 : Int32) (s : St) (Q : St → Prop) : Prop :=
  ((¬ x2 = (-9 : Int32) → (((s.1 x0 2) = (-9 : Int32) → wX5_see_36 Q x0 x1 x2 s) ∧ (¬ (s.1 x0 2) = (-9 : Int32) → ((x2 ≤ (s.1 x0 1) → Q s) ∧ (¬ x2 ≤ (s.1 x0 1) → wX5_see_36 Q x0 x1 x2 s))))) ∧ (x2 = (-9 : Int32) → ∀ s_13 : St, s_13 = stI s x0 3 ((s.1 x0 3) + (1 : Int32)) → Q s_13))
set_option maxHeartbeats 4000000 in
set_option maxRecDepth 100000 in
theorem mX5_see {l : Launch} {V : Wv} {x0 : Nat} {x1 : Int32} {x2 : Int32} {s : St} {Q : St → Prop} (hx0 : isX5 V x0) (h : wX5_see x0 x1 x2 s Q) : Cv yX5_see cX5_see 3 (0) l V [rf V x0, .int x1, .int x2] s Q := by
  unfold wX5_see at h
  refine Cv.of mvX5_see.1 (Nat.le_of_ble_eq_true rfl) (fun X F hR => ?_)
  refine g_lv (lv' := [(_, _), (_, _), (_, _)]) rfl ?_
  refine g_iload_n (pc := 0) F dX5_see_0 rfl 2 rfl ?_
  refine g_bipush (pc := 1) F dX5_see_1 bp_m9 ?_
  refine g_icmp_ne (pc := 3) F 19 dX5_see_3 (by decide) (fun c => ?_) (fun c => ?_)
  · have h := h.1 c
    refine g_aload_n (pc := 19) F dX5_see_19 rfl 0 rfl ?_
    refine g_getI (pc := 20) F clX5 hx0 2 rfl (by decide) uX5_19 dX5_see_20 ?_
    refine g_bipush (pc := 23) F dX5_see_23 bp_m9 ?_
    refine g_icmp_eq (pc := 25) F 36 dX5_see_25 (by decide) (fun c => ?_) (fun c => ?_)
    · have h := h.1 c
      exact g_weak [0, 1, 2] rfl (bX5_see_36 F hR hx0 h)
    · have h := h.2 c
      refine g_iload_n (pc := 28) F dX5_see_28 rfl 2 rfl ?_
      refine g_aload_n (pc := 29) F dX5_see_29 rfl 0 rfl ?_
      refine g_getI (pc := 30) F clX5 hx0 1 rfl (by decide) uX5_15 dX5_see_30 ?_
      refine g_icmp_le (pc := 33) F 46 dX5_see_33 (by decide) (fun c => ?_) (fun c => ?_)
      · have h := h.1 c
        exact hR _ _ _ dX5_see_46 h
      · have h := h.2 c
        exact g_weak [0, 1, 2] rfl (bX5_see_36 F hR hx0 h)
  · have h := h.2 c
    refine g_aload_n (pc := 6) F dX5_see_6 rfl 0 rfl ?_
    refine g_dup (pc := 7) F dX5_see_7 rfl ?_
    refine g_getI (pc := 8) F clX5 hx0 3 rfl (by decide) uX5_22 dX5_see_8 ?_
    refine g_iconst (pc := 11) F dX5_see_11 ic_1 ?_
    refine g_iadd (pc := 12) F dX5_see_12 ?_
    have h := h _ rfl
    refine g_putI (pc := 13) F clX5 hx0 3 rfl (by decide) rfl (tyX5_ok 3 (by decide)) uX5_22 dX5_see_13 ?_
    refine g_goto (pc := 16) F 46 dX5_see_16 (by decide) ?_
    exact hR _ _ _ dX5_see_46 h
