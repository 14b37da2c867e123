/-! printed by program: what each method does to the state (w..), and that its code does so (b.., m..) -/
def wX9_keep (x1 : Int32) (s : St) (Q : Int32 → St → Prop) : Prop :=
  ((x1 < 0 → Q (-1 : Int32) s) ∧ (¬ x1 < 0 → ((x1 < (2 : Int32) → vp_in x1 2 ∧ wX2_become (91 + 4 * x1.toNatClampNeg) 13 s (fun s_21 => ∀ s_33 : St, s_33 = stI s_21 0 8 ((s_21.1 0 8) ||| ((1 : Int32) <<< (x1 &&& 31))) → Q (s_33.1 13 3) s_33)) ∧ (¬ x1 < (2 : Int32) → Q (-1 : Int32) s))))
set_option maxHeartbeats 4000000 in
set_option maxRecDepth 100000 in
theorem mX9_keep {l : Launch} {V : Wv} {x1 : Int32} {s : St} {Q : Int32 → St → Prop} (hV : V.2.1 = DESC) (h : wX9_keep x1 s Q) : Ci yX9_keep cX9_keep 2 (some .int) (2) l V [rf V 0, .int x1] s Q := by
  unfold wX9_keep at h
  refine Ci.of mvX9_keep.1 (Nat.le_of_ble_eq_true rfl) (fun X F hR => ?_)
  refine g_lv (lv' := [(_, _), (_, _)]) rfl ?_
  refine g_iload_n (pc := 0) F dX9_keep_0 rfl 1 rfl ?_
  refine g_if_lt (pc := 1) F 9 dX9_keep_1 (by decide) (fun c => ?_) (fun c => ?_)
  · have h := h.1 c
    refine g_iconst (pc := 9) F dX9_keep_9 ic_m1 ?_
    exact hR _ _ _ _ dX9_keep_10 h
  · have h := h.2 c
    refine g_iload_n (pc := 4) F dX9_keep_4 rfl 1 rfl ?_
    refine g_iconst (pc := 5) F dX9_keep_5 ic_2 ?_
    refine g_icmp_lt (pc := 6) F 11 dX9_keep_6 (by decide) (fun c => ?_) (fun c => ?_)
    · have h := h.1 c
      refine g_aload_n (pc := 11) F dX9_keep_11 rfl 0 rfl ?_
      refine g_getR (pc := 12) F clX9 (sh_0 hV) 7 _ rfl (by decide) uX9_50 dX9_keep_12 ?_
      refine g_iload_n (pc := 15) F dX9_keep_15 rfl 1 rfl ?_
      obtain ⟨hb_16, h⟩ := h
      refine g_aaldN (pc := 16) F (sh_71 hV) hb_16 dX9_keep_16 ?_
      refine g_aload_n (pc := 17) F dX9_keep_17 rfl 0 rfl ?_
      refine g_getR (pc := 18) F clX9 (sh_0 hV) 3 _ rfl (by decide) uX9_29 dX9_keep_18 ?_
      refine g_callVv (pc := 21) F (mX2_become (is_img hV (vlt hb_16)) (is_13 hV) h) mvX2_become uX9_112 (by decide) clX2 (is_img hV (vlt hb_16)).1 rfl rfl (Nat.le_of_ble_eq_true rfl) dX9_keep_21 (fun s_21 h => ?_)
      refine g_aload_n (pc := 24) F dX9_keep_24 rfl 0 rfl ?_
      refine g_dup (pc := 25) F dX9_keep_25 rfl ?_
      refine g_getI (pc := 26) F clX9 (sh_0 hV) 8 rfl (by decide) uX9_54 dX9_keep_26 ?_
      refine g_iconst (pc := 29) F dX9_keep_29 ic_1 ?_
      refine g_iload_n (pc := 30) F dX9_keep_30 rfl 1 rfl ?_
      refine g_ishl (pc := 31) F dX9_keep_31 ?_
      refine g_ior (pc := 32) F dX9_keep_32 ?_
      have h := h _ rfl
      refine g_putI (pc := 33) F clX9 (sh_0 hV) 8 rfl (by decide) rfl (tyX9_ok 8 (by decide)) uX9_54 dX9_keep_33 ?_
      refine g_aload_n (pc := 36) F dX9_keep_36 rfl 0 rfl ?_
      refine g_getR (pc := 37) F clX9 (sh_0 hV) 3 _ rfl (by decide) uX9_29 dX9_keep_37 ?_
      refine g_getI (pc := 40) F clX2 (is_13 hV).1 3 rfl (by decide) uX9_174 dX9_keep_40 ?_
      exact hR _ _ _ _ dX9_keep_43 h
    · have h := h.2 c
      refine g_iconst (pc := 9) F dX9_keep_9 ic_m1 ?_
      exact hR _ _ _ _ dX9_keep_10 h
def wX9_back (x1 : Int32) (s : St) (Q : Int32 → St → Prop) : Prop :=
  ((x1 < 0 → Q (-1 : Int32) s) ∧ (¬ x1 < 0 → ((x1 < (2 : Int32) → ((¬ (((s.1 0 8) >>> (x1 &&& 31)) &&& (1 : Int32)) = 0 → vp_in x1 2 ∧ wX2_become 13 (91 + 4 * x1.toNatClampNeg) s (fun s_35 => wX3_empty 29 s_35 (fun s_42 => wX9_forgetAnswers  s_42 (fun s_46 => Q (s_46.1 13 3) s_46)))) ∧ ((((s.1 0 8) >>> (x1 &&& 31)) &&& (1 : Int32)) = 0 → Q (-2 : Int32) s))) ∧ (¬ x1 < (2 : Int32) → Q (-1 : Int32) s))))
set_option maxHeartbeats 4000000 in
set_option maxRecDepth 100000 in
theorem mX9_back {l : Launch} {V : Wv} {x1 : Int32} {s : St} {Q : Int32 → St → Prop} (hV : V.2.1 = DESC) (h : wX9_back x1 s Q) : Ci yX9_back cX9_back 2 (some .int) (2) l V [rf V 0, .int x1] s Q := by
  unfold wX9_back at h
  refine Ci.of mvX9_back.1 (Nat.le_of_ble_eq_true rfl) (fun X F hR => ?_)
  refine g_lv (lv' := [(_, _), (_, _)]) rfl ?_
  refine g_iload_n (pc := 0) F dX9_back_0 rfl 1 rfl ?_
  refine g_if_lt (pc := 1) F 9 dX9_back_1 (by decide) (fun c => ?_) (fun c => ?_)
  · have h := h.1 c
    refine g_iconst (pc := 9) F dX9_back_9 ic_m1 ?_
    exact hR _ _ _ _ dX9_back_10 h
  · have h := h.2 c
    refine g_iload_n (pc := 4) F dX9_back_4 rfl 1 rfl ?_
    refine g_iconst (pc := 5) F dX9_back_5 ic_2 ?_
    refine g_icmp_lt (pc := 6) F 11 dX9_back_6 (by decide) (fun c => ?_) (fun c => ?_)
    · have h := h.1 c
      refine g_aload_n (pc := 11) F dX9_back_11 rfl 0 rfl ?_
      refine g_getI (pc := 12) F clX9 (sh_0 hV) 8 rfl (by decide) uX9_54 dX9_back_12 ?_
      refine g_iload_n (pc := 15) F dX9_back_15 rfl 1 rfl ?_
      refine g_ishr (pc := 16) F dX9_back_16 ?_
      refine g_iconst (pc := 17) F dX9_back_17 ic_1 ?_
      refine g_iand (pc := 18) F dX9_back_18 ?_
      refine g_if_ne (pc := 19) F 25 dX9_back_19 (by decide) (fun c => ?_) (fun c => ?_)
      · have h := h.1 c
        refine g_aload_n (pc := 25) F dX9_back_25 rfl 0 rfl ?_
        refine g_getR (pc := 26) F clX9 (sh_0 hV) 3 _ rfl (by decide) uX9_29 dX9_back_26 ?_
        refine g_aload_n (pc := 29) F dX9_back_29 rfl 0 rfl ?_
        refine g_getR (pc := 30) F clX9 (sh_0 hV) 7 _ rfl (by decide) uX9_50 dX9_back_30 ?_
        refine g_iload_n (pc := 33) F dX9_back_33 rfl 1 rfl ?_
        obtain ⟨hb_34, h⟩ := h
        refine g_aaldN (pc := 34) F (sh_71 hV) hb_34 dX9_back_34 ?_
        refine g_callVv (pc := 35) F (mX2_become (is_13 hV) (is_img hV (vlt hb_34)) h) mvX2_become uX9_112 (by decide) clX2 (is_13 hV).1 rfl rfl (Nat.le_of_ble_eq_true rfl) dX9_back_35 (fun s_35 h => ?_)
        refine g_aload_n (pc := 38) F dX9_back_38 rfl 0 rfl ?_
        refine g_getR (pc := 39) F clX9 (sh_0 hV) 6 _ rfl (by decide) uX9_46 dX9_back_39 ?_
        refine g_callVv (pc := 42) F (mX3_empty (is_29 hV) h) mvX3_empty uX9_116 (by decide) clX3 (is_29 hV).1 rfl rfl (Nat.le_of_ble_eq_true rfl) dX9_back_42 (fun s_42 h => ?_)
        refine g_aload_n (pc := 45) F dX9_back_45 rfl 0 rfl ?_
        refine g_callVv (pc := 46) F (mX9_forgetAnswers hV h) mvX9_forgetAnswers uX9_118 (by decide) clX9 (sh_0 hV) rfl rfl (Nat.le_of_ble_eq_true rfl) dX9_back_46 (fun s_46 h => ?_)
        refine g_aload_n (pc := 49) F dX9_back_49 rfl 0 rfl ?_
        refine g_getR (pc := 50) F clX9 (sh_0 hV) 3 _ rfl (by decide) uX9_29 dX9_back_50 ?_
        refine g_getI (pc := 53) F clX2 (is_13 hV).1 3 rfl (by decide) uX9_174 dX9_back_53 ?_
        exact hR _ _ _ _ dX9_back_56 h
      · have h := h.2 c
        refine g_bipush (pc := 22) F dX9_back_22 bp_m2 ?_
        exact hR _ _ _ _ dX9_back_24 h
    · have h := h.2 c
      refine g_iconst (pc := 9) F dX9_back_9 ic_m1 ?_
      exact hR _ _ _ _ dX9_back_10 h
def wX9_count (x1 : Int32) (s : St) (Q : Int32 → St → Prop) : Prop :=
  ((x1 = (0 : Int32) → IsG s.2.2.1 ∧ Q (s.1 s.2.2.1 0) s) ∧ (¬ x1 = (0 : Int32) → ((x1 = (1 : Int32) → IsG s.2.2.1 ∧ Q (s.1 s.2.2.1 1) s) ∧ (¬ x1 = (1 : Int32) → ((x1 = (2 : Int32) → Q (s.1 13 3) s) ∧ (¬ x1 = (2 : Int32) → ((x1 = (3 : Int32) → Q (s.1 89 0) s) ∧ (¬ x1 = (3 : Int32) → ((x1 = (4 : Int32) → Q (s.1 1 0) s) ∧ (¬ x1 = (4 : Int32) → Q (-1 : Int32) s))))))))))
set_option maxHeartbeats 4000000 in
set_option maxRecDepth 100000 in
theorem mX9_count {l : Launch} {V : Wv} {x1 : Int32} {s : St} {Q : Int32 → St → Prop} (hV : V.2.1 = DESC) (h : wX9_count x1 s Q) : Ci yX9_count cX9_count 2 (some .int) (0) l V [rf V 0, .int x1] s Q := by
  unfold wX9_count at h
  refine Ci.of mvX9_count.1 (Nat.le_of_ble_eq_true rfl) (fun X F hR => ?_)
  refine g_lv (lv' := [(_, _), (_, _)]) rfl ?_
  refine g_iload_n (pc := 0) F dX9_count_0 rfl 1 rfl ?_
  by_cases c0 : x1 = (0 : Int32)
  · have h := h.1 c0
    refine g_tabIn (o := 35) (pc := 1) F 36 dX9_count_1 (by rw [c0]; decide) (by rw [c0]; decide) (by rw [c0]; rfl) (by decide) ?_
    refine g_aload_n (pc := 36) F dX9_count_36 rfl 0 rfl ?_
    obtain ⟨hg_37, h⟩ := h
    refine g_getG (pc := 37) F clX9 (sh_0 hV) 1 rfl (by decide) uX9_19 dX9_count_37 ?_
    refine g_getI (pc := 40) F clX1 (is_gr hV hg_37).1 0 rfl (by decide) uX9_168 dX9_count_40 ?_
    exact hR _ _ _ _ dX9_count_43 h
  · have h := h.2 c0
    by_cases c1 : x1 = (1 : Int32)
    · have h := h.1 c1
      refine g_tabIn (o := 43) (pc := 1) F 44 dX9_count_1 (by rw [c1]; decide) (by rw [c1]; decide) (by rw [c1]; rfl) (by decide) ?_
      refine g_aload_n (pc := 44) F dX9_count_44 rfl 0 rfl ?_
      obtain ⟨hg_45, h⟩ := h
      refine g_getG (pc := 45) F clX9 (sh_0 hV) 1 rfl (by decide) uX9_19 dX9_count_45 ?_
      refine g_getI (pc := 48) F clX1 (is_gr hV hg_45).1 1 rfl (by decide) uX9_171 dX9_count_48 ?_
      exact hR _ _ _ _ dX9_count_51 h
    · have h := h.2 c1
      by_cases c2 : x1 = (2 : Int32)
      · have h := h.1 c2
        refine g_tabIn (o := 51) (pc := 1) F 52 dX9_count_1 (by rw [c2]; decide) (by rw [c2]; decide) (by rw [c2]; rfl) (by decide) ?_
        refine g_aload_n (pc := 52) F dX9_count_52 rfl 0 rfl ?_
        refine g_getR (pc := 53) F clX9 (sh_0 hV) 3 _ rfl (by decide) uX9_29 dX9_count_53 ?_
        refine g_getI (pc := 56) F clX2 (is_13 hV).1 3 rfl (by decide) uX9_174 dX9_count_56 ?_
        exact hR _ _ _ _ dX9_count_59 h
      · have h := h.2 c2
        by_cases c3 : x1 = (3 : Int32)
        · have h := h.1 c3
          refine g_tabIn (o := 59) (pc := 1) F 60 dX9_count_1 (by rw [c3]; decide) (by rw [c3]; decide) (by rw [c3]; rfl) (by decide) ?_
          refine g_aload_n (pc := 60) F dX9_count_60 rfl 0 rfl ?_
          refine g_getR (pc := 61) F clX9 (sh_0 hV) 12 _ rfl (by decide) uX9_82 dX9_count_61 ?_
          refine g_getI (pc := 64) F clX6 (is_89 hV).1 0 rfl (by decide) uX9_322 dX9_count_64 ?_
          exact hR _ _ _ _ dX9_count_67 h
        · have h := h.2 c3
          by_cases c4 : x1 = (4 : Int32)
          · have h := h.1 c4
            refine g_tabIn (o := 67) (pc := 1) F 68 dX9_count_1 (by rw [c4]; decide) (by rw [c4]; decide) (by rw [c4]; rfl) (by decide) ?_
            refine g_aload_n (pc := 68) F dX9_count_68 rfl 0 rfl ?_
            refine g_getR (pc := 69) F clX9 (sh_0 hV) 0 _ rfl (by decide) uX9_12 dX9_count_69 ?_
            refine g_getI (pc := 72) F clX7 (is_1 hV).1 0 rfl (by decide) uX9_94 dX9_count_72 ?_
            exact hR _ _ _ _ dX9_count_75 h
          · have h := h.2 c4
            refine g_tabOut (pc := 1) F 76 dX9_count_1 ?_ (by decide) ?_
            · have e0 := lv_neT c0 (show ((0 : Int32)).toInt = 0 from rfl); have e1 := lv_neT c1 (show ((1 : Int32)).toInt = 1 from rfl); have e2 := lv_neT c2 (show ((2 : Int32)).toInt = 2 from rfl); have e3 := lv_neT c3 (show ((3 : Int32)).toInt = 3 from rfl); have e4 := lv_neT c4 (show ((4 : Int32)).toInt = 4 from rfl); omega
            · refine g_iconst (pc := 76) F dX9_count_76 ic_m1 ?_
              exact hR _ _ _ _ dX9_count_77 h
def wX9_trace  (s : St) (Q : Int64 → St → Prop) : Prop :=
  Q (s.2.1 0) s
set_option maxHeartbeats 4000000 in
set_option maxRecDepth 100000 in
theorem mX9_trace {l : Launch} {V : Wv}  {s : St} {Q : Int64 → St → Prop} (hV : V.2.1 = DESC) (h : wX9_trace  s Q) : Cl yX9_trace cX9_trace 1 (0) l V [rf V 0] s Q := by
  unfold wX9_trace at h
  refine Cl.of mvX9_trace.1 (Nat.le_of_ble_eq_true rfl) (fun X F hR => ?_)
  refine g_lv (lv' := [(_, _)]) rfl ?_
  refine g_aload_n (pc := 0) F dX9_trace_0 rfl 0 rfl ?_
  refine g_getL (pc := 1) F clX9 (sh_0 hV) 13 rfl (by decide) uX9_86 dX9_trace_1 ?_
  exact hR _ _ _ _ dX9_trace_4 h
