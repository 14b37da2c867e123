/-! printed by program: what each method does to the state (w..), and that its code does so (b.., m..) -/
def wX9_asks  (s : St) (Q : Int32 → St → Prop) : Prop :=
  wX9_draftIsWay  s (fun r_1 s_1 => ((r_1 = 0 → Q (-2 : Int32) s_1) ∧ (¬ r_1 = 0 → (((4 : Int32) ≤ (s_1.1 13 3) → Q (-2 : Int32) s_1) ∧ (¬ (4 : Int32) ≤ (s_1.1 13 3) → wX9_askedCost  s_1 (fun r_19 s_19 => ((¬ r_19 = (-9 : Int32) → wX9_askedCost  s_19 (fun r_31 s_31 => wX9_beforeChange  s_31 (fun s_36 => IsG s_36.2.2.1 ∧ cpOk (0 : Int32) (0 : Int32) (s_36.1 s_36.2.2.1 1) 6 6 ∧ ∀ s_62 : St, s_62 = stC s_36 87 14 (0 : Int32).toNatClampNeg (0 : Int32).toNatClampNeg (s_36.1 s_36.2.2.1 1).toNatClampNeg → wX9_addDug r_31 s_62 (fun s_67 => wX2_draftToMap 13 s_67 (fun s_74 => Q r_31 s_74))))) ∧ (r_19 = (-9 : Int32) → Q (-2 : Int32) s_19))))))))
set_option maxHeartbeats 4000000 in
set_option maxRecDepth 100000 in
theorem mX9_asks {l : Launch} {V : Wv}  {s : St} {Q : Int32 → St → Prop} (hV : V.2.1 = DESC) (h : wX9_asks  s Q) : Ci yX9_asks cX9_asks 2 (some .int) (13) l V [rf V 0] s Q := by
  unfold wX9_asks at h
  refine Ci.of mvX9_asks.1 (Nat.le_of_ble_eq_true rfl) (fun X F hR => ?_)
  refine g_lv (lv' := [(_, _)]) rfl ?_
  refine g_aload_n (pc := 0) F dX9_asks_0 rfl 0 rfl ?_
  refine g_callVi (pc := 1) F (mX9_draftIsWay hV h) mvX9_draftIsWay uX9_201 (by decide) clX9 (sh_0 hV) rfl rfl (Nat.le_of_ble_eq_true rfl) dX9_asks_1 (fun r_1 s_1 h => ?_)
  refine g_if_eq (pc := 4) F 27 dX9_asks_4 (by decide) (fun c => ?_) (fun c => ?_)
  · have h := h.1 c
    refine g_bipush (pc := 27) F dX9_asks_27 bp_m2 ?_
    exact hR _ _ _ _ dX9_asks_29 h
  · have h := h.2 c
    refine g_aload_n (pc := 7) F dX9_asks_7 rfl 0 rfl ?_
    refine g_getR (pc := 8) F clX9 (sh_0 hV) 3 _ rfl (by decide) uX9_29 dX9_asks_8 ?_
    refine g_getI (pc := 11) F clX2 (is_13 hV).1 3 rfl (by decide) uX9_174 dX9_asks_11 ?_
    refine g_iconst (pc := 14) F dX9_asks_14 ic_4 ?_
    refine g_icmp_ge (pc := 15) F 27 dX9_asks_15 (by decide) (fun c => ?_) (fun c => ?_)
    · have h := h.1 c
      refine g_bipush (pc := 27) F dX9_asks_27 bp_m2 ?_
      exact hR _ _ _ _ dX9_asks_29 h
    · have h := h.2 c
      refine g_aload_n (pc := 18) F dX9_asks_18 rfl 0 rfl ?_
      refine g_callVi (pc := 19) F (mX9_askedCost hV h) mvX9_askedCost uX9_205 (by decide) clX9 (sh_0 hV) rfl rfl (Nat.le_of_ble_eq_true rfl) dX9_asks_19 (fun r_19 s_19 h => ?_)
      refine g_bipush (pc := 22) F dX9_asks_22 bp_m9 ?_
      refine g_icmp_ne (pc := 24) F 30 dX9_asks_24 (by decide) (fun c => ?_) (fun c => ?_)
      · have h := h.1 c
        refine g_aload_n (pc := 30) F dX9_asks_30 rfl 0 rfl ?_
        refine g_callVi (pc := 31) F (mX9_askedCost hV h) mvX9_askedCost uX9_205 (by decide) clX9 (sh_0 hV) rfl rfl (Nat.le_of_ble_eq_true rfl) dX9_asks_31 (fun r_31 s_31 h => ?_)
        refine g_istore_n (pc := 34) (lv' := [(_, _), (_, _)]) F dX9_asks_34 rfl (by decide) rfl ?_
        refine g_aload_n (pc := 35) F dX9_asks_35 rfl 1 rfl ?_
        refine g_callVv (pc := 36) F (mX9_beforeChange hV h) mvX9_beforeChange uX9_194 (by decide) clX9 (sh_0 hV) rfl rfl (Nat.le_of_ble_eq_true rfl) dX9_asks_36 (fun s_36 h => ?_)
        refine g_aload_n (pc := 39) F dX9_asks_39 rfl 1 rfl ?_
        refine g_getR (pc := 40) F clX9 (sh_0 hV) 10 _ rfl (by decide) uX9_68 dX9_asks_40 ?_
        refine g_getR (pc := 43) F clX0 (is_86 hV).1 2 _ rfl (by decide) uX9_208 dX9_asks_43 ?_
        refine g_iconst (pc := 46) F dX9_asks_46 ic_0 ?_
        refine g_aload_n (pc := 47) F dX9_asks_47 rfl 1 rfl ?_
        refine g_getR (pc := 48) F clX9 (sh_0 hV) 3 _ rfl (by decide) uX9_29 dX9_asks_48 ?_
        refine g_getR (pc := 51) F clX2 (is_13 hV).1 0 _ rfl (by decide) uX9_131 dX9_asks_51 ?_
        refine g_iconst (pc := 54) F dX9_asks_54 ic_0 ?_
        refine g_aload_n (pc := 55) F dX9_asks_55 rfl 1 rfl ?_
        obtain ⟨hg_56, h⟩ := h
        refine g_getG (pc := 56) F clX9 (sh_0 hV) 1 rfl (by decide) uX9_19 dX9_asks_56 ?_
        refine g_getI (pc := 59) F clX1 (is_gr hV hg_56).1 1 rfl (by decide) uX9_171 dX9_asks_59 ?_
        obtain ⟨hb_62, h⟩ := h
        have h := h _ rfl
        refine g_copy (pc := 62) F (is_86 hV).2 (is_13 hV).2.1 hb_62.1 hb_62.2.1 hb_62.2.2.1 hb_62.2.2.2.1 hb_62.2.2.2.2 (by decide) (Nat.le_of_ble_eq_true rfl) uX9_209 dX9_asks_62 ?_
        refine g_aload_n (pc := 65) F dX9_asks_65 rfl 1 rfl ?_
        refine g_iload_n (pc := 66) F dX9_asks_66 rfl 0 rfl ?_
        refine g_callVv (pc := 67) F (mX9_addDug hV h) mvX9_addDug uX9_215 (by decide) clX9 (sh_0 hV) rfl rfl (Nat.le_of_ble_eq_true rfl) dX9_asks_67 (fun s_67 h => ?_)
        refine g_aload_n (pc := 70) F dX9_asks_70 rfl 1 rfl ?_
        refine g_getR (pc := 71) F clX9 (sh_0 hV) 3 _ rfl (by decide) uX9_29 dX9_asks_71 ?_
        refine g_callVv (pc := 74) F (mX2_draftToMap (is_13 hV) h) mvX2_draftToMap uX9_219 (by decide) clX2 (is_13 hV).1 rfl rfl (Nat.le_of_ble_eq_true rfl) dX9_asks_74 (fun s_74 h => ?_)
        refine g_iload_n (pc := 77) F dX9_asks_77 rfl 0 rfl ?_
        exact hR _ _ _ _ dX9_asks_78 h
      · have h := h.2 c
        refine g_bipush (pc := 27) F dX9_asks_27 bp_m2 ?_
        exact hR _ _ _ _ dX9_asks_29 h
def wX9_digs (x1 : Int32) (x2 : Int32) (s : St) (Q : Int32 → St → Prop) : Prop :=
  wX9_isLane x1 s (fun r_2 s_2 => ((r_2 = 0 → Q (-1 : Int32) s_2) ∧ (¬ r_2 = 0 → ((x2 < (1 : Int32) → Q (-1 : Int32) s_2) ∧ (¬ x2 < (1 : Int32) → ((x2 ≤ (5 : Int32) → vp_in x1 6 ∧ ((¬ (s_2.1 14 x1.toNatClampNeg) = x2 → wX9_beforeChange  s_2 (fun s_39 => vp_in x1 6 ∧ ∀ s_51 : St, s_51 = stI s_39 14 x1.toNatClampNeg x2 → IsG s_51.2.2.1 ∧ vp_in x1 6 ∧ wX9_addDug ((s_51.1 (s_51.2.2.1 + 3) x1.toNatClampNeg) * (if 0 ≤ (x2 - (s_2.1 14 x1.toNatClampNeg)) then (x2 - (s_2.1 14 x1.toNatClampNeg)) else 0 - (x2 - (s_2.1 14 x1.toNatClampNeg)))) s_51 (fun s_69 => Q (s_2.1 14 x1.toNatClampNeg) s_69))) ∧ ((s_2.1 14 x1.toNatClampNeg) = x2 → Q (-2 : Int32) s_2))) ∧ (¬ x2 ≤ (5 : Int32) → Q (-1 : Int32) s_2)))))))
set_option maxHeartbeats 4000000 in
set_option maxRecDepth 100000 in
theorem mX9_digs {l : Launch} {V : Wv} {x1 : Int32} {x2 : Int32} {s : St} {Q : Int32 → St → Prop} (hV : V.2.1 = DESC) (h : wX9_digs x1 x2 s Q) : Ci yX9_digs cX9_digs 4 (some .int) (4) l V [rf V 0, .int x1, .int x2] s Q := by
  unfold wX9_digs at h
  refine Ci.of mvX9_digs.1 (Nat.le_of_ble_eq_true rfl) (fun X F hR => ?_)
  refine g_lv (lv' := [(_, _), (_, _), (_, _)]) rfl ?_
  refine g_aload_n (pc := 0) F dX9_digs_0 rfl 0 rfl ?_
  refine g_iload_n (pc := 1) F dX9_digs_1 rfl 1 rfl ?_
  refine g_callVi (pc := 2) F (mX9_isLane hV h) mvX9_isLane uX9_121 (by decide) clX9 (sh_0 hV) rfl rfl (Nat.le_of_ble_eq_true rfl) dX9_digs_2 (fun r_2 s_2 h => ?_)
  refine g_if_eq (pc := 5) F 18 dX9_digs_5 (by decide) (fun c => ?_) (fun c => ?_)
  · have h := h.1 c
    refine g_iconst (pc := 18) F dX9_digs_18 ic_m1 ?_
    exact hR _ _ _ _ dX9_digs_19 h
  · have h := h.2 c
    refine g_iload_n (pc := 8) F dX9_digs_8 rfl 2 rfl ?_
    refine g_iconst (pc := 9) F dX9_digs_9 ic_1 ?_
    refine g_icmp_lt (pc := 10) F 18 dX9_digs_10 (by decide) (fun c => ?_) (fun c => ?_)
    · have h := h.1 c
      refine g_iconst (pc := 18) F dX9_digs_18 ic_m1 ?_
      exact hR _ _ _ _ dX9_digs_19 h
    · have h := h.2 c
      refine g_iload_n (pc := 13) F dX9_digs_13 rfl 2 rfl ?_
      refine g_iconst (pc := 14) F dX9_digs_14 ic_5 ?_
      refine g_icmp_le (pc := 15) F 20 dX9_digs_15 (by decide) (fun c => ?_) (fun c => ?_)
      · have h := h.1 c
        refine g_aload_n (pc := 20) F dX9_digs_20 rfl 0 rfl ?_
        refine g_getR (pc := 21) F clX9 (sh_0 hV) 3 _ rfl (by decide) uX9_29 dX9_digs_21 ?_
        refine g_getR (pc := 24) F clX2 (is_13 hV).1 0 _ rfl (by decide) uX9_131 dX9_digs_24 ?_
        refine g_iload_n (pc := 27) F dX9_digs_27 rfl 1 rfl ?_
        obtain ⟨hb_28, h⟩ := h
        refine g_iald (pc := 28) F (is_13 hV).2.1 hb_28 dX9_digs_28 ?_
        refine g_istore_n (pc := 29) (lv' := [(_, _), (_, _), (_, _), (_, _)]) F dX9_digs_29 rfl (by decide) rfl ?_
        refine g_iload_n (pc := 30) F dX9_digs_30 rfl 0 rfl ?_
        refine g_iload_n (pc := 31) F dX9_digs_31 rfl 3 rfl ?_
        refine g_icmp_ne (pc := 32) F 38 dX9_digs_32 (by decide) (fun c => ?_) (fun c => ?_)
        · have h := h.1 c
          refine g_aload_n (pc := 38) F dX9_digs_38 rfl 1 rfl ?_
          refine g_callVv (pc := 39) F (mX9_beforeChange hV h) mvX9_beforeChange uX9_194 (by decide) clX9 (sh_0 hV) rfl rfl (Nat.le_of_ble_eq_true rfl) dX9_digs_39 (fun s_39 h => ?_)
          refine g_aload_n (pc := 42) F dX9_digs_42 rfl 1 rfl ?_
          refine g_getR (pc := 43) F clX9 (sh_0 hV) 3 _ rfl (by decide) uX9_29 dX9_digs_43 ?_
          refine g_getR (pc := 46) F clX2 (is_13 hV).1 0 _ rfl (by decide) uX9_131 dX9_digs_46 ?_
          refine g_iload_n (pc := 49) F dX9_digs_49 rfl 2 rfl ?_
          refine g_iload_n (pc := 50) F dX9_digs_50 rfl 3 rfl ?_
          obtain ⟨hb_51, h⟩ := h
          have h := h _ rfl
          refine g_iast (pc := 51) F (is_13 hV).2.1 hb_51 dX9_digs_51 ?_
          refine g_aload_n (pc := 52) F dX9_digs_52 rfl 1 rfl ?_
          refine g_aload_n (pc := 53) F dX9_digs_53 rfl 1 rfl ?_
          obtain ⟨hg_54, h⟩ := h
          refine g_getG (pc := 54) F clX9 (sh_0 hV) 1 rfl (by decide) uX9_19 dX9_digs_54 ?_
          refine g_getR (pc := 57) F clX1 (is_gr hV hg_54).1 4 _ rfl (by decide) uX9_134 dX9_digs_57 ?_
          refine g_iload_n (pc := 60) F dX9_digs_60 rfl 2 rfl ?_
          obtain ⟨hb_61, h⟩ := h
          refine g_iald (pc := 61) F (is_gr hV hg_54).2.2.2.1 hb_61 dX9_digs_61 ?_
          refine g_iload_n (pc := 62) F dX9_digs_62 rfl 3 rfl ?_
          refine g_iload_n (pc := 63) F dX9_digs_63 rfl 0 rfl ?_
          refine g_isub (pc := 64) F dX9_digs_64 ?_
          refine g_abs (pc := 65) F (by decide) (Nat.le_of_ble_eq_true rfl) uX9_222 dX9_digs_65 ?_
          refine g_imul (pc := 68) F dX9_digs_68 ?_
          refine g_callVv (pc := 69) F (mX9_addDug hV h) mvX9_addDug uX9_215 (by decide) clX9 (sh_0 hV) rfl rfl (Nat.le_of_ble_eq_true rfl) dX9_digs_69 (fun s_69 h => ?_)
          refine g_iload_n (pc := 72) F dX9_digs_72 rfl 0 rfl ?_
          exact hR _ _ _ _ dX9_digs_73 h
        · have h := h.2 c
          refine g_bipush (pc := 35) F dX9_digs_35 bp_m2 ?_
          exact hR _ _ _ _ dX9_digs_37 h
      · have h := h.2 c
        refine g_iconst (pc := 18) F dX9_digs_18 ic_m1 ?_
        exact hR _ _ _ _ dX9_digs_19 h
def wX9_burns (x1 : Int32) (s : St) (Q : Int32 → St → Prop) : Prop :=
  wX9_isMap x1 s (fun r_2 s_2 => ((¬ r_2 = 0 → wX9_beforeChange  s_2 (fun s_11 => wX2_dropMap 13 x1 s_11 (fun s_19 => Q (s_19.1 13 3) s_19))) ∧ (r_2 = 0 → Q (-1 : Int32) s_2)))
set_option maxHeartbeats 4000000 in
set_option maxRecDepth 100000 in
theorem mX9_burns {l : Launch} {V : Wv} {x1 : Int32} {s : St} {Q : Int32 → St → Prop} (hV : V.2.1 = DESC) (h : wX9_burns x1 s Q) : Ci yX9_burns cX9_burns 2 (some .int) (4) l V [rf V 0, .int x1] s Q := by
  unfold wX9_burns at h
  refine Ci.of mvX9_burns.1 (Nat.le_of_ble_eq_true rfl) (fun X F hR => ?_)
  refine g_lv (lv' := [(_, _), (_, _)]) rfl ?_
  refine g_aload_n (pc := 0) F dX9_burns_0 rfl 0 rfl ?_
  refine g_iload_n (pc := 1) F dX9_burns_1 rfl 1 rfl ?_
  refine g_callVi (pc := 2) F (mX9_isMap hV h) mvX9_isMap uX9_141 (by decide) clX9 (sh_0 hV) rfl rfl (Nat.le_of_ble_eq_true rfl) dX9_burns_2 (fun r_2 s_2 h => ?_)
  refine g_if_ne (pc := 5) F 10 dX9_burns_5 (by decide) (fun c => ?_) (fun c => ?_)
  · have h := h.1 c
    refine g_aload_n (pc := 10) F dX9_burns_10 rfl 0 rfl ?_
    refine g_callVv (pc := 11) F (mX9_beforeChange hV h) mvX9_beforeChange uX9_194 (by decide) clX9 (sh_0 hV) rfl rfl (Nat.le_of_ble_eq_true rfl) dX9_burns_11 (fun s_11 h => ?_)
    refine g_aload_n (pc := 14) F dX9_burns_14 rfl 0 rfl ?_
    refine g_getR (pc := 15) F clX9 (sh_0 hV) 3 _ rfl (by decide) uX9_29 dX9_burns_15 ?_
    refine g_iload_n (pc := 18) F dX9_burns_18 rfl 1 rfl ?_
    refine g_callVv (pc := 19) F (mX2_dropMap (is_13 hV) h) mvX2_dropMap uX9_227 (by decide) clX2 (is_13 hV).1 rfl rfl (Nat.le_of_ble_eq_true rfl) dX9_burns_19 (fun s_19 h => ?_)
    refine g_aload_n (pc := 22) F dX9_burns_22 rfl 0 rfl ?_
    refine g_getR (pc := 23) F clX9 (sh_0 hV) 3 _ rfl (by decide) uX9_29 dX9_burns_23 ?_
    refine g_getI (pc := 26) F clX2 (is_13 hV).1 3 rfl (by decide) uX9_174 dX9_burns_26 ?_
    exact hR _ _ _ _ dX9_burns_29 h
  · have h := h.2 c
    refine g_iconst (pc := 8) F dX9_burns_8 ic_m1 ?_
    exact hR _ _ _ _ dX9_burns_9 h
def wX9_wipes  (s : St) (Q : Int32 → St → Prop) : Prop :=
  vp_in (4 : Int32) 5 ∧ ((¬ (s.1 15 (4 : Int32).toNatClampNeg) = 0 → wX9_beforeChange  s (fun s_18 => vp_in (4 : Int32) 5 ∧ ∀ s_30 : St, s_30 = stI s_18 15 (4 : Int32).toNatClampNeg (0 : Int32) → Q (s.1 15 (4 : Int32).toNatClampNeg) s_30)) ∧ ((s.1 15 (4 : Int32).toNatClampNeg) = 0 → Q (-2 : Int32) s))
set_option maxHeartbeats 4000000 in
set_option maxRecDepth 100000 in
theorem mX9_wipes {l : Launch} {V : Wv}  {s : St} {Q : Int32 → St → Prop} (hV : V.2.1 = DESC) (h : wX9_wipes  s Q) : Ci yX9_wipes cX9_wipes 2 (some .int) (4) l V [rf V 0] s Q := by
  unfold wX9_wipes at h
  refine Ci.of mvX9_wipes.1 (Nat.le_of_ble_eq_true rfl) (fun X F hR => ?_)
  refine g_lv (lv' := [(_, _)]) rfl ?_
  refine g_aload_n (pc := 0) F dX9_wipes_0 rfl 0 rfl ?_
  refine g_getR (pc := 1) F clX9 (sh_0 hV) 3 _ rfl (by decide) uX9_29 dX9_wipes_1 ?_
  refine g_getR (pc := 4) F clX2 (is_13 hV).1 1 _ rfl (by decide) uX9_144 dX9_wipes_4 ?_
  refine g_iconst (pc := 7) F dX9_wipes_7 ic_4 ?_
  obtain ⟨hb_8, h⟩ := h
  refine g_iald (pc := 8) F (is_13 hV).2.2.1 hb_8 dX9_wipes_8 ?_
  refine g_istore_n (pc := 9) (lv' := [(_, _), (_, _)]) F dX9_wipes_9 rfl (by decide) rfl ?_
  refine g_iload_n (pc := 10) F dX9_wipes_10 rfl 0 rfl ?_
  refine g_if_ne (pc := 11) F 17 dX9_wipes_11 (by decide) (fun c => ?_) (fun c => ?_)
  · have h := h.1 c
    refine g_aload_n (pc := 17) F dX9_wipes_17 rfl 1 rfl ?_
    refine g_callVv (pc := 18) F (mX9_beforeChange hV h) mvX9_beforeChange uX9_194 (by decide) clX9 (sh_0 hV) rfl rfl (Nat.le_of_ble_eq_true rfl) dX9_wipes_18 (fun s_18 h => ?_)
    refine g_aload_n (pc := 21) F dX9_wipes_21 rfl 1 rfl ?_
    refine g_getR (pc := 22) F clX9 (sh_0 hV) 3 _ rfl (by decide) uX9_29 dX9_wipes_22 ?_
    refine g_getR (pc := 25) F clX2 (is_13 hV).1 1 _ rfl (by decide) uX9_144 dX9_wipes_25 ?_
    refine g_iconst (pc := 28) F dX9_wipes_28 ic_4 ?_
    refine g_iconst (pc := 29) F dX9_wipes_29 ic_0 ?_
    obtain ⟨hb_30, h⟩ := h
    have h := h _ rfl
    refine g_iast (pc := 30) F (is_13 hV).2.2.1 hb_30 dX9_wipes_30 ?_
    refine g_iload_n (pc := 31) F dX9_wipes_31 rfl 0 rfl ?_
    exact hR _ _ _ _ dX9_wipes_32 h
  · have h := h.2 c
    refine g_bipush (pc := 14) F dX9_wipes_14 bp_m2 ?_
    exact hR _ _ _ _ dX9_wipes_16 h
def wX9_undo  (s : St) (Q : Int32 → St → Prop) : Prop :=
  ((¬ (s.1 29 2) = 0 → wX3_restore 29 13 s (fun s_21 => wX9_forgetAnswers  s_21 (fun s_25 => Q (s_25.1 29 2) s_25))) ∧ ((s.1 29 2) = 0 → Q (-2 : Int32) s))
set_option maxHeartbeats 4000000 in
set_option maxRecDepth 100000 in
theorem mX9_undo {l : Launch} {V : Wv}  {s : St} {Q : Int32 → St → Prop} (hV : V.2.1 = DESC) (h : wX9_undo  s Q) : Ci yX9_undo cX9_undo 1 (some .int) (3) l V [rf V 0] s Q := by
  unfold wX9_undo at h
  refine Ci.of mvX9_undo.1 (Nat.le_of_ble_eq_true rfl) (fun X F hR => ?_)
  refine g_lv (lv' := [(_, _)]) rfl ?_
  refine g_aload_n (pc := 0) F dX9_undo_0 rfl 0 rfl ?_
  refine g_getR (pc := 1) F clX9 (sh_0 hV) 6 _ rfl (by decide) uX9_46 dX9_undo_1 ?_
  refine g_getI (pc := 4) F clX3 (is_29 hV).1 2 rfl (by decide) uX9_165 dX9_undo_4 ?_
  refine g_if_ne (pc := 7) F 13 dX9_undo_7 (by decide) (fun c => ?_) (fun c => ?_)
  · have h := h.1 c
    refine g_aload_n (pc := 13) F dX9_undo_13 rfl 0 rfl ?_
    refine g_getR (pc := 14) F clX9 (sh_0 hV) 6 _ rfl (by decide) uX9_46 dX9_undo_14 ?_
    refine g_aload_n (pc := 17) F dX9_undo_17 rfl 0 rfl ?_
    refine g_getR (pc := 18) F clX9 (sh_0 hV) 3 _ rfl (by decide) uX9_29 dX9_undo_18 ?_
    refine g_callVv (pc := 21) F (mX3_restore (is_29 hV) (is_13 hV) h) mvX3_restore uX9_230 (by decide) clX3 (is_29 hV).1 rfl rfl (Nat.le_of_ble_eq_true rfl) dX9_undo_21 (fun s_21 h => ?_)
    refine g_aload_n (pc := 24) F dX9_undo_24 rfl 0 rfl ?_
    refine g_callVv (pc := 25) F (mX9_forgetAnswers hV h) mvX9_forgetAnswers uX9_118 (by decide) clX9 (sh_0 hV) rfl rfl (Nat.le_of_ble_eq_true rfl) dX9_undo_25 (fun s_25 h => ?_)
    refine g_aload_n (pc := 28) F dX9_undo_28 rfl 0 rfl ?_
    refine g_getR (pc := 29) F clX9 (sh_0 hV) 6 _ rfl (by decide) uX9_46 dX9_undo_29 ?_
    refine g_getI (pc := 32) F clX3 (is_29 hV).1 2 rfl (by decide) uX9_165 dX9_undo_32 ?_
    exact hR _ _ _ _ dX9_undo_35 h
  · have h := h.2 c
    refine g_bipush (pc := 10) F dX9_undo_10 bp_m2 ?_
    exact hR _ _ _ _ dX9_undo_12 h
def wX9_far (x1 : Int32) (x2 : Int32) (s : St) (Q : Int32 → St → Prop) : Prop :=
  wX9_isPlace x1 s (fun r_2 s_2 => ((r_2 = 0 → Q (-1 : Int32) s_2) ∧ (¬ r_2 = 0 → wX9_isPlace x2 s_2 (fun r_10 s_10 => ((¬ r_10 = 0 → ((¬ x1 = x2 → IsG s_10.2.2.1 ∧ wX8_measure 21 s_10.2.2.1 14 6 s_10 (fun s_40 => wX8_leastBetween 21 x1 x2 s_40 (fun r_49 s_49 => Q r_49 s_49))) ∧ (x1 = x2 → Q (0 : Int32) s_10))) ∧ (r_10 = 0 → Q (-1 : Int32) s_10))))))
set_option maxHeartbeats 4000000 in
set_option maxRecDepth 100000 in
theorem mX9_far {l : Launch} {V : Wv} {x1 : Int32} {x2 : Int32} {s : St} {Q : Int32 → St → Prop} (hV : V.2.1 = DESC) (h : wX9_far x1 x2 s Q) : Ci yX9_far cX9_far 3 (some .int) (2) l V [rf V 0, .int x1, .int x2] s Q := by
  unfold wX9_far at h
  refine Ci.of mvX9_far.1 (Nat.le_of_ble_eq_true rfl) (fun X F hR => ?_)
  refine g_lv (lv' := [(_, _), (_, _), (_, _)]) rfl ?_
  refine g_aload_n (pc := 0) F dX9_far_0 rfl 0 rfl ?_
  refine g_iload_n (pc := 1) F dX9_far_1 rfl 1 rfl ?_
  refine g_callVi (pc := 2) F (mX9_isPlace hV h) mvX9_isPlace uX9_187 (by decide) clX9 (sh_0 hV) rfl rfl (Nat.le_of_ble_eq_true rfl) dX9_far_2 (fun r_2 s_2 h => ?_)
  refine g_if_eq (pc := 5) F 16 dX9_far_5 (by decide) (fun c => ?_) (fun c => ?_)
  · have h := h.1 c
    refine g_iconst (pc := 16) F dX9_far_16 ic_m1 ?_
    exact hR _ _ _ _ dX9_far_17 h
  · have h := h.2 c
    refine g_aload_n (pc := 8) F dX9_far_8 rfl 0 rfl ?_
    refine g_iload_n (pc := 9) F dX9_far_9 rfl 2 rfl ?_
    refine g_callVi (pc := 10) F (mX9_isPlace hV h) mvX9_isPlace uX9_187 (by decide) clX9 (sh_0 hV) rfl rfl (Nat.le_of_ble_eq_true rfl) dX9_far_10 (fun r_10 s_10 h => ?_)
    refine g_if_ne (pc := 13) F 18 dX9_far_13 (by decide) (fun c => ?_) (fun c => ?_)
    · have h := h.1 c
      refine g_iload_n (pc := 18) F dX9_far_18 rfl 1 rfl ?_
      refine g_iload_n (pc := 19) F dX9_far_19 rfl 2 rfl ?_
      refine g_icmp_ne (pc := 20) F 25 dX9_far_20 (by decide) (fun c => ?_) (fun c => ?_)
      · have h := h.1 c
        refine g_aload_n (pc := 25) F dX9_far_25 rfl 0 rfl ?_
        refine g_getR (pc := 26) F clX9 (sh_0 hV) 5 _ rfl (by decide) uX9_39 dX9_far_26 ?_
        refine g_aload_n (pc := 29) F dX9_far_29 rfl 0 rfl ?_
        obtain ⟨hg_30, h⟩ := h
        refine g_getG (pc := 30) F clX9 (sh_0 hV) 1 rfl (by decide) uX9_19 dX9_far_30 ?_
        refine g_aload_n (pc := 33) F dX9_far_33 rfl 0 rfl ?_
        refine g_getR (pc := 34) F clX9 (sh_0 hV) 3 _ rfl (by decide) uX9_29 dX9_far_34 ?_
        refine g_getR (pc := 37) F clX2 (is_13 hV).1 0 _ rfl (by decide) uX9_131 dX9_far_37 ?_
        refine g_callVv (pc := 40) F (mX8_measure (is_21 hV) (is_gr hV hg_30) (is_13 hV).2.1 h) mvX8_measure uX9_177 (by decide) clX8 (is_21 hV).1 rfl rfl (Nat.le_of_ble_eq_true rfl) dX9_far_40 (fun s_40 h => ?_)
        refine g_aload_n (pc := 43) F dX9_far_43 rfl 0 rfl ?_
        refine g_getR (pc := 44) F clX9 (sh_0 hV) 5 _ rfl (by decide) uX9_39 dX9_far_44 ?_
        refine g_iload_n (pc := 47) F dX9_far_47 rfl 1 rfl ?_
        refine g_iload_n (pc := 48) F dX9_far_48 rfl 2 rfl ?_
        refine g_callVi (pc := 49) F (mX8_leastBetween (is_21 hV) h) mvX8_leastBetween uX9_244 (by decide) clX8 (is_21 hV).1 rfl rfl (Nat.le_of_ble_eq_true rfl) dX9_far_49 (fun r_49 s_49 h => ?_)
        exact hR _ _ _ _ dX9_far_52 h
      · have h := h.2 c
        refine g_iconst (pc := 23) F dX9_far_23 ic_0 ?_
        exact hR _ _ _ _ dX9_far_24 h
    · have h := h.2 c
      refine g_iconst (pc := 16) F dX9_far_16 ic_m1 ?_
      exact hR _ _ _ _ dX9_far_17 h
def wX9_by (x1 : Int32) (x2 : Int32) (s : St) (Q : Int32 → St → Prop) : Prop :=
  wX9_isPlace x1 s (fun r_2 s_2 => ((r_2 = 0 → Q (-1 : Int32) s_2) ∧ (¬ r_2 = 0 → wX9_isPlace x2 s_2 (fun r_10 s_10 => ((r_10 = 0 → Q (-1 : Int32) s_10) ∧ (¬ r_10 = 0 → ((¬ x1 = x2 → IsG s_10.2.2.1 ∧ wX8_measure 21 s_10.2.2.1 14 6 s_10 (fun s_38 => wX8_shortestBetween 21 x1 x2 s_38 (fun r_47 s_47 => Q r_47 s_47))) ∧ (x1 = x2 → Q (-1 : Int32) s_10))))))))
set_option maxHeartbeats 4000000 in
set_option maxRecDepth 100000 in
theorem mX9_by {l : Launch} {V : Wv} {x1 : Int32} {x2 : Int32} {s : St} {Q : Int32 → St → Prop} (hV : V.2.1 = DESC) (h : wX9_by x1 x2 s Q) : Ci yX9_by cX9_by 3 (some .int) (2) l V [rf V 0, .int x1, .int x2] s Q := by
  unfold wX9_by at h
  refine Ci.of mvX9_by.1 (Nat.le_of_ble_eq_true rfl) (fun X F hR => ?_)
  refine g_lv (lv' := [(_, _), (_, _), (_, _)]) rfl ?_
  refine g_aload_n (pc := 0) F dX9_by_0 rfl 0 rfl ?_
  refine g_iload_n (pc := 1) F dX9_by_1 rfl 1 rfl ?_
  refine g_callVi (pc := 2) F (mX9_isPlace hV h) mvX9_isPlace uX9_187 (by decide) clX9 (sh_0 hV) rfl rfl (Nat.le_of_ble_eq_true rfl) dX9_by_2 (fun r_2 s_2 h => ?_)
  refine g_if_eq (pc := 5) F 21 dX9_by_5 (by decide) (fun c => ?_) (fun c => ?_)
  · have h := h.1 c
    refine g_iconst (pc := 21) F dX9_by_21 ic_m1 ?_
    exact hR _ _ _ _ dX9_by_22 h
  · have h := h.2 c
    refine g_aload_n (pc := 8) F dX9_by_8 rfl 0 rfl ?_
    refine g_iload_n (pc := 9) F dX9_by_9 rfl 2 rfl ?_
    refine g_callVi (pc := 10) F (mX9_isPlace hV h) mvX9_isPlace uX9_187 (by decide) clX9 (sh_0 hV) rfl rfl (Nat.le_of_ble_eq_true rfl) dX9_by_10 (fun r_10 s_10 h => ?_)
    refine g_if_eq (pc := 13) F 21 dX9_by_13 (by decide) (fun c => ?_) (fun c => ?_)
    · have h := h.1 c
      refine g_iconst (pc := 21) F dX9_by_21 ic_m1 ?_
      exact hR _ _ _ _ dX9_by_22 h
    · have h := h.2 c
      refine g_iload_n (pc := 16) F dX9_by_16 rfl 1 rfl ?_
      refine g_iload_n (pc := 17) F dX9_by_17 rfl 2 rfl ?_
      refine g_icmp_ne (pc := 18) F 23 dX9_by_18 (by decide) (fun c => ?_) (fun c => ?_)
      · have h := h.1 c
        refine g_aload_n (pc := 23) F dX9_by_23 rfl 0 rfl ?_
        refine g_getR (pc := 24) F clX9 (sh_0 hV) 5 _ rfl (by decide) uX9_39 dX9_by_24 ?_
        refine g_aload_n (pc := 27) F dX9_by_27 rfl 0 rfl ?_
        obtain ⟨hg_28, h⟩ := h
        refine g_getG (pc := 28) F clX9 (sh_0 hV) 1 rfl (by decide) uX9_19 dX9_by_28 ?_
        refine g_aload_n (pc := 31) F dX9_by_31 rfl 0 rfl ?_
        refine g_getR (pc := 32) F clX9 (sh_0 hV) 3 _ rfl (by decide) uX9_29 dX9_by_32 ?_
        refine g_getR (pc := 35) F clX2 (is_13 hV).1 0 _ rfl (by decide) uX9_131 dX9_by_35 ?_
        refine g_callVv (pc := 38) F (mX8_measure (is_21 hV) (is_gr hV hg_28) (is_13 hV).2.1 h) mvX8_measure uX9_177 (by decide) clX8 (is_21 hV).1 rfl rfl (Nat.le_of_ble_eq_true rfl) dX9_by_38 (fun s_38 h => ?_)
        refine g_aload_n (pc := 41) F dX9_by_41 rfl 0 rfl ?_
        refine g_getR (pc := 42) F clX9 (sh_0 hV) 5 _ rfl (by decide) uX9_39 dX9_by_42 ?_
        refine g_iload_n (pc := 45) F dX9_by_45 rfl 1 rfl ?_
        refine g_iload_n (pc := 46) F dX9_by_46 rfl 2 rfl ?_
        refine g_callVi (pc := 47) F (mX8_shortestBetween (is_21 hV) h) mvX8_shortestBetween uX9_247 (by decide) clX8 (is_21 hV).1 rfl rfl (Nat.le_of_ble_eq_true rfl) dX9_by_47 (fun r_47 s_47 h => ?_)
        exact hR _ _ _ _ dX9_by_50 h
      · have h := h.2 c
        refine g_iconst (pc := 21) F dX9_by_21 ic_m1 ?_
        exact hR _ _ _ _ dX9_by_22 h
def wX9_knot_73 (rec : Int32 → Int32 → St → Prop) (Q : Int32 → St → Prop) (x1 : Int32) (x2 : Int32) (x3 : Int32) (s : St) : Prop :=
  rec x2 (x3 + (1 : Int32)) s
set_option maxHeartbeats 4000000 in
set_option maxRecDepth 100000 in
theorem bX9_knot_73 {l : Launch} {V : Wv} {X : Mx} {rec : Int32 → Int32 → St → Prop} {Q : Int32 → St → Prop} {x1 : Int32} {x2 : Int32} {x3 : Int32} (F : Fx V X cX9_knot RX9 4 1) (hR : RtI l V X 4 cX9_knot Q) (hV : V.2.1 = DESC) (hrec : ∀ (y2 : Int32) (y3 : Int32) (s : St), rec y2 y3 s → G l V X 4 14 [(0, rf V 0), (1, .int x1), (2, .int y2), (3, .int y3)] [] s) {s : St} (h : wX9_knot_73 rec Q x1 x2 x3 s) : G l V X 4 73 [(0, rf V 0), (1, .int x1), (2, .int x2), (3, .int x3)] [] s := by
  unfold wX9_knot_73 at h
  refine g_iinc (pc := 73) (lv' := [(_, _), (_, _), (_, _), (_, _)]) F dX9_knot_73 3 rfl (congrArg _ ic_1) (by decide) rfl ?_
  refine g_goto (pc := 76) F 14 dX9_knot_76 (by decide) ?_
  exact g_weak [1, 2, 3, 0] rfl (hrec _ _ _ h)
def wX9_knot_51 (rec : Int32 → Int32 → St → Prop) (Q : Int32 → St → Prop) (x1 : Int32) (x2 : Int32) (x3 : Int32) (s : St) : Prop :=
  IsG s.2.2.1 ∧ vp_in x3 6 ∧ vp_in x3 6 ∧ wX9_knot_73 (rec) Q x1 (x2 + ((s.1 (s.2.2.1 + 3) x3.toNatClampNeg) * (s.1 14 x3.toNatClampNeg))) x3 s
set_option maxHeartbeats 4000000 in
set_option maxRecDepth 100000 in
theorem bX9_knot_51 {l : Launch} {V : Wv} {X : Mx} {rec : Int32 → Int32 → St → Prop} {Q : Int32 → St → Prop} {x1 : Int32} {x2 : Int32} {x3 : Int32} (F : Fx V X cX9_knot RX9 4 1) (hR : RtI l V X 4 cX9_knot Q) (hV : V.2.1 = DESC) (hrec : ∀ (y2 : Int32) (y3 : Int32) (s : St), rec y2 y3 s → G l V X 4 14 [(0, rf V 0), (1, .int x1), (2, .int y2), (3, .int y3)] [] s) {s : St} (h : wX9_knot_51 rec Q x1 x2 x3 s) : G l V X 4 51 [(0, rf V 0), (1, .int x1), (2, .int x2), (3, .int x3)] [] s := by
  unfold wX9_knot_51 at h
  refine g_iload_n (pc := 51) F dX9_knot_51 rfl 2 rfl ?_
  refine g_aload_n (pc := 52) F dX9_knot_52 rfl 0 rfl ?_
  obtain ⟨hg_53, h⟩ := h
  refine g_getG (pc := 53) F clX9 (sh_0 hV) 1 rfl (by decide) uX9_19 dX9_knot_53 ?_
  refine g_getR (pc := 56) F clX1 (is_gr hV hg_53).1 4 _ rfl (by decide) uX9_134 dX9_knot_56 ?_
  refine g_iload_n (pc := 59) F dX9_knot_59 rfl 3 rfl ?_
  obtain ⟨hb_60, h⟩ := h
  refine g_iald (pc := 60) F (is_gr hV hg_53).2.2.2.1 hb_60 dX9_knot_60 ?_
  refine g_aload_n (pc := 61) F dX9_knot_61 rfl 0 rfl ?_
  refine g_getR (pc := 62) F clX9 (sh_0 hV) 3 _ rfl (by decide) uX9_29 dX9_knot_62 ?_
  refine g_getR (pc := 65) F clX2 (is_13 hV).1 0 _ rfl (by decide) uX9_131 dX9_knot_65 ?_
  refine g_iload_n (pc := 68) F dX9_knot_68 rfl 3 rfl ?_
  obtain ⟨hb_69, h⟩ := h
  refine g_iald (pc := 69) F (is_13 hV).2.1 hb_69 dX9_knot_69 ?_
  refine g_imul (pc := 70) F dX9_knot_70 ?_
  refine g_iadd (pc := 71) F dX9_knot_71 ?_
  refine g_istore_n (pc := 72) (lv' := [(_, _), (_, _), (_, _), (_, _)]) F dX9_knot_72 rfl (by decide) rfl ?_
  exact g_weak [1, 2, 0, 3] rfl (bX9_knot_73 F hR hV hrec h)
def wX9_knot_14 (x1 : Int32) (Q : Int32 → St → Prop) : Nat → Int32 → Int32 → St → Prop
  | 0, _, _, _ => False
  | n + 1, x2, x3, s =>
  IsG s.2.2.1 ∧ (((s.1 s.2.2.1 1) ≤ x3 → Q x2 s) ∧ (¬ (s.1 s.2.2.1 1) ≤ x3 → IsG s.2.2.1 ∧ vp_in x3 6 ∧ (((s.1 (s.2.2.1 + 1) x3.toNatClampNeg) = x1 → wX9_knot_51 (wX9_knot_14 x1 Q n) Q x1 x2 x3 s) ∧ (¬ (s.1 (s.2.2.1 + 1) x3.toNatClampNeg) = x1 → IsG s.2.2.1 ∧ vp_in x3 6 ∧ ((¬ (s.1 (s.2.2.1 + 2) x3.toNatClampNeg) = x1 → wX9_knot_73 (wX9_knot_14 x1 Q n) Q x1 x2 x3 s) ∧ ((s.1 (s.2.2.1 + 2) x3.toNatClampNeg) = x1 → wX9_knot_51 (wX9_knot_14 x1 Q n) Q x1 x2 x3 s))))))
set_option maxHeartbeats 4000000 in
set_option maxRecDepth 100000 in
theorem bX9_knot_14 {l : Launch} {V : Wv} {X : Mx} {x1 : Int32} {Q : Int32 → St → Prop} (F : Fx V X cX9_knot RX9 4 1) (hR : RtI l V X 4 cX9_knot Q) (hV : V.2.1 = DESC)  : ∀ (n : Nat) (x2 : Int32) (x3 : Int32) (s : St), wX9_knot_14 x1 Q n x2 x3 s → G l V X 4 14 [(0, rf V 0), (1, .int x1), (2, .int x2), (3, .int x3)] [] s := by
  intro n
  induction n with
  | zero => intro x2 x3 s h; unfold wX9_knot_14 at h; exact h.elim
  | succ n ih =>
    intro x2 x3 s h
    unfold wX9_knot_14 at h
    refine g_iload_n (pc := 14) F dX9_knot_14 rfl 3 rfl ?_
    refine g_aload_n (pc := 15) F dX9_knot_15 rfl 0 rfl ?_
    obtain ⟨hg_16, h⟩ := h
    refine g_getG (pc := 16) F clX9 (sh_0 hV) 1 rfl (by decide) uX9_19 dX9_knot_16 ?_
    refine g_getI (pc := 19) F clX1 (is_gr hV hg_16).1 1 rfl (by decide) uX9_171 dX9_knot_19 ?_
    refine g_icmp_ge (pc := 22) F 79 dX9_knot_22 (by decide) (fun c => ?_) (fun c => ?_)
    · have h := h.1 c
      refine g_iload_n (pc := 79) F dX9_knot_79 rfl 2 rfl ?_
      exact hR _ _ _ _ dX9_knot_80 h
    · have h := h.2 c
      refine g_aload_n (pc := 25) F dX9_knot_25 rfl 0 rfl ?_
      obtain ⟨hg_26, h⟩ := h
      refine g_getG (pc := 26) F clX9 (sh_0 hV) 1 rfl (by decide) uX9_19 dX9_knot_26 ?_
      refine g_getR (pc := 29) F clX1 (is_gr hV hg_26).1 2 _ rfl (by decide) uX9_124 dX9_knot_29 ?_
      refine g_iload_n (pc := 32) F dX9_knot_32 rfl 3 rfl ?_
      obtain ⟨hb_33, h⟩ := h
      refine g_iald (pc := 33) F (is_gr hV hg_26).2.1 hb_33 dX9_knot_33 ?_
      refine g_iload_n (pc := 34) F dX9_knot_34 rfl 1 rfl ?_
      refine g_icmp_eq (pc := 35) F 51 dX9_knot_35 (by decide) (fun c => ?_) (fun c => ?_)
      · have h := h.1 c
        exact g_weak [0, 1, 2, 3] rfl (bX9_knot_51 F hR hV ih h)
      · have h := h.2 c
        refine g_aload_n (pc := 38) F dX9_knot_38 rfl 0 rfl ?_
        obtain ⟨hg_39, h⟩ := h
        refine g_getG (pc := 39) F clX9 (sh_0 hV) 1 rfl (by decide) uX9_19 dX9_knot_39 ?_
        refine g_getR (pc := 42) F clX1 (is_gr hV hg_39).1 3 _ rfl (by decide) uX9_128 dX9_knot_42 ?_
        refine g_iload_n (pc := 45) F dX9_knot_45 rfl 3 rfl ?_
        obtain ⟨hb_46, h⟩ := h
        refine g_iald (pc := 46) F (is_gr hV hg_39).2.2.1 hb_46 dX9_knot_46 ?_
        refine g_iload_n (pc := 47) F dX9_knot_47 rfl 1 rfl ?_
        refine g_icmp_ne (pc := 48) F 73 dX9_knot_48 (by decide) (fun c => ?_) (fun c => ?_)
        · have h := h.1 c
          exact g_weak [0, 1, 2, 3] rfl (bX9_knot_73 F hR hV ih h)
        · have h := h.2 c
          exact g_weak [0, 1, 2, 3] rfl (bX9_knot_51 F hR hV ih h)
def wX9_knot (x1 : Int32) (s : St) (Q : Int32 → St → Prop) : Prop :=
  wX9_isPlace x1 s (fun r_2 s_2 => ((¬ r_2 = 0 → (∃ k_14, wX9_knot_14  x1  Q k_14 (0 : Int32) (0 : Int32) s_2)) ∧ (r_2 = 0 → Q (-1 : Int32) s_2)))
set_option maxHeartbeats 4000000 in
set_option maxRecDepth 100000 in
theorem mX9_knot {l : Launch} {V : Wv} {x1 : Int32} {s : St} {Q : Int32 → St → Prop} (hV : V.2.1 = DESC) (h : wX9_knot x1 s Q) : Ci yX9_knot cX9_knot 4 (some .int) (1) l V [rf V 0, .int x1] s Q := by
  unfold wX9_knot at h
  refine Ci.of mvX9_knot.1 (Nat.le_of_ble_eq_true rfl) (fun X F hR => ?_)
  refine g_lv (lv' := [(_, _), (_, _)]) rfl ?_
  refine g_aload_n (pc := 0) F dX9_knot_0 rfl 0 rfl ?_
  refine g_iload_n (pc := 1) F dX9_knot_1 rfl 1 rfl ?_
  refine g_callVi (pc := 2) F (mX9_isPlace hV h) mvX9_isPlace uX9_187 (by decide) clX9 (sh_0 hV) rfl rfl (Nat.le_of_ble_eq_true rfl) dX9_knot_2 (fun r_2 s_2 h => ?_)
  refine g_if_ne (pc := 5) F 10 dX9_knot_5 (by decide) (fun c => ?_) (fun c => ?_)
  · have h := h.1 c
    refine g_iconst (pc := 10) F dX9_knot_10 ic_0 ?_
    refine g_istore_n (pc := 11) (lv' := [(_, _), (_, _), (_, _)]) F dX9_knot_11 rfl (by decide) rfl ?_
    refine g_iconst (pc := 12) F dX9_knot_12 ic_0 ?_
    refine g_istore_n (pc := 13) (lv' := [(_, _), (_, _), (_, _), (_, _)]) F dX9_knot_13 rfl (by decide) rfl ?_
    obtain ⟨k_14, h⟩ := h
    refine g_weak [2, 3, 1, 0] rfl (bX9_knot_14 F hR hV k_14 _ _ _ h)
  · have h := h.2 c
    refine g_iconst (pc := 8) F dX9_knot_8 ic_m1 ?_
    exact hR _ _ _ _ dX9_knot_9 h
def wX9_asking_31 (Q : Int32 → St → Prop) (x2 : Int32) (s : St) : Prop :=
  Q x2 s
set_option maxHeartbeats 4000000 in
set_option maxRecDepth 100000 in
theorem bX9_asking_31 {l : Launch} {V : Wv} {X : Mx} {Q : Int32 → St → Prop} {x2 : Int32} (F : Fx V X cX9_asking RX9 3 13) (hR : RtI l V X 3 cX9_asking Q) (hV : V.2.1 = DESC)  {s : St} (h : wX9_asking_31 Q x2 s) : G l V X 3 31 [(2, .int x2)] [] s := by
  unfold wX9_asking_31 at h
  refine g_iload_n (pc := 31) F dX9_asking_31 rfl 0 rfl ?_
  refine g_goto (pc := 32) F 44 dX9_asking_32 (by decide) ?_
  exact hR _ _ _ _ dX9_asking_44 h
def wX9_asking_15 (Q : Int32 → St → Prop) (x1 : Int32) (s : St) : Prop :=
  wX9_askedCost  s (fun r_16 s_16 => ((x1 = (-1 : Int32) → wX9_asking_31 Q r_16 s_16) ∧ (¬ x1 = (-1 : Int32) → ((¬ r_16 = (-9 : Int32) → vp_in x1 6 ∧ Q (s_16.1 87 x1.toNatClampNeg) s_16) ∧ (r_16 = (-9 : Int32) → wX9_asking_31 Q r_16 s_16)))))
set_option maxHeartbeats 4000000 in
set_option maxRecDepth 100000 in
theorem bX9_asking_15 {l : Launch} {V : Wv} {X : Mx} {Q : Int32 → St → Prop} {x1 : Int32} (F : Fx V X cX9_asking RX9 3 13) (hR : RtI l V X 3 cX9_asking Q) (hV : V.2.1 = DESC)  {s : St} (h : wX9_asking_15 Q x1 s) : G l V X 3 15 [(0, rf V 0), (1, .int x1)] [] s := by
  unfold wX9_asking_15 at h
  refine g_aload_n (pc := 15) F dX9_asking_15 rfl 0 rfl ?_
  refine g_callVi (pc := 16) F (mX9_askedCost hV h) mvX9_askedCost uX9_205 (by decide) clX9 (sh_0 hV) rfl rfl (Nat.le_of_ble_eq_true rfl) dX9_asking_16 (fun r_16 s_16 h => ?_)
  refine g_istore_n (pc := 19) (lv' := [(_, _), (_, _), (_, _)]) F dX9_asking_19 rfl (by decide) rfl ?_
  refine g_iload_n (pc := 20) F dX9_asking_20 rfl 2 rfl ?_
  refine g_iconst (pc := 21) F dX9_asking_21 ic_m1 ?_
  refine g_icmp_eq (pc := 22) F 31 dX9_asking_22 (by decide) (fun c => ?_) (fun c => ?_)
  · have h := h.1 c
    exact g_weak [0] rfl (bX9_asking_31 F hR hV h)
  · have h := h.2 c
    refine g_iload_n (pc := 25) F dX9_asking_25 rfl 0 rfl ?_
    refine g_bipush (pc := 26) F dX9_asking_26 bp_m9 ?_
    refine g_icmp_ne (pc := 28) F 35 dX9_asking_28 (by decide) (fun c => ?_) (fun c => ?_)
    · have h := h.1 c
      refine g_aload_n (pc := 35) F dX9_asking_35 rfl 1 rfl ?_
      refine g_getR (pc := 36) F clX9 (sh_0 hV) 10 _ rfl (by decide) uX9_68 dX9_asking_36 ?_
      refine g_getR (pc := 39) F clX0 (is_86 hV).1 2 _ rfl (by decide) uX9_208 dX9_asking_39 ?_
      refine g_iload_n (pc := 42) F dX9_asking_42 rfl 2 rfl ?_
      obtain ⟨hb_43, h⟩ := h
      refine g_iald (pc := 43) F (is_86 hV).2 hb_43 dX9_asking_43 ?_
      exact hR _ _ _ _ dX9_asking_44 h
    · have h := h.2 c
      exact g_weak [0] rfl (bX9_asking_31 F hR hV h)
def wX9_asking (x1 : Int32) (s : St) (Q : Int32 → St → Prop) : Prop :=
  ((x1 = (-1 : Int32) → wX9_asking_15 Q x1 s) ∧ (¬ x1 = (-1 : Int32) → wX9_isLane x1 s (fun r_7 s_7 => ((¬ r_7 = 0 → wX9_asking_15 Q x1 s_7) ∧ (r_7 = 0 → Q (-1 : Int32) s_7)))))
set_option maxHeartbeats 4000000 in
set_option maxRecDepth 100000 in
theorem mX9_asking {l : Launch} {V : Wv} {x1 : Int32} {s : St} {Q : Int32 → St → Prop} (hV : V.2.1 = DESC) (h : wX9_asking x1 s Q) : Ci yX9_asking cX9_asking 3 (some .int) (13) l V [rf V 0, .int x1] s Q := by
  unfold wX9_asking at h
  refine Ci.of mvX9_asking.1 (Nat.le_of_ble_eq_true rfl) (fun X F hR => ?_)
  refine g_lv (lv' := [(_, _), (_, _)]) rfl ?_
  refine g_iload_n (pc := 0) F dX9_asking_0 rfl 1 rfl ?_
  refine g_iconst (pc := 1) F dX9_asking_1 ic_m1 ?_
  refine g_icmp_eq (pc := 2) F 15 dX9_asking_2 (by decide) (fun c => ?_) (fun c => ?_)
  · have h := h.1 c
    exact g_weak [0, 1] rfl (bX9_asking_15 F hR hV h)
  · have h := h.2 c
    refine g_aload_n (pc := 5) F dX9_asking_5 rfl 0 rfl ?_
    refine g_iload_n (pc := 6) F dX9_asking_6 rfl 1 rfl ?_
    refine g_callVi (pc := 7) F (mX9_isLane hV h) mvX9_isLane uX9_121 (by decide) clX9 (sh_0 hV) rfl rfl (Nat.le_of_ble_eq_true rfl) dX9_asking_7 (fun r_7 s_7 h => ?_)
    refine g_if_ne (pc := 10) F 15 dX9_asking_10 (by decide) (fun c => ?_) (fun c => ?_)
    · have h := h.1 c
      exact g_weak [0, 1] rfl (bX9_asking_15 F hR hV h)
    · have h := h.2 c
      refine g_iconst (pc := 13) F dX9_asking_13 ic_m1 ?_
      exact hR _ _ _ _ dX9_asking_14 h
def wX9_canHold (x1 : Int64) (s : St) (Q : Int32 → St → Prop) : Prop :=
  IsG s.2.2.1 ∧ wX4_begin 72 s.2.2.1 21 14 6 x1 s (fun s_20 => wX4_findFirst 72 (1000 : Int32) s_20 (fun r_30 s_30 => (isB r_30 ∧ Q r_30 s_30)))
set_option maxHeartbeats 4000000 in
set_option maxRecDepth 100000 in
theorem mX9_canHold {l : Launch} {V : Wv} {x1 : Int64} {s : St} {Q : Int32 → St → Prop} (hV : V.2.1 = DESC) (h : wX9_canHold x1 s Q) : Ci yX9_canHold cX9_canHold 3 (some .boolean) (11) l V [rf V 0, .long x1] s Q := by
  unfold wX9_canHold at h
  refine Cz.of mvX9_canHold.1 (Nat.le_of_ble_eq_true rfl) (fun X F hR => ?_)
  refine g_lv (lv' := [(_, _), (_, _)]) rfl ?_
  refine g_aload_n (pc := 0) F dX9_canHold_0 rfl 0 rfl ?_
  refine g_getR (pc := 1) F clX9 (sh_0 hV) 9 _ rfl (by decide) uX9_61 dX9_canHold_1 ?_
  refine g_aload_n (pc := 4) F dX9_canHold_4 rfl 0 rfl ?_
  obtain ⟨hg_5, h⟩ := h
  refine g_getG (pc := 5) F clX9 (sh_0 hV) 1 rfl (by decide) uX9_19 dX9_canHold_5 ?_
  refine g_aload_n (pc := 8) F dX9_canHold_8 rfl 0 rfl ?_
  refine g_getR (pc := 9) F clX9 (sh_0 hV) 5 _ rfl (by decide) uX9_39 dX9_canHold_9 ?_
  refine g_aload_n (pc := 12) F dX9_canHold_12 rfl 0 rfl ?_
  refine g_getR (pc := 13) F clX9 (sh_0 hV) 3 _ rfl (by decide) uX9_29 dX9_canHold_13 ?_
  refine g_getR (pc := 16) F clX2 (is_13 hV).1 0 _ rfl (by decide) uX9_131 dX9_canHold_16 ?_
  refine g_lload_n (pc := 19) F dX9_canHold_19 rfl 1 rfl ?_
  refine g_callVv (pc := 20) F (mX4_begin (is_72 hV) (is_gr hV hg_5) (is_21 hV) (is_13 hV).2.1 h) mvX4_begin uX9_294 (by decide) clX4 (is_72 hV).1 rfl rfl (Nat.le_of_ble_eq_true rfl) dX9_canHold_20 (fun s_20 h => ?_)
  refine g_aload_n (pc := 23) F dX9_canHold_23 rfl 0 rfl ?_
  refine g_getR (pc := 24) F clX9 (sh_0 hV) 9 _ rfl (by decide) uX9_61 dX9_canHold_24 ?_
  refine g_sipush (pc := 27) F dX9_canHold_27 sp_1000 ?_
  refine g_callVi (pc := 30) F (mX4_findFirst (is_72 hV) h) mvX4_findFirst uX9_301 (by decide) clX4 (is_72 hV).1 rfl rfl (Nat.le_of_ble_eq_true rfl) dX9_canHold_30 (fun r_30 s_30 h => ?_)
  exact hR _ _ _ _ dX9_canHold_33 h.1 h.2
def wX9_partsStand_38 (rec : Int32 → St → Prop) (Q : Int32 → St → Prop) (x1 : Int32) (x2 : Int32) (x3 : Int32) (s : St) : Prop :=
  rec (x3 + (1 : Int32)) s
set_option maxHeartbeats 4000000 in
set_option maxRecDepth 100000 in
theorem bX9_partsStand_38 {l : Launch} {V : Wv} {X : Mx} {rec : Int32 → St → Prop} {Q : Int32 → St → Prop} {x1 : Int32} {x2 : Int32} {x3 : Int32} (F : Fx V X cX9_partsStand RX9 4 0) (hR : RtZ l V X 4 cX9_partsStand Q) (hV : V.2.1 = DESC) (hrec : ∀ (y3 : Int32) (s : St), rec y3 s → G l V X 4 2 [(0, rf V 0), (1, .int x1), (2, .int x2), (3, .int y3)] [] s) {s : St} (h : wX9_partsStand_38 rec Q x1 x2 x3 s) : G l V X 4 38 [(0, rf V 0), (1, .int x1), (2, .int x2), (3, .int x3)] [] s := by
  unfold wX9_partsStand_38 at h
  refine g_iinc (pc := 38) (lv' := [(_, _), (_, _), (_, _), (_, _)]) F dX9_partsStand_38 3 rfl (congrArg _ ic_1) (by decide) rfl ?_
  refine g_goto (pc := 41) F 2 dX9_partsStand_41 (by decide) ?_
  exact g_weak [1, 2, 3, 0] rfl (hrec _ _ h)
def wX9_partsStand_2 (x1 : Int32) (x2 : Int32) (Q : Int32 → St → Prop) : Nat → Int32 → St → Prop
  | 0, _, _ => False
  | n + 1, x3, s =>
  (((s.1 13 3) ≤ x3 → Q (1 : Int32) s) ∧ (¬ (s.1 13 3) ≤ x3 → ((¬ ((x2 >>> (x3 &&& 31)) &&& (1 : Int32)) = (1 : Int32) → wX9_partsStand_38 (wX9_partsStand_2 x1 x2 Q n) Q x1 x2 x3 s) ∧ (((x2 >>> (x3 &&& 31)) &&& (1 : Int32)) = (1 : Int32) → ((¬ ((x1 >>> ((x2 &&& (((1 : Int32) <<< (x3 &&& 31)) ^^^ (-1 : Int32))) &&& 31)) &&& (1 : Int32)) = 0 → wX9_partsStand_38 (wX9_partsStand_2 x1 x2 Q n) Q x1 x2 x3 s) ∧ (((x1 >>> ((x2 &&& (((1 : Int32) <<< (x3 &&& 31)) ^^^ (-1 : Int32))) &&& 31)) &&& (1 : Int32)) = 0 → Q (0 : Int32) s))))))
set_option maxHeartbeats 4000000 in
set_option maxRecDepth 100000 in
theorem bX9_partsStand_2 {l : Launch} {V : Wv} {X : Mx} {x1 : Int32} {x2 : Int32} {Q : Int32 → St → Prop} (F : Fx V X cX9_partsStand RX9 4 0) (hR : RtZ l V X 4 cX9_partsStand Q) (hV : V.2.1 = DESC)  : ∀ (n : Nat) (x3 : Int32) (s : St), wX9_partsStand_2 x1 x2 Q n x3 s → G l V X 4 2 [(0, rf V 0), (1, .int x1), (2, .int x2), (3, .int x3)] [] s := by
  intro n
  induction n with
  | zero => intro x3 s h; unfold wX9_partsStand_2 at h; exact h.elim
  | succ n ih =>
    intro x3 s h
    unfold wX9_partsStand_2 at h
    refine g_iload_n (pc := 2) F dX9_partsStand_2 rfl 3 rfl ?_
    refine g_aload_n (pc := 3) F dX9_partsStand_3 rfl 0 rfl ?_
    refine g_getR (pc := 4) F clX9 (sh_0 hV) 3 _ rfl (by decide) uX9_29 dX9_partsStand_4 ?_
    refine g_getI (pc := 7) F clX2 (is_13 hV).1 3 rfl (by decide) uX9_174 dX9_partsStand_7 ?_
    refine g_icmp_ge (pc := 10) F 44 dX9_partsStand_10 (by decide) (fun c => ?_) (fun c => ?_)
    · have h := h.1 c
      refine g_iconst (pc := 44) F dX9_partsStand_44 ic_1 ?_
      exact hR _ _ _ _ dX9_partsStand_45 (Or.inr rfl) h
    · have h := h.2 c
      refine g_iload_n (pc := 13) F dX9_partsStand_13 rfl 2 rfl ?_
      refine g_iload_n (pc := 14) F dX9_partsStand_14 rfl 3 rfl ?_
      refine g_ishr (pc := 15) F dX9_partsStand_15 ?_
      refine g_iconst (pc := 16) F dX9_partsStand_16 ic_1 ?_
      refine g_iand (pc := 17) F dX9_partsStand_17 ?_
      refine g_iconst (pc := 18) F dX9_partsStand_18 ic_1 ?_
      refine g_icmp_ne (pc := 19) F 38 dX9_partsStand_19 (by decide) (fun c => ?_) (fun c => ?_)
      · have h := h.1 c
        exact g_weak [0, 1, 2, 3] rfl (bX9_partsStand_38 F hR hV ih h)
      · have h := h.2 c
        refine g_iload_n (pc := 22) F dX9_partsStand_22 rfl 1 rfl ?_
        refine g_iload_n (pc := 23) F dX9_partsStand_23 rfl 2 rfl ?_
        refine g_iconst (pc := 24) F dX9_partsStand_24 ic_1 ?_
        refine g_iload_n (pc := 25) F dX9_partsStand_25 rfl 3 rfl ?_
        refine g_ishl (pc := 26) F dX9_partsStand_26 ?_
        refine g_iconst (pc := 27) F dX9_partsStand_27 ic_m1 ?_
        refine g_ixor (pc := 28) F dX9_partsStand_28 ?_
        refine g_iand (pc := 29) F dX9_partsStand_29 ?_
        refine g_ishr (pc := 30) F dX9_partsStand_30 ?_
        refine g_iconst (pc := 31) F dX9_partsStand_31 ic_1 ?_
        refine g_iand (pc := 32) F dX9_partsStand_32 ?_
        refine g_if_ne (pc := 33) F 38 dX9_partsStand_33 (by decide) (fun c => ?_) (fun c => ?_)
        · have h := h.1 c
          exact g_weak [0, 1, 2, 3] rfl (bX9_partsStand_38 F hR hV ih h)
        · have h := h.2 c
          refine g_iconst (pc := 36) F dX9_partsStand_36 ic_0 ?_
          exact hR _ _ _ _ dX9_partsStand_37 (Or.inl rfl) h
def wX9_partsStand (x1 : Int32) (x2 : Int32) (s : St) (Q : Int32 → St → Prop) : Prop :=
  (∃ k_2, wX9_partsStand_2  x1 x2  Q k_2 (0 : Int32) s)
set_option maxHeartbeats 4000000 in
set_option maxRecDepth 100000 in
theorem mX9_partsStand {l : Launch} {V : Wv} {x1 : Int32} {x2 : Int32} {s : St} {Q : Int32 → St → Prop} (hV : V.2.1 = DESC) (h : wX9_partsStand x1 x2 s Q) : Ci yX9_partsStand cX9_partsStand 4 (some .boolean) (0) l V [rf V 0, .int x1, .int x2] s Q := by
  unfold wX9_partsStand at h
  refine Cz.of mvX9_partsStand.1 (Nat.le_of_ble_eq_true rfl) (fun X F hR => ?_)
  refine g_lv (lv' := [(_, _), (_, _), (_, _)]) rfl ?_
  refine g_iconst (pc := 0) F dX9_partsStand_0 ic_0 ?_
  refine g_istore_n (pc := 1) (lv' := [(_, _), (_, _), (_, _), (_, _)]) F dX9_partsStand_1 rfl (by decide) rfl ?_
  obtain ⟨k_2, h⟩ := h
  refine g_weak [1, 2, 3, 0] rfl (bX9_partsStand_2 F hR hV k_2 _ _ h)
def wX9_standing_61 (rec : Int32 → Int32 → St → Prop) (Q : Int32 → St → Prop) (x1 : Int32) (x2 : Int32) (x3 : Int32) (s : St) : Prop :=
  rec x2 (x3 + (1 : Int32)) s
set_option maxHeartbeats 4000000 in
set_option maxRecDepth 100000 in
theorem bX9_standing_61 {l : Launch} {V : Wv} {X : Mx} {rec : Int32 → Int32 → St → Prop} {Q : Int32 → St → Prop} {x1 : Int32} {x2 : Int32} {x3 : Int32} (F : Fx V X cX9_standing RX9 4 12) (hR : RtI l V X 4 cX9_standing Q) (hV : V.2.1 = DESC) (hrec : ∀ (y2 : Int32) (y3 : Int32) (s : St), rec y2 y3 s → G l V X 4 29 [(0, rf V 0), (1, .int x1), (2, .int y2), (3, .int y3)] [] s) {s : St} (h : wX9_standing_61 rec Q x1 x2 x3 s) : G l V X 4 61 [(0, rf V 0), (1, .int x1), (2, .int x2), (3, .int x3)] [] s := by
  unfold wX9_standing_61 at h
  refine g_iinc (pc := 61) (lv' := [(_, _), (_, _), (_, _), (_, _)]) F dX9_standing_61 3 rfl (congrArg _ ic_1) (by decide) rfl ?_
  refine g_goto (pc := 64) F 29 dX9_standing_64 (by decide) ?_
  exact g_weak [1, 2, 3, 0] rfl (hrec _ _ _ h)
def wX9_standing_29 (x1 : Int32) (Q : Int32 → St → Prop) : Nat → Int32 → Int32 → St → Prop
  | 0, _, _, _ => False
  | n + 1, x2, x3, s =>
  ((x1 ≤ x3 → Q x2 s) ∧ (¬ x1 ≤ x3 → wX9_partsStand x2 x3 s (fun r_37 s_37 => ((r_37 = 0 → wX9_standing_61 (wX9_standing_29 x1 Q n) Q x1 x2 x3 s_37) ∧ (¬ r_37 = 0 → wX9_waysOf x3 s_37 (fun r_46 s_46 => wX9_canHold r_46 s_46 (fun r_49 s_49 => ((r_49 = 0 → wX9_standing_61 (wX9_standing_29 x1 Q n) Q x1 x2 x3 s_49) ∧ (¬ r_49 = 0 → wX9_standing_61 (wX9_standing_29 x1 Q n) Q x1 (x2 ||| ((1 : Int32) <<< (x3 &&& 31))) x3 s_49)))))))))
set_option maxHeartbeats 4000000 in
set_option maxRecDepth 100000 in
theorem bX9_standing_29 {l : Launch} {V : Wv} {X : Mx} {x1 : Int32} {Q : Int32 → St → Prop} (F : Fx V X cX9_standing RX9 4 12) (hR : RtI l V X 4 cX9_standing Q) (hV : V.2.1 = DESC)  : ∀ (n : Nat) (x2 : Int32) (x3 : Int32) (s : St), wX9_standing_29 x1 Q n x2 x3 s → G l V X 4 29 [(0, rf V 0), (1, .int x1), (2, .int x2), (3, .int x3)] [] s := by
  intro n
  induction n with
  | zero => intro x2 x3 s h; unfold wX9_standing_29 at h; exact h.elim
  | succ n ih =>
    intro x2 x3 s h
    unfold wX9_standing_29 at h
    refine g_iload_n (pc := 29) F dX9_standing_29 rfl 3 rfl ?_
    refine g_iload_n (pc := 30) F dX9_standing_30 rfl 1 rfl ?_
    refine g_icmp_ge (pc := 31) F 67 dX9_standing_31 (by decide) (fun c => ?_) (fun c => ?_)
    · have h := h.1 c
      refine g_iload_n (pc := 67) F dX9_standing_67 rfl 2 rfl ?_
      exact hR _ _ _ _ dX9_standing_68 h
    · have h := h.2 c
      refine g_aload_n (pc := 34) F dX9_standing_34 rfl 0 rfl ?_
      refine g_iload_n (pc := 35) F dX9_standing_35 rfl 2 rfl ?_
      refine g_iload_n (pc := 36) F dX9_standing_36 rfl 3 rfl ?_
      refine g_callVi (pc := 37) F (mX9_partsStand hV h) mvX9_partsStand uX9_312 (by decide) clX9 (sh_0 hV) rfl rfl (Nat.le_of_ble_eq_true rfl) dX9_standing_37 (fun r_37 s_37 h => ?_)
      refine g_if_eq (pc := 40) F 61 dX9_standing_40 (by decide) (fun c => ?_) (fun c => ?_)
      · have h := h.1 c
        exact g_weak [0, 1, 2, 3] rfl (bX9_standing_61 F hR hV ih h)
      · have h := h.2 c
        refine g_aload_n (pc := 43) F dX9_standing_43 rfl 0 rfl ?_
        refine g_aload_n (pc := 44) F dX9_standing_44 rfl 0 rfl ?_
        refine g_iload_n (pc := 45) F dX9_standing_45 rfl 3 rfl ?_
        refine g_callVl (pc := 46) F (mX9_waysOf hV h) mvX9_waysOf uX9_261 (by decide) clX9 (sh_0 hV) rfl rfl (Nat.le_of_ble_eq_true rfl) dX9_standing_46 (fun r_46 s_46 h => ?_)
        refine g_callVi (pc := 49) F (mX9_canHold hV h) mvX9_canHold uX9_308 (by decide) clX9 (sh_0 hV) rfl rfl (Nat.le_of_ble_eq_true rfl) dX9_standing_49 (fun r_49 s_49 h => ?_)
        refine g_if_eq (pc := 52) F 61 dX9_standing_52 (by decide) (fun c => ?_) (fun c => ?_)
        · have h := h.1 c
          exact g_weak [0, 1, 2, 3] rfl (bX9_standing_61 F hR hV ih h)
        · have h := h.2 c
          refine g_iload_n (pc := 55) F dX9_standing_55 rfl 2 rfl ?_
          refine g_iconst (pc := 56) F dX9_standing_56 ic_1 ?_
          refine g_iload_n (pc := 57) F dX9_standing_57 rfl 3 rfl ?_
          refine g_ishl (pc := 58) F dX9_standing_58 ?_
          refine g_ior (pc := 59) F dX9_standing_59 ?_
          refine g_istore_n (pc := 60) (lv' := [(_, _), (_, _), (_, _), (_, _)]) F dX9_standing_60 rfl (by decide) rfl ?_
          exact g_weak [1, 2, 0, 3] rfl (bX9_standing_61 F hR hV ih h)
def wX9_standing  (s : St) (Q : Int32 → St → Prop) : Prop :=
  wX9_allMaps  s (fun r_1 s_1 => wX9_waysOf r_1 s_1 (fun r_8 s_8 => wX9_canHold r_8 s_8 (fun r_11 s_11 => ((r_11 = 0 → (∃ k_29, wX9_standing_29  r_1  Q k_29 (0 : Int32) (0 : Int32) s_11)) ∧ (¬ r_11 = 0 → Q (((1 : Int32) <<< ((r_1 + (1 : Int32)) &&& 31)) - (1 : Int32)) s_11)))))
set_option maxHeartbeats 4000000 in
set_option maxRecDepth 100000 in
theorem mX9_standing {l : Launch} {V : Wv}  {s : St} {Q : Int32 → St → Prop} (hV : V.2.1 = DESC) (h : wX9_standing  s Q) : Ci yX9_standing cX9_standing 4 (some .int) (12) l V [rf V 0] s Q := by
  unfold wX9_standing at h
  refine Ci.of mvX9_standing.1 (Nat.le_of_ble_eq_true rfl) (fun X F hR => ?_)
  refine g_lv (lv' := [(_, _)]) rfl ?_
  refine g_aload_n (pc := 0) F dX9_standing_0 rfl 0 rfl ?_
  refine g_callVi (pc := 1) F (mX9_allMaps hV h) mvX9_allMaps uX9_258 (by decide) clX9 (sh_0 hV) rfl rfl (Nat.le_of_ble_eq_true rfl) dX9_standing_1 (fun r_1 s_1 h => ?_)
  refine g_istore_n (pc := 4) (lv' := [(_, _), (_, _)]) F dX9_standing_4 rfl (by decide) rfl ?_
  refine g_aload_n (pc := 5) F dX9_standing_5 rfl 1 rfl ?_
  refine g_aload_n (pc := 6) F dX9_standing_6 rfl 1 rfl ?_
  refine g_iload_n (pc := 7) F dX9_standing_7 rfl 0 rfl ?_
  refine g_callVl (pc := 8) F (mX9_waysOf hV h) mvX9_waysOf uX9_261 (by decide) clX9 (sh_0 hV) rfl rfl (Nat.le_of_ble_eq_true rfl) dX9_standing_8 (fun r_8 s_8 h => ?_)
  refine g_callVi (pc := 11) F (mX9_canHold hV h) mvX9_canHold uX9_308 (by decide) clX9 (sh_0 hV) rfl rfl (Nat.le_of_ble_eq_true rfl) dX9_standing_11 (fun r_11 s_11 h => ?_)
  refine g_if_eq (pc := 14) F 25 dX9_standing_14 (by decide) (fun c => ?_) (fun c => ?_)
  · have h := h.1 c
    refine g_iconst (pc := 25) F dX9_standing_25 ic_0 ?_
    refine g_istore_n (pc := 26) (lv' := [(_, _), (_, _), (_, _)]) F dX9_standing_26 rfl (by decide) rfl ?_
    refine g_iconst (pc := 27) F dX9_standing_27 ic_0 ?_
    refine g_istore_n (pc := 28) (lv' := [(_, _), (_, _), (_, _), (_, _)]) F dX9_standing_28 rfl (by decide) rfl ?_
    obtain ⟨k_29, h⟩ := h
    refine g_weak [3, 2, 1, 0] rfl (bX9_standing_29 F hR hV k_29 _ _ _ h)
  · have h := h.2 c
    refine g_iconst (pc := 17) F dX9_standing_17 ic_1 ?_
    refine g_iload_n (pc := 18) F dX9_standing_18 rfl 0 rfl ?_
    refine g_iconst (pc := 19) F dX9_standing_19 ic_1 ?_
    refine g_iadd (pc := 20) F dX9_standing_20 ?_
    refine g_ishl (pc := 21) F dX9_standing_21 ?_
    refine g_iconst (pc := 22) F dX9_standing_22 ic_1 ?_
    refine g_isub (pc := 23) F dX9_standing_23 ?_
    exact hR _ _ _ _ dX9_standing_24 h
def wX9_clash_59 (rec : Int32 → Int32 → St → Prop) (Q : Int32 → St → Prop) (x1 : Int32) (x2 : Int32) (x3 : Int32) (s : St) : Prop :=
  rec x2 (x3 + (1 : Int32)) s
set_option maxHeartbeats 4000000 in
set_option maxRecDepth 100000 in
theorem bX9_clash_59 {l : Launch} {V : Wv} {X : Mx} {rec : Int32 → Int32 → St → Prop} {Q : Int32 → St → Prop} {x1 : Int32} {x2 : Int32} {x3 : Int32} (F : Fx V X cX9_clash RX9 5 13) (hR : RtI l V X 5 cX9_clash Q) (hV : V.2.1 = DESC) (hrec : ∀ (y2 : Int32) (y3 : Int32) (s : St), rec y2 y3 s → G l V X 5 9 [(0, rf V 0), (1, .int x1), (2, .int y2), (3, .int y3)] [] s) {s : St} (h : wX9_clash_59 rec Q x1 x2 x3 s) : G l V X 5 59 [(0, rf V 0), (1, .int x1), (2, .int x2), (3, .int x3)] [] s := by
  unfold wX9_clash_59 at h
  refine g_iinc (pc := 59) (lv' := [(_, _), (_, _), (_, _), (_, _)]) F dX9_clash_59 3 rfl (congrArg _ ic_1) (by decide) rfl ?_
  refine g_goto (pc := 62) F 9 dX9_clash_62 (by decide) ?_
  exact g_weak [1, 2, 3, 0] rfl (hrec _ _ _ h)
def wX9_clash_42 (rec : Int32 → Int32 → St → Prop) (Q : Int32 → St → Prop) (x1 : Int32) (x2 : Int32) (x3 : Int32) (t0 : Int32) (s : St) : Prop :=
  ((¬ ((x1 >>> (x3 &&& 31)) &&& (1 : Int32)) = 0 → wX9_clash_59 (rec) Q x1 x2 x3 s) ∧ (((x1 >>> (x3 &&& 31)) &&& (1 : Int32)) = 0 → ((t0 = 0 → wX9_clash_59 (rec) Q x1 x2 x3 s) ∧ (¬ t0 = 0 → wX9_clash_59 (rec) Q x1 x3 x3 s))))
set_option maxHeartbeats 4000000 in
set_option maxRecDepth 100000 in
theorem bX9_clash_42 {l : Launch} {V : Wv} {X : Mx} {rec : Int32 → Int32 → St → Prop} {Q : Int32 → St → Prop} {x1 : Int32} {x2 : Int32} {x3 : Int32} {t0 : Int32} (F : Fx V X cX9_clash RX9 5 13) (hR : RtI l V X 5 cX9_clash Q) (hV : V.2.1 = DESC) (hrec : ∀ (y2 : Int32) (y3 : Int32) (s : St), rec y2 y3 s → G l V X 5 9 [(0, rf V 0), (1, .int x1), (2, .int y2), (3, .int y3)] [] s) {s : St} (h : wX9_clash_42 rec Q x1 x2 x3 t0 s) : G l V X 5 42 [(0, rf V 0), (1, .int x1), (2, .int x2), (3, .int x3)] [.int t0] s := by
  unfold wX9_clash_42 at h
  refine g_istore (pc := 42) (lv' := [(_, _), (_, _), (_, _), (_, _), (_, _)]) F dX9_clash_42 (by decide) rfl ?_
  refine g_iload_n (pc := 44) F dX9_clash_44 rfl 2 rfl ?_
  refine g_iload_n (pc := 45) F dX9_clash_45 rfl 4 rfl ?_
  refine g_ishr (pc := 46) F dX9_clash_46 ?_
  refine g_iconst (pc := 47) F dX9_clash_47 ic_1 ?_
  refine g_iand (pc := 48) F dX9_clash_48 ?_
  refine g_if_ne (pc := 49) F 59 dX9_clash_49 (by decide) (fun c => ?_) (fun c => ?_)
  · have h := h.1 c
    exact g_weak [1, 2, 3, 4] rfl (bX9_clash_59 F hR hV hrec h)
  · have h := h.2 c
    refine g_iload (pc := 52) F dX9_clash_52 0 rfl ?_
    refine g_if_eq (pc := 54) F 59 dX9_clash_54 (by decide) (fun c => ?_) (fun c => ?_)
    · have h := h.1 c
      exact g_weak [1, 2, 3, 4] rfl (bX9_clash_59 F hR hV hrec h)
    · have h := h.2 c
      refine g_iload_n (pc := 57) F dX9_clash_57 rfl 4 rfl ?_
      refine g_istore_n (pc := 58) (lv' := [(_, _), (_, _), (_, _), (_, _), (_, _)]) F dX9_clash_58 rfl (by decide) rfl ?_
      exact g_weak [2, 3, 0, 4] rfl (bX9_clash_59 F hR hV hrec h)
def wX9_clash_37 (rec : Int32 → Int32 → St → Prop) (Q : Int32 → St → Prop) (x1 : Int32) (x2 : Int32) (x3 : Int32) (s : St) : Prop :=
  wX9_clash_42 (rec) Q x1 x2 x3 (1 : Int32) s
set_option maxHeartbeats 4000000 in
set_option maxRecDepth 100000 in
theorem bX9_clash_37 {l : Launch} {V : Wv} {X : Mx} {rec : Int32 → Int32 → St → Prop} {Q : Int32 → St → Prop} {x1 : Int32} {x2 : Int32} {x3 : Int32} (F : Fx V X cX9_clash RX9 5 13) (hR : RtI l V X 5 cX9_clash Q) (hV : V.2.1 = DESC) (hrec : ∀ (y2 : Int32) (y3 : Int32) (s : St), rec y2 y3 s → G l V X 5 9 [(0, rf V 0), (1, .int x1), (2, .int y2), (3, .int y3)] [] s) {s : St} (h : wX9_clash_37 rec Q x1 x2 x3 s) : G l V X 5 37 [(0, rf V 0), (1, .int x1), (2, .int x2), (3, .int x3)] [] s := by
  unfold wX9_clash_37 at h
  refine g_iconst (pc := 37) F dX9_clash_37 ic_1 ?_
  refine g_goto (pc := 38) F 42 dX9_clash_38 (by decide) ?_
  exact g_weak [0, 1, 2, 3] rfl (bX9_clash_42 F hR hV hrec h)
def wX9_clash_9 (x1 : Int32) (Q : Int32 → St → Prop) : Nat → Int32 → Int32 → St → Prop
  | 0, _, _, _ => False
  | n + 1, x2, x3, s =>
  ((((1 : Int32) <<< ((s.1 13 3) &&& 31)) ≤ x3 → Q x2 s) ∧ (¬ ((1 : Int32) <<< ((s.1 13 3) &&& 31)) ≤ x3 → ((x2 = 0 → wX9_clash_37 (wX9_clash_9 x1 Q n) Q x1 x2 x3 s) ∧ (¬ x2 = 0 → wJ6_bitCount_0f7a4 x3 s (fun r_27 s_27 => wJ6_bitCount_0f7a4 x2 s_27 (fun r_31 s_31 => ((r_31 ≤ r_27 → wX9_clash_42 (wX9_clash_9 x1 Q n) Q x1 x2 x3 (0 : Int32) s_31) ∧ (¬ r_31 ≤ r_27 → wX9_clash_37 (wX9_clash_9 x1 Q n) Q x1 x2 x3 s_31))))))))
set_option maxHeartbeats 4000000 in
set_option maxRecDepth 100000 in
theorem bX9_clash_9 {l : Launch} {V : Wv} {X : Mx} {x1 : Int32} {Q : Int32 → St → Prop} (F : Fx V X cX9_clash RX9 5 13) (hR : RtI l V X 5 cX9_clash Q) (hV : V.2.1 = DESC)  : ∀ (n : Nat) (x2 : Int32) (x3 : Int32) (s : St), wX9_clash_9 x1 Q n x2 x3 s → G l V X 5 9 [(0, rf V 0), (1, .int x1), (2, .int x2), (3, .int x3)] [] s := by
  intro n
  induction n with
  | zero => intro x2 x3 s h; unfold wX9_clash_9 at h; exact h.elim
  | succ n ih =>
    intro x2 x3 s h
    unfold wX9_clash_9 at h
    refine g_iload_n (pc := 9) F dX9_clash_9 rfl 3 rfl ?_
    refine g_iconst (pc := 10) F dX9_clash_10 ic_1 ?_
    refine g_aload_n (pc := 11) F dX9_clash_11 rfl 0 rfl ?_
    refine g_getR (pc := 12) F clX9 (sh_0 hV) 3 _ rfl (by decide) uX9_29 dX9_clash_12 ?_
    refine g_getI (pc := 15) F clX2 (is_13 hV).1 3 rfl (by decide) uX9_174 dX9_clash_15 ?_
    refine g_ishl (pc := 18) F dX9_clash_18 ?_
    refine g_icmp_ge (pc := 19) F 65 dX9_clash_19 (by decide) (fun c => ?_) (fun c => ?_)
    · have h := h.1 c
      refine g_iload_n (pc := 65) F dX9_clash_65 rfl 2 rfl ?_
      exact hR _ _ _ _ dX9_clash_66 h
    · have h := h.2 c
      refine g_iload_n (pc := 22) F dX9_clash_22 rfl 2 rfl ?_
      refine g_if_eq (pc := 23) F 37 dX9_clash_23 (by decide) (fun c => ?_) (fun c => ?_)
      · have h := h.1 c
        exact g_weak [0, 1, 2, 3] rfl (bX9_clash_37 F hR hV ih h)
      · have h := h.2 c
        refine g_iload_n (pc := 26) F dX9_clash_26 rfl 3 rfl ?_
        refine g_callSi (pc := 27) F (mJ6_bitCount_0f7a4  h) mvJ6_bitCount_0f7a4 uX9_253 (by decide)  rfl rfl (Nat.le_of_ble_eq_true rfl) dX9_clash_27 (fun r_27 s_27 h => ?_)
        refine g_iload_n (pc := 30) F dX9_clash_30 rfl 2 rfl ?_
        refine g_callSi (pc := 31) F (mJ6_bitCount_0f7a4  h) mvJ6_bitCount_0f7a4 uX9_253 (by decide)  rfl rfl (Nat.le_of_ble_eq_true rfl) dX9_clash_31 (fun r_31 s_31 h => ?_)
        refine g_icmp_ge (pc := 34) F 41 dX9_clash_34 (by decide) (fun c => ?_) (fun c => ?_)
        · have h := h.1 c
          refine g_iconst (pc := 41) F dX9_clash_41 ic_0 ?_
          exact g_weak [0, 1, 2, 3] rfl (bX9_clash_42 F hR hV ih h)
        · have h := h.2 c
          exact g_weak [0, 1, 2, 3] rfl (bX9_clash_37 F hR hV ih h)
def wX9_clash  (s : St) (Q : Int32 → St → Prop) : Prop :=
  wX9_standing  s (fun r_1 s_1 => (∃ k_9, wX9_clash_9  r_1  Q k_9 (0 : Int32) (1 : Int32) s_1))
set_option maxHeartbeats 4000000 in
set_option maxRecDepth 100000 in
theorem mX9_clash {l : Launch} {V : Wv}  {s : St} {Q : Int32 → St → Prop} (hV : V.2.1 = DESC) (h : wX9_clash  s Q) : Ci yX9_clash cX9_clash 5 (some .int) (13) l V [rf V 0] s Q := by
  unfold wX9_clash at h
  refine Ci.of mvX9_clash.1 (Nat.le_of_ble_eq_true rfl) (fun X F hR => ?_)
  refine g_lv (lv' := [(_, _)]) rfl ?_
  refine g_aload_n (pc := 0) F dX9_clash_0 rfl 0 rfl ?_
  refine g_callVi (pc := 1) F (mX9_standing hV h) mvX9_standing uX9_250 (by decide) clX9 (sh_0 hV) rfl rfl (Nat.le_of_ble_eq_true rfl) dX9_clash_1 (fun r_1 s_1 h => ?_)
  refine g_istore_n (pc := 4) (lv' := [(_, _), (_, _)]) F dX9_clash_4 rfl (by decide) rfl ?_
  refine g_iconst (pc := 5) F dX9_clash_5 ic_0 ?_
  refine g_istore_n (pc := 6) (lv' := [(_, _), (_, _), (_, _)]) F dX9_clash_6 rfl (by decide) rfl ?_
  refine g_iconst (pc := 7) F dX9_clash_7 ic_1 ?_
  refine g_istore_n (pc := 8) (lv' := [(_, _), (_, _), (_, _), (_, _)]) F dX9_clash_8 rfl (by decide) rfl ?_
  obtain ⟨k_9, h⟩ := h
  refine g_weak [3, 2, 1, 0] rfl (bX9_clash_9 F hR hV k_9 _ _ _ h)
def wX9_fire_84 (rec : Int32 → Int32 → Int32 → St → Prop) (K90 : Int32 → Int32 → St → Prop) (Q : Int32 → St → Prop) (x1 : Int32) (x2 : Int32) (x3 : Int32) (x4 : Int32) (s : St) : Prop :=
  rec x2 x3 (x4 + (1 : Int32)) s
set_option maxHeartbeats 4000000 in
set_option maxRecDepth 100000 in
theorem bX9_fire_84 {l : Launch} {V : Wv} {X : Mx} {rec : Int32 → Int32 → Int32 → St → Prop} {K90 : Int32 → Int32 → St → Prop} {Q : Int32 → St → Prop} {x1 : Int32} {x2 : Int32} {x3 : Int32} {x4 : Int32} (F : Fx V X cX9_fire RX9 6 12) (hR : RtI l V X 6 cX9_fire Q) (hV : V.2.1 = DESC) (hrec : ∀ (y2 : Int32) (y3 : Int32) (y4 : Int32) (s : St), rec y2 y3 y4 s → G l V X 6 20 [(0, rf V 0), (1, .int x1), (2, .int y2), (3, .int y3), (4, .int y4)] [] s) (hK90 : ∀ (y2 : Int32) (y3 : Int32) (s : St), K90 y2 y3 s → G l V X 6 90 [(1, .int x1), (2, .int y2), (3, .int y3)] [] s) {s : St} (h : wX9_fire_84 rec K90 Q x1 x2 x3 x4 s) : G l V X 6 84 [(0, rf V 0), (1, .int x1), (2, .int x2), (3, .int x3), (4, .int x4)] [] s := by
  unfold wX9_fire_84 at h
  refine g_iinc (pc := 84) (lv' := [(_, _), (_, _), (_, _), (_, _), (_, _)]) F dX9_fire_84 4 rfl (congrArg _ ic_1) (by decide) rfl ?_
  refine g_goto (pc := 87) F 20 dX9_fire_87 (by decide) ?_
  exact g_weak [1, 2, 3, 4, 0] rfl (hrec _ _ _ _ h)
def wX9_fire_78 (rec : Int32 → Int32 → Int32 → St → Prop) (K90 : Int32 → Int32 → St → Prop) (Q : Int32 → St → Prop) (x1 : Int32) (x4 : Int32) (x5 : Int32) (s : St) : Prop :=
  wX9_fire_84 (rec) (K90) Q x1 x4 x5 x4 s
set_option maxHeartbeats 4000000 in
set_option maxRecDepth 100000 in
theorem bX9_fire_78 {l : Launch} {V : Wv} {X : Mx} {rec : Int32 → Int32 → Int32 → St → Prop} {K90 : Int32 → Int32 → St → Prop} {Q : Int32 → St → Prop} {x1 : Int32} {x4 : Int32} {x5 : Int32} (F : Fx V X cX9_fire RX9 6 12) (hR : RtI l V X 6 cX9_fire Q) (hV : V.2.1 = DESC) (hrec : ∀ (y2 : Int32) (y3 : Int32) (y4 : Int32) (s : St), rec y2 y3 y4 s → G l V X 6 20 [(0, rf V 0), (1, .int x1), (2, .int y2), (3, .int y3), (4, .int y4)] [] s) (hK90 : ∀ (y2 : Int32) (y3 : Int32) (s : St), K90 y2 y3 s → G l V X 6 90 [(1, .int x1), (2, .int y2), (3, .int y3)] [] s) {s : St} (h : wX9_fire_78 rec K90 Q x1 x4 x5 s) : G l V X 6 78 [(0, rf V 0), (1, .int x1), (4, .int x4), (5, .int x5)] [] s := by
  unfold wX9_fire_78 at h
  refine g_iload (pc := 78) F dX9_fire_78 2 rfl ?_
  refine g_istore_n (pc := 80) (lv' := [(_, _), (_, _), (_, _), (_, _), (_, _)]) F dX9_fire_80 rfl (by decide) rfl ?_
  refine g_iload (pc := 81) F dX9_fire_81 4 rfl ?_
  refine g_istore_n (pc := 83) (lv' := [(_, _), (_, _), (_, _), (_, _), (_, _), (_, _)]) F dX9_fire_83 rfl (by decide) rfl ?_
  exact g_weak [2, 3, 1, 0, 4] rfl (bX9_fire_84 F hR hV hrec hK90 h)
def wX9_fire_20 (x1 : Int32) (K90 : Int32 → Int32 → St → Prop) (Q : Int32 → St → Prop) : Nat → Int32 → Int32 → Int32 → St → Prop
  | 0, _, _, _, _ => False
  | n + 1, x2, x3, x4, s =>
  (((s.1 13 3) ≤ x4 → K90 x2 x3 s) ∧ (¬ (s.1 13 3) ≤ x4 → wX9_allMaps  s (fun r_35 s_35 => wX9_waysOf (r_35 &&& (((1 : Int32) <<< (x4 &&& 31)) ^^^ (-1 : Int32))) s_35 (fun r_45 s_45 => wX9_costOf r_45 s_45 (fun r_48 s_48 => ((x2 = (-9 : Int32) → wX9_fire_78 (wX9_fire_20 x1 K90 Q n) (K90) Q x1 x4 r_48 s_48) ∧ (¬ x2 = (-9 : Int32) → ((r_48 = (-9 : Int32) → wX9_fire_84 (wX9_fire_20 x1 K90 Q n) (K90) Q x1 x2 x3 x4 s_48) ∧ (¬ r_48 = (-9 : Int32) → ((x3 = (-9 : Int32) → wX9_fire_78 (wX9_fire_20 x1 K90 Q n) (K90) Q x1 x4 r_48 s_48) ∧ (¬ x3 = (-9 : Int32) → ((x3 ≤ r_48 → wX9_fire_84 (wX9_fire_20 x1 K90 Q n) (K90) Q x1 x2 x3 x4 s_48) ∧ (¬ x3 ≤ r_48 → wX9_fire_78 (wX9_fire_20 x1 K90 Q n) (K90) Q x1 x4 r_48 s_48)))))))))))))
set_option maxHeartbeats 4000000 in
set_option maxRecDepth 100000 in
theorem bX9_fire_20 {l : Launch} {V : Wv} {X : Mx} {x1 : Int32} {K90 : Int32 → Int32 → St → Prop} {Q : Int32 → St → Prop} (F : Fx V X cX9_fire RX9 6 12) (hR : RtI l V X 6 cX9_fire Q) (hV : V.2.1 = DESC) (hK90 : ∀ (y2 : Int32) (y3 : Int32) (s : St), K90 y2 y3 s → G l V X 6 90 [(1, .int x1), (2, .int y2), (3, .int y3)] [] s) : ∀ (n : Nat) (x2 : Int32) (x3 : Int32) (x4 : Int32) (s : St), wX9_fire_20 x1 K90 Q n x2 x3 x4 s → G l V X 6 20 [(0, rf V 0), (1, .int x1), (2, .int x2), (3, .int x3), (4, .int x4)] [] s := by
  intro n
  induction n with
  | zero => intro x2 x3 x4 s h; unfold wX9_fire_20 at h; exact h.elim
  | succ n ih =>
    intro x2 x3 x4 s h
    unfold wX9_fire_20 at h
    refine g_iload (pc := 20) F dX9_fire_20 4 rfl ?_
    refine g_aload_n (pc := 22) F dX9_fire_22 rfl 0 rfl ?_
    refine g_getR (pc := 23) F clX9 (sh_0 hV) 3 _ rfl (by decide) uX9_29 dX9_fire_23 ?_
    refine g_getI (pc := 26) F clX2 (is_13 hV).1 3 rfl (by decide) uX9_174 dX9_fire_26 ?_
    refine g_icmp_ge (pc := 29) F 90 dX9_fire_29 (by decide) (fun c => ?_) (fun c => ?_)
    · have h := h.1 c
      exact g_weak [1, 2, 3] rfl (hK90 _ _ _ h)
    · have h := h.2 c
      refine g_aload_n (pc := 32) F dX9_fire_32 rfl 0 rfl ?_
      refine g_aload_n (pc := 33) F dX9_fire_33 rfl 0 rfl ?_
      refine g_aload_n (pc := 34) F dX9_fire_34 rfl 0 rfl ?_
      refine g_callVi (pc := 35) F (mX9_allMaps hV h) mvX9_allMaps uX9_258 (by decide) clX9 (sh_0 hV) rfl rfl (Nat.le_of_ble_eq_true rfl) dX9_fire_35 (fun r_35 s_35 h => ?_)
      refine g_iconst (pc := 38) F dX9_fire_38 ic_1 ?_
      refine g_iload (pc := 39) F dX9_fire_39 4 rfl ?_
      refine g_ishl (pc := 41) F dX9_fire_41 ?_
      refine g_iconst (pc := 42) F dX9_fire_42 ic_m1 ?_
      refine g_ixor (pc := 43) F dX9_fire_43 ?_
      refine g_iand (pc := 44) F dX9_fire_44 ?_
      refine g_callVl (pc := 45) F (mX9_waysOf hV h) mvX9_waysOf uX9_261 (by decide) clX9 (sh_0 hV) rfl rfl (Nat.le_of_ble_eq_true rfl) dX9_fire_45 (fun r_45 s_45 h => ?_)
      refine g_callVi (pc := 48) F (mX9_costOf hV h) mvX9_costOf uX9_265 (by decide) clX9 (sh_0 hV) rfl rfl (Nat.le_of_ble_eq_true rfl) dX9_fire_48 (fun r_48 s_48 h => ?_)
      refine g_istore (pc := 51) (lv' := [(_, _), (_, _), (_, _), (_, _), (_, _), (_, _)]) F dX9_fire_51 (by decide) rfl ?_
      refine g_iload_n (pc := 53) F dX9_fire_53 rfl 3 rfl ?_
      refine g_bipush (pc := 54) F dX9_fire_54 bp_m9 ?_
      refine g_icmp_eq (pc := 56) F 78 dX9_fire_56 (by decide) (fun c => ?_) (fun c => ?_)
      · have h := h.1 c
        exact g_weak [1, 2, 5, 0] rfl (bX9_fire_78 F hR hV ih hK90 h)
      · have h := h.2 c
        refine g_iload (pc := 59) F dX9_fire_59 0 rfl ?_
        refine g_bipush (pc := 61) F dX9_fire_61 bp_m9 ?_
        refine g_icmp_eq (pc := 63) F 84 dX9_fire_63 (by decide) (fun c => ?_) (fun c => ?_)
        · have h := h.1 c
          exact g_weak [1, 2, 3, 4, 5] rfl (bX9_fire_84 F hR hV ih hK90 h)
        · have h := h.2 c
          refine g_iload_n (pc := 66) F dX9_fire_66 rfl 4 rfl ?_
          refine g_bipush (pc := 67) F dX9_fire_67 bp_m9 ?_
          refine g_icmp_eq (pc := 69) F 78 dX9_fire_69 (by decide) (fun c => ?_) (fun c => ?_)
          · have h := h.1 c
            exact g_weak [1, 2, 5, 0] rfl (bX9_fire_78 F hR hV ih hK90 h)
          · have h := h.2 c
            refine g_iload (pc := 72) F dX9_fire_72 0 rfl ?_
            refine g_iload_n (pc := 74) F dX9_fire_74 rfl 4 rfl ?_
            refine g_icmp_ge (pc := 75) F 84 dX9_fire_75 (by decide) (fun c => ?_) (fun c => ?_)
            · have h := h.1 c
              exact g_weak [1, 2, 3, 4, 5] rfl (bX9_fire_84 F hR hV ih hK90 h)
            · have h := h.2 c
              exact g_weak [1, 2, 5, 0] rfl (bX9_fire_78 F hR hV ih hK90 h)
def wX9_fire_11 (Q : Int32 → St → Prop) (x1 : Int32) (s : St) : Prop :=
  (∃ k_20, wX9_fire_20  x1 (fun x2_90 x3_90 s_k90 => ((¬ x1 = 0 → Q x3_90 s_k90) ∧ (x1 = 0 → Q x2_90 s_k90))) Q k_20 (-9 : Int32) (-9 : Int32) (0 : Int32) s)
set_option maxHeartbeats 4000000 in
set_option maxRecDepth 100000 in
theorem bX9_fire_11 {l : Launch} {V : Wv} {X : Mx} {Q : Int32 → St → Prop} {x1 : Int32} (F : Fx V X cX9_fire RX9 6 12) (hR : RtI l V X 6 cX9_fire Q) (hV : V.2.1 = DESC)  {s : St} (h : wX9_fire_11 Q x1 s) : G l V X 6 11 [(0, rf V 0), (1, .int x1)] [] s := by
  unfold wX9_fire_11 at h
  refine g_bipush (pc := 11) F dX9_fire_11 bp_m9 ?_
  refine g_istore_n (pc := 13) (lv' := [(_, _), (_, _), (_, _)]) F dX9_fire_13 rfl (by decide) rfl ?_
  refine g_bipush (pc := 14) F dX9_fire_14 bp_m9 ?_
  refine g_istore_n (pc := 16) (lv' := [(_, _), (_, _), (_, _), (_, _)]) F dX9_fire_16 rfl (by decide) rfl ?_
  refine g_iconst (pc := 17) F dX9_fire_17 ic_0 ?_
  refine g_istore (pc := 18) (lv' := [(_, _), (_, _), (_, _), (_, _), (_, _)]) F dX9_fire_18 (by decide) rfl ?_
  obtain ⟨k_20, h⟩ := h
  refine g_weak [3, 4, 2, 1, 0] rfl (bX9_fire_20 F hR hV (fun x2_90 x3_90 s_k90 h => ?_) k_20 _ _ _ _ h)
  · refine g_iload_n (pc := 90) F dX9_fire_90 rfl 0 rfl ?_
    refine g_if_ne (pc := 91) F 98 dX9_fire_91 (by decide) (fun c => ?_) (fun c => ?_)
    · have h := h.1 c
      refine g_iload_n (pc := 98) F dX9_fire_98 rfl 2 rfl ?_
      exact hR _ _ _ _ dX9_fire_99 h
    · have h := h.2 c
      refine g_iload_n (pc := 94) F dX9_fire_94 rfl 1 rfl ?_
      refine g_goto (pc := 95) F 99 dX9_fire_95 (by decide) ?_
      exact hR _ _ _ _ dX9_fire_99 h
def wX9_fire (x1 : Int32) (s : St) (Q : Int32 → St → Prop) : Prop :=
  ((x1 = 0 → wX9_fire_11 Q x1 s) ∧ (¬ x1 = 0 → ((x1 = (1 : Int32) → wX9_fire_11 Q x1 s) ∧ (¬ x1 = (1 : Int32) → Q (-1 : Int32) s))))
set_option maxHeartbeats 4000000 in
set_option maxRecDepth 100000 in
theorem mX9_fire {l : Launch} {V : Wv} {x1 : Int32} {s : St} {Q : Int32 → St → Prop} (hV : V.2.1 = DESC) (h : wX9_fire x1 s Q) : Ci yX9_fire cX9_fire 6 (some .int) (12) l V [rf V 0, .int x1] s Q := by
  unfold wX9_fire at h
  refine Ci.of mvX9_fire.1 (Nat.le_of_ble_eq_true rfl) (fun X F hR => ?_)
  refine g_lv (lv' := [(_, _), (_, _)]) rfl ?_
  refine g_iload_n (pc := 0) F dX9_fire_0 rfl 1 rfl ?_
  refine g_if_eq (pc := 1) F 11 dX9_fire_1 (by decide) (fun c => ?_) (fun c => ?_)
  · have h := h.1 c
    exact g_weak [0, 1] rfl (bX9_fire_11 F hR hV h)
  · have h := h.2 c
    refine g_iload_n (pc := 4) F dX9_fire_4 rfl 1 rfl ?_
    refine g_iconst (pc := 5) F dX9_fire_5 ic_1 ?_
    refine g_icmp_eq (pc := 6) F 11 dX9_fire_6 (by decide) (fun c => ?_) (fun c => ?_)
    · have h := h.1 c
      exact g_weak [0, 1] rfl (bX9_fire_11 F hR hV h)
    · have h := h.2 c
      refine g_iconst (pc := 9) F dX9_fire_9 ic_m1 ?_
      exact hR _ _ _ _ dX9_fire_10 h
