/-! printed by program: what each method does to the state (w..), and that its code does so (b.., m..) -/
def wX10_lane (x0 : Nat) (x1 : Int32) (x2 : Int32) (s : St) (Q : Int32 → St → Prop) : Prop :=
  ∀ s_2 : St, s_2 = stI s x0 0 (0 : Int32) → wX10_isLane x0 x1 s_2 (fun r_7 s_7 => ((r_7 = 0 → Q (-1 : Int32) s_7) ∧ (¬ r_7 = 0 → wX10_in x2 (0 : Int32) (4 : Int32) s_7 (fun r_16 s_16 => ((¬ r_16 = 0 → ((¬ x2 = 0 → ((¬ x2 = (1 : Int32) → ((¬ x2 = (2 : Int32) → ((¬ x2 = (3 : Int32) → wX10_mapsBy x0 x1 s_16 (fun r_83 s_83 => Q r_83 s_83)) ∧ (x2 = (3 : Int32) → vp_in x1 12 ∧ Q (s_16.1 (x0 + 5) x1.toNatClampNeg) s_16))) ∧ (x2 = (2 : Int32) → vp_in ((0 : Int32) + x1) 38 ∧ Q (s_16.1 (x0 + 7) ((0 : Int32) + x1).toNatClampNeg) s_16))) ∧ (x2 = (1 : Int32) → vp_in x1 12 ∧ Q (s_16.1 (x0 + 4) x1.toNatClampNeg) s_16))) ∧ (x2 = 0 → vp_in x1 12 ∧ Q (s_16.1 (x0 + 3) x1.toNatClampNeg) s_16))) ∧ (r_16 = 0 → Q (-1 : Int32) s_16))))))
set_option maxHeartbeats 4000000 in
set_option maxRecDepth 100000 in
theorem mX10_lane {l : Launch} {V : Wv} {x0 : Nat} {x1 : Int32} {x2 : Int32} {s : St} {Q : Int32 → St → Prop} (hx0 : isX10 V x0) (h : wX10_lane x0 x1 x2 s Q) : Ci yX10_lane cX10_lane 3 (some .int) (4) l V [rf V x0, .int x1, .int x2] s Q := by
  unfold wX10_lane at h
  refine Ci.of mvX10_lane.1 (Nat.le_of_ble_eq_true rfl) (fun X F hR => ?_)
  refine g_lv (lv' := [(_, _), (_, _), (_, _)]) rfl ?_
  refine g_aload_n (pc := 0) F dX10_lane_0 rfl 0 rfl ?_
  refine g_iconst (pc := 1) F dX10_lane_1 ic_0 ?_
  have h := h _ rfl
  refine g_putI (pc := 2) F clX10 hx0.1 0 rfl (by decide) rfl (tyX10_ok 0 (by decide)) uX10_89 dX10_lane_2 ?_
  refine g_aload_n (pc := 5) F dX10_lane_5 rfl 0 rfl ?_
  refine g_iload_n (pc := 6) F dX10_lane_6 rfl 1 rfl ?_
  refine g_callVi (pc := 7) F (mX10_isLane hx0 h) mvX10_isLane uX10_171 (by decide) clX10 hx0.1 rfl rfl (Nat.le_of_ble_eq_true rfl) dX10_lane_7 (fun r_7 s_7 h => ?_)
  refine g_if_eq (pc := 10) F 22 dX10_lane_10 (by decide) (fun c => ?_) (fun c => ?_)
  · have h := h.1 c
    refine g_iconst (pc := 22) F dX10_lane_22 ic_m1 ?_
    exact hR _ _ _ _ dX10_lane_23 h
  · have h := h.2 c
    refine g_iload_n (pc := 13) F dX10_lane_13 rfl 2 rfl ?_
    refine g_iconst (pc := 14) F dX10_lane_14 ic_0 ?_
    refine g_iconst (pc := 15) F dX10_lane_15 ic_4 ?_
    refine g_callSi (pc := 16) F (mX10_in  h) mvX10_in uX10_93 (by decide)  rfl rfl (Nat.le_of_ble_eq_true rfl) dX10_lane_16 (fun r_16 s_16 h => ?_)
    refine g_if_ne (pc := 19) F 24 dX10_lane_19 (by decide) (fun c => ?_) (fun c => ?_)
    · have h := h.1 c
      refine g_iload_n (pc := 24) F dX10_lane_24 rfl 2 rfl ?_
      refine g_if_ne (pc := 25) F 37 dX10_lane_25 (by decide) (fun c => ?_) (fun c => ?_)
      · have h := h.1 c
        refine g_iload_n (pc := 37) F dX10_lane_37 rfl 2 rfl ?_
        refine g_iconst (pc := 38) F dX10_lane_38 ic_1 ?_
        refine g_icmp_ne (pc := 39) F 51 dX10_lane_39 (by decide) (fun c => ?_) (fun c => ?_)
        · have h := h.1 c
          refine g_iload_n (pc := 51) F dX10_lane_51 rfl 2 rfl ?_
          refine g_iconst (pc := 52) F dX10_lane_52 ic_2 ?_
          refine g_icmp_ne (pc := 53) F 67 dX10_lane_53 (by decide) (fun c => ?_) (fun c => ?_)
          · have h := h.1 c
            refine g_iload_n (pc := 67) F dX10_lane_67 rfl 2 rfl ?_
            refine g_iconst (pc := 68) F dX10_lane_68 ic_3 ?_
            refine g_icmp_ne (pc := 69) F 81 dX10_lane_69 (by decide) (fun c => ?_) (fun c => ?_)
            · have h := h.1 c
              refine g_aload_n (pc := 81) F dX10_lane_81 rfl 0 rfl ?_
              refine g_iload_n (pc := 82) F dX10_lane_82 rfl 1 rfl ?_
              refine g_callVi (pc := 83) F (mX10_mapsBy hx0 h) mvX10_mapsBy uX10_175 (by decide) clX10 hx0.1 rfl rfl (Nat.le_of_ble_eq_true rfl) dX10_lane_83 (fun r_83 s_83 h => ?_)
              exact hR _ _ _ _ dX10_lane_86 h
            · have h := h.2 c
              refine g_aload_n (pc := 72) F dX10_lane_72 rfl 0 rfl ?_
              refine g_getR (pc := 73) F clX10 hx0.1 12 _ rfl (by decide) uX10_22 dX10_lane_73 ?_
              refine g_iload_n (pc := 76) F dX10_lane_76 rfl 1 rfl ?_
              obtain ⟨hb_77, h⟩ := h
              refine g_iald (pc := 77) F hx0.2.2.2.2.2.1 hb_77 dX10_lane_77 ?_
              refine g_goto (pc := 78) F 86 dX10_lane_78 (by decide) ?_
              exact hR _ _ _ _ dX10_lane_86 h
          · have h := h.2 c
            refine g_aload_n (pc := 56) F dX10_lane_56 rfl 0 rfl ?_
            refine g_getR (pc := 57) F clX10 hx0.1 14 _ rfl (by decide) uX10_28 dX10_lane_57 ?_
            refine g_iconst (pc := 60) F dX10_lane_60 ic_0 ?_
            refine g_iload_n (pc := 61) F dX10_lane_61 rfl 1 rfl ?_
            refine g_iadd (pc := 62) F dX10_lane_62 ?_
            obtain ⟨hb_63, h⟩ := h
            refine g_iald (pc := 63) F hx0.2.2.2.2.2.2.2.1 hb_63 dX10_lane_63 ?_
            refine g_goto (pc := 64) F 86 dX10_lane_64 (by decide) ?_
            exact hR _ _ _ _ dX10_lane_86 h
        · have h := h.2 c
          refine g_aload_n (pc := 42) F dX10_lane_42 rfl 0 rfl ?_
          refine g_getR (pc := 43) F clX10 hx0.1 11 _ rfl (by decide) uX10_19 dX10_lane_43 ?_
          refine g_iload_n (pc := 46) F dX10_lane_46 rfl 1 rfl ?_
          obtain ⟨hb_47, h⟩ := h
          refine g_iald (pc := 47) F hx0.2.2.2.2.1 hb_47 dX10_lane_47 ?_
          refine g_goto (pc := 48) F 86 dX10_lane_48 (by decide) ?_
          exact hR _ _ _ _ dX10_lane_86 h
      · have h := h.2 c
        refine g_aload_n (pc := 28) F dX10_lane_28 rfl 0 rfl ?_
        refine g_getR (pc := 29) F clX10 hx0.1 10 _ rfl (by decide) uX10_16 dX10_lane_29 ?_
        refine g_iload_n (pc := 32) F dX10_lane_32 rfl 1 rfl ?_
        obtain ⟨hb_33, h⟩ := h
        refine g_iald (pc := 33) F hx0.2.2.2.1 hb_33 dX10_lane_33 ?_
        refine g_goto (pc := 34) F 86 dX10_lane_34 (by decide) ?_
        exact hR _ _ _ _ dX10_lane_86 h
    · have h := h.2 c
      refine g_iconst (pc := 22) F dX10_lane_22 ic_m1 ?_
      exact hR _ _ _ _ dX10_lane_23 h
def wX10_map (x0 : Nat) (x1 : Int32) (x2 : Int32) (s : St) (Q : Int32 → St → Prop) : Prop :=
  ∀ s_2 : St, s_2 = stI s x0 0 (0 : Int32) → wX10_isMap x0 x1 s_2 (fun r_7 s_7 => ((r_7 = 0 → Q (-1 : Int32) s_7) ∧ (¬ r_7 = 0 → wX10_in x2 (0 : Int32) (2 : Int32) s_7 (fun r_16 s_16 => ((¬ r_16 = 0 → wX10_measures x0 (x0 + 7) 38 s_16 (fun s_29 => ((¬ x2 = 0 → ((¬ x2 = (1 : Int32) → wX10_mapLanes x0 x1 s_29 (fun r_69 s_69 => wX10_holds x0 r_69 s_69 (fun r_72 s_72 => ((r_72 = 0 → Q (0 : Int32) s_72) ∧ (¬ r_72 = 0 → Q (1 : Int32) s_72))))) ∧ (x2 = (1 : Int32) → wX10_mapLanes x0 x1 s_29 (fun r_59 s_59 => vp_in r_59 64 ∧ Q (s_59.1 (x0 + 14) r_59.toNatClampNeg) s_59)))) ∧ (x2 = 0 → vp_in ((7 : Int32) + x1) 38 ∧ Q (s_29.1 (x0 + 7) ((7 : Int32) + x1).toNatClampNeg) s_29)))) ∧ (r_16 = 0 → Q (-1 : Int32) s_16))))))
set_option maxHeartbeats 4000000 in
set_option maxRecDepth 100000 in
theorem mX10_map {l : Launch} {V : Wv} {x0 : Nat} {x1 : Int32} {x2 : Int32} {s : St} {Q : Int32 → St → Prop} (hx0 : isX10 V x0) (h : wX10_map x0 x1 x2 s Q) : Ci yX10_map cX10_map 3 (some .int) (3) l V [rf V x0, .int x1, .int x2] s Q := by
  unfold wX10_map at h
  refine Ci.of mvX10_map.1 (Nat.le_of_ble_eq_true rfl) (fun X F hR => ?_)
  refine g_lv (lv' := [(_, _), (_, _), (_, _)]) rfl ?_
  refine g_aload_n (pc := 0) F dX10_map_0 rfl 0 rfl ?_
  refine g_iconst (pc := 1) F dX10_map_1 ic_0 ?_
  have h := h _ rfl
  refine g_putI (pc := 2) F clX10 hx0.1 0 rfl (by decide) rfl (tyX10_ok 0 (by decide)) uX10_89 dX10_map_2 ?_
  refine g_aload_n (pc := 5) F dX10_map_5 rfl 0 rfl ?_
  refine g_iload_n (pc := 6) F dX10_map_6 rfl 1 rfl ?_
  refine g_callVi (pc := 7) F (mX10_isMap hx0 h) mvX10_isMap uX10_178 (by decide) clX10 hx0.1 rfl rfl (Nat.le_of_ble_eq_true rfl) dX10_map_7 (fun r_7 s_7 h => ?_)
  refine g_if_eq (pc := 10) F 22 dX10_map_10 (by decide) (fun c => ?_) (fun c => ?_)
  · have h := h.1 c
    refine g_iconst (pc := 22) F dX10_map_22 ic_m1 ?_
    exact hR _ _ _ _ dX10_map_23 h
  · have h := h.2 c
    refine g_iload_n (pc := 13) F dX10_map_13 rfl 2 rfl ?_
    refine g_iconst (pc := 14) F dX10_map_14 ic_0 ?_
    refine g_iconst (pc := 15) F dX10_map_15 ic_2 ?_
    refine g_callSi (pc := 16) F (mX10_in  h) mvX10_in uX10_93 (by decide)  rfl rfl (Nat.le_of_ble_eq_true rfl) dX10_map_16 (fun r_16 s_16 h => ?_)
    refine g_if_ne (pc := 19) F 24 dX10_map_19 (by decide) (fun c => ?_) (fun c => ?_)
    · have h := h.1 c
      refine g_aload_n (pc := 24) F dX10_map_24 rfl 0 rfl ?_
      refine g_aload_n (pc := 25) F dX10_map_25 rfl 0 rfl ?_
      refine g_getR (pc := 26) F clX10 hx0.1 14 _ rfl (by decide) uX10_28 dX10_map_26 ?_
      refine g_callVv (pc := 29) F (mX10_measures hx0 hx0.2.2.2.2.2.2.2.1 h) mvX10_measures uX10_181 (by decide) clX10 hx0.1 rfl rfl (Nat.le_of_ble_eq_true rfl) dX10_map_29 (fun s_29 h => ?_)
      refine g_iload_n (pc := 32) F dX10_map_32 rfl 2 rfl ?_
      refine g_if_ne (pc := 33) F 48 dX10_map_33 (by decide) (fun c => ?_) (fun c => ?_)
      · have h := h.1 c
        refine g_iload_n (pc := 48) F dX10_map_48 rfl 2 rfl ?_
        refine g_iconst (pc := 49) F dX10_map_49 ic_1 ?_
        refine g_icmp_ne (pc := 50) F 66 dX10_map_50 (by decide) (fun c => ?_) (fun c => ?_)
        · have h := h.1 c
          refine g_aload_n (pc := 66) F dX10_map_66 rfl 0 rfl ?_
          refine g_aload_n (pc := 67) F dX10_map_67 rfl 0 rfl ?_
          refine g_iload_n (pc := 68) F dX10_map_68 rfl 1 rfl ?_
          refine g_callVi (pc := 69) F (mX10_mapLanes hx0 h) mvX10_mapLanes uX10_168 (by decide) clX10 hx0.1 rfl rfl (Nat.le_of_ble_eq_true rfl) dX10_map_69 (fun r_69 s_69 h => ?_)
          refine g_callVi (pc := 72) F (mX10_holds hx0 h) mvX10_holds uX10_185 (by decide) clX10 hx0.1 rfl rfl (Nat.le_of_ble_eq_true rfl) dX10_map_72 (fun r_72 s_72 h => ?_)
          refine g_if_eq (pc := 75) F 82 dX10_map_75 (by decide) (fun c => ?_) (fun c => ?_)
          · have h := h.1 c
            refine g_iconst (pc := 82) F dX10_map_82 ic_0 ?_
            exact hR _ _ _ _ dX10_map_83 h
          · have h := h.2 c
            refine g_iconst (pc := 78) F dX10_map_78 ic_1 ?_
            refine g_goto (pc := 79) F 83 dX10_map_79 (by decide) ?_
            exact hR _ _ _ _ dX10_map_83 h
        · have h := h.2 c
          refine g_aload_n (pc := 53) F dX10_map_53 rfl 0 rfl ?_
          refine g_getR (pc := 54) F clX10 hx0.1 23 _ rfl (by decide) uX10_50 dX10_map_54 ?_
          refine g_aload_n (pc := 57) F dX10_map_57 rfl 0 rfl ?_
          refine g_iload_n (pc := 58) F dX10_map_58 rfl 1 rfl ?_
          refine g_callVi (pc := 59) F (mX10_mapLanes hx0 h) mvX10_mapLanes uX10_168 (by decide) clX10 hx0.1 rfl rfl (Nat.le_of_ble_eq_true rfl) dX10_map_59 (fun r_59 s_59 h => ?_)
          obtain ⟨hb_62, h⟩ := h
          refine g_iald (pc := 62) F hx0.2.2.2.2.2.2.2.2.2.2.2.2.2.2.1 hb_62 dX10_map_62 ?_
          refine g_goto (pc := 63) F 83 dX10_map_63 (by decide) ?_
          exact hR _ _ _ _ dX10_map_83 h
      · have h := h.2 c
        refine g_aload_n (pc := 36) F dX10_map_36 rfl 0 rfl ?_
        refine g_getR (pc := 37) F clX10 hx0.1 14 _ rfl (by decide) uX10_28 dX10_map_37 ?_
        refine g_bipush (pc := 40) F dX10_map_40 bp_7 ?_
        refine g_iload_n (pc := 42) F dX10_map_42 rfl 1 rfl ?_
        refine g_iadd (pc := 43) F dX10_map_43 ?_
        obtain ⟨hb_44, h⟩ := h
        refine g_iald (pc := 44) F hx0.2.2.2.2.2.2.2.1 hb_44 dX10_map_44 ?_
        refine g_goto (pc := 45) F 83 dX10_map_45 (by decide) ?_
        exact hR _ _ _ _ dX10_map_83 h
    · have h := h.2 c
      refine g_iconst (pc := 22) F dX10_map_22 ic_m1 ?_
      exact hR _ _ _ _ dX10_map_23 h
def wX10_place_18 (Q : Int32 → St → Prop) (x0 : Nat) (x1 : Int32) (x2 : Int32) (s : St) : Prop :=
  wX10_in x2 (0 : Int32) (4 : Int32) s (fun r_21 s_21 => ((¬ r_21 = 0 → ((¬ x1 = (-1 : Int32) → vp_in ((7 : Int32) + x1) 38 ∧ (((s_21.1 (x0 + 7) ((7 : Int32) + x1).toNatClampNeg) ≤ x2 → Q (-9 : Int32) s_21) ∧ (¬ (s_21.1 (x0 + 7) ((7 : Int32) + x1).toNatClampNeg) ≤ x2 → vp_in (((11 : Int32) + ((5 : Int32) * x1)) + x2) 38 ∧ Q (s_21.1 (x0 + 7) (((11 : Int32) + ((5 : Int32) * x1)) + x2).toNatClampNeg) s_21))) ∧ (x1 = (-1 : Int32) → vp_in (36 : Int32) 38 ∧ (((s_21.1 (x0 + 7) (36 : Int32).toNatClampNeg) ≤ x2 → Q (-9 : Int32) s_21) ∧ (¬ (s_21.1 (x0 + 7) (36 : Int32).toNatClampNeg) ≤ x2 → vp_in ((31 : Int32) + x2) 38 ∧ Q (s_21.1 (x0 + 7) ((31 : Int32) + x2).toNatClampNeg) s_21))))) ∧ (r_21 = 0 → Q (-1 : Int32) s_21)))
set_option maxHeartbeats 4000000 in
set_option maxRecDepth 100000 in
theorem bX10_place_18 {l : Launch} {V : Wv} {X : Mx} {Q : Int32 → St → Prop} {x0 : Nat} {x1 : Int32} {x2 : Int32} (F : Fx V X cX10_place RX10 3 2) (hR : RtI l V X 3 cX10_place Q) (hx0 : isX10 V x0)  {s : St} (h : wX10_place_18 Q x0 x1 x2 s) : G l V X 3 18 [(0, rf V x0), (1, .int x1), (2, .int x2)] [] s := by
  unfold wX10_place_18 at h
  refine g_iload_n (pc := 18) F dX10_place_18 rfl 2 rfl ?_
  refine g_iconst (pc := 19) F dX10_place_19 ic_0 ?_
  refine g_iconst (pc := 20) F dX10_place_20 ic_4 ?_
  refine g_callSi (pc := 21) F (mX10_in  h) mvX10_in uX10_93 (by decide)  rfl rfl (Nat.le_of_ble_eq_true rfl) dX10_place_21 (fun r_21 s_21 h => ?_)
  refine g_if_ne (pc := 24) F 29 dX10_place_24 (by decide) (fun c => ?_) (fun c => ?_)
  · have h := h.1 c
    refine g_iload_n (pc := 29) F dX10_place_29 rfl 1 rfl ?_
    refine g_iconst (pc := 30) F dX10_place_30 ic_m1 ?_
    refine g_icmp_ne (pc := 31) F 60 dX10_place_31 (by decide) (fun c => ?_) (fun c => ?_)
    · have h := h.1 c
      refine g_iload_n (pc := 60) F dX10_place_60 rfl 2 rfl ?_
      refine g_aload_n (pc := 61) F dX10_place_61 rfl 0 rfl ?_
      refine g_getR (pc := 62) F clX10 hx0.1 14 _ rfl (by decide) uX10_28 dX10_place_62 ?_
      refine g_bipush (pc := 65) F dX10_place_65 bp_7 ?_
      refine g_iload_n (pc := 67) F dX10_place_67 rfl 1 rfl ?_
      refine g_iadd (pc := 68) F dX10_place_68 ?_
      obtain ⟨hb_69, h⟩ := h
      refine g_iald (pc := 69) F hx0.2.2.2.2.2.2.2.1 hb_69 dX10_place_69 ?_
      refine g_icmp_ge (pc := 70) F 89 dX10_place_70 (by decide) (fun c => ?_) (fun c => ?_)
      · have h := h.1 c
        refine g_bipush (pc := 89) F dX10_place_89 bp_m9 ?_
        exact hR _ _ _ _ dX10_place_91 h
      · have h := h.2 c
        refine g_aload_n (pc := 73) F dX10_place_73 rfl 0 rfl ?_
        refine g_getR (pc := 74) F clX10 hx0.1 14 _ rfl (by decide) uX10_28 dX10_place_74 ?_
        refine g_bipush (pc := 77) F dX10_place_77 bp_11 ?_
        refine g_iconst (pc := 79) F dX10_place_79 ic_5 ?_
        refine g_iload_n (pc := 80) F dX10_place_80 rfl 1 rfl ?_
        refine g_imul (pc := 81) F dX10_place_81 ?_
        refine g_iadd (pc := 82) F dX10_place_82 ?_
        refine g_iload_n (pc := 83) F dX10_place_83 rfl 2 rfl ?_
        refine g_iadd (pc := 84) F dX10_place_84 ?_
        obtain ⟨hb_85, h⟩ := h
        refine g_iald (pc := 85) F hx0.2.2.2.2.2.2.2.1 hb_85 dX10_place_85 ?_
        refine g_goto (pc := 86) F 91 dX10_place_86 (by decide) ?_
        exact hR _ _ _ _ dX10_place_91 h
    · have h := h.2 c
      refine g_iload_n (pc := 34) F dX10_place_34 rfl 2 rfl ?_
      refine g_aload_n (pc := 35) F dX10_place_35 rfl 0 rfl ?_
      refine g_getR (pc := 36) F clX10 hx0.1 14 _ rfl (by decide) uX10_28 dX10_place_36 ?_
      refine g_bipush (pc := 39) F dX10_place_39 bp_36 ?_
      obtain ⟨hb_41, h⟩ := h
      refine g_iald (pc := 41) F hx0.2.2.2.2.2.2.2.1 hb_41 dX10_place_41 ?_
      refine g_icmp_ge (pc := 42) F 57 dX10_place_42 (by decide) (fun c => ?_) (fun c => ?_)
      · have h := h.1 c
        refine g_bipush (pc := 57) F dX10_place_57 bp_m9 ?_
        exact hR _ _ _ _ dX10_place_59 h
      · have h := h.2 c
        refine g_aload_n (pc := 45) F dX10_place_45 rfl 0 rfl ?_
        refine g_getR (pc := 46) F clX10 hx0.1 14 _ rfl (by decide) uX10_28 dX10_place_46 ?_
        refine g_bipush (pc := 49) F dX10_place_49 bp_31 ?_
        refine g_iload_n (pc := 51) F dX10_place_51 rfl 2 rfl ?_
        refine g_iadd (pc := 52) F dX10_place_52 ?_
        obtain ⟨hb_53, h⟩ := h
        refine g_iald (pc := 53) F hx0.2.2.2.2.2.2.2.1 hb_53 dX10_place_53 ?_
        refine g_goto (pc := 54) F 59 dX10_place_54 (by decide) ?_
        exact hR _ _ _ _ dX10_place_59 h
  · have h := h.2 c
    refine g_iconst (pc := 27) F dX10_place_27 ic_m1 ?_
    exact hR _ _ _ _ dX10_place_28 h
def wX10_place (x0 : Nat) (x1 : Int32) (x2 : Int32) (s : St) (Q : Int32 → St → Prop) : Prop :=
  ∀ s_2 : St, s_2 = stI s x0 0 (0 : Int32) → ((x1 = (-1 : Int32) → wX10_place_18 Q x0 x1 x2 s_2) ∧ (¬ x1 = (-1 : Int32) → wX10_isMap x0 x1 s_2 (fun r_12 s_12 => ((r_12 = 0 → Q (-1 : Int32) s_12) ∧ (¬ r_12 = 0 → wX10_place_18 Q x0 x1 x2 s_12)))))
set_option maxHeartbeats 4000000 in
set_option maxRecDepth 100000 in
theorem mX10_place {l : Launch} {V : Wv} {x0 : Nat} {x1 : Int32} {x2 : Int32} {s : St} {Q : Int32 → St → Prop} (hx0 : isX10 V x0) (h : wX10_place x0 x1 x2 s Q) : Ci yX10_place cX10_place 3 (some .int) (2) l V [rf V x0, .int x1, .int x2] s Q := by
  unfold wX10_place at h
  refine Ci.of mvX10_place.1 (Nat.le_of_ble_eq_true rfl) (fun X F hR => ?_)
  refine g_lv (lv' := [(_, _), (_, _), (_, _)]) rfl ?_
  refine g_aload_n (pc := 0) F dX10_place_0 rfl 0 rfl ?_
  refine g_iconst (pc := 1) F dX10_place_1 ic_0 ?_
  have h := h _ rfl
  refine g_putI (pc := 2) F clX10 hx0.1 0 rfl (by decide) rfl (tyX10_ok 0 (by decide)) uX10_89 dX10_place_2 ?_
  refine g_iload_n (pc := 5) F dX10_place_5 rfl 1 rfl ?_
  refine g_iconst (pc := 6) F dX10_place_6 ic_m1 ?_
  refine g_icmp_eq (pc := 7) F 18 dX10_place_7 (by decide) (fun c => ?_) (fun c => ?_)
  · have h := h.1 c
    exact g_weak [0, 1, 2] rfl (bX10_place_18 F hR hx0 h)
  · have h := h.2 c
    refine g_aload_n (pc := 10) F dX10_place_10 rfl 0 rfl ?_
    refine g_iload_n (pc := 11) F dX10_place_11 rfl 1 rfl ?_
    refine g_callVi (pc := 12) F (mX10_isMap hx0 h) mvX10_isMap uX10_178 (by decide) clX10 hx0.1 rfl rfl (Nat.le_of_ble_eq_true rfl) dX10_place_12 (fun r_12 s_12 h => ?_)
    refine g_if_eq (pc := 15) F 27 dX10_place_15 (by decide) (fun c => ?_) (fun c => ?_)
    · have h := h.1 c
      refine g_iconst (pc := 27) F dX10_place_27 ic_m1 ?_
      exact hR _ _ _ _ dX10_place_28 h
    · have h := h.2 c
      exact g_weak [0, 1, 2] rfl (bX10_place_18 F hR hx0 h)
def wX10_now_59 (rec : Int32 → Int32 → St → Prop) (K67 : Int32 → St → Prop) (Q : Int32 → St → Prop) (x0 : Nat) (x1 : Int32) (x3 : Int32) (t0 : Int32) (t1 : Int32) (s : St) : Prop :=
  rec (t1 ||| t0) (x3 + (1 : Int32)) s
set_option maxHeartbeats 4000000 in
set_option maxRecDepth 100000 in
theorem bX10_now_59 {l : Launch} {V : Wv} {X : Mx} {rec : Int32 → Int32 → St → Prop} {K67 : Int32 → St → Prop} {Q : Int32 → St → Prop} {x0 : Nat} {x1 : Int32} {x3 : Int32} {t0 : Int32} {t1 : Int32} (F : Fx V X cX10_now RX10 4 3) (hR : RtI l V X 4 cX10_now Q) (hx0 : isX10 V x0) (hrec : ∀ (y2 : Int32) (y3 : Int32) (s : St), rec y2 y3 s → G l V X 4 28 [(0, rf V x0), (1, .int x1), (2, .int y2), (3, .int y3)] [] s) (hK67 : ∀ (y2 : Int32) (s : St), K67 y2 s → G l V X 4 67 [(0, rf V x0), (1, .int x1), (2, .int y2)] [] s) {s : St} (h : wX10_now_59 rec K67 Q x0 x1 x3 t0 t1 s) : G l V X 4 59 [(0, rf V x0), (1, .int x1), (3, .int x3)] [.int t0, .int t1] s := by
  unfold wX10_now_59 at h
  refine g_ior (pc := 59) F dX10_now_59 ?_
  refine g_istore_n (pc := 60) (lv' := [(_, _), (_, _), (_, _), (_, _)]) F dX10_now_60 rfl (by decide) rfl ?_
  refine g_iinc (pc := 61) (lv' := [(_, _), (_, _), (_, _), (_, _)]) F dX10_now_61 3 rfl (congrArg _ ic_1) (by decide) rfl ?_
  refine g_goto (pc := 64) F 28 dX10_now_64 (by decide) ?_
  exact g_weak [2, 3, 1, 0] rfl (hrec _ _ _ h)
def wX10_now_28 (x0 : Nat) (x1 : Int32) (K67 : Int32 → St → Prop) (Q : Int32 → St → Prop) : Nat → Int32 → Int32 → St → Prop
  | 0, _, _, _ => False
  | n + 1, x2, x3, s =>
  vp_in (6 : Int32) 38 ∧ (((s.1 (x0 + 7) (6 : Int32).toNatClampNeg) ≤ x3 → K67 x2 s) ∧ (¬ (s.1 (x0 + 7) (6 : Int32).toNatClampNeg) ≤ x3 → wX10_mapLanes x0 x3 s (fun r_43 s_43 => wX10_holds x0 r_43 s_43 (fun r_46 s_46 => ((r_46 = 0 → wX10_now_59 (wX10_now_28 x0 x1 K67 Q n) (K67) Q x0 x1 x3 (0 : Int32) x2 s_46) ∧ (¬ r_46 = 0 → wX10_now_59 (wX10_now_28 x0 x1 K67 Q n) (K67) Q x0 x1 x3 ((1 : Int32) <<< (x3 &&& 31)) x2 s_46))))))
set_option maxHeartbeats 4000000 in
set_option maxRecDepth 100000 in
theorem bX10_now_28 {l : Launch} {V : Wv} {X : Mx} {x0 : Nat} {x1 : Int32} {K67 : Int32 → St → Prop} {Q : Int32 → St → Prop} (F : Fx V X cX10_now RX10 4 3) (hR : RtI l V X 4 cX10_now Q) (hx0 : isX10 V x0) (hK67 : ∀ (y2 : Int32) (s : St), K67 y2 s → G l V X 4 67 [(0, rf V x0), (1, .int x1), (2, .int y2)] [] s) : ∀ (n : Nat) (x2 : Int32) (x3 : Int32) (s : St), wX10_now_28 x0 x1 K67 Q n x2 x3 s → G l V X 4 28 [(0, rf V x0), (1, .int x1), (2, .int x2), (3, .int x3)] [] s := by
  intro n
  induction n with
  | zero => intro x2 x3 s h; unfold wX10_now_28 at h; exact h.elim
  | succ n ih =>
    intro x2 x3 s h
    unfold wX10_now_28 at h
    refine g_iload_n (pc := 28) F dX10_now_28 rfl 3 rfl ?_
    refine g_aload_n (pc := 29) F dX10_now_29 rfl 0 rfl ?_
    refine g_getR (pc := 30) F clX10 hx0.1 14 _ rfl (by decide) uX10_28 dX10_now_30 ?_
    refine g_bipush (pc := 33) F dX10_now_33 bp_6 ?_
    obtain ⟨hb_35, h⟩ := h
    refine g_iald (pc := 35) F hx0.2.2.2.2.2.2.2.1 hb_35 dX10_now_35 ?_
    refine g_icmp_ge (pc := 36) F 67 dX10_now_36 (by decide) (fun c => ?_) (fun c => ?_)
    · have h := h.1 c
      exact g_weak [0, 1, 2] rfl (hK67 _ _ h)
    · have h := h.2 c
      refine g_iload_n (pc := 39) F dX10_now_39 rfl 2 rfl ?_
      refine g_aload_n (pc := 40) F dX10_now_40 rfl 0 rfl ?_
      refine g_aload_n (pc := 41) F dX10_now_41 rfl 0 rfl ?_
      refine g_iload_n (pc := 42) F dX10_now_42 rfl 3 rfl ?_
      refine g_callVi (pc := 43) F (mX10_mapLanes hx0 h) mvX10_mapLanes uX10_168 (by decide) clX10 hx0.1 rfl rfl (Nat.le_of_ble_eq_true rfl) dX10_now_43 (fun r_43 s_43 h => ?_)
      refine g_callVi (pc := 46) F (mX10_holds hx0 h) mvX10_holds uX10_185 (by decide) clX10 hx0.1 rfl rfl (Nat.le_of_ble_eq_true rfl) dX10_now_46 (fun r_46 s_46 h => ?_)
      refine g_if_eq (pc := 49) F 58 dX10_now_49 (by decide) (fun c => ?_) (fun c => ?_)
      · have h := h.1 c
        refine g_iconst (pc := 58) F dX10_now_58 ic_0 ?_
        exact g_weak [0, 1, 3] rfl (bX10_now_59 F hR hx0 ih hK67 h)
      · have h := h.2 c
        refine g_iconst (pc := 52) F dX10_now_52 ic_1 ?_
        refine g_iload_n (pc := 53) F dX10_now_53 rfl 3 rfl ?_
        refine g_ishl (pc := 54) F dX10_now_54 ?_
        refine g_goto (pc := 55) F 59 dX10_now_55 (by decide) ?_
        exact g_weak [0, 1, 3] rfl (bX10_now_59 F hR hx0 ih hK67 h)
def wX10_now (x0 : Nat) (x1 : Int32) (s : St) (Q : Int32 → St → Prop) : Prop :=
  ∀ s_2 : St, s_2 = stI s x0 0 (0 : Int32) → wX10_in x1 (0 : Int32) (3 : Int32) s_2 (fun r_8 s_8 => ((¬ r_8 = 0 → wX10_measures x0 (x0 + 7) 38 s_8 (fun s_21 => (∃ k_28, wX10_now_28  x0 x1 (fun x2_67 s_k67 => ((¬ x1 = 0 → ((¬ x1 = (1 : Int32) → ((¬ x1 = (2 : Int32) → Q (s_k67.1 x0 18) s_k67) ∧ (x1 = (2 : Int32) → vp_in (37 : Int32) 38 ∧ Q (s_k67.1 (x0 + 7) (37 : Int32).toNatClampNeg) s_k67))) ∧ (x1 = (1 : Int32) → vp_in (36 : Int32) 38 ∧ Q (s_k67.1 (x0 + 7) (36 : Int32).toNatClampNeg) s_k67))) ∧ (x1 = 0 → Q x2_67 s_k67))) Q k_28 (0 : Int32) (0 : Int32) s_21))) ∧ (r_8 = 0 → Q (-1 : Int32) s_8)))
set_option maxHeartbeats 4000000 in
set_option maxRecDepth 100000 in
theorem mX10_now {l : Launch} {V : Wv} {x0 : Nat} {x1 : Int32} {s : St} {Q : Int32 → St → Prop} (hx0 : isX10 V x0) (h : wX10_now x0 x1 s Q) : Ci yX10_now cX10_now 4 (some .int) (3) l V [rf V x0, .int x1] s Q := by
  unfold wX10_now at h
  refine Ci.of mvX10_now.1 (Nat.le_of_ble_eq_true rfl) (fun X F hR => ?_)
  refine g_lv (lv' := [(_, _), (_, _)]) rfl ?_
  refine g_aload_n (pc := 0) F dX10_now_0 rfl 0 rfl ?_
  refine g_iconst (pc := 1) F dX10_now_1 ic_0 ?_
  have h := h _ rfl
  refine g_putI (pc := 2) F clX10 hx0.1 0 rfl (by decide) rfl (tyX10_ok 0 (by decide)) uX10_89 dX10_now_2 ?_
  refine g_iload_n (pc := 5) F dX10_now_5 rfl 1 rfl ?_
  refine g_iconst (pc := 6) F dX10_now_6 ic_0 ?_
  refine g_iconst (pc := 7) F dX10_now_7 ic_3 ?_
  refine g_callSi (pc := 8) F (mX10_in  h) mvX10_in uX10_93 (by decide)  rfl rfl (Nat.le_of_ble_eq_true rfl) dX10_now_8 (fun r_8 s_8 h => ?_)
  refine g_if_ne (pc := 11) F 16 dX10_now_11 (by decide) (fun c => ?_) (fun c => ?_)
  · have h := h.1 c
    refine g_aload_n (pc := 16) F dX10_now_16 rfl 0 rfl ?_
    refine g_aload_n (pc := 17) F dX10_now_17 rfl 0 rfl ?_
    refine g_getR (pc := 18) F clX10 hx0.1 14 _ rfl (by decide) uX10_28 dX10_now_18 ?_
    refine g_callVv (pc := 21) F (mX10_measures hx0 hx0.2.2.2.2.2.2.2.1 h) mvX10_measures uX10_181 (by decide) clX10 hx0.1 rfl rfl (Nat.le_of_ble_eq_true rfl) dX10_now_21 (fun s_21 h => ?_)
    refine g_iconst (pc := 24) F dX10_now_24 ic_0 ?_
    refine g_istore_n (pc := 25) (lv' := [(_, _), (_, _), (_, _)]) F dX10_now_25 rfl (by decide) rfl ?_
    refine g_iconst (pc := 26) F dX10_now_26 ic_0 ?_
    refine g_istore_n (pc := 27) (lv' := [(_, _), (_, _), (_, _), (_, _)]) F dX10_now_27 rfl (by decide) rfl ?_
    obtain ⟨k_28, h⟩ := h
    refine g_weak [2, 3, 1, 0] rfl (bX10_now_28 F hR hx0 (fun x2_67 s_k67 h => ?_) k_28 _ _ _ h)
    · refine g_iload_n (pc := 67) F dX10_now_67 rfl 1 rfl ?_
      refine g_if_ne (pc := 68) F 75 dX10_now_68 (by decide) (fun c => ?_) (fun c => ?_)
      · have h := h.1 c
        refine g_iload_n (pc := 75) F dX10_now_75 rfl 1 rfl ?_
        refine g_iconst (pc := 76) F dX10_now_76 ic_1 ?_
        refine g_icmp_ne (pc := 77) F 90 dX10_now_77 (by decide) (fun c => ?_) (fun c => ?_)
        · have h := h.1 c
          refine g_iload_n (pc := 90) F dX10_now_90 rfl 1 rfl ?_
          refine g_iconst (pc := 91) F dX10_now_91 ic_2 ?_
          refine g_icmp_ne (pc := 92) F 105 dX10_now_92 (by decide) (fun c => ?_) (fun c => ?_)
          · have h := h.1 c
            refine g_aload_n (pc := 105) F dX10_now_105 rfl 0 rfl ?_
            refine g_getI (pc := 106) F clX10 hx0.1 18 rfl (by decide) uX10_161 dX10_now_106 ?_
            exact hR _ _ _ _ dX10_now_109 h
          · have h := h.2 c
            refine g_aload_n (pc := 95) F dX10_now_95 rfl 0 rfl ?_
            refine g_getR (pc := 96) F clX10 hx0.1 14 _ rfl (by decide) uX10_28 dX10_now_96 ?_
            refine g_bipush (pc := 99) F dX10_now_99 bp_37 ?_
            obtain ⟨hb_101, h⟩ := h
            refine g_iald (pc := 101) F hx0.2.2.2.2.2.2.2.1 hb_101 dX10_now_101 ?_
            refine g_goto (pc := 102) F 109 dX10_now_102 (by decide) ?_
            exact hR _ _ _ _ dX10_now_109 h
        · have h := h.2 c
          refine g_aload_n (pc := 80) F dX10_now_80 rfl 0 rfl ?_
          refine g_getR (pc := 81) F clX10 hx0.1 14 _ rfl (by decide) uX10_28 dX10_now_81 ?_
          refine g_bipush (pc := 84) F dX10_now_84 bp_36 ?_
          obtain ⟨hb_86, h⟩ := h
          refine g_iald (pc := 86) F hx0.2.2.2.2.2.2.2.1 hb_86 dX10_now_86 ?_
          refine g_goto (pc := 87) F 109 dX10_now_87 (by decide) ?_
          exact hR _ _ _ _ dX10_now_109 h
      · have h := h.2 c
        refine g_iload_n (pc := 71) F dX10_now_71 rfl 2 rfl ?_
        refine g_goto (pc := 72) F 109 dX10_now_72 (by decide) ?_
        exact hR _ _ _ _ dX10_now_109 h
  · have h := h.2 c
    refine g_iconst (pc := 14) F dX10_now_14 ic_m1 ?_
    exact hR _ _ _ _ dX10_now_15 h
def wX10_notes_47 (x0 : Nat) (K79 : St → Prop) (Q : St → Prop) : Nat → Int32 → St → Prop
  | 0, _, _ => False
  | n + 1, x1, s =>
  (((38 : Int32) ≤ x1 → K79  s) ∧ (¬ (38 : Int32) ≤ x1 → vp_in x1 38 ∧ vp_in (((38 : Int32) * (s.1 x0 18)) + x1) 380 ∧ ∀ s_72 : St, s_72 = stI s (x0 + 10) (((38 : Int32) * (s.1 x0 18)) + x1).toNatClampNeg (s.1 (x0 + 7) x1.toNatClampNeg) → wX10_notes_47 x0 K79 Q n (x1 + (1 : Int32)) s_72))
set_option maxHeartbeats 4000000 in
set_option maxRecDepth 100000 in
theorem bX10_notes_47 {l : Launch} {V : Wv} {X : Mx} {x0 : Nat} {K79 : St → Prop} {Q : St → Prop} (F : Fx V X cX10_notes RX10 2 0) (hR : RtV l V X 2 cX10_notes Q) (hx0 : isX10 V x0) (hK79 : ∀  (s : St), K79  s → G l V X 2 79 [(0, rf V x0)] [] s) : ∀ (n : Nat) (x1 : Int32) (s : St), wX10_notes_47 x0 K79 Q n x1 s → G l V X 2 47 [(0, rf V x0), (1, .int x1)] [] s := by
  intro n
  induction n with
  | zero => intro x1 s h; unfold wX10_notes_47 at h; exact h.elim
  | succ n ih =>
    intro x1 s h
    unfold wX10_notes_47 at h
    refine g_iload_n (pc := 47) F dX10_notes_47 rfl 1 rfl ?_
    refine g_bipush (pc := 48) F dX10_notes_48 bp_38 ?_
    refine g_icmp_ge (pc := 50) F 79 dX10_notes_50 (by decide) (fun c => ?_) (fun c => ?_)
    · have h := h.1 c
      exact g_weak [0] rfl (hK79 _ h)
    · have h := h.2 c
      refine g_aload_n (pc := 53) F dX10_notes_53 rfl 0 rfl ?_
      refine g_getR (pc := 54) F clX10 hx0.1 17 _ rfl (by decide) uX10_38 dX10_notes_54 ?_
      refine g_bipush (pc := 57) F dX10_notes_57 bp_38 ?_
      refine g_aload_n (pc := 59) F dX10_notes_59 rfl 0 rfl ?_
      refine g_getI (pc := 60) F clX10 hx0.1 18 rfl (by decide) uX10_161 dX10_notes_60 ?_
      refine g_imul (pc := 63) F dX10_notes_63 ?_
      refine g_iload_n (pc := 64) F dX10_notes_64 rfl 1 rfl ?_
      refine g_iadd (pc := 65) F dX10_notes_65 ?_
      refine g_aload_n (pc := 66) F dX10_notes_66 rfl 0 rfl ?_
      refine g_getR (pc := 67) F clX10 hx0.1 14 _ rfl (by decide) uX10_28 dX10_notes_67 ?_
      refine g_iload_n (pc := 70) F dX10_notes_70 rfl 1 rfl ?_
      obtain ⟨hb_71, h⟩ := h
      refine g_iald (pc := 71) F hx0.2.2.2.2.2.2.2.1 hb_71 dX10_notes_71 ?_
      obtain ⟨hb_72, h⟩ := h
      have h := h _ rfl
      refine g_iast (pc := 72) F hx0.2.2.2.2.2.2.2.2.2.2.1 hb_72 dX10_notes_72 ?_
      refine g_iinc (pc := 73) (lv' := [(_, _), (_, _)]) F dX10_notes_73 1 rfl (congrArg _ ic_1) (by decide) rfl ?_
      refine g_goto (pc := 76) F 47 dX10_notes_76 (by decide) ?_
      exact g_weak [1, 0] rfl (ih _ _ h)
def wX10_notes_45 (Q : St → Prop) (x0 : Nat) (s : St) : Prop :=
  (∃ k_47, wX10_notes_47  x0 (fun  s_k79 => ∀ s_86 : St, s_86 = stI s_k79 x0 18 ((s_k79.1 x0 18) + (1 : Int32)) → Q s_86) Q k_47 (0 : Int32) s)
set_option maxHeartbeats 4000000 in
set_option maxRecDepth 100000 in
theorem bX10_notes_45 {l : Launch} {V : Wv} {X : Mx} {Q : St → Prop} {x0 : Nat} (F : Fx V X cX10_notes RX10 2 0) (hR : RtV l V X 2 cX10_notes Q) (hx0 : isX10 V x0)  {s : St} (h : wX10_notes_45 Q x0 s) : G l V X 2 45 [(0, rf V x0)] [] s := by
  unfold wX10_notes_45 at h
  refine g_iconst (pc := 45) F dX10_notes_45 ic_0 ?_
  refine g_istore_n (pc := 46) (lv' := [(_, _), (_, _)]) F dX10_notes_46 rfl (by decide) rfl ?_
  obtain ⟨k_47, h⟩ := h
  refine g_weak [1, 0] rfl (bX10_notes_47 F hR hx0 (fun  s_k79 h => ?_) k_47 _ _ h)
  · refine g_aload_n (pc := 79) F dX10_notes_79 rfl 0 rfl ?_
    refine g_dup (pc := 80) F dX10_notes_80 rfl ?_
    refine g_getI (pc := 81) F clX10 hx0.1 18 rfl (by decide) uX10_161 dX10_notes_81 ?_
    refine g_iconst (pc := 84) F dX10_notes_84 ic_1 ?_
    refine g_iadd (pc := 85) F dX10_notes_85 ?_
    have h := h _ rfl
    refine g_putI (pc := 86) F clX10 hx0.1 18 rfl (by decide) rfl (tyX10_ok 18 (by decide)) uX10_161 dX10_notes_86 ?_
    exact hR _ _ _ dX10_notes_89 h
def wX10_notes_11 (x0 : Nat) (K39 : St → Prop) (Q : St → Prop) : Nat → Int32 → St → Prop
  | 0, _, _ => False
  | n + 1, x1, s =>
  (((342 : Int32) ≤ x1 → K39  s) ∧ (¬ (342 : Int32) ≤ x1 → vp_in (x1 + (38 : Int32)) 380 ∧ vp_in x1 380 ∧ ∀ s_32 : St, s_32 = stI s (x0 + 10) x1.toNatClampNeg (s.1 (x0 + 10) (x1 + (38 : Int32)).toNatClampNeg) → wX10_notes_11 x0 K39 Q n (x1 + (1 : Int32)) s_32))
set_option maxHeartbeats 4000000 in
set_option maxRecDepth 100000 in
theorem bX10_notes_11 {l : Launch} {V : Wv} {X : Mx} {x0 : Nat} {K39 : St → Prop} {Q : St → Prop} (F : Fx V X cX10_notes RX10 2 0) (hR : RtV l V X 2 cX10_notes Q) (hx0 : isX10 V x0) (hK39 : ∀  (s : St), K39  s → G l V X 2 39 [(0, rf V x0)] [] s) : ∀ (n : Nat) (x1 : Int32) (s : St), wX10_notes_11 x0 K39 Q n x1 s → G l V X 2 11 [(0, rf V x0), (1, .int x1)] [] s := by
  intro n
  induction n with
  | zero => intro x1 s h; unfold wX10_notes_11 at h; exact h.elim
  | succ n ih =>
    intro x1 s h
    unfold wX10_notes_11 at h
    refine g_iload_n (pc := 11) F dX10_notes_11 rfl 1 rfl ?_
    refine g_sipush (pc := 12) F dX10_notes_12 sp_342 ?_
    refine g_icmp_ge (pc := 15) F 39 dX10_notes_15 (by decide) (fun c => ?_) (fun c => ?_)
    · have h := h.1 c
      exact g_weak [0] rfl (hK39 _ h)
    · have h := h.2 c
      refine g_aload_n (pc := 18) F dX10_notes_18 rfl 0 rfl ?_
      refine g_getR (pc := 19) F clX10 hx0.1 17 _ rfl (by decide) uX10_38 dX10_notes_19 ?_
      refine g_iload_n (pc := 22) F dX10_notes_22 rfl 1 rfl ?_
      refine g_aload_n (pc := 23) F dX10_notes_23 rfl 0 rfl ?_
      refine g_getR (pc := 24) F clX10 hx0.1 17 _ rfl (by decide) uX10_38 dX10_notes_24 ?_
      refine g_iload_n (pc := 27) F dX10_notes_27 rfl 1 rfl ?_
      refine g_bipush (pc := 28) F dX10_notes_28 bp_38 ?_
      refine g_iadd (pc := 30) F dX10_notes_30 ?_
      obtain ⟨hb_31, h⟩ := h
      refine g_iald (pc := 31) F hx0.2.2.2.2.2.2.2.2.2.2.1 hb_31 dX10_notes_31 ?_
      obtain ⟨hb_32, h⟩ := h
      have h := h _ rfl
      refine g_iast (pc := 32) F hx0.2.2.2.2.2.2.2.2.2.2.1 hb_32 dX10_notes_32 ?_
      refine g_iinc (pc := 33) (lv' := [(_, _), (_, _)]) F dX10_notes_33 1 rfl (congrArg _ ic_1) (by decide) rfl ?_
      refine g_goto (pc := 36) F 11 dX10_notes_36 (by decide) ?_
      exact g_weak [1, 0] rfl (ih _ _ h)
def wX10_notes (x0 : Nat) (s : St) (Q : St → Prop) : Prop :=
  ((¬ (s.1 x0 18) = (10 : Int32) → wX10_notes_45 Q x0 s) ∧ ((s.1 x0 18) = (10 : Int32) → (∃ k_11, wX10_notes_11  x0 (fun  s_k39 => ∀ s_42 : St, s_42 = stI s_k39 x0 18 (9 : Int32) → wX10_notes_45 Q x0 s_42) Q k_11 (0 : Int32) s)))
set_option maxHeartbeats 4000000 in
set_option maxRecDepth 100000 in
theorem mX10_notes {l : Launch} {V : Wv} {x0 : Nat} {s : St} {Q : St → Prop} (hx0 : isX10 V x0) (h : wX10_notes x0 s Q) : Cv yX10_notes cX10_notes 2 (0) l V [rf V x0] s Q := by
  unfold wX10_notes at h
  refine Cv.of mvX10_notes.1 (Nat.le_of_ble_eq_true rfl) (fun X F hR => ?_)
  refine g_lv (lv' := [(_, _)]) rfl ?_
  refine g_aload_n (pc := 0) F dX10_notes_0 rfl 0 rfl ?_
  refine g_getI (pc := 1) F clX10 hx0.1 18 rfl (by decide) uX10_161 dX10_notes_1 ?_
  refine g_bipush (pc := 4) F dX10_notes_4 bp_10 ?_
  refine g_icmp_ne (pc := 6) F 45 dX10_notes_6 (by decide) (fun c => ?_) (fun c => ?_)
  · have h := h.1 c
    exact g_weak [0] rfl (bX10_notes_45 F hR hx0 h)
  · have h := h.2 c
    refine g_iconst (pc := 9) F dX10_notes_9 ic_0 ?_
    refine g_istore_n (pc := 10) (lv' := [(_, _), (_, _)]) F dX10_notes_10 rfl (by decide) rfl ?_
    obtain ⟨k_11, h⟩ := h
    refine g_weak [1, 0] rfl (bX10_notes_11 F hR hx0 (fun  s_k39 h => ?_) k_11 _ _ h)
    · refine g_aload_n (pc := 39) F dX10_notes_39 rfl 0 rfl ?_
      refine g_bipush (pc := 40) F dX10_notes_40 bp_9 ?_
      have h := h _ rfl
      refine g_putI (pc := 42) F clX10 hx0.1 18 rfl (by decide) rfl (tyX10_ok 18 (by decide)) uX10_161 dX10_notes_42 ?_
      exact g_weak [0] rfl (bX10_notes_45 F hR hx0 h)
def wX10_names (x0 : Nat) (x1 : Int32) (s : St) (Q : Int32 → St → Prop) : Prop :=
  ∀ s_2 : St, s_2 = stI s x0 0 (0 : Int32) → wX10_isPlace x0 x1 s_2 (fun r_7 s_7 => ((¬ r_7 = 0 → vp_in (36 : Int32) 38 ∧ vp_in (1 : Int32) 4 ∧ wX10_canBeNext x0 (x0 + 7) 38 (31 : Int32) (s_7.1 (x0 + 7) (36 : Int32).toNatClampNeg) x1 (0 : Int32) (s_7.1 (x0 + 2) (1 : Int32).toNatClampNeg) s_7 (fun r_37 s_37 => ((¬ r_37 = 0 → wX10_notes x0 s_37 (fun s_47 => vp_in (36 : Int32) 38 ∧ vp_in ((31 : Int32) + (s_47.1 (x0 + 7) (36 : Int32).toNatClampNeg)) 38 ∧ ∀ s_65 : St, s_65 = stI s_47 (x0 + 7) ((31 : Int32) + (s_47.1 (x0 + 7) (36 : Int32).toNatClampNeg)).toNatClampNeg x1 → vp_in (36 : Int32) 38 ∧ vp_in (36 : Int32) 38 ∧ ∀ s_76 : St, s_76 = stI s_65 (x0 + 7) (36 : Int32).toNatClampNeg ((s_65.1 (x0 + 7) (36 : Int32).toNatClampNeg) + (1 : Int32)) → vp_in (36 : Int32) 38 ∧ Q (s_76.1 (x0 + 7) (36 : Int32).toNatClampNeg) s_76)) ∧ (r_37 = 0 → Q (-2 : Int32) s_37)))) ∧ (r_7 = 0 → Q (-1 : Int32) s_7)))
set_option maxHeartbeats 4000000 in
set_option maxRecDepth 100000 in
theorem mX10_names {l : Launch} {V : Wv} {x0 : Nat} {x1 : Int32} {s : St} {Q : Int32 → St → Prop} (hx0 : isX10 V x0) (h : wX10_names x0 x1 s Q) : Ci yX10_names cX10_names 2 (some .int) (2) l V [rf V x0, .int x1] s Q := by
  unfold wX10_names at h
  refine Ci.of mvX10_names.1 (Nat.le_of_ble_eq_true rfl) (fun X F hR => ?_)
  refine g_lv (lv' := [(_, _), (_, _)]) rfl ?_
  refine g_aload_n (pc := 0) F dX10_names_0 rfl 0 rfl ?_
  refine g_iconst (pc := 1) F dX10_names_1 ic_0 ?_
  have h := h _ rfl
  refine g_putI (pc := 2) F clX10 hx0.1 0 rfl (by decide) rfl (tyX10_ok 0 (by decide)) uX10_89 dX10_names_2 ?_
  refine g_aload_n (pc := 5) F dX10_names_5 rfl 0 rfl ?_
  refine g_iload_n (pc := 6) F dX10_names_6 rfl 1 rfl ?_
  refine g_callVi (pc := 7) F (mX10_isPlace hx0 h) mvX10_isPlace uX10_188 (by decide) clX10 hx0.1 rfl rfl (Nat.le_of_ble_eq_true rfl) dX10_names_7 (fun r_7 s_7 h => ?_)
  refine g_if_ne (pc := 10) F 15 dX10_names_10 (by decide) (fun c => ?_) (fun c => ?_)
  · have h := h.1 c
    refine g_aload_n (pc := 15) F dX10_names_15 rfl 0 rfl ?_
    refine g_aload_n (pc := 16) F dX10_names_16 rfl 0 rfl ?_
    refine g_getR (pc := 17) F clX10 hx0.1 14 _ rfl (by decide) uX10_28 dX10_names_17 ?_
    refine g_bipush (pc := 20) F dX10_names_20 bp_31 ?_
    refine g_aload_n (pc := 22) F dX10_names_22 rfl 0 rfl ?_
    refine g_getR (pc := 23) F clX10 hx0.1 14 _ rfl (by decide) uX10_28 dX10_names_23 ?_
    refine g_bipush (pc := 26) F dX10_names_26 bp_36 ?_
    obtain ⟨hb_28, h⟩ := h
    refine g_iald (pc := 28) F hx0.2.2.2.2.2.2.2.1 hb_28 dX10_names_28 ?_
    refine g_iload_n (pc := 29) F dX10_names_29 rfl 1 rfl ?_
    refine g_iconst (pc := 30) F dX10_names_30 ic_0 ?_
    refine g_aload_n (pc := 31) F dX10_names_31 rfl 0 rfl ?_
    refine g_getR (pc := 32) F clX10 hx0.1 9 _ rfl (by decide) uX10_13 dX10_names_32 ?_
    refine g_iconst (pc := 35) F dX10_names_35 ic_1 ?_
    obtain ⟨hb_36, h⟩ := h
    refine g_iald (pc := 36) F hx0.2.2.1 hb_36 dX10_names_36 ?_
    refine g_callVi (pc := 37) F (mX10_canBeNext hx0 hx0.2.2.2.2.2.2.2.1 h) mvX10_canBeNext uX10_138 (by decide) clX10 hx0.1 rfl rfl (Nat.le_of_ble_eq_true rfl) dX10_names_37 (fun r_37 s_37 h => ?_)
    refine g_if_ne (pc := 40) F 46 dX10_names_40 (by decide) (fun c => ?_) (fun c => ?_)
    · have h := h.1 c
      refine g_aload_n (pc := 46) F dX10_names_46 rfl 0 rfl ?_
      refine g_callVv (pc := 47) F (mX10_notes hx0 h) mvX10_notes uX10_191 (by decide) clX10 hx0.1 rfl rfl (Nat.le_of_ble_eq_true rfl) dX10_names_47 (fun s_47 h => ?_)
      refine g_aload_n (pc := 50) F dX10_names_50 rfl 0 rfl ?_
      refine g_getR (pc := 51) F clX10 hx0.1 14 _ rfl (by decide) uX10_28 dX10_names_51 ?_
      refine g_bipush (pc := 54) F dX10_names_54 bp_31 ?_
      refine g_aload_n (pc := 56) F dX10_names_56 rfl 0 rfl ?_
      refine g_getR (pc := 57) F clX10 hx0.1 14 _ rfl (by decide) uX10_28 dX10_names_57 ?_
      refine g_bipush (pc := 60) F dX10_names_60 bp_36 ?_
      obtain ⟨hb_62, h⟩ := h
      refine g_iald (pc := 62) F hx0.2.2.2.2.2.2.2.1 hb_62 dX10_names_62 ?_
      refine g_iadd (pc := 63) F dX10_names_63 ?_
      refine g_iload_n (pc := 64) F dX10_names_64 rfl 1 rfl ?_
      obtain ⟨hb_65, h⟩ := h
      have h := h _ rfl
      refine g_iast (pc := 65) F hx0.2.2.2.2.2.2.2.1 hb_65 dX10_names_65 ?_
      refine g_aload_n (pc := 66) F dX10_names_66 rfl 0 rfl ?_
      refine g_getR (pc := 67) F clX10 hx0.1 14 _ rfl (by decide) uX10_28 dX10_names_67 ?_
      refine g_bipush (pc := 70) F dX10_names_70 bp_36 ?_
      refine g_dup2 (pc := 72) F dX10_names_72 rfl rfl ?_
      obtain ⟨hb_73, h⟩ := h
      refine g_iald (pc := 73) F hx0.2.2.2.2.2.2.2.1 hb_73 dX10_names_73 ?_
      refine g_iconst (pc := 74) F dX10_names_74 ic_1 ?_
      refine g_iadd (pc := 75) F dX10_names_75 ?_
      obtain ⟨hb_76, h⟩ := h
      have h := h _ rfl
      refine g_iast (pc := 76) F hx0.2.2.2.2.2.2.2.1 hb_76 dX10_names_76 ?_
      refine g_aload_n (pc := 77) F dX10_names_77 rfl 0 rfl ?_
      refine g_getR (pc := 78) F clX10 hx0.1 14 _ rfl (by decide) uX10_28 dX10_names_78 ?_
      refine g_bipush (pc := 81) F dX10_names_81 bp_36 ?_
      obtain ⟨hb_83, h⟩ := h
      refine g_iald (pc := 83) F hx0.2.2.2.2.2.2.2.1 hb_83 dX10_names_83 ?_
      exact hR _ _ _ _ dX10_names_84 h
    · have h := h.2 c
      refine g_bipush (pc := 43) F dX10_names_43 bp_m2 ?_
      exact hR _ _ _ _ dX10_names_45 h
  · have h := h.2 c
    refine g_iconst (pc := 13) F dX10_names_13 ic_m1 ?_
    exact hR _ _ _ _ dX10_names_14 h
def wX10_digsFor_34 (Q : St → Prop) (t0 : Int32) (t1 : Int32) (t2 : Nat) (s : St) : Prop :=
  vp_in t1 38 ∧ ∀ s_34 : St, s_34 = stI s t2 t1.toNatClampNeg t0 → Q s_34
set_option maxHeartbeats 4000000 in
set_option maxRecDepth 100000 in
theorem bX10_digsFor_34 {l : Launch} {V : Wv} {X : Mx} {Q : St → Prop} {t0 : Int32} {t1 : Int32} {t2 : Nat} (F : Fx V X cX10_digsFor RX10 2 0) (hR : RtV l V X 2 cX10_digsFor Q) (ht2 : V.2.1[t2]? = some (11, [38]))  {s : St} (h : wX10_digsFor_34 Q t0 t1 t2 s) : G l V X 2 34 [] [.int t0, .int t1, rf V t2] s := by
  unfold wX10_digsFor_34 at h
  obtain ⟨hb_34, h⟩ := h
  have h := h _ rfl
  refine g_iast (pc := 34) F ht2 hb_34 dX10_digsFor_34 ?_
  exact hR _ _ _ dX10_digsFor_35 h
def wX10_digsFor (x0 : Nat) (x1 : Int32) (s : St) (Q : St → Prop) : Prop :=
  vp_in (37 : Int32) 38 ∧ ((((s.1 (x0 + 7) (37 : Int32).toNatClampNeg) + x1) ≤ (99999 : Int32) → vp_in (37 : Int32) 38 ∧ wX10_digsFor_34 Q ((s.1 (x0 + 7) (37 : Int32).toNatClampNeg) + x1) (37 : Int32) (x0 + 7) s) ∧ (¬ ((s.1 (x0 + 7) (37 : Int32).toNatClampNeg) + x1) ≤ (99999 : Int32) → wX10_digsFor_34 Q (99999 : Int32) (37 : Int32) (x0 + 7) s))
set_option maxHeartbeats 4000000 in
set_option maxRecDepth 100000 in
theorem mX10_digsFor {l : Launch} {V : Wv} {x0 : Nat} {x1 : Int32} {s : St} {Q : St → Prop} (hx0 : isX10 V x0) (h : wX10_digsFor x0 x1 s Q) : Cv yX10_digsFor cX10_digsFor 2 (0) l V [rf V x0, .int x1] s Q := by
  unfold wX10_digsFor at h
  refine Cv.of mvX10_digsFor.1 (Nat.le_of_ble_eq_true rfl) (fun X F hR => ?_)
  refine g_lv (lv' := [(_, _), (_, _)]) rfl ?_
  refine g_aload_n (pc := 0) F dX10_digsFor_0 rfl 0 rfl ?_
  refine g_getR (pc := 1) F clX10 hx0.1 14 _ rfl (by decide) uX10_28 dX10_digsFor_1 ?_
  refine g_bipush (pc := 4) F dX10_digsFor_4 bp_37 ?_
  refine g_aload_n (pc := 6) F dX10_digsFor_6 rfl 0 rfl ?_
  refine g_getR (pc := 7) F clX10 hx0.1 14 _ rfl (by decide) uX10_28 dX10_digsFor_7 ?_
  refine g_bipush (pc := 10) F dX10_digsFor_10 bp_37 ?_
  obtain ⟨hb_12, h⟩ := h
  refine g_iald (pc := 12) F hx0.2.2.2.2.2.2.2.1 hb_12 dX10_digsFor_12 ?_
  refine g_iload_n (pc := 13) F dX10_digsFor_13 rfl 1 rfl ?_
  refine g_iadd (pc := 14) F dX10_digsFor_14 ?_
  refine g_ldc (pc := 15) F dX10_digsFor_15 uX10_194 ?_
  refine g_icmp_le (pc := 17) F 25 dX10_digsFor_17 (by decide) (fun c => ?_) (fun c => ?_)
  · have h := h.1 c
    refine g_aload_n (pc := 25) F dX10_digsFor_25 rfl 0 rfl ?_
    refine g_getR (pc := 26) F clX10 hx0.1 14 _ rfl (by decide) uX10_28 dX10_digsFor_26 ?_
    refine g_bipush (pc := 29) F dX10_digsFor_29 bp_37 ?_
    obtain ⟨hb_31, h⟩ := h
    refine g_iald (pc := 31) F hx0.2.2.2.2.2.2.2.1 hb_31 dX10_digsFor_31 ?_
    refine g_iload_n (pc := 32) F dX10_digsFor_32 rfl 1 rfl ?_
    refine g_iadd (pc := 33) F dX10_digsFor_33 ?_
    exact g_weak [] rfl (bX10_digsFor_34 F hR hx0.2.2.2.2.2.2.2.1 h)
  · have h := h.2 c
    refine g_ldc (pc := 20) F dX10_digsFor_20 uX10_194 ?_
    refine g_goto (pc := 22) F 34 dX10_digsFor_22 (by decide) ?_
    exact g_weak [] rfl (bX10_digsFor_34 F hR hx0.2.2.2.2.2.2.2.1 h)
def wX10_draftLanes (x0 : Nat) (s : St) (Q : Int32 → St → Prop) : Prop :=
  vp_in (36 : Int32) 38 ∧ (((2 : Int32) ≤ (s.1 (x0 + 7) (36 : Int32).toNatClampNeg) → vp_in (36 : Int32) 38 ∧ wX10_lanesOf x0 (31 : Int32) (s.1 (x0 + 7) (36 : Int32).toNatClampNeg) s (fun r_25 s_25 => Q r_25 s_25)) ∧ (¬ (2 : Int32) ≤ (s.1 (x0 + 7) (36 : Int32).toNatClampNeg) → Q (0 : Int32) s))
set_option maxHeartbeats 4000000 in
set_option maxRecDepth 100000 in
theorem mX10_draftLanes {l : Launch} {V : Wv} {x0 : Nat} {s : St} {Q : Int32 → St → Prop} (hx0 : isX10 V x0) (h : wX10_draftLanes x0 s Q) : Ci yX10_draftLanes cX10_draftLanes 1 (some .int) (2) l V [rf V x0] s Q := by
  unfold wX10_draftLanes at h
  refine Ci.of mvX10_draftLanes.1 (Nat.le_of_ble_eq_true rfl) (fun X F hR => ?_)
  refine g_lv (lv' := [(_, _)]) rfl ?_
  refine g_aload_n (pc := 0) F dX10_draftLanes_0 rfl 0 rfl ?_
  refine g_getR (pc := 1) F clX10 hx0.1 14 _ rfl (by decide) uX10_28 dX10_draftLanes_1 ?_
  refine g_bipush (pc := 4) F dX10_draftLanes_4 bp_36 ?_
  obtain ⟨hb_6, h⟩ := h
  refine g_iald (pc := 6) F hx0.2.2.2.2.2.2.2.1 hb_6 dX10_draftLanes_6 ?_
  refine g_iconst (pc := 7) F dX10_draftLanes_7 ic_2 ?_
  refine g_icmp_ge (pc := 8) F 15 dX10_draftLanes_8 (by decide) (fun c => ?_) (fun c => ?_)
  · have h := h.1 c
    refine g_aload_n (pc := 15) F dX10_draftLanes_15 rfl 0 rfl ?_
    refine g_bipush (pc := 16) F dX10_draftLanes_16 bp_31 ?_
    refine g_aload_n (pc := 18) F dX10_draftLanes_18 rfl 0 rfl ?_
    refine g_getR (pc := 19) F clX10 hx0.1 14 _ rfl (by decide) uX10_28 dX10_draftLanes_19 ?_
    refine g_bipush (pc := 22) F dX10_draftLanes_22 bp_36 ?_
    obtain ⟨hb_24, h⟩ := h
    refine g_iald (pc := 24) F hx0.2.2.2.2.2.2.2.1 hb_24 dX10_draftLanes_24 ?_
    refine g_callVi (pc := 25) F (mX10_lanesOf hx0 h) mvX10_lanesOf uX10_164 (by decide) clX10 hx0.1 rfl rfl (Nat.le_of_ble_eq_true rfl) dX10_draftLanes_25 (fun r_25 s_25 h => ?_)
    exact hR _ _ _ _ dX10_draftLanes_28 h
  · have h := h.2 c
    refine g_iconst (pc := 11) F dX10_draftLanes_11 ic_0 ?_
    refine g_goto (pc := 12) F 28 dX10_draftLanes_12 (by decide) ?_
    exact hR _ _ _ _ dX10_draftLanes_28 h
def wX10_apart (x0 : Int32) (x1 : Int32) (s : St) (Q : Int32 → St → Prop) : Prop :=
  ((x1 ≤ x0 → Q (x0 - x1) s) ∧ (¬ x1 ≤ x0 → Q (x1 - x0) s))
set_option maxHeartbeats 4000000 in
set_option maxRecDepth 100000 in
theorem mX10_apart {l : Launch} {V : Wv} {x0 : Int32} {x1 : Int32} {s : St} {Q : Int32 → St → Prop}  (h : wX10_apart x0 x1 s Q) : Ci yX10_apart cX10_apart 2 (some .int) (0) l V [.int x0, .int x1] s Q := by
  unfold wX10_apart at h
  refine Ci.of mvX10_apart.1 (Nat.le_of_ble_eq_true rfl) (fun X F hR => ?_)
  refine g_lv (lv' := [(_, _), (_, _)]) rfl ?_
  refine g_iload_n (pc := 0) F dX10_apart_0 rfl 0 rfl ?_
  refine g_iload_n (pc := 1) F dX10_apart_1 rfl 1 rfl ?_
  refine g_icmp_ge (pc := 2) F 11 dX10_apart_2 (by decide) (fun c => ?_) (fun c => ?_)
  · have h := h.1 c
    refine g_iload_n (pc := 11) F dX10_apart_11 rfl 0 rfl ?_
    refine g_iload_n (pc := 12) F dX10_apart_12 rfl 1 rfl ?_
    refine g_isub (pc := 13) F dX10_apart_13 ?_
    exact hR _ _ _ _ dX10_apart_14 h
  · have h := h.2 c
    refine g_iload_n (pc := 5) F dX10_apart_5 rfl 1 rfl ?_
    refine g_iload_n (pc := 6) F dX10_apart_6 rfl 0 rfl ?_
    refine g_isub (pc := 7) F dX10_apart_7 ?_
    refine g_goto (pc := 8) F 14 dX10_apart_8 (by decide) ?_
    exact hR _ _ _ _ dX10_apart_14 h
def wX10_allMaps (x0 : Nat) (s : St) (Q : Int32 → St → Prop) : Prop :=
  vp_in (6 : Int32) 38 ∧ Q (((1 : Int32) <<< ((s.1 (x0 + 7) (6 : Int32).toNatClampNeg) &&& 31)) - (1 : Int32)) s
set_option maxHeartbeats 4000000 in
set_option maxRecDepth 100000 in
theorem mX10_allMaps {l : Launch} {V : Wv} {x0 : Nat} {s : St} {Q : Int32 → St → Prop} (hx0 : isX10 V x0) (h : wX10_allMaps x0 s Q) : Ci yX10_allMaps cX10_allMaps 1 (some .int) (0) l V [rf V x0] s Q := by
  unfold wX10_allMaps at h
  refine Ci.of mvX10_allMaps.1 (Nat.le_of_ble_eq_true rfl) (fun X F hR => ?_)
  refine g_lv (lv' := [(_, _)]) rfl ?_
  refine g_iconst (pc := 0) F dX10_allMaps_0 ic_1 ?_
  refine g_aload_n (pc := 1) F dX10_allMaps_1 rfl 0 rfl ?_
  refine g_getR (pc := 2) F clX10 hx0.1 14 _ rfl (by decide) uX10_28 dX10_allMaps_2 ?_
  refine g_bipush (pc := 5) F dX10_allMaps_5 bp_6 ?_
  obtain ⟨hb_7, h⟩ := h
  refine g_iald (pc := 7) F hx0.2.2.2.2.2.2.2.1 hb_7 dX10_allMaps_7 ?_
  refine g_ishl (pc := 8) F dX10_allMaps_8 ?_
  refine g_iconst (pc := 9) F dX10_allMaps_9 ic_1 ?_
  refine g_isub (pc := 10) F dX10_allMaps_10 ?_
  exact hR _ _ _ _ dX10_allMaps_11 h
