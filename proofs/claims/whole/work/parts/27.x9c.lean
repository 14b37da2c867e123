/-! printed by program: what each method does to the state (w..), and that its code does so (b.., m..) -/
def wX9_findSpite_73 (rec : Int32 → St → Prop) (K82 : St → Prop) (Q : St → Prop) (x1 : Int64) (x3 : Int32) (x4 : Int32) (t0 : Int32) (t1 : Int32) (t2 : Nat) (s : St) : Prop :=
  wX5_see t2 t1 t0 s (fun s_73 => rec (x4 + (1 : Int32)) s_73)
set_option maxHeartbeats 4000000 in
set_option maxRecDepth 100000 in
theorem bX9_findSpite_73 {l : Launch} {V : Wv} {X : Mx} {rec : Int32 → St → Prop} {K82 : St → Prop} {Q : St → Prop} {x1 : Int64} {x3 : Int32} {x4 : Int32} {t0 : Int32} {t1 : Int32} {t2 : Nat} (F : Fx V X cX9_findSpite RX9 5 12) (hR : RtV l V X 5 cX9_findSpite Q) (hV : V.2.1 = DESC) (ht2 : isX5 V t2) (hrec : ∀ (y4 : Int32) (s : St), rec y4 s → G l V X 5 36 [(0, rf V 0), (1, .long x1), (3, .int x3), (4, .int y4)] [] s) (hK82 : ∀  (s : St), K82  s → G l V X 5 82 [(0, rf V 0)] [] s) {s : St} (h : wX9_findSpite_73 rec K82 Q x1 x3 x4 t0 t1 t2 s) : G l V X 5 73 [(0, rf V 0), (1, .long x1), (3, .int x3), (4, .int x4)] [.int t0, .int t1, rf V t2] s := by
  unfold wX9_findSpite_73 at h
  refine g_callVv (pc := 73) F (mX5_see ht2 h) mvX5_see uX9_317 (by decide) clX5 ht2 rfl rfl (Nat.le_of_ble_eq_true rfl) dX9_findSpite_73 (fun s_73 h => ?_)
  refine g_iinc (pc := 76) (lv' := [(_, _), (_, _), (_, _), (_, _)]) F dX9_findSpite_76 3 rfl (congrArg _ ic_1) (by decide) rfl ?_
  refine g_goto (pc := 79) F 36 dX9_findSpite_79 (by decide) ?_
  exact g_weak [1, 2, 3, 0] rfl (hrec _ _ h)
def wX9_findSpite_36 (x1 : Int64) (x3 : Int32) (K82 : St → Prop) (Q : St → Prop) : Nat → Int32 → St → Prop
  | 0, _, _ => False
  | n + 1, x4, s =>
  (((s.1 21 0) ≤ x4 → K82  s) ∧ (¬ (s.1 21 0) ≤ x4 → ((x3 = 0 → wX9_findSpite_73 (wX9_findSpite_36 x1 x3 K82 Q n) (K82) Q x1 x3 x4 (-9 : Int32) x4 88 s) ∧ (¬ x3 = 0 → wX9_costOf (x1 ||| ((1 : Int64) <<< (x4.toInt64 &&& 63))) s (fun r_65 s_65 => wX9_findSpite_73 (wX9_findSpite_36 x1 x3 K82 Q n) (K82) Q x1 x3 x4 r_65 x4 88 s_65)))))
set_option maxHeartbeats 4000000 in
set_option maxRecDepth 100000 in
theorem bX9_findSpite_36 {l : Launch} {V : Wv} {X : Mx} {x1 : Int64} {x3 : Int32} {K82 : St → Prop} {Q : St → Prop} (F : Fx V X cX9_findSpite RX9 5 12) (hR : RtV l V X 5 cX9_findSpite Q) (hV : V.2.1 = DESC) (hK82 : ∀  (s : St), K82  s → G l V X 5 82 [(0, rf V 0)] [] s) : ∀ (n : Nat) (x4 : Int32) (s : St), wX9_findSpite_36 x1 x3 K82 Q n x4 s → G l V X 5 36 [(0, rf V 0), (1, .long x1), (3, .int x3), (4, .int x4)] [] s := by
  intro n
  induction n with
  | zero => intro x4 s h; unfold wX9_findSpite_36 at h; exact h.elim
  | succ n ih =>
    intro x4 s h
    unfold wX9_findSpite_36 at h
    refine g_iload (pc := 36) F dX9_findSpite_36 3 rfl ?_
    refine g_aload_n (pc := 38) F dX9_findSpite_38 rfl 0 rfl ?_
    refine g_getR (pc := 39) F clX9 (sh_0 hV) 5 _ rfl (by decide) uX9_39 dX9_findSpite_39 ?_
    refine g_getI (pc := 42) F clX8 (is_21 hV).1 0 rfl (by decide) uX9_269 dX9_findSpite_42 ?_
    refine g_icmp_ge (pc := 45) F 82 dX9_findSpite_45 (by decide) (fun c => ?_) (fun c => ?_)
    · have h := h.1 c
      exact g_weak [0] rfl (hK82 _ h)
    · have h := h.2 c
      refine g_aload_n (pc := 48) F dX9_findSpite_48 rfl 0 rfl ?_
      refine g_getR (pc := 49) F clX9 (sh_0 hV) 11 _ rfl (by decide) uX9_75 dX9_findSpite_49 ?_
      refine g_iload (pc := 52) F dX9_findSpite_52 3 rfl ?_
      refine g_iload_n (pc := 54) F dX9_findSpite_54 rfl 2 rfl ?_
      refine g_if_eq (pc := 55) F 71 dX9_findSpite_55 (by decide) (fun c => ?_) (fun c => ?_)
      · have h := h.1 c
        refine g_bipush (pc := 71) F dX9_findSpite_71 bp_m9 ?_
        exact g_weak [0, 1, 2, 3] rfl (bX9_findSpite_73 F hR hV (is_88 hV) ih hK82 h)
      · have h := h.2 c
        refine g_aload_n (pc := 58) F dX9_findSpite_58 rfl 0 rfl ?_
        refine g_lload_n (pc := 59) F dX9_findSpite_59 rfl 1 rfl ?_
        refine g_lconst (pc := 60) (v := 1) F dX9_findSpite_60 (by decide) ?_
        refine g_iload (pc := 61) F dX9_findSpite_61 3 rfl ?_
        refine g_lshl (pc := 63) F dX9_findSpite_63 ?_
        refine g_lor (pc := 64) F dX9_findSpite_64 ?_
        refine g_callVi (pc := 65) F (mX9_costOf hV h) mvX9_costOf uX9_265 (by decide) clX9 (sh_0 hV) rfl rfl (Nat.le_of_ble_eq_true rfl) dX9_findSpite_65 (fun r_65 s_65 h => ?_)
        refine g_goto (pc := 68) F 73 dX9_findSpite_68 (by decide) ?_
        exact g_weak [0, 1, 2, 3] rfl (bX9_findSpite_73 F hR hV (is_88 hV) ih hK82 h)
def wX9_findSpite  (s : St) (Q : St → Prop) : Prop :=
  (((s.1 88 0) = 0 → wX5_empty 88 s (fun s_15 => wX9_allMaps  s_15 (fun r_20 s_20 => wX9_waysOf r_20 s_20 (fun r_23 s_23 => wX9_canHold r_23 s_23 (fun r_29 s_29 => (∃ k_36, wX9_findSpite_36  r_23 r_29 (fun  s_k82 => ∀ s_87 : St, s_87 = stI s_k82 88 0 (1 : Int32) → Q s_87) Q k_36 (0 : Int32) s_29)))))) ∧ (¬ (s.1 88 0) = 0 → Q s))
set_option maxHeartbeats 4000000 in
set_option maxRecDepth 100000 in
theorem mX9_findSpite {l : Launch} {V : Wv}  {s : St} {Q : St → Prop} (hV : V.2.1 = DESC) (h : wX9_findSpite  s Q) : Cv yX9_findSpite cX9_findSpite 5 (12) l V [rf V 0] s Q := by
  unfold wX9_findSpite at h
  refine Cv.of mvX9_findSpite.1 (Nat.le_of_ble_eq_true rfl) (fun X F hR => ?_)
  refine g_lv (lv' := [(_, _)]) rfl ?_
  refine g_aload_n (pc := 0) F dX9_findSpite_0 rfl 0 rfl ?_
  refine g_getR (pc := 1) F clX9 (sh_0 hV) 11 _ rfl (by decide) uX9_75 dX9_findSpite_1 ?_
  refine g_getI (pc := 4) F clX5 (is_88 hV) 0 rfl (by decide) uX9_243 dX9_findSpite_4 ?_
  refine g_if_eq (pc := 7) F 11 dX9_findSpite_7 (by decide) (fun c => ?_) (fun c => ?_)
  · have h := h.1 c
    refine g_aload_n (pc := 11) F dX9_findSpite_11 rfl 0 rfl ?_
    refine g_getR (pc := 12) F clX9 (sh_0 hV) 11 _ rfl (by decide) uX9_75 dX9_findSpite_12 ?_
    refine g_callVv (pc := 15) F (mX5_empty (is_88 hV) h) mvX5_empty uX9_316 (by decide) clX5 (is_88 hV) rfl rfl (Nat.le_of_ble_eq_true rfl) dX9_findSpite_15 (fun s_15 h => ?_)
    refine g_aload_n (pc := 18) F dX9_findSpite_18 rfl 0 rfl ?_
    refine g_aload_n (pc := 19) F dX9_findSpite_19 rfl 0 rfl ?_
    refine g_callVi (pc := 20) F (mX9_allMaps hV h) mvX9_allMaps uX9_258 (by decide) clX9 (sh_0 hV) rfl rfl (Nat.le_of_ble_eq_true rfl) dX9_findSpite_20 (fun r_20 s_20 h => ?_)
    refine g_callVl (pc := 23) F (mX9_waysOf hV h) mvX9_waysOf uX9_261 (by decide) clX9 (sh_0 hV) rfl rfl (Nat.le_of_ble_eq_true rfl) dX9_findSpite_23 (fun r_23 s_23 h => ?_)
    refine g_lstore_n (pc := 26) (lv' := [(_, _), (_, _)]) F dX9_findSpite_26 rfl (by decide) rfl ?_
    refine g_aload_n (pc := 27) F dX9_findSpite_27 rfl 1 rfl ?_
    refine g_lload_n (pc := 28) F dX9_findSpite_28 rfl 0 rfl ?_
    refine g_callVi (pc := 29) F (mX9_canHold hV h) mvX9_canHold uX9_308 (by decide) clX9 (sh_0 hV) rfl rfl (Nat.le_of_ble_eq_true rfl) dX9_findSpite_29 (fun r_29 s_29 h => ?_)
    refine g_istore_n (pc := 32) (lv' := [(_, _), (_, _), (_, _)]) F dX9_findSpite_32 rfl (by decide) rfl ?_
    refine g_iconst (pc := 33) F dX9_findSpite_33 ic_0 ?_
    refine g_istore (pc := 34) (lv' := [(_, _), (_, _), (_, _), (_, _)]) F dX9_findSpite_34 (by decide) rfl ?_
    obtain ⟨k_36, h⟩ := h
    refine g_weak [3, 2, 1, 0] rfl (bX9_findSpite_36 F hR hV (fun  s_k82 h => ?_) k_36 _ _ h)
    · refine g_aload_n (pc := 82) F dX9_findSpite_82 rfl 0 rfl ?_
      refine g_getR (pc := 83) F clX9 (sh_0 hV) 11 _ rfl (by decide) uX9_75 dX9_findSpite_83 ?_
      refine g_iconst (pc := 86) F dX9_findSpite_86 ic_1 ?_
      have h := h _ rfl
      refine g_putZ (pc := 87) F clX5 (is_88 hV) 0 rfl (by decide) rfl (tyX5_ok 0 (by decide)) (by decide) (by decide) uX9_243 dX9_findSpite_87 ?_
      exact hR _ _ _ dX9_findSpite_90 h
  · have h := h.2 c
    exact hR _ _ _ dX9_findSpite_10 h
def wX9_spite (x1 : Int32) (s : St) (Q : Int32 → St → Prop) : Prop :=
  ((x1 < 0 → Q (-1 : Int32) s) ∧ (¬ x1 < 0 → ((x1 ≤ (2 : Int32) → vp_in (4 : Int32) 5 ∧ (((s.1 15 (4 : Int32).toNatClampNeg) = 0 → ((¬ x1 = (2 : Int32) → wX9_findSpite  s (fun s_40 => ((¬ x1 = 0 → Q (s_40.1 88 3) s_40) ∧ (x1 = 0 → Q (s_40.1 88 1) s_40)))) ∧ (x1 = (2 : Int32) → Q (s.1 21 0) s))) ∧ (¬ (s.1 15 (4 : Int32).toNatClampNeg) = 0 → Q (-2 : Int32) s))) ∧ (¬ x1 ≤ (2 : Int32) → Q (-1 : Int32) s))))
set_option maxHeartbeats 4000000 in
set_option maxRecDepth 100000 in
theorem mX9_spite {l : Launch} {V : Wv} {x1 : Int32} {s : St} {Q : Int32 → St → Prop} (hV : V.2.1 = DESC) (h : wX9_spite x1 s Q) : Ci yX9_spite cX9_spite 2 (some .int) (13) l V [rf V 0, .int x1] s Q := by
  unfold wX9_spite at h
  refine Ci.of mvX9_spite.1 (Nat.le_of_ble_eq_true rfl) (fun X F hR => ?_)
  refine g_lv (lv' := [(_, _), (_, _)]) rfl ?_
  refine g_iload_n (pc := 0) F dX9_spite_0 rfl 1 rfl ?_
  refine g_if_lt (pc := 1) F 9 dX9_spite_1 (by decide) (fun c => ?_) (fun c => ?_)
  · have h := h.1 c
    refine g_iconst (pc := 9) F dX9_spite_9 ic_m1 ?_
    exact hR _ _ _ _ dX9_spite_10 h
  · have h := h.2 c
    refine g_iload_n (pc := 4) F dX9_spite_4 rfl 1 rfl ?_
    refine g_iconst (pc := 5) F dX9_spite_5 ic_2 ?_
    refine g_icmp_le (pc := 6) F 11 dX9_spite_6 (by decide) (fun c => ?_) (fun c => ?_)
    · have h := h.1 c
      refine g_aload_n (pc := 11) F dX9_spite_11 rfl 0 rfl ?_
      refine g_getR (pc := 12) F clX9 (sh_0 hV) 3 _ rfl (by decide) uX9_29 dX9_spite_12 ?_
      refine g_getR (pc := 15) F clX2 (is_13 hV).1 1 _ rfl (by decide) uX9_144 dX9_spite_15 ?_
      refine g_iconst (pc := 18) F dX9_spite_18 ic_4 ?_
      obtain ⟨hb_19, h⟩ := h
      refine g_iald (pc := 19) F (is_13 hV).2.2.1 hb_19 dX9_spite_19 ?_
      refine g_if_eq (pc := 20) F 26 dX9_spite_20 (by decide) (fun c => ?_) (fun c => ?_)
      · have h := h.1 c
        refine g_iload_n (pc := 26) F dX9_spite_26 rfl 1 rfl ?_
        refine g_iconst (pc := 27) F dX9_spite_27 ic_2 ?_
        refine g_icmp_ne (pc := 28) F 39 dX9_spite_28 (by decide) (fun c => ?_) (fun c => ?_)
        · have h := h.1 c
          refine g_aload_n (pc := 39) F dX9_spite_39 rfl 0 rfl ?_
          refine g_callVv (pc := 40) F (mX9_findSpite hV h) mvX9_findSpite uX9_272 (by decide) clX9 (sh_0 hV) rfl rfl (Nat.le_of_ble_eq_true rfl) dX9_spite_40 (fun s_40 h => ?_)
          refine g_iload_n (pc := 43) F dX9_spite_43 rfl 1 rfl ?_
          refine g_if_ne (pc := 44) F 57 dX9_spite_44 (by decide) (fun c => ?_) (fun c => ?_)
          · have h := h.1 c
            refine g_aload_n (pc := 57) F dX9_spite_57 rfl 0 rfl ?_
            refine g_getR (pc := 58) F clX9 (sh_0 hV) 11 _ rfl (by decide) uX9_75 dX9_spite_58 ?_
            refine g_getI (pc := 61) F clX5 (is_88 hV) 3 rfl (by decide) uX9_278 dX9_spite_61 ?_
            exact hR _ _ _ _ dX9_spite_64 h
          · have h := h.2 c
            refine g_aload_n (pc := 47) F dX9_spite_47 rfl 0 rfl ?_
            refine g_getR (pc := 48) F clX9 (sh_0 hV) 11 _ rfl (by decide) uX9_75 dX9_spite_48 ?_
            refine g_getI (pc := 51) F clX5 (is_88 hV) 1 rfl (by decide) uX9_275 dX9_spite_51 ?_
            refine g_goto (pc := 54) F 64 dX9_spite_54 (by decide) ?_
            exact hR _ _ _ _ dX9_spite_64 h
        · have h := h.2 c
          refine g_aload_n (pc := 31) F dX9_spite_31 rfl 0 rfl ?_
          refine g_getR (pc := 32) F clX9 (sh_0 hV) 5 _ rfl (by decide) uX9_39 dX9_spite_32 ?_
          refine g_getI (pc := 35) F clX8 (is_21 hV).1 0 rfl (by decide) uX9_269 dX9_spite_35 ?_
          exact hR _ _ _ _ dX9_spite_38 h
      · have h := h.2 c
        refine g_bipush (pc := 23) F dX9_spite_23 bp_m2 ?_
        exact hR _ _ _ _ dX9_spite_25 h
    · have h := h.2 c
      refine g_iconst (pc := 9) F dX9_spite_9 ic_m1 ?_
      exact hR _ _ _ _ dX9_spite_10 h
def wX9_spiteful (x1 : Int32) (s : St) (Q : Int32 → St → Prop) : Prop :=
  ((x1 < 0 → Q (-1 : Int32) s) ∧ (¬ x1 < 0 → ((x1 < (5 : Int32) → vp_in (4 : Int32) 5 ∧ (((s.1 15 (4 : Int32).toNatClampNeg) = 0 → wX9_findSpite  s (fun s_27 => wX8_placeAt 21 (s_27.1 88 2) x1 s_27 (fun r_42 s_42 => Q r_42 s_42))) ∧ (¬ (s.1 15 (4 : Int32).toNatClampNeg) = 0 → Q (-2 : Int32) s))) ∧ (¬ x1 < (5 : Int32) → Q (-1 : Int32) s))))
set_option maxHeartbeats 4000000 in
set_option maxRecDepth 100000 in
theorem mX9_spiteful {l : Launch} {V : Wv} {x1 : Int32} {s : St} {Q : Int32 → St → Prop} (hV : V.2.1 = DESC) (h : wX9_spiteful x1 s Q) : Ci yX9_spiteful cX9_spiteful 2 (some .int) (13) l V [rf V 0, .int x1] s Q := by
  unfold wX9_spiteful at h
  refine Ci.of mvX9_spiteful.1 (Nat.le_of_ble_eq_true rfl) (fun X F hR => ?_)
  refine g_lv (lv' := [(_, _), (_, _)]) rfl ?_
  refine g_iload_n (pc := 0) F dX9_spiteful_0 rfl 1 rfl ?_
  refine g_if_lt (pc := 1) F 9 dX9_spiteful_1 (by decide) (fun c => ?_) (fun c => ?_)
  · have h := h.1 c
    refine g_iconst (pc := 9) F dX9_spiteful_9 ic_m1 ?_
    exact hR _ _ _ _ dX9_spiteful_10 h
  · have h := h.2 c
    refine g_iload_n (pc := 4) F dX9_spiteful_4 rfl 1 rfl ?_
    refine g_iconst (pc := 5) F dX9_spiteful_5 ic_5 ?_
    refine g_icmp_lt (pc := 6) F 11 dX9_spiteful_6 (by decide) (fun c => ?_) (fun c => ?_)
    · have h := h.1 c
      refine g_aload_n (pc := 11) F dX9_spiteful_11 rfl 0 rfl ?_
      refine g_getR (pc := 12) F clX9 (sh_0 hV) 3 _ rfl (by decide) uX9_29 dX9_spiteful_12 ?_
      refine g_getR (pc := 15) F clX2 (is_13 hV).1 1 _ rfl (by decide) uX9_144 dX9_spiteful_15 ?_
      refine g_iconst (pc := 18) F dX9_spiteful_18 ic_4 ?_
      obtain ⟨hb_19, h⟩ := h
      refine g_iald (pc := 19) F (is_13 hV).2.2.1 hb_19 dX9_spiteful_19 ?_
      refine g_if_eq (pc := 20) F 26 dX9_spiteful_20 (by decide) (fun c => ?_) (fun c => ?_)
      · have h := h.1 c
        refine g_aload_n (pc := 26) F dX9_spiteful_26 rfl 0 rfl ?_
        refine g_callVv (pc := 27) F (mX9_findSpite hV h) mvX9_findSpite uX9_272 (by decide) clX9 (sh_0 hV) rfl rfl (Nat.le_of_ble_eq_true rfl) dX9_spiteful_27 (fun s_27 h => ?_)
        refine g_aload_n (pc := 30) F dX9_spiteful_30 rfl 0 rfl ?_
        refine g_getR (pc := 31) F clX9 (sh_0 hV) 5 _ rfl (by decide) uX9_39 dX9_spiteful_31 ?_
        refine g_aload_n (pc := 34) F dX9_spiteful_34 rfl 0 rfl ?_
        refine g_getR (pc := 35) F clX9 (sh_0 hV) 11 _ rfl (by decide) uX9_75 dX9_spiteful_35 ?_
        refine g_getI (pc := 38) F clX5 (is_88 hV) 2 rfl (by decide) uX9_281 dX9_spiteful_38 ?_
        refine g_iload_n (pc := 41) F dX9_spiteful_41 rfl 1 rfl ?_
        refine g_callVi (pc := 42) F (mX8_placeAt (is_21 hV) h) mvX8_placeAt uX9_284 (by decide) clX8 (is_21 hV).1 rfl rfl (Nat.le_of_ble_eq_true rfl) dX9_spiteful_42 (fun r_42 s_42 h => ?_)
        exact hR _ _ _ _ dX9_spiteful_45 h
      · have h := h.2 c
        refine g_bipush (pc := 23) F dX9_spiteful_23 bp_m2 ?_
        exact hR _ _ _ _ dX9_spiteful_25 h
    · have h := h.2 c
      refine g_iconst (pc := 9) F dX9_spiteful_9 ic_m1 ?_
      exact hR _ _ _ _ dX9_spiteful_10 h
def wX9_chances_36 (rec : Int32 → Int32 → St → Prop) (Q : Int32 → St → Prop) (x1 : Int32) (x2 : Int32) (x4 : Int32) (t0 : Int32) (t1 : Int32) (s : St) : Prop :=
  rec (t1 * t0) (x4 + (1 : Int32)) s
set_option maxHeartbeats 4000000 in
set_option maxRecDepth 100000 in
theorem bX9_chances_36 {l : Launch} {V : Wv} {X : Mx} {rec : Int32 → Int32 → St → Prop} {Q : Int32 → St → Prop} {x1 : Int32} {x2 : Int32} {x4 : Int32} {t0 : Int32} {t1 : Int32} (F : Fx V X cX9_chances RX9 5 0) (hR : RtI l V X 5 cX9_chances Q) (hV : V.2.1 = DESC) (hrec : ∀ (y3 : Int32) (y4 : Int32) (s : St), rec y3 y4 s → G l V X 5 5 [(0, rf V 0), (1, .int x1), (2, .int x2), (3, .int y3), (4, .int y4)] [] s) {s : St} (h : wX9_chances_36 rec Q x1 x2 x4 t0 t1 s) : G l V X 5 36 [(0, rf V 0), (1, .int x1), (2, .int x2), (4, .int x4)] [.int t0, .int t1] s := by
  unfold wX9_chances_36 at h
  refine g_imul (pc := 36) F dX9_chances_36 ?_
  refine g_istore_n (pc := 37) (lv' := [(_, _), (_, _), (_, _), (_, _), (_, _)]) F dX9_chances_37 rfl (by decide) rfl ?_
  refine g_iinc (pc := 38) (lv' := [(_, _), (_, _), (_, _), (_, _), (_, _)]) F dX9_chances_38 4 rfl (congrArg _ ic_1) (by decide) rfl ?_
  refine g_goto (pc := 41) F 5 dX9_chances_41 (by decide) ?_
  exact g_weak [2, 3, 4, 1, 0] rfl (hrec _ _ _ h)
def wX9_chances_5 (x1 : Int32) (x2 : Int32) (Q : Int32 → St → Prop) : Nat → Int32 → Int32 → St → Prop
  | 0, _, _, _ => False
  | n + 1, x3, x4, s =>
  (((s.1 13 3) ≤ x4 → Q x3 s) ∧ (¬ (s.1 13 3) ≤ x4 → ((¬ ((x1 >>> (x4 &&& 31)) &&& (1 : Int32)) = (1 : Int32) → wX9_chances_36 (wX9_chances_5 x1 x2 Q n) Q x1 x2 x4 x2 x3 s) ∧ (((x1 >>> (x4 &&& 31)) &&& (1 : Int32)) = (1 : Int32) → wX9_chances_36 (wX9_chances_5 x1 x2 Q n) Q x1 x2 x4 ((10 : Int32) - x2) x3 s))))
set_option maxHeartbeats 4000000 in
set_option maxRecDepth 100000 in
theorem bX9_chances_5 {l : Launch} {V : Wv} {X : Mx} {x1 : Int32} {x2 : Int32} {Q : Int32 → St → Prop} (F : Fx V X cX9_chances RX9 5 0) (hR : RtI l V X 5 cX9_chances Q) (hV : V.2.1 = DESC)  : ∀ (n : Nat) (x3 : Int32) (x4 : Int32) (s : St), wX9_chances_5 x1 x2 Q n x3 x4 s → G l V X 5 5 [(0, rf V 0), (1, .int x1), (2, .int x2), (3, .int x3), (4, .int x4)] [] s := by
  intro n
  induction n with
  | zero => intro x3 x4 s h; unfold wX9_chances_5 at h; exact h.elim
  | succ n ih =>
    intro x3 x4 s h
    unfold wX9_chances_5 at h
    refine g_iload (pc := 5) F dX9_chances_5 4 rfl ?_
    refine g_aload_n (pc := 7) F dX9_chances_7 rfl 0 rfl ?_
    refine g_getR (pc := 8) F clX9 (sh_0 hV) 3 _ rfl (by decide) uX9_29 dX9_chances_8 ?_
    refine g_getI (pc := 11) F clX2 (is_13 hV).1 3 rfl (by decide) uX9_174 dX9_chances_11 ?_
    refine g_icmp_ge (pc := 14) F 44 dX9_chances_14 (by decide) (fun c => ?_) (fun c => ?_)
    · have h := h.1 c
      refine g_iload_n (pc := 44) F dX9_chances_44 rfl 3 rfl ?_
      exact hR _ _ _ _ dX9_chances_45 h
    · have h := h.2 c
      refine g_iload_n (pc := 17) F dX9_chances_17 rfl 3 rfl ?_
      refine g_iload_n (pc := 18) F dX9_chances_18 rfl 1 rfl ?_
      refine g_iload (pc := 19) F dX9_chances_19 4 rfl ?_
      refine g_ishr (pc := 21) F dX9_chances_21 ?_
      refine g_iconst (pc := 22) F dX9_chances_22 ic_1 ?_
      refine g_iand (pc := 23) F dX9_chances_23 ?_
      refine g_iconst (pc := 24) F dX9_chances_24 ic_1 ?_
      refine g_icmp_ne (pc := 25) F 35 dX9_chances_25 (by decide) (fun c => ?_) (fun c => ?_)
      · have h := h.1 c
        refine g_iload_n (pc := 35) F dX9_chances_35 rfl 2 rfl ?_
        exact g_weak [0, 1, 2, 4] rfl (bX9_chances_36 F hR hV ih h)
      · have h := h.2 c
        refine g_bipush (pc := 28) F dX9_chances_28 bp_10 ?_
        refine g_iload_n (pc := 30) F dX9_chances_30 rfl 2 rfl ?_
        refine g_isub (pc := 31) F dX9_chances_31 ?_
        refine g_goto (pc := 32) F 36 dX9_chances_32 (by decide) ?_
        exact g_weak [0, 1, 2, 4] rfl (bX9_chances_36 F hR hV ih h)
def wX9_chances (x1 : Int32) (x2 : Int32) (s : St) (Q : Int32 → St → Prop) : Prop :=
  (∃ k_5, wX9_chances_5  x1 x2  Q k_5 (1 : Int32) (0 : Int32) s)
set_option maxHeartbeats 4000000 in
set_option maxRecDepth 100000 in
theorem mX9_chances {l : Launch} {V : Wv} {x1 : Int32} {x2 : Int32} {s : St} {Q : Int32 → St → Prop} (hV : V.2.1 = DESC) (h : wX9_chances x1 x2 s Q) : Ci yX9_chances cX9_chances 5 (some .int) (0) l V [rf V 0, .int x1, .int x2] s Q := by
  unfold wX9_chances at h
  refine Ci.of mvX9_chances.1 (Nat.le_of_ble_eq_true rfl) (fun X F hR => ?_)
  refine g_lv (lv' := [(_, _), (_, _), (_, _)]) rfl ?_
  refine g_iconst (pc := 0) F dX9_chances_0 ic_1 ?_
  refine g_istore_n (pc := 1) (lv' := [(_, _), (_, _), (_, _), (_, _)]) F dX9_chances_1 rfl (by decide) rfl ?_
  refine g_iconst (pc := 2) F dX9_chances_2 ic_0 ?_
  refine g_istore (pc := 3) (lv' := [(_, _), (_, _), (_, _), (_, _), (_, _)]) F dX9_chances_3 (by decide) rfl ?_
  obtain ⟨k_5, h⟩ := h
  refine g_weak [2, 3, 4, 1, 0] rfl (bX9_chances_5 F hR hV k_5 _ _ _ h)
def wX9_commonDivisor_7 (Q : Int32 → St → Prop) : Nat → Int32 → Int32 → Int32 → St → Prop
  | 0, _, _, _, _ => False
  | n + 1, x2, x3, x4, s =>
  (((64 : Int32) ≤ x4 → Q x2 s) ∧ (¬ (64 : Int32) ≤ x4 → ((x3 = 0 → Q x2 s) ∧ (¬ x3 = 0 → ¬ x3 = 0 ∧ wX9_commonDivisor_7 Q n x3 (x2 - x2 / x3 * x3) (x4 + (1 : Int32)) s))))
set_option maxHeartbeats 4000000 in
set_option maxRecDepth 100000 in
theorem bX9_commonDivisor_7 {l : Launch} {V : Wv} {X : Mx} {Q : Int32 → St → Prop} (F : Fx V X cX9_commonDivisor RX9 6 0) (hR : RtI l V X 6 cX9_commonDivisor Q) (hV : V.2.1 = DESC)  : ∀ (n : Nat) (x2 : Int32) (x3 : Int32) (x4 : Int32) (s : St), wX9_commonDivisor_7 Q n x2 x3 x4 s → G l V X 6 7 [(2, .int x2), (3, .int x3), (4, .int x4)] [] s := by
  intro n
  induction n with
  | zero => intro x2 x3 x4 s h; unfold wX9_commonDivisor_7 at h; exact h.elim
  | succ n ih =>
    intro x2 x3 x4 s h
    unfold wX9_commonDivisor_7 at h
    refine g_iload (pc := 7) F dX9_commonDivisor_7 2 rfl ?_
    refine g_bipush (pc := 9) F dX9_commonDivisor_9 bp_64 ?_
    refine g_icmp_ge (pc := 11) F 34 dX9_commonDivisor_11 (by decide) (fun c => ?_) (fun c => ?_)
    · have h := h.1 c
      refine g_iload_n (pc := 34) F dX9_commonDivisor_34 rfl 0 rfl ?_
      exact hR _ _ _ _ dX9_commonDivisor_35 h
    · have h := h.2 c
      refine g_iload_n (pc := 14) F dX9_commonDivisor_14 rfl 1 rfl ?_
      refine g_if_eq (pc := 15) F 34 dX9_commonDivisor_15 (by decide) (fun c => ?_) (fun c => ?_)
      · have h := h.1 c
        refine g_iload_n (pc := 34) F dX9_commonDivisor_34 rfl 0 rfl ?_
        exact hR _ _ _ _ dX9_commonDivisor_35 h
      · have h := h.2 c
        refine g_iload_n (pc := 18) F dX9_commonDivisor_18 rfl 0 rfl ?_
        refine g_iload_n (pc := 19) F dX9_commonDivisor_19 rfl 1 rfl ?_
        obtain ⟨hb_20, h⟩ := h
        refine g_irem (pc := 20) F dX9_commonDivisor_20 hb_20 ?_
        refine g_istore (pc := 21) (lv' := [(_, _), (_, _), (_, _), (_, _)]) F dX9_commonDivisor_21 (by decide) rfl ?_
        refine g_iload_n (pc := 23) F dX9_commonDivisor_23 rfl 2 rfl ?_
        refine g_istore_n (pc := 24) (lv' := [(_, _), (_, _), (_, _), (_, _)]) F dX9_commonDivisor_24 rfl (by decide) rfl ?_
        refine g_iload (pc := 25) F dX9_commonDivisor_25 1 rfl ?_
        refine g_istore_n (pc := 27) (lv' := [(_, _), (_, _), (_, _), (_, _)]) F dX9_commonDivisor_27 rfl (by decide) rfl ?_
        refine g_iinc (pc := 28) (lv' := [(_, _), (_, _), (_, _), (_, _)]) F dX9_commonDivisor_28 3 rfl (congrArg _ ic_1) (by decide) rfl ?_
        refine g_goto (pc := 31) F 7 dX9_commonDivisor_31 (by decide) ?_
        exact g_weak [2, 1, 0] rfl (ih _ _ _ _ h)
def wX9_commonDivisor (x0 : Int32) (x1 : Int32) (s : St) (Q : Int32 → St → Prop) : Prop :=
  (∃ k_7, wX9_commonDivisor_7    Q k_7 x0 x1 (0 : Int32) s)
set_option maxHeartbeats 4000000 in
set_option maxRecDepth 100000 in
theorem mX9_commonDivisor {l : Launch} {V : Wv} {x0 : Int32} {x1 : Int32} {s : St} {Q : Int32 → St → Prop} (hV : V.2.1 = DESC) (h : wX9_commonDivisor x0 x1 s Q) : Ci yX9_commonDivisor cX9_commonDivisor 6 (some .int) (0) l V [.int x0, .int x1] s Q := by
  unfold wX9_commonDivisor at h
  refine Ci.of mvX9_commonDivisor.1 (Nat.le_of_ble_eq_true rfl) (fun X F hR => ?_)
  refine g_lv (lv' := [(_, _), (_, _)]) rfl ?_
  refine g_iload_n (pc := 0) F dX9_commonDivisor_0 rfl 0 rfl ?_
  refine g_istore_n (pc := 1) (lv' := [(_, _), (_, _), (_, _)]) F dX9_commonDivisor_1 rfl (by decide) rfl ?_
  refine g_iload_n (pc := 2) F dX9_commonDivisor_2 rfl 2 rfl ?_
  refine g_istore_n (pc := 3) (lv' := [(_, _), (_, _), (_, _), (_, _)]) F dX9_commonDivisor_3 rfl (by decide) rfl ?_
  refine g_iconst (pc := 4) F dX9_commonDivisor_4 ic_0 ?_
  refine g_istore (pc := 5) (lv' := [(_, _), (_, _), (_, _), (_, _), (_, _)]) F dX9_commonDivisor_5 (by decide) rfl ?_
  obtain ⟨k_7, h⟩ := h
  refine g_weak [2, 1, 0] rfl (bX9_commonDivisor_7 F hR hV k_7 _ _ _ _ h)
def wX9_odds_71 (rec : Int32 → Int32 → St → Prop) (K77 : Int32 → St → Prop) (Q : Int32 → St → Prop) (x1 : Int32) (x2 : Int32) (x3 : Int32) (x4 : Int32) (x5 : Int32) (x6 : Int32) (s : St) : Prop :=
  rec x4 (x6 + (1 : Int32)) s
set_option maxHeartbeats 4000000 in
set_option maxRecDepth 100000 in
theorem bX9_odds_71 {l : Launch} {V : Wv} {X : Mx} {rec : Int32 → Int32 → St → Prop} {K77 : Int32 → St → Prop} {Q : Int32 → St → Prop} {x1 : Int32} {x2 : Int32} {x3 : Int32} {x4 : Int32} {x5 : Int32} {x6 : Int32} (F : Fx V X cX9_odds RX9 8 13) (hR : RtI l V X 8 cX9_odds Q) (hV : V.2.1 = DESC) (hrec : ∀ (y4 : Int32) (y6 : Int32) (s : St), rec y4 y6 s → G l V X 8 35 [(0, rf V 0), (1, .int x1), (2, .int x2), (3, .int x3), (4, .int y4), (5, .int x5), (6, .int y6)] [] s) (hK77 : ∀ (y4 : Int32) (s : St), K77 y4 s → G l V X 8 77 [(0, rf V 0), (2, .int x2), (4, .int y4), (5, .int x5)] [] s) {s : St} (h : wX9_odds_71 rec K77 Q x1 x2 x3 x4 x5 x6 s) : G l V X 8 71 [(0, rf V 0), (1, .int x1), (2, .int x2), (3, .int x3), (4, .int x4), (5, .int x5), (6, .int x6)] [] s := by
  unfold wX9_odds_71 at h
  refine g_iinc (pc := 71) (lv' := [(_, _), (_, _), (_, _), (_, _), (_, _), (_, _), (_, _)]) F dX9_odds_71 6 rfl (congrArg _ ic_1) (by decide) rfl ?_
  refine g_goto (pc := 74) F 35 dX9_odds_74 (by decide) ?_
  exact g_weak [1, 2, 3, 4, 5, 6, 0] rfl (hrec _ _ _ h)
def wX9_odds_35 (x1 : Int32) (x2 : Int32) (x3 : Int32) (x5 : Int32) (K77 : Int32 → St → Prop) (Q : Int32 → St → Prop) : Nat → Int32 → Int32 → St → Prop
  | 0, _, _, _ => False
  | n + 1, x4, x6, s =>
  ((((1 : Int32) <<< ((s.1 13 3) &&& 31)) ≤ x6 → K77 x4 s) ∧ (¬ ((1 : Int32) <<< ((s.1 13 3) &&& 31)) ≤ x6 → ((¬ ((x3 >>> (x6 &&& 31)) &&& (1 : Int32)) = (1 : Int32) → wX9_odds_71 (wX9_odds_35 x1 x2 x3 x5 K77 Q n) (K77) Q x1 x2 x3 x4 x5 x6 s) ∧ (((x3 >>> (x6 &&& 31)) &&& (1 : Int32)) = (1 : Int32) → wX9_chances x6 x1 s (fun r_65 s_65 => wX9_odds_71 (wX9_odds_35 x1 x2 x3 x5 K77 Q n) (K77) Q x1 x2 x3 (x4 + r_65) x5 x6 s_65)))))
set_option maxHeartbeats 4000000 in
set_option maxRecDepth 100000 in
theorem bX9_odds_35 {l : Launch} {V : Wv} {X : Mx} {x1 : Int32} {x2 : Int32} {x3 : Int32} {x5 : Int32} {K77 : Int32 → St → Prop} {Q : Int32 → St → Prop} (F : Fx V X cX9_odds RX9 8 13) (hR : RtI l V X 8 cX9_odds Q) (hV : V.2.1 = DESC) (hK77 : ∀ (y4 : Int32) (s : St), K77 y4 s → G l V X 8 77 [(0, rf V 0), (2, .int x2), (4, .int y4), (5, .int x5)] [] s) : ∀ (n : Nat) (x4 : Int32) (x6 : Int32) (s : St), wX9_odds_35 x1 x2 x3 x5 K77 Q n x4 x6 s → G l V X 8 35 [(0, rf V 0), (1, .int x1), (2, .int x2), (3, .int x3), (4, .int x4), (5, .int x5), (6, .int x6)] [] s := by
  intro n
  induction n with
  | zero => intro x4 x6 s h; unfold wX9_odds_35 at h; exact h.elim
  | succ n ih =>
    intro x4 x6 s h
    unfold wX9_odds_35 at h
    refine g_iload (pc := 35) F dX9_odds_35 6 rfl ?_
    refine g_iconst (pc := 37) F dX9_odds_37 ic_1 ?_
    refine g_aload_n (pc := 38) F dX9_odds_38 rfl 0 rfl ?_
    refine g_getR (pc := 39) F clX9 (sh_0 hV) 3 _ rfl (by decide) uX9_29 dX9_odds_39 ?_
    refine g_getI (pc := 42) F clX2 (is_13 hV).1 3 rfl (by decide) uX9_174 dX9_odds_42 ?_
    refine g_ishl (pc := 45) F dX9_odds_45 ?_
    refine g_icmp_ge (pc := 46) F 77 dX9_odds_46 (by decide) (fun c => ?_) (fun c => ?_)
    · have h := h.1 c
      exact g_weak [0, 2, 4, 5] rfl (hK77 _ _ h)
    · have h := h.2 c
      refine g_iload_n (pc := 49) F dX9_odds_49 rfl 3 rfl ?_
      refine g_iload (pc := 50) F dX9_odds_50 6 rfl ?_
      refine g_ishr (pc := 52) F dX9_odds_52 ?_
      refine g_iconst (pc := 53) F dX9_odds_53 ic_1 ?_
      refine g_iand (pc := 54) F dX9_odds_54 ?_
      refine g_iconst (pc := 55) F dX9_odds_55 ic_1 ?_
      refine g_icmp_ne (pc := 56) F 71 dX9_odds_56 (by decide) (fun c => ?_) (fun c => ?_)
      · have h := h.1 c
        exact g_weak [0, 1, 2, 3, 4, 5, 6] rfl (bX9_odds_71 F hR hV ih hK77 h)
      · have h := h.2 c
        refine g_iload (pc := 59) F dX9_odds_59 4 rfl ?_
        refine g_aload_n (pc := 61) F dX9_odds_61 rfl 0 rfl ?_
        refine g_iload (pc := 62) F dX9_odds_62 6 rfl ?_
        refine g_iload_n (pc := 64) F dX9_odds_64 rfl 1 rfl ?_
        refine g_callVi (pc := 65) F (mX9_chances hV h) mvX9_chances uX9_285 (by decide) clX9 (sh_0 hV) rfl rfl (Nat.le_of_ble_eq_true rfl) dX9_odds_65 (fun r_65 s_65 h => ?_)
        refine g_iadd (pc := 68) F dX9_odds_68 ?_
        refine g_istore (pc := 69) (lv' := [(_, _), (_, _), (_, _), (_, _), (_, _), (_, _), (_, _)]) F dX9_odds_69 (by decide) rfl ?_
        exact g_weak [1, 2, 3, 4, 0, 5, 6] rfl (bX9_odds_71 F hR hV ih hK77 h)
def wX9_odds_80 (x2 : Int32) (x4 : Int32) (K105 : Int32 → St → Prop) (Q : Int32 → St → Prop) : Nat → Int32 → Int32 → St → Prop
  | 0, _, _, _ => False
  | n + 1, x5, x6, s =>
  (((s.1 13 3) ≤ x6 → K105 x5 s) ∧ (¬ (s.1 13 3) ≤ x6 → wX9_odds_80 x2 x4 K105 Q n (x5 * (10 : Int32)) (x6 + (1 : Int32)) s))
set_option maxHeartbeats 4000000 in
set_option maxRecDepth 100000 in
theorem bX9_odds_80 {l : Launch} {V : Wv} {X : Mx} {x2 : Int32} {x4 : Int32} {K105 : Int32 → St → Prop} {Q : Int32 → St → Prop} (F : Fx V X cX9_odds RX9 8 13) (hR : RtI l V X 8 cX9_odds Q) (hV : V.2.1 = DESC) (hK105 : ∀ (y5 : Int32) (s : St), K105 y5 s → G l V X 8 105 [(2, .int x2), (4, .int x4), (5, .int y5)] [] s) : ∀ (n : Nat) (x5 : Int32) (x6 : Int32) (s : St), wX9_odds_80 x2 x4 K105 Q n x5 x6 s → G l V X 8 80 [(0, rf V 0), (2, .int x2), (4, .int x4), (5, .int x5), (6, .int x6)] [] s := by
  intro n
  induction n with
  | zero => intro x5 x6 s h; unfold wX9_odds_80 at h; exact h.elim
  | succ n ih =>
    intro x5 x6 s h
    unfold wX9_odds_80 at h
    refine g_iload (pc := 80) F dX9_odds_80 4 rfl ?_
    refine g_aload_n (pc := 82) F dX9_odds_82 rfl 0 rfl ?_
    refine g_getR (pc := 83) F clX9 (sh_0 hV) 3 _ rfl (by decide) uX9_29 dX9_odds_83 ?_
    refine g_getI (pc := 86) F clX2 (is_13 hV).1 3 rfl (by decide) uX9_174 dX9_odds_86 ?_
    refine g_icmp_ge (pc := 89) F 105 dX9_odds_89 (by decide) (fun c => ?_) (fun c => ?_)
    · have h := h.1 c
      exact g_weak [1, 2, 3] rfl (hK105 _ _ h)
    · have h := h.2 c
      refine g_iload (pc := 92) F dX9_odds_92 3 rfl ?_
      refine g_bipush (pc := 94) F dX9_odds_94 bp_10 ?_
      refine g_imul (pc := 96) F dX9_odds_96 ?_
      refine g_istore (pc := 97) (lv' := [(_, _), (_, _), (_, _), (_, _), (_, _)]) F dX9_odds_97 (by decide) rfl ?_
      refine g_iinc (pc := 99) (lv' := [(_, _), (_, _), (_, _), (_, _), (_, _)]) F dX9_odds_99 4 rfl (congrArg _ ic_1) (by decide) rfl ?_
      refine g_goto (pc := 102) F 80 dX9_odds_102 (by decide) ?_
      exact g_weak [2, 3, 4, 1, 0] rfl (ih _ _ _ h)
def wX9_odds_125 (Q : Int32 → St → Prop) (x6 : Int32) (t0 : Int32) (s : St) : Prop :=
  ((¬ x6 = 0 → ¬ x6 = 0 ∧ Q (t0 / x6) s) ∧ (x6 = 0 → Q t0 s))
set_option maxHeartbeats 4000000 in
set_option maxRecDepth 100000 in
theorem bX9_odds_125 {l : Launch} {V : Wv} {X : Mx} {Q : Int32 → St → Prop} {x6 : Int32} {t0 : Int32} (F : Fx V X cX9_odds RX9 8 13) (hR : RtI l V X 8 cX9_odds Q) (hV : V.2.1 = DESC)  {s : St} (h : wX9_odds_125 Q x6 t0 s) : G l V X 8 125 [(6, .int x6)] [.int t0] s := by
  unfold wX9_odds_125 at h
  refine g_istore (pc := 125) (lv' := [(_, _), (_, _)]) F dX9_odds_125 (by decide) rfl ?_
  refine g_iload (pc := 127) F dX9_odds_127 1 rfl ?_
  refine g_if_ne (pc := 129) F 137 dX9_odds_129 (by decide) (fun c => ?_) (fun c => ?_)
  · have h := h.1 c
    refine g_iload (pc := 137) F dX9_odds_137 0 rfl ?_
    refine g_iload (pc := 139) F dX9_odds_139 1 rfl ?_
    obtain ⟨hb_141, h⟩ := h
    refine g_idiv (pc := 141) F dX9_odds_141 hb_141 ?_
    exact hR _ _ _ _ dX9_odds_142 h
  · have h := h.2 c
    refine g_iload (pc := 132) F dX9_odds_132 0 rfl ?_
    refine g_goto (pc := 134) F 142 dX9_odds_134 (by decide) ?_
    exact hR _ _ _ _ dX9_odds_142 h
def wX9_odds_21 (Q : Int32 → St → Prop) (x1 : Int32) (x2 : Int32) (s : St) : Prop :=
  wX9_standing  s (fun r_22 s_22 => (∃ k_35, wX9_odds_35  x1 x2 r_22 (1 : Int32) (fun x4_77 s_k77 => (∃ k_80, wX9_odds_80  x2 x4_77 (fun x5_105 s_k105 => wX9_commonDivisor x4_77 x5_105 s_k105 (fun r_109 s_109 => ((¬ x2 = 0 → wX9_odds_125 Q r_109 x5_105 s_109) ∧ (x2 = 0 → wX9_odds_125 Q r_109 x4_77 s_109)))) Q k_80 (1 : Int32) (0 : Int32) s_k77)) Q k_35 (0 : Int32) (0 : Int32) s_22))
set_option maxHeartbeats 4000000 in
set_option maxRecDepth 100000 in
theorem bX9_odds_21 {l : Launch} {V : Wv} {X : Mx} {Q : Int32 → St → Prop} {x1 : Int32} {x2 : Int32} (F : Fx V X cX9_odds RX9 8 13) (hR : RtI l V X 8 cX9_odds Q) (hV : V.2.1 = DESC)  {s : St} (h : wX9_odds_21 Q x1 x2 s) : G l V X 8 21 [(0, rf V 0), (1, .int x1), (2, .int x2)] [] s := by
  unfold wX9_odds_21 at h
  refine g_aload_n (pc := 21) F dX9_odds_21 rfl 0 rfl ?_
  refine g_callVi (pc := 22) F (mX9_standing hV h) mvX9_standing uX9_250 (by decide) clX9 (sh_0 hV) rfl rfl (Nat.le_of_ble_eq_true rfl) dX9_odds_22 (fun r_22 s_22 h => ?_)
  refine g_istore_n (pc := 25) (lv' := [(_, _), (_, _), (_, _), (_, _)]) F dX9_odds_25 rfl (by decide) rfl ?_
  refine g_iconst (pc := 26) F dX9_odds_26 ic_0 ?_
  refine g_istore (pc := 27) (lv' := [(_, _), (_, _), (_, _), (_, _), (_, _)]) F dX9_odds_27 (by decide) rfl ?_
  refine g_iconst (pc := 29) F dX9_odds_29 ic_1 ?_
  refine g_istore (pc := 30) (lv' := [(_, _), (_, _), (_, _), (_, _), (_, _), (_, _)]) F dX9_odds_30 (by decide) rfl ?_
  refine g_iconst (pc := 32) F dX9_odds_32 ic_0 ?_
  refine g_istore (pc := 33) (lv' := [(_, _), (_, _), (_, _), (_, _), (_, _), (_, _), (_, _)]) F dX9_odds_33 (by decide) rfl ?_
  obtain ⟨k_35, h⟩ := h
  refine g_weak [4, 5, 6, 3, 2, 1, 0] rfl (bX9_odds_35 F hR hV (fun x4_77 s_k77 h => ?_) k_35 _ _ _ h)
  · refine g_iconst (pc := 77) F dX9_odds_77 ic_0 ?_
    refine g_istore (pc := 78) (lv' := [(_, _), (_, _), (_, _), (_, _), (_, _)]) F dX9_odds_78 (by decide) rfl ?_
    obtain ⟨k_80, h⟩ := h
    refine g_weak [1, 2, 3, 4, 0] rfl (bX9_odds_80 F hR hV (fun x5_105 s_k105 h => ?_) k_80 _ _ _ h)
    · refine g_iload (pc := 105) F dX9_odds_105 1 rfl ?_
      refine g_iload (pc := 107) F dX9_odds_107 2 rfl ?_
      refine g_callSi (pc := 109) F (mX9_commonDivisor hV h) mvX9_commonDivisor uX9_288 (by decide)  rfl rfl (Nat.le_of_ble_eq_true rfl) dX9_odds_109 (fun r_109 s_109 h => ?_)
      refine g_istore (pc := 112) (lv' := [(_, _), (_, _), (_, _), (_, _)]) F dX9_odds_112 (by decide) rfl ?_
      refine g_iload_n (pc := 114) F dX9_odds_114 rfl 1 rfl ?_
      refine g_if_ne (pc := 115) F 123 dX9_odds_115 (by decide) (fun c => ?_) (fun c => ?_)
      · have h := h.1 c
        refine g_iload (pc := 123) F dX9_odds_123 3 rfl ?_
        exact g_weak [0] rfl (bX9_odds_125 F hR hV h)
      · have h := h.2 c
        refine g_iload (pc := 118) F dX9_odds_118 2 rfl ?_
        refine g_goto (pc := 120) F 125 dX9_odds_120 (by decide) ?_
        exact g_weak [0] rfl (bX9_odds_125 F hR hV h)
def wX9_odds (x1 : Int32) (x2 : Int32) (s : St) (Q : Int32 → St → Prop) : Prop :=
  ((x1 < 0 → Q (-1 : Int32) s) ∧ (¬ x1 < 0 → (((10 : Int32) < x1 → Q (-1 : Int32) s) ∧ (¬ (10 : Int32) < x1 → ((x2 = 0 → wX9_odds_21 Q x1 x2 s) ∧ (¬ x2 = 0 → ((x2 = (1 : Int32) → wX9_odds_21 Q x1 x2 s) ∧ (¬ x2 = (1 : Int32) → Q (-1 : Int32) s))))))))
set_option maxHeartbeats 4000000 in
set_option maxRecDepth 100000 in
theorem mX9_odds {l : Launch} {V : Wv} {x1 : Int32} {x2 : Int32} {s : St} {Q : Int32 → St → Prop} (hV : V.2.1 = DESC) (h : wX9_odds x1 x2 s Q) : Ci yX9_odds cX9_odds 8 (some .int) (13) l V [rf V 0, .int x1, .int x2] s Q := by
  unfold wX9_odds at h
  refine Ci.of mvX9_odds.1 (Nat.le_of_ble_eq_true rfl) (fun X F hR => ?_)
  refine g_lv (lv' := [(_, _), (_, _), (_, _)]) rfl ?_
  refine g_iload_n (pc := 0) F dX9_odds_0 rfl 1 rfl ?_
  refine g_if_lt (pc := 1) F 19 dX9_odds_1 (by decide) (fun c => ?_) (fun c => ?_)
  · have h := h.1 c
    refine g_iconst (pc := 19) F dX9_odds_19 ic_m1 ?_
    exact hR _ _ _ _ dX9_odds_20 h
  · have h := h.2 c
    refine g_iload_n (pc := 4) F dX9_odds_4 rfl 1 rfl ?_
    refine g_bipush (pc := 5) F dX9_odds_5 bp_10 ?_
    refine g_icmp_gt (pc := 7) F 19 dX9_odds_7 (by decide) (fun c => ?_) (fun c => ?_)
    · have h := h.1 c
      refine g_iconst (pc := 19) F dX9_odds_19 ic_m1 ?_
      exact hR _ _ _ _ dX9_odds_20 h
    · have h := h.2 c
      refine g_iload_n (pc := 10) F dX9_odds_10 rfl 2 rfl ?_
      refine g_if_eq (pc := 11) F 21 dX9_odds_11 (by decide) (fun c => ?_) (fun c => ?_)
      · have h := h.1 c
        exact g_weak [0, 1, 2] rfl (bX9_odds_21 F hR hV h)
      · have h := h.2 c
        refine g_iload_n (pc := 14) F dX9_odds_14 rfl 2 rfl ?_
        refine g_iconst (pc := 15) F dX9_odds_15 ic_1 ?_
        refine g_icmp_eq (pc := 16) F 21 dX9_odds_16 (by decide) (fun c => ?_) (fun c => ?_)
        · have h := h.1 c
          exact g_weak [0, 1, 2] rfl (bX9_odds_21 F hR hV h)
        · have h := h.2 c
          refine g_iconst (pc := 19) F dX9_odds_19 ic_m1 ?_
          exact hR _ _ _ _ dX9_odds_20 h
def wX9_took_19 (Q : Int32 → St → Prop) (x1 : Int32) (x2 : Int32) (s : St) : Prop :=
  wX6_add 89 x1 x2 s (fun r_25 s_25 => ((r_25 = 0 → Q (-3 : Int32) s_25) ∧ (¬ r_25 = 0 → Q (s_25.1 89 0) s_25)))
set_option maxHeartbeats 4000000 in
set_option maxRecDepth 100000 in
theorem bX9_took_19 {l : Launch} {V : Wv} {X : Mx} {Q : Int32 → St → Prop} {x1 : Int32} {x2 : Int32} (F : Fx V X cX9_took RX9 3 1) (hR : RtI l V X 3 cX9_took Q) (hV : V.2.1 = DESC)  {s : St} (h : wX9_took_19 Q x1 x2 s) : G l V X 3 19 [(0, rf V 0), (1, .int x1), (2, .int x2)] [] s := by
  unfold wX9_took_19 at h
  refine g_aload_n (pc := 19) F dX9_took_19 rfl 0 rfl ?_
  refine g_getR (pc := 20) F clX9 (sh_0 hV) 12 _ rfl (by decide) uX9_82 dX9_took_20 ?_
  refine g_iload_n (pc := 23) F dX9_took_23 rfl 1 rfl ?_
  refine g_iload_n (pc := 24) F dX9_took_24 rfl 2 rfl ?_
  refine g_callVi (pc := 25) F (mX6_add (is_89 hV) h) mvX6_add uX9_320 (by decide) clX6 (is_89 hV).1 rfl rfl (Nat.le_of_ble_eq_true rfl) dX9_took_25 (fun r_25 s_25 h => ?_)
  refine g_if_eq (pc := 28) F 41 dX9_took_28 (by decide) (fun c => ?_) (fun c => ?_)
  · have h := h.1 c
    refine g_bipush (pc := 41) F dX9_took_41 bp_m3 ?_
    exact hR _ _ _ _ dX9_took_43 h
  · have h := h.2 c
    refine g_aload_n (pc := 31) F dX9_took_31 rfl 0 rfl ?_
    refine g_getR (pc := 32) F clX9 (sh_0 hV) 12 _ rfl (by decide) uX9_82 dX9_took_32 ?_
    refine g_getI (pc := 35) F clX6 (is_89 hV).1 0 rfl (by decide) uX9_322 dX9_took_35 ?_
    refine g_goto (pc := 38) F 43 dX9_took_38 (by decide) ?_
    exact hR _ _ _ _ dX9_took_43 h
def wX9_took (x1 : Int32) (x2 : Int32) (s : St) (Q : Int32 → St → Prop) : Prop :=
  wX9_isLane x1 s (fun r_2 s_2 => ((r_2 = 0 → Q (-1 : Int32) s_2) ∧ (¬ r_2 = 0 → ((x2 = 0 → wX9_took_19 Q x1 x2 s_2) ∧ (¬ x2 = 0 → ((x2 = (1 : Int32) → wX9_took_19 Q x1 x2 s_2) ∧ (¬ x2 = (1 : Int32) → Q (-1 : Int32) s_2)))))))
set_option maxHeartbeats 4000000 in
set_option maxRecDepth 100000 in
theorem mX9_took {l : Launch} {V : Wv} {x1 : Int32} {x2 : Int32} {s : St} {Q : Int32 → St → Prop} (hV : V.2.1 = DESC) (h : wX9_took x1 x2 s Q) : Ci yX9_took cX9_took 3 (some .int) (1) l V [rf V 0, .int x1, .int x2] s Q := by
  unfold wX9_took at h
  refine Ci.of mvX9_took.1 (Nat.le_of_ble_eq_true rfl) (fun X F hR => ?_)
  refine g_lv (lv' := [(_, _), (_, _), (_, _)]) rfl ?_
  refine g_aload_n (pc := 0) F dX9_took_0 rfl 0 rfl ?_
  refine g_iload_n (pc := 1) F dX9_took_1 rfl 1 rfl ?_
  refine g_callVi (pc := 2) F (mX9_isLane hV h) mvX9_isLane uX9_121 (by decide) clX9 (sh_0 hV) rfl rfl (Nat.le_of_ble_eq_true rfl) dX9_took_2 (fun r_2 s_2 h => ?_)
  refine g_if_eq (pc := 5) F 17 dX9_took_5 (by decide) (fun c => ?_) (fun c => ?_)
  · have h := h.1 c
    refine g_iconst (pc := 17) F dX9_took_17 ic_m1 ?_
    exact hR _ _ _ _ dX9_took_18 h
  · have h := h.2 c
    refine g_iload_n (pc := 8) F dX9_took_8 rfl 2 rfl ?_
    refine g_if_eq (pc := 9) F 19 dX9_took_9 (by decide) (fun c => ?_) (fun c => ?_)
    · have h := h.1 c
      exact g_weak [0, 1, 2] rfl (bX9_took_19 F hR hV h)
    · have h := h.2 c
      refine g_iload_n (pc := 12) F dX9_took_12 rfl 2 rfl ?_
      refine g_iconst (pc := 13) F dX9_took_13 ic_1 ?_
      refine g_icmp_eq (pc := 14) F 19 dX9_took_14 (by decide) (fun c => ?_) (fun c => ?_)
      · have h := h.1 c
        exact g_weak [0, 1, 2] rfl (bX9_took_19 F hR hV h)
      · have h := h.2 c
        refine g_iconst (pc := 17) F dX9_took_17 ic_m1 ?_
        exact hR _ _ _ _ dX9_took_18 h
def wX9_forget  (s : St) (Q : Int32 → St → Prop) : Prop :=
  wX6_empty 89 s (fun r_4 s_4 => Q r_4 s_4)
set_option maxHeartbeats 4000000 in
set_option maxRecDepth 100000 in
theorem mX9_forget {l : Launch} {V : Wv}  {s : St} {Q : Int32 → St → Prop} (hV : V.2.1 = DESC) (h : wX9_forget  s Q) : Ci yX9_forget cX9_forget 1 (some .int) (1) l V [rf V 0] s Q := by
  unfold wX9_forget at h
  refine Ci.of mvX9_forget.1 (Nat.le_of_ble_eq_true rfl) (fun X F hR => ?_)
  refine g_lv (lv' := [(_, _)]) rfl ?_
  refine g_aload_n (pc := 0) F dX9_forget_0 rfl 0 rfl ?_
  refine g_getR (pc := 1) F clX9 (sh_0 hV) 12 _ rfl (by decide) uX9_82 dX9_forget_1 ?_
  refine g_callVi (pc := 4) F (mX6_empty (is_89 hV) h) mvX6_empty uX9_117 (by decide) clX6 (is_89 hV).1 rfl rfl (Nat.le_of_ble_eq_true rfl) dX9_forget_4 (fun r_4 s_4 h => ?_)
  exact hR _ _ _ _ dX9_forget_7 h
def wX9_can (x1 : Int32) (s : St) (Q : Int32 → St → Prop) : Prop :=
  ((x1 < 0 → Q (-1 : Int32) s) ∧ (¬ x1 < 0 → ((x1 ≤ (2 : Int32) → IsG s.2.2.1 ∧ wX8_measure 21 s.2.2.1 14 6 s (fun s_26 => wX6_guess 89 21 s_26 (fun s_37 => ((x1 = (0 : Int32) → Q (s_37.1 89 3) s_37) ∧ (¬ x1 = (0 : Int32) → ((x1 = (1 : Int32) → ((¬ (s_37.1 89 3) = 0 → Q (s_37.1 89 4) s_37) ∧ ((s_37.1 89 3) = 0 → Q (-9 : Int32) s_37))) ∧ (¬ x1 = (1 : Int32) → Q (s_37.1 89 5) s_37))))))) ∧ (¬ x1 ≤ (2 : Int32) → Q (-1 : Int32) s))))
set_option maxHeartbeats 4000000 in
set_option maxRecDepth 100000 in
theorem mX9_can {l : Launch} {V : Wv} {x1 : Int32} {s : St} {Q : Int32 → St → Prop} (hV : V.2.1 = DESC) (h : wX9_can x1 s Q) : Ci yX9_can cX9_can 2 (some .int) (2) l V [rf V 0, .int x1] s Q := by
  unfold wX9_can at h
  refine Ci.of mvX9_can.1 (Nat.le_of_ble_eq_true rfl) (fun X F hR => ?_)
  refine g_lv (lv' := [(_, _), (_, _)]) rfl ?_
  refine g_iload_n (pc := 0) F dX9_can_0 rfl 1 rfl ?_
  refine g_if_lt (pc := 1) F 9 dX9_can_1 (by decide) (fun c => ?_) (fun c => ?_)
  · have h := h.1 c
    refine g_iconst (pc := 9) F dX9_can_9 ic_m1 ?_
    exact hR _ _ _ _ dX9_can_10 h
  · have h := h.2 c
    refine g_iload_n (pc := 4) F dX9_can_4 rfl 1 rfl ?_
    refine g_iconst (pc := 5) F dX9_can_5 ic_2 ?_
    refine g_icmp_le (pc := 6) F 11 dX9_can_6 (by decide) (fun c => ?_) (fun c => ?_)
    · have h := h.1 c
      refine g_aload_n (pc := 11) F dX9_can_11 rfl 0 rfl ?_
      refine g_getR (pc := 12) F clX9 (sh_0 hV) 5 _ rfl (by decide) uX9_39 dX9_can_12 ?_
      refine g_aload_n (pc := 15) F dX9_can_15 rfl 0 rfl ?_
      obtain ⟨hg_16, h⟩ := h
      refine g_getG (pc := 16) F clX9 (sh_0 hV) 1 rfl (by decide) uX9_19 dX9_can_16 ?_
      refine g_aload_n (pc := 19) F dX9_can_19 rfl 0 rfl ?_
      refine g_getR (pc := 20) F clX9 (sh_0 hV) 3 _ rfl (by decide) uX9_29 dX9_can_20 ?_
      refine g_getR (pc := 23) F clX2 (is_13 hV).1 0 _ rfl (by decide) uX9_131 dX9_can_23 ?_
      refine g_callVv (pc := 26) F (mX8_measure (is_21 hV) (is_gr hV hg_16) (is_13 hV).2.1 h) mvX8_measure uX9_177 (by decide) clX8 (is_21 hV).1 rfl rfl (Nat.le_of_ble_eq_true rfl) dX9_can_26 (fun s_26 h => ?_)
      refine g_aload_n (pc := 29) F dX9_can_29 rfl 0 rfl ?_
      refine g_getR (pc := 30) F clX9 (sh_0 hV) 12 _ rfl (by decide) uX9_82 dX9_can_30 ?_
      refine g_aload_n (pc := 33) F dX9_can_33 rfl 0 rfl ?_
      refine g_getR (pc := 34) F clX9 (sh_0 hV) 5 _ rfl (by decide) uX9_39 dX9_can_34 ?_
      refine g_callVv (pc := 37) F (mX6_guess (is_89 hV) (is_21 hV) h) mvX6_guess uX9_323 (by decide) clX6 (is_89 hV).1 rfl rfl (Nat.le_of_ble_eq_true rfl) dX9_can_37 (fun s_37 h => ?_)
      refine g_iload_n (pc := 40) F dX9_can_40 rfl 1 rfl ?_
      by_cases c0 : x1 = (0 : Int32)
      · have h := h.1 c0
        refine g_look (o := 27) (pc := 41) F 68 dX9_can_41 (by decide) (by rw [c0]; rfl) (by decide) ?_
        refine g_aload_n (pc := 68) F dX9_can_68 rfl 0 rfl ?_
        refine g_getR (pc := 69) F clX9 (sh_0 hV) 12 _ rfl (by decide) uX9_82 dX9_can_69 ?_
        refine g_getI (pc := 72) F clX6 (is_89 hV).1 3 rfl (by decide) uX9_327 dX9_can_72 ?_
        exact hR _ _ _ _ dX9_can_75 h
      · have h := h.2 c0
        by_cases c1 : x1 = (1 : Int32)
        · have h := h.1 c1
          refine g_look (o := 35) (pc := 41) F 76 dX9_can_41 (by decide) (by rw [c1]; rfl) (by decide) ?_
          refine g_aload_n (pc := 76) F dX9_can_76 rfl 0 rfl ?_
          refine g_getR (pc := 77) F clX9 (sh_0 hV) 12 _ rfl (by decide) uX9_82 dX9_can_77 ?_
          refine g_getI (pc := 80) F clX6 (is_89 hV).1 3 rfl (by decide) uX9_327 dX9_can_80 ?_
          refine g_if_ne (pc := 83) F 91 dX9_can_83 (by decide) (fun c => ?_) (fun c => ?_)
          · have h := h.1 c
            refine g_aload_n (pc := 91) F dX9_can_91 rfl 0 rfl ?_
            refine g_getR (pc := 92) F clX9 (sh_0 hV) 12 _ rfl (by decide) uX9_82 dX9_can_92 ?_
            refine g_getI (pc := 95) F clX6 (is_89 hV).1 4 rfl (by decide) uX9_330 dX9_can_95 ?_
            exact hR _ _ _ _ dX9_can_98 h
          · have h := h.2 c
            refine g_bipush (pc := 86) F dX9_can_86 bp_m9 ?_
            refine g_goto (pc := 88) F 98 dX9_can_88 (by decide) ?_
            exact hR _ _ _ _ dX9_can_98 h
        · have h := h.2 c1
          refine g_look (o := 58) (pc := 41) F 99 dX9_can_41 (by decide) (by refine (lv_osw c0 (show ((0 : Int32)).toInt = 0 from rfl)).trans ?_; refine (lv_osw c1 (show ((1 : Int32)).toInt = 1 from rfl)).trans ?_; rfl) (by decide) ?_
          refine g_aload_n (pc := 99) F dX9_can_99 rfl 0 rfl ?_
          refine g_getR (pc := 100) F clX9 (sh_0 hV) 12 _ rfl (by decide) uX9_82 dX9_can_100 ?_
          refine g_getI (pc := 103) F clX6 (is_89 hV).1 5 rfl (by decide) uX9_333 dX9_can_103 ?_
          exact hR _ _ _ _ dX9_can_106 h
    · have h := h.2 c
      refine g_iconst (pc := 9) F dX9_can_9 ic_m1 ?_
      exact hR _ _ _ _ dX9_can_10 h
def wX9_look_106 (rec : Int32 → Int32 → Int32 → St → Prop) (Q : Int32 → St → Prop) (x1 : Int32) (x2 : Int32) (x3 : Int32) (s : St) : Prop :=
  rec x1 x2 (x3 + (1 : Int32)) s
set_option maxHeartbeats 4000000 in
set_option maxRecDepth 100000 in
theorem bX9_look_106 {l : Launch} {V : Wv} {X : Mx} {rec : Int32 → Int32 → Int32 → St → Prop} {Q : Int32 → St → Prop} {x1 : Int32} {x2 : Int32} {x3 : Int32} (F : Fx V X cX9_look RX9 6 2) (hR : RtI l V X 6 cX9_look Q) (hV : V.2.1 = DESC) (hrec : ∀ (y1 : Int32) (y2 : Int32) (y3 : Int32) (s : St), rec y1 y2 y3 s → G l V X 6 50 [(0, rf V 0), (1, .int y1), (2, .int y2), (3, .int y3)] [] s) {s : St} (h : wX9_look_106 rec Q x1 x2 x3 s) : G l V X 6 106 [(0, rf V 0), (1, .int x1), (2, .int x2), (3, .int x3)] [] s := by
  unfold wX9_look_106 at h
  refine g_iinc (pc := 106) (lv' := [(_, _), (_, _), (_, _), (_, _)]) F dX9_look_106 3 rfl (congrArg _ ic_1) (by decide) rfl ?_
  refine g_goto (pc := 109) F 50 dX9_look_109 (by decide) ?_
  exact g_weak [1, 2, 3, 0] rfl (hrec _ _ _ _ h)
def wX9_look_101 (rec : Int32 → Int32 → Int32 → St → Prop) (Q : Int32 → St → Prop) (x3 : Int32) (x5 : Int32) (s : St) : Prop :=
  wX9_look_106 (rec) Q x3 x5 x3 s
set_option maxHeartbeats 4000000 in
set_option maxRecDepth 100000 in
theorem bX9_look_101 {l : Launch} {V : Wv} {X : Mx} {rec : Int32 → Int32 → Int32 → St → Prop} {Q : Int32 → St → Prop} {x3 : Int32} {x5 : Int32} (F : Fx V X cX9_look RX9 6 2) (hR : RtI l V X 6 cX9_look Q) (hV : V.2.1 = DESC) (hrec : ∀ (y1 : Int32) (y2 : Int32) (y3 : Int32) (s : St), rec y1 y2 y3 s → G l V X 6 50 [(0, rf V 0), (1, .int y1), (2, .int y2), (3, .int y3)] [] s) {s : St} (h : wX9_look_101 rec Q x3 x5 s) : G l V X 6 101 [(0, rf V 0), (3, .int x3), (5, .int x5)] [] s := by
  unfold wX9_look_101 at h
  refine g_iload_n (pc := 101) F dX9_look_101 rfl 1 rfl ?_
  refine g_istore_n (pc := 102) (lv' := [(_, _), (_, _), (_, _), (_, _)]) F dX9_look_102 rfl (by decide) rfl ?_
  refine g_iload (pc := 103) F dX9_look_103 3 rfl ?_
  refine g_istore_n (pc := 105) (lv' := [(_, _), (_, _), (_, _), (_, _), (_, _)]) F dX9_look_105 rfl (by decide) rfl ?_
  exact g_weak [2, 1, 0, 3] rfl (bX9_look_106 F hR hV hrec h)
def wX9_look_50 (Q : Int32 → St → Prop) : Nat → Int32 → Int32 → Int32 → St → Prop
  | 0, _, _, _, _ => False
  | n + 1, x1, x2, x3, s =>
  IsG s.2.2.1 ∧ (((s.1 s.2.2.1 1) ≤ x3 → Q x1 s) ∧ (¬ (s.1 s.2.2.1 1) ≤ x3 → vp_in x3 6 ∧ ((x1 = (-9 : Int32) → wX9_look_101 (wX9_look_50 Q n) Q x3 (if (s.1 90 x3.toNatClampNeg) < ((s.1 89 3) - (s.1 90 x3.toNatClampNeg)) then ((s.1 89 3) - (s.1 90 x3.toNatClampNeg)) else (s.1 90 x3.toNatClampNeg)) s) ∧ (¬ x1 = (-9 : Int32) → ((x2 ≤ (if (s.1 90 x3.toNatClampNeg) < ((s.1 89 3) - (s.1 90 x3.toNatClampNeg)) then ((s.1 89 3) - (s.1 90 x3.toNatClampNeg)) else (s.1 90 x3.toNatClampNeg)) → wX9_look_106 (wX9_look_50 Q n) Q x1 x2 x3 s) ∧ (¬ x2 ≤ (if (s.1 90 x3.toNatClampNeg) < ((s.1 89 3) - (s.1 90 x3.toNatClampNeg)) then ((s.1 89 3) - (s.1 90 x3.toNatClampNeg)) else (s.1 90 x3.toNatClampNeg)) → wX9_look_101 (wX9_look_50 Q n) Q x3 (if (s.1 90 x3.toNatClampNeg) < ((s.1 89 3) - (s.1 90 x3.toNatClampNeg)) then ((s.1 89 3) - (s.1 90 x3.toNatClampNeg)) else (s.1 90 x3.toNatClampNeg)) s))))))
set_option maxHeartbeats 4000000 in
set_option maxRecDepth 100000 in
theorem bX9_look_50 {l : Launch} {V : Wv} {X : Mx} {Q : Int32 → St → Prop} (F : Fx V X cX9_look RX9 6 2) (hR : RtI l V X 6 cX9_look Q) (hV : V.2.1 = DESC)  : ∀ (n : Nat) (x1 : Int32) (x2 : Int32) (x3 : Int32) (s : St), wX9_look_50 Q n x1 x2 x3 s → G l V X 6 50 [(0, rf V 0), (1, .int x1), (2, .int x2), (3, .int x3)] [] s := by
  intro n
  induction n with
  | zero => intro x1 x2 x3 s h; unfold wX9_look_50 at h; exact h.elim
  | succ n ih =>
    intro x1 x2 x3 s h
    unfold wX9_look_50 at h
    refine g_iload_n (pc := 50) F dX9_look_50 rfl 3 rfl ?_
    refine g_aload_n (pc := 51) F dX9_look_51 rfl 0 rfl ?_
    obtain ⟨hg_52, h⟩ := h
    refine g_getG (pc := 52) F clX9 (sh_0 hV) 1 rfl (by decide) uX9_19 dX9_look_52 ?_
    refine g_getI (pc := 55) F clX1 (is_gr hV hg_52).1 1 rfl (by decide) uX9_171 dX9_look_55 ?_
    refine g_icmp_ge (pc := 58) F 112 dX9_look_58 (by decide) (fun c => ?_) (fun c => ?_)
    · have h := h.1 c
      refine g_iload_n (pc := 112) F dX9_look_112 rfl 1 rfl ?_
      exact hR _ _ _ _ dX9_look_113 h
    · have h := h.2 c
      refine g_aload_n (pc := 61) F dX9_look_61 rfl 0 rfl ?_
      refine g_getR (pc := 62) F clX9 (sh_0 hV) 12 _ rfl (by decide) uX9_82 dX9_look_62 ?_
      refine g_getR (pc := 65) F clX6 (is_89 hV).1 6 _ rfl (by decide) uX9_336 dX9_look_65 ?_
      refine g_iload_n (pc := 68) F dX9_look_68 rfl 3 rfl ?_
      obtain ⟨hb_69, h⟩ := h
      refine g_iald (pc := 69) F (is_89 hV).2 hb_69 dX9_look_69 ?_
      refine g_istore (pc := 70) (lv' := [(_, _), (_, _), (_, _), (_, _), (_, _)]) F dX9_look_70 (by decide) rfl ?_
      refine g_iload (pc := 72) F dX9_look_72 0 rfl ?_
      refine g_aload_n (pc := 74) F dX9_look_74 rfl 1 rfl ?_
      refine g_getR (pc := 75) F clX9 (sh_0 hV) 12 _ rfl (by decide) uX9_82 dX9_look_75 ?_
      refine g_getI (pc := 78) F clX6 (is_89 hV).1 3 rfl (by decide) uX9_327 dX9_look_78 ?_
      refine g_iload (pc := 81) F dX9_look_81 0 rfl ?_
      refine g_isub (pc := 83) F dX9_look_83 ?_
      refine g_max (pc := 84) F (by decide) (Nat.le_of_ble_eq_true rfl) uX9_339 dX9_look_84 ?_
      refine g_istore (pc := 87) (lv' := [(_, _), (_, _), (_, _), (_, _), (_, _), (_, _)]) F dX9_look_87 (by decide) rfl ?_
      refine g_iload_n (pc := 89) F dX9_look_89 rfl 3 rfl ?_
      refine g_bipush (pc := 90) F dX9_look_90 bp_m9 ?_
      refine g_icmp_eq (pc := 92) F 101 dX9_look_92 (by decide) (fun c => ?_) (fun c => ?_)
      · have h := h.1 c
        exact g_weak [2, 5, 0] rfl (bX9_look_101 F hR hV ih h)
      · have h := h.2 c
        refine g_iload (pc := 95) F dX9_look_95 0 rfl ?_
        refine g_iload_n (pc := 97) F dX9_look_97 rfl 4 rfl ?_
        refine g_icmp_ge (pc := 98) F 106 dX9_look_98 (by decide) (fun c => ?_) (fun c => ?_)
        · have h := h.1 c
          exact g_weak [2, 3, 4, 5] rfl (bX9_look_106 F hR hV ih h)
        · have h := h.2 c
          exact g_weak [2, 5, 0] rfl (bX9_look_101 F hR hV ih h)
def wX9_look  (s : St) (Q : Int32 → St → Prop) : Prop :=
  IsG s.2.2.1 ∧ wX8_measure 21 s.2.2.1 14 6 s (fun s_15 => wX6_guess 89 21 s_15 (fun s_26 => (((2 : Int32) ≤ (s_26.1 89 3) → (∃ k_50, wX9_look_50    Q k_50 (-9 : Int32) (0 : Int32) (0 : Int32) s_26)) ∧ (¬ (2 : Int32) ≤ (s_26.1 89 3) → Q (-9 : Int32) s_26))))
set_option maxHeartbeats 4000000 in
set_option maxRecDepth 100000 in
theorem mX9_look {l : Launch} {V : Wv}  {s : St} {Q : Int32 → St → Prop} (hV : V.2.1 = DESC) (h : wX9_look  s Q) : Ci yX9_look cX9_look 6 (some .int) (2) l V [rf V 0] s Q := by
  unfold wX9_look at h
  refine Ci.of mvX9_look.1 (Nat.le_of_ble_eq_true rfl) (fun X F hR => ?_)
  refine g_lv (lv' := [(_, _)]) rfl ?_
  refine g_aload_n (pc := 0) F dX9_look_0 rfl 0 rfl ?_
  refine g_getR (pc := 1) F clX9 (sh_0 hV) 5 _ rfl (by decide) uX9_39 dX9_look_1 ?_
  refine g_aload_n (pc := 4) F dX9_look_4 rfl 0 rfl ?_
  obtain ⟨hg_5, h⟩ := h
  refine g_getG (pc := 5) F clX9 (sh_0 hV) 1 rfl (by decide) uX9_19 dX9_look_5 ?_
  refine g_aload_n (pc := 8) F dX9_look_8 rfl 0 rfl ?_
  refine g_getR (pc := 9) F clX9 (sh_0 hV) 3 _ rfl (by decide) uX9_29 dX9_look_9 ?_
  refine g_getR (pc := 12) F clX2 (is_13 hV).1 0 _ rfl (by decide) uX9_131 dX9_look_12 ?_
  refine g_callVv (pc := 15) F (mX8_measure (is_21 hV) (is_gr hV hg_5) (is_13 hV).2.1 h) mvX8_measure uX9_177 (by decide) clX8 (is_21 hV).1 rfl rfl (Nat.le_of_ble_eq_true rfl) dX9_look_15 (fun s_15 h => ?_)
  refine g_aload_n (pc := 18) F dX9_look_18 rfl 0 rfl ?_
  refine g_getR (pc := 19) F clX9 (sh_0 hV) 12 _ rfl (by decide) uX9_82 dX9_look_19 ?_
  refine g_aload_n (pc := 22) F dX9_look_22 rfl 0 rfl ?_
  refine g_getR (pc := 23) F clX9 (sh_0 hV) 5 _ rfl (by decide) uX9_39 dX9_look_23 ?_
  refine g_callVv (pc := 26) F (mX6_guess (is_89 hV) (is_21 hV) h) mvX6_guess uX9_323 (by decide) clX6 (is_89 hV).1 rfl rfl (Nat.le_of_ble_eq_true rfl) dX9_look_26 (fun s_26 h => ?_)
  refine g_aload_n (pc := 29) F dX9_look_29 rfl 0 rfl ?_
  refine g_getR (pc := 30) F clX9 (sh_0 hV) 12 _ rfl (by decide) uX9_82 dX9_look_30 ?_
  refine g_getI (pc := 33) F clX6 (is_89 hV).1 3 rfl (by decide) uX9_327 dX9_look_33 ?_
  refine g_iconst (pc := 36) F dX9_look_36 ic_2 ?_
  refine g_icmp_ge (pc := 37) F 43 dX9_look_37 (by decide) (fun c => ?_) (fun c => ?_)
  · have h := h.1 c
    refine g_bipush (pc := 43) F dX9_look_43 bp_m9 ?_
    refine g_istore_n (pc := 45) (lv' := [(_, _), (_, _)]) F dX9_look_45 rfl (by decide) rfl ?_
    refine g_iconst (pc := 46) F dX9_look_46 ic_0 ?_
    refine g_istore_n (pc := 47) (lv' := [(_, _), (_, _), (_, _)]) F dX9_look_47 rfl (by decide) rfl ?_
    refine g_iconst (pc := 48) F dX9_look_48 ic_0 ?_
    refine g_istore_n (pc := 49) (lv' := [(_, _), (_, _), (_, _), (_, _)]) F dX9_look_49 rfl (by decide) rfl ?_
    obtain ⟨k_50, h⟩ := h
    refine g_weak [3, 2, 1, 0] rfl (bX9_look_50 F hR hV k_50 _ _ _ _ h)
  · have h := h.2 c
    refine g_bipush (pc := 40) F dX9_look_40 bp_m9 ?_
    exact hR _ _ _ _ dX9_look_42 h
def wX9_asLane (x1 : Int32) (s : St) (Q : Int32 → St → Prop) : Prop :=
  ∀ s_7 : St, s_7 = stL s 0 ((s.2.1 0) + (1 : Int64)) → vp_in x1 6 ∧ Q (s_7.1 14 x1.toNatClampNeg) s_7
set_option maxHeartbeats 4000000 in
set_option maxRecDepth 100000 in
theorem mX9_asLane {l : Launch} {V : Wv} {x1 : Int32} {s : St} {Q : Int32 → St → Prop} (hV : V.2.1 = DESC) (h : wX9_asLane x1 s Q) : Ci yX9_asLane cX9_asLane 2 (some .int) (0) l V [rf V 0, .int x1] s Q := by
  unfold wX9_asLane at h
  refine Ci.of mvX9_asLane.1 (Nat.le_of_ble_eq_true rfl) (fun X F hR => ?_)
  refine g_lv (lv' := [(_, _), (_, _)]) rfl ?_
  refine g_aload_n (pc := 0) F dX9_asLane_0 rfl 0 rfl ?_
  refine g_dup (pc := 1) F dX9_asLane_1 rfl ?_
  refine g_getL (pc := 2) F clX9 (sh_0 hV) 13 rfl (by decide) uX9_86 dX9_asLane_2 ?_
  refine g_lconst (pc := 5) (v := 1) F dX9_asLane_5 (by decide) ?_
  refine g_ladd (pc := 6) F dX9_asLane_6 ?_
  have h := h _ rfl
  refine g_putL (pc := 7) F clX9 (sh_0 hV) 13 rfl oneX9 (by decide) rfl (tyX9_ok 13 (by decide)) uX9_86 dX9_asLane_7 ?_
  refine g_aload_n (pc := 10) F dX9_asLane_10 rfl 0 rfl ?_
  refine g_getR (pc := 11) F clX9 (sh_0 hV) 3 _ rfl (by decide) uX9_29 dX9_asLane_11 ?_
  refine g_getR (pc := 14) F clX2 (is_13 hV).1 0 _ rfl (by decide) uX9_131 dX9_asLane_14 ?_
  refine g_iload_n (pc := 17) F dX9_asLane_17 rfl 1 rfl ?_
  obtain ⟨hb_18, h⟩ := h
  refine g_iald (pc := 18) F (is_13 hV).2.1 hb_18 dX9_asLane_18 ?_
  exact hR _ _ _ _ dX9_asLane_19 h
def wX9_asBrook (x1 : Int32) (s : St) (Q : Int32 → St → Prop) : Prop :=
  ∀ s_9 : St, s_9 = stL s 0 ((s.2.1 0) + (10 : Int64)) → wX9_asLane x1 s_9 (fun r_14 s_14 => IsG s_14.2.2.1 ∧ vp_in x1 6 ∧ Q (r_14 + (s_14.1 (s_14.2.2.1 + 3) x1.toNatClampNeg)) s_14)
set_option maxHeartbeats 4000000 in
set_option maxRecDepth 100000 in
theorem mX9_asBrook {l : Launch} {V : Wv} {x1 : Int32} {s : St} {Q : Int32 → St → Prop} (hV : V.2.1 = DESC) (h : wX9_asBrook x1 s Q) : Ci yX9_asBrook cX9_asBrook 2 (some .int) (1) l V [rf V 0, .int x1] s Q := by
  unfold wX9_asBrook at h
  refine Ci.of mvX9_asBrook.1 (Nat.le_of_ble_eq_true rfl) (fun X F hR => ?_)
  refine g_lv (lv' := [(_, _), (_, _)]) rfl ?_
  refine g_aload_n (pc := 0) F dX9_asBrook_0 rfl 0 rfl ?_
  refine g_dup (pc := 1) F dX9_asBrook_1 rfl ?_
  refine g_getL (pc := 2) F clX9 (sh_0 hV) 13 rfl (by decide) uX9_86 dX9_asBrook_2 ?_
  refine g_ldc2 (pc := 5) F dX9_asBrook_5 uX9_361 ?_
  refine g_ladd (pc := 8) F dX9_asBrook_8 ?_
  have h := h _ rfl
  refine g_putL (pc := 9) F clX9 (sh_0 hV) 13 rfl oneX9 (by decide) rfl (tyX9_ok 13 (by decide)) uX9_86 dX9_asBrook_9 ?_
  refine g_aload_n (pc := 12) F dX9_asBrook_12 rfl 0 rfl ?_
  refine g_iload_n (pc := 13) F dX9_asBrook_13 rfl 1 rfl ?_
  refine g_callVi (pc := 14) F (mX9_asLane hV h) mvX9_asLane uX9_343 (by decide) clX9 (sh_0 hV) rfl rfl (Nat.le_of_ble_eq_true rfl) dX9_asBrook_14 (fun r_14 s_14 h => ?_)
  refine g_aload_n (pc := 17) F dX9_asBrook_17 rfl 0 rfl ?_
  obtain ⟨hg_18, h⟩ := h
  refine g_getG (pc := 18) F clX9 (sh_0 hV) 1 rfl (by decide) uX9_19 dX9_asBrook_18 ?_
  refine g_getR (pc := 21) F clX1 (is_gr hV hg_18).1 4 _ rfl (by decide) uX9_134 dX9_asBrook_21 ?_
  refine g_iload_n (pc := 24) F dX9_asBrook_24 rfl 1 rfl ?_
  obtain ⟨hb_25, h⟩ := h
  refine g_iald (pc := 25) F (is_gr hV hg_18).2.2.2.1 hb_25 dX9_asBrook_25 ?_
  refine g_iadd (pc := 26) F dX9_asBrook_26 ?_
  exact hR _ _ _ _ dX9_asBrook_27 h
def wX9_asCart (x1 : Int32) (s : St) (Q : Int32 → St → Prop) : Prop :=
  ∀ s_9 : St, s_9 = stL s 0 ((s.2.1 0) + (100 : Int64)) → wX9_asLane x1 s_9 (fun r_14 s_14 => wX9_mapsBy x1 s_14 (fun r_19 s_19 => Q (r_14 - r_19) s_19))
set_option maxHeartbeats 4000000 in
set_option maxRecDepth 100000 in
theorem mX9_asCart {l : Launch} {V : Wv} {x1 : Int32} {s : St} {Q : Int32 → St → Prop} (hV : V.2.1 = DESC) (h : wX9_asCart x1 s Q) : Ci yX9_asCart cX9_asCart 2 (some .int) (3) l V [rf V 0, .int x1] s Q := by
  unfold wX9_asCart at h
  refine Ci.of mvX9_asCart.1 (Nat.le_of_ble_eq_true rfl) (fun X F hR => ?_)
  refine g_lv (lv' := [(_, _), (_, _)]) rfl ?_
  refine g_aload_n (pc := 0) F dX9_asCart_0 rfl 0 rfl ?_
  refine g_dup (pc := 1) F dX9_asCart_1 rfl ?_
  refine g_getL (pc := 2) F clX9 (sh_0 hV) 13 rfl (by decide) uX9_86 dX9_asCart_2 ?_
  refine g_ldc2 (pc := 5) F dX9_asCart_5 uX9_363 ?_
  refine g_ladd (pc := 8) F dX9_asCart_8 ?_
  have h := h _ rfl
  refine g_putL (pc := 9) F clX9 (sh_0 hV) 13 rfl oneX9 (by decide) rfl (tyX9_ok 13 (by decide)) uX9_86 dX9_asCart_9 ?_
  refine g_aload_n (pc := 12) F dX9_asCart_12 rfl 0 rfl ?_
  refine g_iload_n (pc := 13) F dX9_asCart_13 rfl 1 rfl ?_
  refine g_callVi (pc := 14) F (mX9_asLane hV h) mvX9_asLane uX9_343 (by decide) clX9 (sh_0 hV) rfl rfl (Nat.le_of_ble_eq_true rfl) dX9_asCart_14 (fun r_14 s_14 h => ?_)
  refine g_aload_n (pc := 17) F dX9_asCart_17 rfl 0 rfl ?_
  refine g_iload_n (pc := 18) F dX9_asCart_18 rfl 1 rfl ?_
  refine g_callVi (pc := 19) F (mX9_mapsBy hV h) mvX9_mapsBy uX9_137 (by decide) clX9 (sh_0 hV) rfl rfl (Nat.le_of_ble_eq_true rfl) dX9_asCart_19 (fun r_19 s_19 h => ?_)
  refine g_isub (pc := 22) F dX9_asCart_22 ?_
  exact hR _ _ _ _ dX9_asCart_23 h
def wX9_asParlour (x1 : Int32) (s : St) (Q : Int32 → St → Prop) : Prop :=
  ∀ s_9 : St, s_9 = stL s 0 ((s.2.1 0) + (1000 : Int64)) → wX9_asBrook x1 s_9 (fun r_15 s_15 => Q ((2 : Int32) * r_15) s_15)
set_option maxHeartbeats 4000000 in
set_option maxRecDepth 100000 in
theorem mX9_asParlour {l : Launch} {V : Wv} {x1 : Int32} {s : St} {Q : Int32 → St → Prop} (hV : V.2.1 = DESC) (h : wX9_asParlour x1 s Q) : Ci yX9_asParlour cX9_asParlour 2 (some .int) (2) l V [rf V 0, .int x1] s Q := by
  unfold wX9_asParlour at h
  refine Ci.of mvX9_asParlour.1 (Nat.le_of_ble_eq_true rfl) (fun X F hR => ?_)
  refine g_lv (lv' := [(_, _), (_, _)]) rfl ?_
  refine g_aload_n (pc := 0) F dX9_asParlour_0 rfl 0 rfl ?_
  refine g_dup (pc := 1) F dX9_asParlour_1 rfl ?_
  refine g_getL (pc := 2) F clX9 (sh_0 hV) 13 rfl (by decide) uX9_86 dX9_asParlour_2 ?_
  refine g_ldc2 (pc := 5) F dX9_asParlour_5 uX9_365 ?_
  refine g_ladd (pc := 8) F dX9_asParlour_8 ?_
  have h := h _ rfl
  refine g_putL (pc := 9) F clX9 (sh_0 hV) 13 rfl oneX9 (by decide) rfl (tyX9_ok 13 (by decide)) uX9_86 dX9_asParlour_9 ?_
  refine g_iconst (pc := 12) F dX9_asParlour_12 ic_2 ?_
  refine g_aload_n (pc := 13) F dX9_asParlour_13 rfl 0 rfl ?_
  refine g_iload_n (pc := 14) F dX9_asParlour_14 rfl 1 rfl ?_
  refine g_callVi (pc := 15) F (mX9_asBrook hV h) mvX9_asBrook uX9_346 (by decide) clX9 (sh_0 hV) rfl rfl (Nat.le_of_ble_eq_true rfl) dX9_asParlour_15 (fun r_15 s_15 h => ?_)
  refine g_imul (pc := 18) F dX9_asParlour_18 ?_
  exact hR _ _ _ _ dX9_asParlour_19 h
def wX9_asHome (x1 : Int32) (s : St) (Q : Int32 → St → Prop) : Prop :=
  ∀ s_9 : St, s_9 = stL s 0 ((s.2.1 0) + (10000 : Int64)) → wX9_asCart x1 s_9 (fun r_14 s_14 => Q (r_14 + x1) s_14)
set_option maxHeartbeats 4000000 in
set_option maxRecDepth 100000 in
theorem mX9_asHome {l : Launch} {V : Wv} {x1 : Int32} {s : St} {Q : Int32 → St → Prop} (hV : V.2.1 = DESC) (h : wX9_asHome x1 s Q) : Ci yX9_asHome cX9_asHome 2 (some .int) (4) l V [rf V 0, .int x1] s Q := by
  unfold wX9_asHome at h
  refine Ci.of mvX9_asHome.1 (Nat.le_of_ble_eq_true rfl) (fun X F hR => ?_)
  refine g_lv (lv' := [(_, _), (_, _)]) rfl ?_
  refine g_aload_n (pc := 0) F dX9_asHome_0 rfl 0 rfl ?_
  refine g_dup (pc := 1) F dX9_asHome_1 rfl ?_
  refine g_getL (pc := 2) F clX9 (sh_0 hV) 13 rfl (by decide) uX9_86 dX9_asHome_2 ?_
  refine g_ldc2 (pc := 5) F dX9_asHome_5 uX9_367 ?_
  refine g_ladd (pc := 8) F dX9_asHome_8 ?_
  have h := h _ rfl
  refine g_putL (pc := 9) F clX9 (sh_0 hV) 13 rfl oneX9 (by decide) rfl (tyX9_ok 13 (by decide)) uX9_86 dX9_asHome_9 ?_
  refine g_aload_n (pc := 12) F dX9_asHome_12 rfl 0 rfl ?_
  refine g_iload_n (pc := 13) F dX9_asHome_13 rfl 1 rfl ?_
  refine g_callVi (pc := 14) F (mX9_asCart hV h) mvX9_asCart uX9_349 (by decide) clX9 (sh_0 hV) rfl rfl (Nat.le_of_ble_eq_true rfl) dX9_asHome_14 (fun r_14 s_14 h => ?_)
  refine g_iload_n (pc := 17) F dX9_asHome_17 rfl 1 rfl ?_
  refine g_iadd (pc := 18) F dX9_asHome_18 ?_
  exact hR _ _ _ _ dX9_asHome_19 h
def wX9_asSea (x1 : Int32) (s : St) (Q : Int32 → St → Prop) : Prop :=
  ∀ s_9 : St, s_9 = stL s 0 ((s.2.1 0) + (100000 : Int64)) → wX9_asLane x1 s_9 (fun r_14 s_14 => Q (r_14 + (s_14.1 13 4)) s_14)
set_option maxHeartbeats 4000000 in
set_option maxRecDepth 100000 in
theorem mX9_asSea {l : Launch} {V : Wv} {x1 : Int32} {s : St} {Q : Int32 → St → Prop} (hV : V.2.1 = DESC) (h : wX9_asSea x1 s Q) : Ci yX9_asSea cX9_asSea 2 (some .int) (1) l V [rf V 0, .int x1] s Q := by
  unfold wX9_asSea at h
  refine Ci.of mvX9_asSea.1 (Nat.le_of_ble_eq_true rfl) (fun X F hR => ?_)
  refine g_lv (lv' := [(_, _), (_, _)]) rfl ?_
  refine g_aload_n (pc := 0) F dX9_asSea_0 rfl 0 rfl ?_
  refine g_dup (pc := 1) F dX9_asSea_1 rfl ?_
  refine g_getL (pc := 2) F clX9 (sh_0 hV) 13 rfl (by decide) uX9_86 dX9_asSea_2 ?_
  refine g_ldc2 (pc := 5) F dX9_asSea_5 uX9_369 ?_
  refine g_ladd (pc := 8) F dX9_asSea_8 ?_
  have h := h _ rfl
  refine g_putL (pc := 9) F clX9 (sh_0 hV) 13 rfl oneX9 (by decide) rfl (tyX9_ok 13 (by decide)) uX9_86 dX9_asSea_9 ?_
  refine g_aload_n (pc := 12) F dX9_asSea_12 rfl 0 rfl ?_
  refine g_iload_n (pc := 13) F dX9_asSea_13 rfl 1 rfl ?_
  refine g_callVi (pc := 14) F (mX9_asLane hV h) mvX9_asLane uX9_343 (by decide) clX9 (sh_0 hV) rfl rfl (Nat.le_of_ble_eq_true rfl) dX9_asSea_14 (fun r_14 s_14 h => ?_)
  refine g_aload_n (pc := 17) F dX9_asSea_17 rfl 0 rfl ?_
  refine g_getR (pc := 18) F clX9 (sh_0 hV) 3 _ rfl (by decide) uX9_29 dX9_asSea_18 ?_
  refine g_getI (pc := 21) F clX2 (is_13 hV).1 4 rfl (by decide) uX9_162 dX9_asSea_21 ?_
  refine g_iadd (pc := 24) F dX9_asSea_24 ?_
  exact hR _ _ _ _ dX9_asSea_25 h
def wX9_rate (x1 : Int32) (x2 : Int32) (s : St) (Q : Int32 → St → Prop) : Prop :=
  wX9_isLane x2 s (fun r_2 s_2 => ((¬ r_2 = 0 → ((x1 = (0 : Int32) → wX9_asLane x2 s_2 (fun r_54 s_54 => Q r_54 s_54)) ∧ (¬ x1 = (0 : Int32) → ((x1 = (1 : Int32) → wX9_asBrook x2 s_2 (fun r_60 s_60 => Q r_60 s_60)) ∧ (¬ x1 = (1 : Int32) → ((x1 = (2 : Int32) → wX9_asCart x2 s_2 (fun r_66 s_66 => Q r_66 s_66)) ∧ (¬ x1 = (2 : Int32) → ((x1 = (3 : Int32) → wX9_asParlour x2 s_2 (fun r_72 s_72 => Q r_72 s_72)) ∧ (¬ x1 = (3 : Int32) → ((x1 = (4 : Int32) → wX9_asHome x2 s_2 (fun r_78 s_78 => Q r_78 s_78)) ∧ (¬ x1 = (4 : Int32) → ((x1 = (5 : Int32) → wX9_asSea x2 s_2 (fun r_84 s_84 => Q r_84 s_84)) ∧ (¬ x1 = (5 : Int32) → Q (-1000000 : Int32) s_2))))))))))))) ∧ (r_2 = 0 → Q (-1000000 : Int32) s_2)))
set_option maxHeartbeats 4000000 in
set_option maxRecDepth 100000 in
theorem mX9_rate {l : Launch} {V : Wv} {x1 : Int32} {x2 : Int32} {s : St} {Q : Int32 → St → Prop} (hV : V.2.1 = DESC) (h : wX9_rate x1 x2 s Q) : Ci yX9_rate cX9_rate 3 (some .int) (5) l V [rf V 0, .int x1, .int x2] s Q := by
  unfold wX9_rate at h
  refine Ci.of mvX9_rate.1 (Nat.le_of_ble_eq_true rfl) (fun X F hR => ?_)
  refine g_lv (lv' := [(_, _), (_, _), (_, _)]) rfl ?_
  refine g_aload_n (pc := 0) F dX9_rate_0 rfl 0 rfl ?_
  refine g_iload_n (pc := 1) F dX9_rate_1 rfl 2 rfl ?_
  refine g_callVi (pc := 2) F (mX9_isLane hV h) mvX9_isLane uX9_121 (by decide) clX9 (sh_0 hV) rfl rfl (Nat.le_of_ble_eq_true rfl) dX9_rate_2 (fun r_2 s_2 h => ?_)
  refine g_if_ne (pc := 5) F 12 dX9_rate_5 (by decide) (fun c => ?_) (fun c => ?_)
  · have h := h.1 c
    refine g_iload_n (pc := 12) F dX9_rate_12 rfl 1 rfl ?_
    by_cases c0 : x1 = (0 : Int32)
    · have h := h.1 c0
      refine g_tabIn (o := 39) (pc := 13) F 52 dX9_rate_13 (by rw [c0]; decide) (by rw [c0]; decide) (by rw [c0]; rfl) (by decide) ?_
      refine g_aload_n (pc := 52) F dX9_rate_52 rfl 0 rfl ?_
      refine g_iload_n (pc := 53) F dX9_rate_53 rfl 2 rfl ?_
      refine g_callVi (pc := 54) F (mX9_asLane hV h) mvX9_asLane uX9_343 (by decide) clX9 (sh_0 hV) rfl rfl (Nat.le_of_ble_eq_true rfl) dX9_rate_54 (fun r_54 s_54 h => ?_)
      exact hR _ _ _ _ dX9_rate_57 h
    · have h := h.2 c0
      by_cases c1 : x1 = (1 : Int32)
      · have h := h.1 c1
        refine g_tabIn (o := 45) (pc := 13) F 58 dX9_rate_13 (by rw [c1]; decide) (by rw [c1]; decide) (by rw [c1]; rfl) (by decide) ?_
        refine g_aload_n (pc := 58) F dX9_rate_58 rfl 0 rfl ?_
        refine g_iload_n (pc := 59) F dX9_rate_59 rfl 2 rfl ?_
        refine g_callVi (pc := 60) F (mX9_asBrook hV h) mvX9_asBrook uX9_346 (by decide) clX9 (sh_0 hV) rfl rfl (Nat.le_of_ble_eq_true rfl) dX9_rate_60 (fun r_60 s_60 h => ?_)
        exact hR _ _ _ _ dX9_rate_63 h
      · have h := h.2 c1
        by_cases c2 : x1 = (2 : Int32)
        · have h := h.1 c2
          refine g_tabIn (o := 51) (pc := 13) F 64 dX9_rate_13 (by rw [c2]; decide) (by rw [c2]; decide) (by rw [c2]; rfl) (by decide) ?_
          refine g_aload_n (pc := 64) F dX9_rate_64 rfl 0 rfl ?_
          refine g_iload_n (pc := 65) F dX9_rate_65 rfl 2 rfl ?_
          refine g_callVi (pc := 66) F (mX9_asCart hV h) mvX9_asCart uX9_349 (by decide) clX9 (sh_0 hV) rfl rfl (Nat.le_of_ble_eq_true rfl) dX9_rate_66 (fun r_66 s_66 h => ?_)
          exact hR _ _ _ _ dX9_rate_69 h
        · have h := h.2 c2
          by_cases c3 : x1 = (3 : Int32)
          · have h := h.1 c3
            refine g_tabIn (o := 57) (pc := 13) F 70 dX9_rate_13 (by rw [c3]; decide) (by rw [c3]; decide) (by rw [c3]; rfl) (by decide) ?_
            refine g_aload_n (pc := 70) F dX9_rate_70 rfl 0 rfl ?_
            refine g_iload_n (pc := 71) F dX9_rate_71 rfl 2 rfl ?_
            refine g_callVi (pc := 72) F (mX9_asParlour hV h) mvX9_asParlour uX9_352 (by decide) clX9 (sh_0 hV) rfl rfl (Nat.le_of_ble_eq_true rfl) dX9_rate_72 (fun r_72 s_72 h => ?_)
            exact hR _ _ _ _ dX9_rate_75 h
          · have h := h.2 c3
            by_cases c4 : x1 = (4 : Int32)
            · have h := h.1 c4
              refine g_tabIn (o := 63) (pc := 13) F 76 dX9_rate_13 (by rw [c4]; decide) (by rw [c4]; decide) (by rw [c4]; rfl) (by decide) ?_
              refine g_aload_n (pc := 76) F dX9_rate_76 rfl 0 rfl ?_
              refine g_iload_n (pc := 77) F dX9_rate_77 rfl 2 rfl ?_
              refine g_callVi (pc := 78) F (mX9_asHome hV h) mvX9_asHome uX9_355 (by decide) clX9 (sh_0 hV) rfl rfl (Nat.le_of_ble_eq_true rfl) dX9_rate_78 (fun r_78 s_78 h => ?_)
              exact hR _ _ _ _ dX9_rate_81 h
            · have h := h.2 c4
              by_cases c5 : x1 = (5 : Int32)
              · have h := h.1 c5
                refine g_tabIn (o := 69) (pc := 13) F 82 dX9_rate_13 (by rw [c5]; decide) (by rw [c5]; decide) (by rw [c5]; rfl) (by decide) ?_
                refine g_aload_n (pc := 82) F dX9_rate_82 rfl 0 rfl ?_
                refine g_iload_n (pc := 83) F dX9_rate_83 rfl 2 rfl ?_
                refine g_callVi (pc := 84) F (mX9_asSea hV h) mvX9_asSea uX9_358 (by decide) clX9 (sh_0 hV) rfl rfl (Nat.le_of_ble_eq_true rfl) dX9_rate_84 (fun r_84 s_84 h => ?_)
                exact hR _ _ _ _ dX9_rate_87 h
              · have h := h.2 c5
                refine g_tabOut (pc := 13) F 88 dX9_rate_13 ?_ (by decide) ?_
                · have e0 := lv_neT c0 (show ((0 : Int32)).toInt = 0 from rfl); have e1 := lv_neT c1 (show ((1 : Int32)).toInt = 1 from rfl); have e2 := lv_neT c2 (show ((2 : Int32)).toInt = 2 from rfl); have e3 := lv_neT c3 (show ((3 : Int32)).toInt = 3 from rfl); have e4 := lv_neT c4 (show ((4 : Int32)).toInt = 4 from rfl); have e5 := lv_neT c5 (show ((5 : Int32)).toInt = 5 from rfl); omega
                · refine g_ldcw (pc := 88) F dX9_rate_88 uX9_342 ?_
                  exact hR _ _ _ _ dX9_rate_91 h
  · have h := h.2 c
    refine g_ldcw (pc := 8) F dX9_rate_8 uX9_342 ?_
    exact hR _ _ _ _ dX9_rate_11 h
