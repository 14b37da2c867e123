/-! printed by program: what each method does to the state (w..), and that its code does so (b.., m..) -/
def wX2_empty (x0 : Nat) (s : St) (Q : St → Prop) : Prop :=
  ∀ s_2 : St, s_2 = stI s x0 3 (0 : Int32) → ∀ s_7 : St, s_7 = stI s_2 x0 4 (0 : Int32) → vp_in (4 : Int32) 5 ∧ ∀ s_16 : St, s_16 = stI s_7 (x0 + 2) (4 : Int32).toNatClampNeg (0 : Int32) → Q s_16
set_option maxHeartbeats 4000000 in
set_option maxRecDepth 100000 in
theorem mX2_empty {l : Launch} {V : Wv} {x0 : Nat} {s : St} {Q : St → Prop} (hx0 : isX2 V x0) (h : wX2_empty x0 s Q) : Cv yX2_empty cX2_empty 1 (0) l V [rf V x0] s Q := by
  unfold wX2_empty at h
  refine Cv.of mvX2_empty.1 (Nat.le_of_ble_eq_true rfl) (fun X F hR => ?_)
  refine g_lv (lv' := [(_, _)]) rfl ?_
  refine g_aload_n (pc := 0) F dX2_empty_0 rfl 0 rfl ?_
  refine g_iconst (pc := 1) F dX2_empty_1 ic_0 ?_
  have h := h _ rfl
  refine g_putI (pc := 2) F clX2 hx0.1 3 rfl (by decide) rfl (tyX2_ok 3 (by decide)) uX2_21 dX2_empty_2 ?_
  refine g_aload_n (pc := 5) F dX2_empty_5 rfl 0 rfl ?_
  refine g_iconst (pc := 6) F dX2_empty_6 ic_0 ?_
  have h := h _ rfl
  refine g_putI (pc := 7) F clX2 hx0.1 4 rfl (by decide) rfl (tyX2_ok 4 (by decide)) uX2_25 dX2_empty_7 ?_
  refine g_aload_n (pc := 10) F dX2_empty_10 rfl 0 rfl ?_
  refine g_getR (pc := 11) F clX2 hx0.1 1 _ rfl (by decide) uX2_15 dX2_empty_11 ?_
  refine g_iconst (pc := 14) F dX2_empty_14 ic_4 ?_
  refine g_iconst (pc := 15) F dX2_empty_15 ic_0 ?_
  obtain ⟨hb_16, h⟩ := h
  have h := h _ rfl
  refine g_iast (pc := 16) F hx0.2.2.1 hb_16 dX2_empty_16 ?_
  exact hR _ _ _ dX2_empty_17 h
def wX2_become (x0 : Nat) (x1 : Nat) (s : St) (Q : St → Prop) : Prop :=
  cpOk (0 : Int32) (0 : Int32) (6 : Int32) 6 6 ∧ ∀ s_12 : St, s_12 = stC s (x1 + 1) (x0 + 1) (0 : Int32).toNatClampNeg (0 : Int32).toNatClampNeg (6 : Int32).toNatClampNeg → cpOk (0 : Int32) (0 : Int32) (5 : Int32) 5 5 ∧ ∀ s_26 : St, s_26 = stC s_12 (x1 + 2) (x0 + 2) (0 : Int32).toNatClampNeg (0 : Int32).toNatClampNeg (5 : Int32).toNatClampNeg → cpOk (0 : Int32) (0 : Int32) (25 : Int32) 25 25 ∧ ∀ s_41 : St, s_41 = stC s_26 (x1 + 3) (x0 + 3) (0 : Int32).toNatClampNeg (0 : Int32).toNatClampNeg (25 : Int32).toNatClampNeg → ∀ s_49 : St, s_49 = stI s_41 x0 3 (s_41.1 x1 3) → ∀ s_57 : St, s_57 = stI s_49 x0 4 (s_49.1 x1 4) → Q s_57
set_option maxHeartbeats 4000000 in
set_option maxRecDepth 100000 in
theorem mX2_become {l : Launch} {V : Wv} {x0 : Nat} {x1 : Nat} {s : St} {Q : St → Prop} (hx0 : isX2 V x0) (hx1 : isX2 V x1) (h : wX2_become x0 x1 s Q) : Cv yX2_become cX2_become 2 (1) l V [rf V x0, rf V x1] s Q := by
  unfold wX2_become at h
  refine Cv.of mvX2_become.1 (Nat.le_of_ble_eq_true rfl) (fun X F hR => ?_)
  refine g_lv (lv' := [(_, _), (_, _)]) rfl ?_
  refine g_aload_n (pc := 0) F dX2_become_0 rfl 1 rfl ?_
  refine g_getR (pc := 1) F clX2 hx1.1 0 _ rfl (by decide) uX2_9 dX2_become_1 ?_
  refine g_iconst (pc := 4) F dX2_become_4 ic_0 ?_
  refine g_aload_n (pc := 5) F dX2_become_5 rfl 0 rfl ?_
  refine g_getR (pc := 6) F clX2 hx0.1 0 _ rfl (by decide) uX2_9 dX2_become_6 ?_
  refine g_iconst (pc := 9) F dX2_become_9 ic_0 ?_
  refine g_bipush (pc := 10) F dX2_become_10 bp_6 ?_
  obtain ⟨hb_12, h⟩ := h
  have h := h _ rfl
  refine g_copy (pc := 12) F hx1.2.1 hx0.2.1 hb_12.1 hb_12.2.1 hb_12.2.2.1 hb_12.2.2.2.1 hb_12.2.2.2.2 (by decide) (Nat.le_of_ble_eq_true rfl) uX2_28 dX2_become_12 ?_
  refine g_aload_n (pc := 15) F dX2_become_15 rfl 1 rfl ?_
  refine g_getR (pc := 16) F clX2 hx1.1 1 _ rfl (by decide) uX2_15 dX2_become_16 ?_
  refine g_iconst (pc := 19) F dX2_become_19 ic_0 ?_
  refine g_aload_n (pc := 20) F dX2_become_20 rfl 0 rfl ?_
  refine g_getR (pc := 21) F clX2 hx0.1 1 _ rfl (by decide) uX2_15 dX2_become_21 ?_
  refine g_iconst (pc := 24) F dX2_become_24 ic_0 ?_
  refine g_iconst (pc := 25) F dX2_become_25 ic_5 ?_
  obtain ⟨hb_26, h⟩ := h
  have h := h _ rfl
  refine g_copy (pc := 26) F hx1.2.2.1 hx0.2.2.1 hb_26.1 hb_26.2.1 hb_26.2.2.1 hb_26.2.2.2.1 hb_26.2.2.2.2 (by decide) (Nat.le_of_ble_eq_true rfl) uX2_28 dX2_become_26 ?_
  refine g_aload_n (pc := 29) F dX2_become_29 rfl 1 rfl ?_
  refine g_getR (pc := 30) F clX2 hx1.1 2 _ rfl (by decide) uX2_18 dX2_become_30 ?_
  refine g_iconst (pc := 33) F dX2_become_33 ic_0 ?_
  refine g_aload_n (pc := 34) F dX2_become_34 rfl 0 rfl ?_
  refine g_getR (pc := 35) F clX2 hx0.1 2 _ rfl (by decide) uX2_18 dX2_become_35 ?_
  refine g_iconst (pc := 38) F dX2_become_38 ic_0 ?_
  refine g_bipush (pc := 39) F dX2_become_39 bp_25 ?_
  obtain ⟨hb_41, h⟩ := h
  have h := h _ rfl
  refine g_copy (pc := 41) F hx1.2.2.2 hx0.2.2.2 hb_41.1 hb_41.2.1 hb_41.2.2.1 hb_41.2.2.2.1 hb_41.2.2.2.2 (by decide) (Nat.le_of_ble_eq_true rfl) uX2_28 dX2_become_41 ?_
  refine g_aload_n (pc := 44) F dX2_become_44 rfl 0 rfl ?_
  refine g_aload_n (pc := 45) F dX2_become_45 rfl 1 rfl ?_
  refine g_getI (pc := 46) F clX2 hx1.1 3 rfl (by decide) uX2_21 dX2_become_46 ?_
  have h := h _ rfl
  refine g_putI (pc := 49) F clX2 hx0.1 3 rfl (by decide) rfl (tyX2_ok 3 (by decide)) uX2_21 dX2_become_49 ?_
  refine g_aload_n (pc := 52) F dX2_become_52 rfl 0 rfl ?_
  refine g_aload_n (pc := 53) F dX2_become_53 rfl 1 rfl ?_
  refine g_getI (pc := 54) F clX2 hx1.1 4 rfl (by decide) uX2_25 dX2_become_54 ?_
  have h := h _ rfl
  refine g_putI (pc := 57) F clX2 hx0.1 4 rfl (by decide) rfl (tyX2_ok 4 (by decide)) uX2_25 dX2_become_57 ?_
  exact hR _ _ _ dX2_become_60 h
def wX2_placeAt (x0 : Nat) (x1 : Int32) (x2 : Int32) (s : St) (Q : Int32 → St → Prop) : Prop :=
  ((x2 < 0 → Q (-9 : Int32) s) ∧ (¬ x2 < 0 → vp_in x1 5 ∧ (((s.1 (x0 + 2) x1.toNatClampNeg) ≤ x2 → Q (-9 : Int32) s) ∧ (¬ (s.1 (x0 + 2) x1.toNatClampNeg) ≤ x2 → vp_in ((x1 * (5 : Int32)) + x2) 25 ∧ Q (s.1 (x0 + 3) ((x1 * (5 : Int32)) + x2).toNatClampNeg) s))))
set_option maxHeartbeats 4000000 in
set_option maxRecDepth 100000 in
theorem mX2_placeAt {l : Launch} {V : Wv} {x0 : Nat} {x1 : Int32} {x2 : Int32} {s : St} {Q : Int32 → St → Prop} (hx0 : isX2 V x0) (h : wX2_placeAt x0 x1 x2 s Q) : Ci yX2_placeAt cX2_placeAt 3 (some .int) (0) l V [rf V x0, .int x1, .int x2] s Q := by
  unfold wX2_placeAt at h
  refine Ci.of mvX2_placeAt.1 (Nat.le_of_ble_eq_true rfl) (fun X F hR => ?_)
  refine g_lv (lv' := [(_, _), (_, _), (_, _)]) rfl ?_
  refine g_iload_n (pc := 0) F dX2_placeAt_0 rfl 2 rfl ?_
  refine g_if_lt (pc := 1) F 27 dX2_placeAt_1 (by decide) (fun c => ?_) (fun c => ?_)
  · have h := h.1 c
    refine g_bipush (pc := 27) F dX2_placeAt_27 bp_m9 ?_
    exact hR _ _ _ _ dX2_placeAt_29 h
  · have h := h.2 c
    refine g_iload_n (pc := 4) F dX2_placeAt_4 rfl 2 rfl ?_
    refine g_aload_n (pc := 5) F dX2_placeAt_5 rfl 0 rfl ?_
    refine g_getR (pc := 6) F clX2 hx0.1 1 _ rfl (by decide) uX2_15 dX2_placeAt_6 ?_
    refine g_iload_n (pc := 9) F dX2_placeAt_9 rfl 1 rfl ?_
    obtain ⟨hb_10, h⟩ := h
    refine g_iald (pc := 10) F hx0.2.2.1 hb_10 dX2_placeAt_10 ?_
    refine g_icmp_ge (pc := 11) F 27 dX2_placeAt_11 (by decide) (fun c => ?_) (fun c => ?_)
    · have h := h.1 c
      refine g_bipush (pc := 27) F dX2_placeAt_27 bp_m9 ?_
      exact hR _ _ _ _ dX2_placeAt_29 h
    · have h := h.2 c
      refine g_aload_n (pc := 14) F dX2_placeAt_14 rfl 0 rfl ?_
      refine g_getR (pc := 15) F clX2 hx0.1 2 _ rfl (by decide) uX2_18 dX2_placeAt_15 ?_
      refine g_iload_n (pc := 18) F dX2_placeAt_18 rfl 1 rfl ?_
      refine g_iconst (pc := 19) F dX2_placeAt_19 ic_5 ?_
      refine g_imul (pc := 20) F dX2_placeAt_20 ?_
      refine g_iload_n (pc := 21) F dX2_placeAt_21 rfl 2 rfl ?_
      refine g_iadd (pc := 22) F dX2_placeAt_22 ?_
      obtain ⟨hb_23, h⟩ := h
      refine g_iald (pc := 23) F hx0.2.2.2 hb_23 dX2_placeAt_23 ?_
      refine g_goto (pc := 24) F 29 dX2_placeAt_24 (by decide) ?_
      exact hR _ _ _ _ dX2_placeAt_29 h
def wX2_fits_45 (x0 : Nat) (x2 : Int32) (x3 : Int32) (x4 : Int32) (Q : Int32 → St → Prop) : Nat → Int32 → St → Prop
  | 0, _, _ => False
  | n + 1, x5, s =>
  ((x4 ≤ x5 → Q (1 : Int32) s) ∧ (¬ x4 ≤ x5 → wX2_placeAt x0 x2 x5 s (fun r_56 s_56 => ((¬ r_56 = x3 → wX2_fits_45 x0 x2 x3 x4 Q n (x5 + (1 : Int32)) s_56) ∧ (r_56 = x3 → Q (0 : Int32) s_56)))))
set_option maxHeartbeats 4000000 in
set_option maxRecDepth 100000 in
theorem bX2_fits_45 {l : Launch} {V : Wv} {X : Mx} {x0 : Nat} {x2 : Int32} {x3 : Int32} {x4 : Int32} {Q : Int32 → St → Prop} (F : Fx V X cX2_fits RX2 6 1) (hR : RtZ l V X 6 cX2_fits Q) (hx0 : isX2 V x0)  : ∀ (n : Nat) (x5 : Int32) (s : St), wX2_fits_45 x0 x2 x3 x4 Q n x5 s → G l V X 6 45 [(0, rf V x0), (2, .int x2), (3, .int x3), (4, .int x4), (5, .int x5)] [] s := by
  intro n
  induction n with
  | zero => intro x5 s h; unfold wX2_fits_45 at h; exact h.elim
  | succ n ih =>
    intro x5 s h
    unfold wX2_fits_45 at h
    refine g_iload (pc := 45) F dX2_fits_45 4 rfl ?_
    refine g_iload (pc := 47) F dX2_fits_47 3 rfl ?_
    refine g_icmp_ge (pc := 49) F 71 dX2_fits_49 (by decide) (fun c => ?_) (fun c => ?_)
    · have h := h.1 c
      refine g_iconst (pc := 71) F dX2_fits_71 ic_1 ?_
      exact hR _ _ _ _ dX2_fits_72 (Or.inr rfl) h
    · have h := h.2 c
      refine g_aload_n (pc := 52) F dX2_fits_52 rfl 0 rfl ?_
      refine g_iload_n (pc := 53) F dX2_fits_53 rfl 1 rfl ?_
      refine g_iload (pc := 54) F dX2_fits_54 4 rfl ?_
      refine g_callVi (pc := 56) F (mX2_placeAt hx0 h) mvX2_placeAt uX2_34 (by decide) clX2 hx0.1 rfl rfl (Nat.le_of_ble_eq_true rfl) dX2_fits_56 (fun r_56 s_56 h => ?_)
      refine g_iload_n (pc := 59) F dX2_fits_59 rfl 2 rfl ?_
      refine g_icmp_ne (pc := 60) F 65 dX2_fits_60 (by decide) (fun c => ?_) (fun c => ?_)
      · have h := h.1 c
        refine g_iinc (pc := 65) (lv' := [(_, _), (_, _), (_, _), (_, _), (_, _)]) F dX2_fits_65 4 rfl (congrArg _ ic_1) (by decide) rfl ?_
        refine g_goto (pc := 68) F 45 dX2_fits_68 (by decide) ?_
        exact g_weak [1, 2, 3, 4, 0] rfl (ih _ _ h)
      · have h := h.2 c
        refine g_iconst (pc := 63) F dX2_fits_63 ic_0 ?_
        exact hR _ _ _ _ dX2_fits_64 (Or.inl rfl) h
def wX2_fits (x0 : Nat) (x1 : Nat) (x2 : Int32) (x3 : Int32) (s : St) (Q : Int32 → St → Prop) : Prop :=
  vp_in x2 5 ∧ ((¬ (s.1 (x0 + 2) x2.toNatClampNeg) = 0 → (((5 : Int32) ≤ (s.1 (x0 + 2) x2.toNatClampNeg) → Q (0 : Int32) s) ∧ (¬ (5 : Int32) ≤ (s.1 (x0 + 2) x2.toNatClampNeg) → wX2_placeAt x0 x2 ((s.1 (x0 + 2) x2.toNatClampNeg) - (1 : Int32)) s (fun r_28 s_28 => wX1_laneBetween x1 r_28 x3 s_28 (fun r_32 s_32 => ((¬ r_32 = (-9 : Int32) → (∃ k_45, wX2_fits_45  x0 x2 x3 (s.1 (x0 + 2) x2.toNatClampNeg)  Q k_45 (0 : Int32) s_32)) ∧ (r_32 = (-9 : Int32) → Q (0 : Int32) s_32))))))) ∧ ((s.1 (x0 + 2) x2.toNatClampNeg) = 0 → Q (1 : Int32) s))
set_option maxHeartbeats 4000000 in
set_option maxRecDepth 100000 in
theorem mX2_fits {l : Launch} {V : Wv} {x0 : Nat} {x1 : Nat} {x2 : Int32} {x3 : Int32} {s : St} {Q : Int32 → St → Prop} (hx0 : isX2 V x0) (hx1 : isX1 V x1) (h : wX2_fits x0 x1 x2 x3 s Q) : Ci yX2_fits cX2_fits 6 (some .boolean) (1) l V [rf V x0, rf V x1, .int x2, .int x3] s Q := by
  unfold wX2_fits at h
  refine Cz.of mvX2_fits.1 (Nat.le_of_ble_eq_true rfl) (fun X F hR => ?_)
  refine g_lv (lv' := [(_, _), (_, _), (_, _), (_, _)]) rfl ?_
  refine g_aload_n (pc := 0) F dX2_fits_0 rfl 0 rfl ?_
  refine g_getR (pc := 1) F clX2 hx0.1 1 _ rfl (by decide) uX2_15 dX2_fits_1 ?_
  refine g_iload_n (pc := 4) F dX2_fits_4 rfl 2 rfl ?_
  obtain ⟨hb_5, h⟩ := h
  refine g_iald (pc := 5) F hx0.2.2.1 hb_5 dX2_fits_5 ?_
  refine g_istore (pc := 6) (lv' := [(_, _), (_, _), (_, _), (_, _), (_, _)]) F dX2_fits_6 (by decide) rfl ?_
  refine g_iload (pc := 8) F dX2_fits_8 0 rfl ?_
  refine g_if_ne (pc := 10) F 15 dX2_fits_10 (by decide) (fun c => ?_) (fun c => ?_)
  · have h := h.1 c
    refine g_iload (pc := 15) F dX2_fits_15 0 rfl ?_
    refine g_iconst (pc := 17) F dX2_fits_17 ic_5 ?_
    refine g_icmp_ge (pc := 18) F 40 dX2_fits_18 (by decide) (fun c => ?_) (fun c => ?_)
    · have h := h.1 c
      refine g_iconst (pc := 40) F dX2_fits_40 ic_0 ?_
      exact hR _ _ _ _ dX2_fits_41 (Or.inl rfl) h
    · have h := h.2 c
      refine g_aload_n (pc := 21) F dX2_fits_21 rfl 2 rfl ?_
      refine g_aload_n (pc := 22) F dX2_fits_22 rfl 1 rfl ?_
      refine g_iload_n (pc := 23) F dX2_fits_23 rfl 3 rfl ?_
      refine g_iload (pc := 24) F dX2_fits_24 0 rfl ?_
      refine g_iconst (pc := 26) F dX2_fits_26 ic_1 ?_
      refine g_isub (pc := 27) F dX2_fits_27 ?_
      refine g_callVi (pc := 28) F (mX2_placeAt hx0 h) mvX2_placeAt uX2_34 (by decide) clX2 hx0.1 rfl rfl (Nat.le_of_ble_eq_true rfl) dX2_fits_28 (fun r_28 s_28 h => ?_)
      refine g_iload_n (pc := 31) F dX2_fits_31 rfl 4 rfl ?_
      refine g_callVi (pc := 32) F (mX1_laneBetween hx1 h) mvX1_laneBetween uX2_38 (by decide) clX1 hx1.1 rfl rfl (Nat.le_of_ble_eq_true rfl) dX2_fits_32 (fun r_32 s_32 h => ?_)
      refine g_bipush (pc := 35) F dX2_fits_35 bp_m9 ?_
      refine g_icmp_ne (pc := 37) F 42 dX2_fits_37 (by decide) (fun c => ?_) (fun c => ?_)
      · have h := h.1 c
        refine g_iconst (pc := 42) F dX2_fits_42 ic_0 ?_
        refine g_istore (pc := 43) (lv' := [(_, _), (_, _), (_, _), (_, _), (_, _), (_, _)]) F dX2_fits_43 (by decide) rfl ?_
        obtain ⟨k_45, h⟩ := h
        refine g_weak [2, 4, 5, 1, 0] rfl (bX2_fits_45 F hR hx0 k_45 _ _ h)
      · have h := h.2 c
        refine g_iconst (pc := 40) F dX2_fits_40 ic_0 ?_
        exact hR _ _ _ _ dX2_fits_41 (Or.inl rfl) h
  · have h := h.2 c
    refine g_iconst (pc := 13) F dX2_fits_13 ic_1 ?_
    exact hR _ _ _ _ dX2_fits_14 (Or.inr rfl) h
def wX2_append (x0 : Nat) (x1 : Int32) (x2 : Int32) (s : St) (Q : St → Prop) : Prop :=
  vp_in x1 5 ∧ (((s.1 (x0 + 2) x1.toNatClampNeg) < (5 : Int32) → vp_in x1 5 ∧ vp_in ((x1 * (5 : Int32)) + (s.1 (x0 + 2) x1.toNatClampNeg)) 25 ∧ ∀ s_26 : St, s_26 = stI s (x0 + 3) ((x1 * (5 : Int32)) + (s.1 (x0 + 2) x1.toNatClampNeg)).toNatClampNeg x2 → vp_in x1 5 ∧ vp_in x1 5 ∧ ∀ s_36 : St, s_36 = stI s_26 (x0 + 2) x1.toNatClampNeg ((s_26.1 (x0 + 2) x1.toNatClampNeg) + (1 : Int32)) → Q s_36) ∧ (¬ (s.1 (x0 + 2) x1.toNatClampNeg) < (5 : Int32) → Q s))
set_option maxHeartbeats 4000000 in
set_option maxRecDepth 100000 in
theorem mX2_append {l : Launch} {V : Wv} {x0 : Nat} {x1 : Int32} {x2 : Int32} {s : St} {Q : St → Prop} (hx0 : isX2 V x0) (h : wX2_append x0 x1 x2 s Q) : Cv yX2_append cX2_append 3 (0) l V [rf V x0, .int x1, .int x2] s Q := by
  unfold wX2_append at h
  refine Cv.of mvX2_append.1 (Nat.le_of_ble_eq_true rfl) (fun X F hR => ?_)
  refine g_lv (lv' := [(_, _), (_, _), (_, _)]) rfl ?_
  refine g_aload_n (pc := 0) F dX2_append_0 rfl 0 rfl ?_
  refine g_getR (pc := 1) F clX2 hx0.1 1 _ rfl (by decide) uX2_15 dX2_append_1 ?_
  refine g_iload_n (pc := 4) F dX2_append_4 rfl 1 rfl ?_
  obtain ⟨hb_5, h⟩ := h
  refine g_iald (pc := 5) F hx0.2.2.1 hb_5 dX2_append_5 ?_
  refine g_iconst (pc := 6) F dX2_append_6 ic_5 ?_
  refine g_icmp_lt (pc := 7) F 11 dX2_append_7 (by decide) (fun c => ?_) (fun c => ?_)
  · have h := h.1 c
    refine g_aload_n (pc := 11) F dX2_append_11 rfl 0 rfl ?_
    refine g_getR (pc := 12) F clX2 hx0.1 2 _ rfl (by decide) uX2_18 dX2_append_12 ?_
    refine g_iload_n (pc := 15) F dX2_append_15 rfl 1 rfl ?_
    refine g_iconst (pc := 16) F dX2_append_16 ic_5 ?_
    refine g_imul (pc := 17) F dX2_append_17 ?_
    refine g_aload_n (pc := 18) F dX2_append_18 rfl 0 rfl ?_
    refine g_getR (pc := 19) F clX2 hx0.1 1 _ rfl (by decide) uX2_15 dX2_append_19 ?_
    refine g_iload_n (pc := 22) F dX2_append_22 rfl 1 rfl ?_
    obtain ⟨hb_23, h⟩ := h
    refine g_iald (pc := 23) F hx0.2.2.1 hb_23 dX2_append_23 ?_
    refine g_iadd (pc := 24) F dX2_append_24 ?_
    refine g_iload_n (pc := 25) F dX2_append_25 rfl 2 rfl ?_
    obtain ⟨hb_26, h⟩ := h
    have h := h _ rfl
    refine g_iast (pc := 26) F hx0.2.2.2 hb_26 dX2_append_26 ?_
    refine g_aload_n (pc := 27) F dX2_append_27 rfl 0 rfl ?_
    refine g_getR (pc := 28) F clX2 hx0.1 1 _ rfl (by decide) uX2_15 dX2_append_28 ?_
    refine g_iload_n (pc := 31) F dX2_append_31 rfl 1 rfl ?_
    refine g_dup2 (pc := 32) F dX2_append_32 rfl rfl ?_
    obtain ⟨hb_33, h⟩ := h
    refine g_iald (pc := 33) F hx0.2.2.1 hb_33 dX2_append_33 ?_
    refine g_iconst (pc := 34) F dX2_append_34 ic_1 ?_
    refine g_iadd (pc := 35) F dX2_append_35 ?_
    obtain ⟨hb_36, h⟩ := h
    have h := h _ rfl
    refine g_iast (pc := 36) F hx0.2.2.1 hb_36 dX2_append_36 ?_
    exact hR _ _ _ dX2_append_37 h
  · have h := h.2 c
    exact hR _ _ _ dX2_append_10 h
def wX2_lanesOf_52 (rec : Int32 → Int32 → St → Prop) (Q : Int32 → St → Prop) (x0 : Nat) (x1 : Nat) (x2 : Int32) (x3 : Int32) (x4 : Int32) (s : St) : Prop :=
  rec x3 (x4 + (1 : Int32)) s
set_option maxHeartbeats 4000000 in
set_option maxRecDepth 100000 in
theorem bX2_lanesOf_52 {l : Launch} {V : Wv} {X : Mx} {rec : Int32 → Int32 → St → Prop} {Q : Int32 → St → Prop} {x0 : Nat} {x1 : Nat} {x2 : Int32} {x3 : Int32} {x4 : Int32} (F : Fx V X cX2_lanesOf RX2 6 1) (hR : RtI l V X 6 cX2_lanesOf Q) (hx0 : isX2 V x0) (hx1 : isX1 V x1) (hrec : ∀ (y3 : Int32) (y4 : Int32) (s : St), rec y3 y4 s → G l V X 6 5 [(0, rf V x0), (1, rf V x1), (2, .int x2), (3, .int y3), (4, .int y4)] [] s) {s : St} (h : wX2_lanesOf_52 rec Q x0 x1 x2 x3 x4 s) : G l V X 6 52 [(0, rf V x0), (1, rf V x1), (2, .int x2), (3, .int x3), (4, .int x4)] [] s := by
  unfold wX2_lanesOf_52 at h
  refine g_iinc (pc := 52) (lv' := [(_, _), (_, _), (_, _), (_, _), (_, _)]) F dX2_lanesOf_52 4 rfl (congrArg _ ic_1) (by decide) rfl ?_
  refine g_goto (pc := 55) F 5 dX2_lanesOf_55 (by decide) ?_
  exact g_weak [1, 2, 3, 4, 0] rfl (hrec _ _ _ h)
def wX2_lanesOf_5 (x0 : Nat) (x1 : Nat) (x2 : Int32) (Q : Int32 → St → Prop) : Nat → Int32 → Int32 → St → Prop
  | 0, _, _, _ => False
  | n + 1, x3, x4, s =>
  vp_in x2 5 ∧ (((s.1 (x0 + 2) x2.toNatClampNeg) ≤ x4 → Q x3 s) ∧ (¬ (s.1 (x0 + 2) x2.toNatClampNeg) ≤ x4 → wX2_placeAt x0 x2 (x4 - (1 : Int32)) s (fun r_23 s_23 => wX2_placeAt x0 x2 x4 s_23 (fun r_30 s_30 => wX1_laneBetween x1 r_23 r_30 s_30 (fun r_33 s_33 => ((r_33 = (-9 : Int32) → wX2_lanesOf_52 (wX2_lanesOf_5 x0 x1 x2 Q n) Q x0 x1 x2 x3 x4 s_33) ∧ (¬ r_33 = (-9 : Int32) → wX2_lanesOf_52 (wX2_lanesOf_5 x0 x1 x2 Q n) Q x0 x1 x2 (x3 ||| ((1 : Int32) <<< (r_33 &&& 31))) x4 s_33)))))))
set_option maxHeartbeats 4000000 in
set_option maxRecDepth 100000 in
theorem bX2_lanesOf_5 {l : Launch} {V : Wv} {X : Mx} {x0 : Nat} {x1 : Nat} {x2 : Int32} {Q : Int32 → St → Prop} (F : Fx V X cX2_lanesOf RX2 6 1) (hR : RtI l V X 6 cX2_lanesOf Q) (hx0 : isX2 V x0) (hx1 : isX1 V x1)  : ∀ (n : Nat) (x3 : Int32) (x4 : Int32) (s : St), wX2_lanesOf_5 x0 x1 x2 Q n x3 x4 s → G l V X 6 5 [(0, rf V x0), (1, rf V x1), (2, .int x2), (3, .int x3), (4, .int x4)] [] s := by
  intro n
  induction n with
  | zero => intro x3 x4 s h; unfold wX2_lanesOf_5 at h; exact h.elim
  | succ n ih =>
    intro x3 x4 s h
    unfold wX2_lanesOf_5 at h
    refine g_iload (pc := 5) F dX2_lanesOf_5 4 rfl ?_
    refine g_aload_n (pc := 7) F dX2_lanesOf_7 rfl 0 rfl ?_
    refine g_getR (pc := 8) F clX2 hx0.1 1 _ rfl (by decide) uX2_15 dX2_lanesOf_8 ?_
    refine g_iload_n (pc := 11) F dX2_lanesOf_11 rfl 2 rfl ?_
    obtain ⟨hb_12, h⟩ := h
    refine g_iald (pc := 12) F hx0.2.2.1 hb_12 dX2_lanesOf_12 ?_
    refine g_icmp_ge (pc := 13) F 58 dX2_lanesOf_13 (by decide) (fun c => ?_) (fun c => ?_)
    · have h := h.1 c
      refine g_iload_n (pc := 58) F dX2_lanesOf_58 rfl 3 rfl ?_
      exact hR _ _ _ _ dX2_lanesOf_59 h
    · have h := h.2 c
      refine g_aload_n (pc := 16) F dX2_lanesOf_16 rfl 1 rfl ?_
      refine g_aload_n (pc := 17) F dX2_lanesOf_17 rfl 0 rfl ?_
      refine g_iload_n (pc := 18) F dX2_lanesOf_18 rfl 2 rfl ?_
      refine g_iload (pc := 19) F dX2_lanesOf_19 4 rfl ?_
      refine g_iconst (pc := 21) F dX2_lanesOf_21 ic_1 ?_
      refine g_isub (pc := 22) F dX2_lanesOf_22 ?_
      refine g_callVi (pc := 23) F (mX2_placeAt hx0 h) mvX2_placeAt uX2_34 (by decide) clX2 hx0.1 rfl rfl (Nat.le_of_ble_eq_true rfl) dX2_lanesOf_23 (fun r_23 s_23 h => ?_)
      refine g_aload_n (pc := 26) F dX2_lanesOf_26 rfl 0 rfl ?_
      refine g_iload_n (pc := 27) F dX2_lanesOf_27 rfl 2 rfl ?_
      refine g_iload (pc := 28) F dX2_lanesOf_28 4 rfl ?_
      refine g_callVi (pc := 30) F (mX2_placeAt hx0 h) mvX2_placeAt uX2_34 (by decide) clX2 hx0.1 rfl rfl (Nat.le_of_ble_eq_true rfl) dX2_lanesOf_30 (fun r_30 s_30 h => ?_)
      refine g_callVi (pc := 33) F (mX1_laneBetween hx1 h) mvX1_laneBetween uX2_38 (by decide) clX1 hx1.1 rfl rfl (Nat.le_of_ble_eq_true rfl) dX2_lanesOf_33 (fun r_33 s_33 h => ?_)
      refine g_istore (pc := 36) (lv' := [(_, _), (_, _), (_, _), (_, _), (_, _), (_, _)]) F dX2_lanesOf_36 (by decide) rfl ?_
      refine g_iload (pc := 38) F dX2_lanesOf_38 0 rfl ?_
      refine g_bipush (pc := 40) F dX2_lanesOf_40 bp_m9 ?_
      refine g_icmp_eq (pc := 42) F 52 dX2_lanesOf_42 (by decide) (fun c => ?_) (fun c => ?_)
      · have h := h.1 c
        exact g_weak [1, 2, 3, 4, 5] rfl (bX2_lanesOf_52 F hR hx0 hx1 ih h)
      · have h := h.2 c
        refine g_iload_n (pc := 45) F dX2_lanesOf_45 rfl 4 rfl ?_
        refine g_iconst (pc := 46) F dX2_lanesOf_46 ic_1 ?_
        refine g_iload (pc := 47) F dX2_lanesOf_47 0 rfl ?_
        refine g_ishl (pc := 49) F dX2_lanesOf_49 ?_
        refine g_ior (pc := 50) F dX2_lanesOf_50 ?_
        refine g_istore_n (pc := 51) (lv' := [(_, _), (_, _), (_, _), (_, _), (_, _), (_, _)]) F dX2_lanesOf_51 rfl (by decide) rfl ?_
        exact g_weak [2, 3, 4, 0, 5] rfl (bX2_lanesOf_52 F hR hx0 hx1 ih h)
def wX2_lanesOf (x0 : Nat) (x1 : Nat) (x2 : Int32) (s : St) (Q : Int32 → St → Prop) : Prop :=
  (∃ k_5, wX2_lanesOf_5  x0 x1 x2  Q k_5 (0 : Int32) (1 : Int32) s)
set_option maxHeartbeats 4000000 in
set_option maxRecDepth 100000 in
theorem mX2_lanesOf {l : Launch} {V : Wv} {x0 : Nat} {x1 : Nat} {x2 : Int32} {s : St} {Q : Int32 → St → Prop} (hx0 : isX2 V x0) (hx1 : isX1 V x1) (h : wX2_lanesOf x0 x1 x2 s Q) : Ci yX2_lanesOf cX2_lanesOf 6 (some .int) (1) l V [rf V x0, rf V x1, .int x2] s Q := by
  unfold wX2_lanesOf at h
  refine Ci.of mvX2_lanesOf.1 (Nat.le_of_ble_eq_true rfl) (fun X F hR => ?_)
  refine g_lv (lv' := [(_, _), (_, _), (_, _)]) rfl ?_
  refine g_iconst (pc := 0) F dX2_lanesOf_0 ic_0 ?_
  refine g_istore_n (pc := 1) (lv' := [(_, _), (_, _), (_, _), (_, _)]) F dX2_lanesOf_1 rfl (by decide) rfl ?_
  refine g_iconst (pc := 2) F dX2_lanesOf_2 ic_1 ?_
  refine g_istore (pc := 3) (lv' := [(_, _), (_, _), (_, _), (_, _), (_, _)]) F dX2_lanesOf_3 (by decide) rfl ?_
  obtain ⟨k_5, h⟩ := h
  refine g_weak [2, 3, 4, 1, 0] rfl (bX2_lanesOf_5 F hR hx0 hx1 k_5 _ _ _ h)
def wX2_copyRow (x0 : Nat) (x1 : Int32) (x2 : Int32) (s : St) (Q : St → Prop) : Prop :=
  cpOk (x1 * (5 : Int32)) (x2 * (5 : Int32)) (5 : Int32) 25 25 ∧ ∀ s_15 : St, s_15 = stC s (x0 + 3) (x0 + 3) (x1 * (5 : Int32)).toNatClampNeg (x2 * (5 : Int32)).toNatClampNeg (5 : Int32).toNatClampNeg → vp_in x1 5 ∧ vp_in x2 5 ∧ ∀ s_29 : St, s_29 = stI s_15 (x0 + 2) x2.toNatClampNeg (s_15.1 (x0 + 2) x1.toNatClampNeg) → Q s_29
set_option maxHeartbeats 4000000 in
set_option maxRecDepth 100000 in
theorem mX2_copyRow {l : Launch} {V : Wv} {x0 : Nat} {x1 : Int32} {x2 : Int32} {s : St} {Q : St → Prop} (hx0 : isX2 V x0) (h : wX2_copyRow x0 x1 x2 s Q) : Cv yX2_copyRow cX2_copyRow 3 (1) l V [rf V x0, .int x1, .int x2] s Q := by
  unfold wX2_copyRow at h
  refine Cv.of mvX2_copyRow.1 (Nat.le_of_ble_eq_true rfl) (fun X F hR => ?_)
  refine g_lv (lv' := [(_, _), (_, _), (_, _)]) rfl ?_
  refine g_aload_n (pc := 0) F dX2_copyRow_0 rfl 0 rfl ?_
  refine g_getR (pc := 1) F clX2 hx0.1 2 _ rfl (by decide) uX2_18 dX2_copyRow_1 ?_
  refine g_iload_n (pc := 4) F dX2_copyRow_4 rfl 1 rfl ?_
  refine g_iconst (pc := 5) F dX2_copyRow_5 ic_5 ?_
  refine g_imul (pc := 6) F dX2_copyRow_6 ?_
  refine g_aload_n (pc := 7) F dX2_copyRow_7 rfl 0 rfl ?_
  refine g_getR (pc := 8) F clX2 hx0.1 2 _ rfl (by decide) uX2_18 dX2_copyRow_8 ?_
  refine g_iload_n (pc := 11) F dX2_copyRow_11 rfl 2 rfl ?_
  refine g_iconst (pc := 12) F dX2_copyRow_12 ic_5 ?_
  refine g_imul (pc := 13) F dX2_copyRow_13 ?_
  refine g_iconst (pc := 14) F dX2_copyRow_14 ic_5 ?_
  obtain ⟨hb_15, h⟩ := h
  have h := h _ rfl
  refine g_copy (pc := 15) F hx0.2.2.2 hx0.2.2.2 hb_15.1 hb_15.2.1 hb_15.2.2.1 hb_15.2.2.2.1 hb_15.2.2.2.2 (by decide) (Nat.le_of_ble_eq_true rfl) uX2_28 dX2_copyRow_15 ?_
  refine g_aload_n (pc := 18) F dX2_copyRow_18 rfl 0 rfl ?_
  refine g_getR (pc := 19) F clX2 hx0.1 1 _ rfl (by decide) uX2_15 dX2_copyRow_19 ?_
  refine g_iload_n (pc := 22) F dX2_copyRow_22 rfl 2 rfl ?_
  refine g_aload_n (pc := 23) F dX2_copyRow_23 rfl 0 rfl ?_
  refine g_getR (pc := 24) F clX2 hx0.1 1 _ rfl (by decide) uX2_15 dX2_copyRow_24 ?_
  refine g_iload_n (pc := 27) F dX2_copyRow_27 rfl 1 rfl ?_
  obtain ⟨hb_28, h⟩ := h
  refine g_iald (pc := 28) F hx0.2.2.1 hb_28 dX2_copyRow_28 ?_
  obtain ⟨hb_29, h⟩ := h
  have h := h _ rfl
  refine g_iast (pc := 29) F hx0.2.2.1 hb_29 dX2_copyRow_29 ?_
  exact hR _ _ _ dX2_copyRow_30 h
def wX2_draftToMap (x0 : Nat) (s : St) (Q : St → Prop) : Prop :=
  (((s.1 x0 3) < (4 : Int32) → wX2_copyRow x0 (4 : Int32) (s.1 x0 3) s (fun s_15 => ∀ s_25 : St, s_25 = stI s_15 x0 3 ((s_15.1 x0 3) + (1 : Int32)) → vp_in (4 : Int32) 5 ∧ ∀ s_34 : St, s_34 = stI s_25 (x0 + 2) (4 : Int32).toNatClampNeg (0 : Int32) → Q s_34)) ∧ (¬ (s.1 x0 3) < (4 : Int32) → Q s))
set_option maxHeartbeats 4000000 in
set_option maxRecDepth 100000 in
theorem mX2_draftToMap {l : Launch} {V : Wv} {x0 : Nat} {s : St} {Q : St → Prop} (hx0 : isX2 V x0) (h : wX2_draftToMap x0 s Q) : Cv yX2_draftToMap cX2_draftToMap 1 (2) l V [rf V x0] s Q := by
  unfold wX2_draftToMap at h
  refine Cv.of mvX2_draftToMap.1 (Nat.le_of_ble_eq_true rfl) (fun X F hR => ?_)
  refine g_lv (lv' := [(_, _)]) rfl ?_
  refine g_aload_n (pc := 0) F dX2_draftToMap_0 rfl 0 rfl ?_
  refine g_getI (pc := 1) F clX2 hx0.1 3 rfl (by decide) uX2_21 dX2_draftToMap_1 ?_
  refine g_iconst (pc := 4) F dX2_draftToMap_4 ic_4 ?_
  refine g_icmp_lt (pc := 5) F 9 dX2_draftToMap_5 (by decide) (fun c => ?_) (fun c => ?_)
  · have h := h.1 c
    refine g_aload_n (pc := 9) F dX2_draftToMap_9 rfl 0 rfl ?_
    refine g_iconst (pc := 10) F dX2_draftToMap_10 ic_4 ?_
    refine g_aload_n (pc := 11) F dX2_draftToMap_11 rfl 0 rfl ?_
    refine g_getI (pc := 12) F clX2 hx0.1 3 rfl (by decide) uX2_21 dX2_draftToMap_12 ?_
    refine g_callVv (pc := 15) F (mX2_copyRow hx0 h) mvX2_copyRow uX2_43 (by decide) clX2 hx0.1 rfl rfl (Nat.le_of_ble_eq_true rfl) dX2_draftToMap_15 (fun s_15 h => ?_)
    refine g_aload_n (pc := 18) F dX2_draftToMap_18 rfl 0 rfl ?_
    refine g_dup (pc := 19) F dX2_draftToMap_19 rfl ?_
    refine g_getI (pc := 20) F clX2 hx0.1 3 rfl (by decide) uX2_21 dX2_draftToMap_20 ?_
    refine g_iconst (pc := 23) F dX2_draftToMap_23 ic_1 ?_
    refine g_iadd (pc := 24) F dX2_draftToMap_24 ?_
    have h := h _ rfl
    refine g_putI (pc := 25) F clX2 hx0.1 3 rfl (by decide) rfl (tyX2_ok 3 (by decide)) uX2_21 dX2_draftToMap_25 ?_
    refine g_aload_n (pc := 28) F dX2_draftToMap_28 rfl 0 rfl ?_
    refine g_getR (pc := 29) F clX2 hx0.1 1 _ rfl (by decide) uX2_15 dX2_draftToMap_29 ?_
    refine g_iconst (pc := 32) F dX2_draftToMap_32 ic_4 ?_
    refine g_iconst (pc := 33) F dX2_draftToMap_33 ic_0 ?_
    obtain ⟨hb_34, h⟩ := h
    have h := h _ rfl
    refine g_iast (pc := 34) F hx0.2.2.1 hb_34 dX2_draftToMap_34 ?_
    exact hR _ _ _ dX2_draftToMap_35 h
  · have h := h.2 c
    exact hR _ _ _ dX2_draftToMap_8 h
def wX2_dropMap_25 (x0 : Nat) (Q : St → Prop) : Nat → Int32 → St → Prop
  | 0, _, _ => False
  | n + 1, x2, s =>
  (((s.1 x0 3) ≤ x2 → Q s) ∧ (¬ (s.1 x0 3) ≤ x2 → wX2_copyRow x0 (x2 + (1 : Int32)) x2 s (fun s_38 => wX2_dropMap_25 x0 Q n (x2 + (1 : Int32)) s_38)))
set_option maxHeartbeats 4000000 in
set_option maxRecDepth 100000 in
theorem bX2_dropMap_25 {l : Launch} {V : Wv} {X : Mx} {x0 : Nat} {Q : St → Prop} (F : Fx V X cX2_dropMap RX2 3 2) (hR : RtV l V X 3 cX2_dropMap Q) (hx0 : isX2 V x0)  : ∀ (n : Nat) (x2 : Int32) (s : St), wX2_dropMap_25 x0 Q n x2 s → G l V X 3 25 [(0, rf V x0), (2, .int x2)] [] s := by
  intro n
  induction n with
  | zero => intro x2 s h; unfold wX2_dropMap_25 at h; exact h.elim
  | succ n ih =>
    intro x2 s h
    unfold wX2_dropMap_25 at h
    refine g_iload_n (pc := 25) F dX2_dropMap_25 rfl 1 rfl ?_
    refine g_aload_n (pc := 26) F dX2_dropMap_26 rfl 0 rfl ?_
    refine g_getI (pc := 27) F clX2 hx0.1 3 rfl (by decide) uX2_21 dX2_dropMap_27 ?_
    refine g_icmp_ge (pc := 30) F 47 dX2_dropMap_30 (by decide) (fun c => ?_) (fun c => ?_)
    · have h := h.1 c
      exact hR _ _ _ dX2_dropMap_47 h
    · have h := h.2 c
      refine g_aload_n (pc := 33) F dX2_dropMap_33 rfl 0 rfl ?_
      refine g_iload_n (pc := 34) F dX2_dropMap_34 rfl 1 rfl ?_
      refine g_iconst (pc := 35) F dX2_dropMap_35 ic_1 ?_
      refine g_iadd (pc := 36) F dX2_dropMap_36 ?_
      refine g_iload_n (pc := 37) F dX2_dropMap_37 rfl 1 rfl ?_
      refine g_callVv (pc := 38) F (mX2_copyRow hx0 h) mvX2_copyRow uX2_43 (by decide) clX2 hx0.1 rfl rfl (Nat.le_of_ble_eq_true rfl) dX2_dropMap_38 (fun s_38 h => ?_)
      refine g_iinc (pc := 41) (lv' := [(_, _), (_, _)]) F dX2_dropMap_41 1 rfl (congrArg _ ic_1) (by decide) rfl ?_
      refine g_goto (pc := 44) F 25 dX2_dropMap_44 (by decide) ?_
      exact g_weak [1, 0] rfl (ih _ _ h)
def wX2_dropMap (x0 : Nat) (x1 : Int32) (s : St) (Q : St → Prop) : Prop :=
  ((x1 < 0 → Q s) ∧ (¬ x1 < 0 → ((x1 < (s.1 x0 3) → ∀ s_20 : St, s_20 = stI s x0 3 ((s.1 x0 3) - (1 : Int32)) → (∃ k_25, wX2_dropMap_25  x0  Q k_25 x1 s_20)) ∧ (¬ x1 < (s.1 x0 3) → Q s))))
set_option maxHeartbeats 4000000 in
set_option maxRecDepth 100000 in
theorem mX2_dropMap {l : Launch} {V : Wv} {x0 : Nat} {x1 : Int32} {s : St} {Q : St → Prop} (hx0 : isX2 V x0) (h : wX2_dropMap x0 x1 s Q) : Cv yX2_dropMap cX2_dropMap 3 (2) l V [rf V x0, .int x1] s Q := by
  unfold wX2_dropMap at h
  refine Cv.of mvX2_dropMap.1 (Nat.le_of_ble_eq_true rfl) (fun X F hR => ?_)
  refine g_lv (lv' := [(_, _), (_, _)]) rfl ?_
  refine g_iload_n (pc := 0) F dX2_dropMap_0 rfl 1 rfl ?_
  refine g_if_lt (pc := 1) F 12 dX2_dropMap_1 (by decide) (fun c => ?_) (fun c => ?_)
  · have h := h.1 c
    exact hR _ _ _ dX2_dropMap_12 h
  · have h := h.2 c
    refine g_iload_n (pc := 4) F dX2_dropMap_4 rfl 1 rfl ?_
    refine g_aload_n (pc := 5) F dX2_dropMap_5 rfl 0 rfl ?_
    refine g_getI (pc := 6) F clX2 hx0.1 3 rfl (by decide) uX2_21 dX2_dropMap_6 ?_
    refine g_icmp_lt (pc := 9) F 13 dX2_dropMap_9 (by decide) (fun c => ?_) (fun c => ?_)
    · have h := h.1 c
      refine g_aload_n (pc := 13) F dX2_dropMap_13 rfl 0 rfl ?_
      refine g_dup (pc := 14) F dX2_dropMap_14 rfl ?_
      refine g_getI (pc := 15) F clX2 hx0.1 3 rfl (by decide) uX2_21 dX2_dropMap_15 ?_
      refine g_iconst (pc := 18) F dX2_dropMap_18 ic_1 ?_
      refine g_isub (pc := 19) F dX2_dropMap_19 ?_
      have h := h _ rfl
      refine g_putI (pc := 20) F clX2 hx0.1 3 rfl (by decide) rfl (tyX2_ok 3 (by decide)) uX2_21 dX2_dropMap_20 ?_
      refine g_iload_n (pc := 23) F dX2_dropMap_23 rfl 1 rfl ?_
      refine g_istore_n (pc := 24) (lv' := [(_, _), (_, _), (_, _)]) F dX2_dropMap_24 rfl (by decide) rfl ?_
      obtain ⟨k_25, h⟩ := h
      refine g_weak [1, 0] rfl (bX2_dropMap_25 F hR hx0 k_25 _ _ h)
    · have h := h.2 c
      exact hR _ _ _ dX2_dropMap_12 h
