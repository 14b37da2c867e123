/-! printed by program: what each method does to the state (w..), and that its code does so (b.., m..) -/
def wX10_in (x0 : Int32) (x1 : Int32) (x2 : Int32) (s : St) (Q : Int32 → St → Prop) : Prop :=
  ((x0 < x1 → Q (0 : Int32) s) ∧ (¬ x0 < x1 → ((x2 < x0 → Q (0 : Int32) s) ∧ (¬ x2 < x0 → Q (1 : Int32) s))))
set_option maxHeartbeats 4000000 in
set_option maxRecDepth 100000 in
theorem mX10_in {l : Launch} {V : Wv} {x0 : Int32} {x1 : Int32} {x2 : Int32} {s : St} {Q : Int32 → St → Prop}  (h : wX10_in x0 x1 x2 s Q) : Ci yX10_in cX10_in 3 (some .boolean) (0) l V [.int x0, .int x1, .int x2] s Q := by
  unfold wX10_in at h
  refine Cz.of mvX10_in.1 (Nat.le_of_ble_eq_true rfl) (fun X F hR => ?_)
  refine g_lv (lv' := [(_, _), (_, _), (_, _)]) rfl ?_
  refine g_iload_n (pc := 0) F dX10_in_0 rfl 0 rfl ?_
  refine g_iload_n (pc := 1) F dX10_in_1 rfl 1 rfl ?_
  refine g_icmp_lt (pc := 2) F 14 dX10_in_2 (by decide) (fun c => ?_) (fun c => ?_)
  · have h := h.1 c
    refine g_iconst (pc := 14) F dX10_in_14 ic_0 ?_
    exact hR _ _ _ _ dX10_in_15 (Or.inl rfl) h
  · have h := h.2 c
    refine g_iload_n (pc := 5) F dX10_in_5 rfl 0 rfl ?_
    refine g_iload_n (pc := 6) F dX10_in_6 rfl 2 rfl ?_
    refine g_icmp_gt (pc := 7) F 14 dX10_in_7 (by decide) (fun c => ?_) (fun c => ?_)
    · have h := h.1 c
      refine g_iconst (pc := 14) F dX10_in_14 ic_0 ?_
      exact hR _ _ _ _ dX10_in_15 (Or.inl rfl) h
    · have h := h.2 c
      refine g_iconst (pc := 10) F dX10_in_10 ic_1 ?_
      refine g_goto (pc := 11) F 15 dX10_in_11 (by decide) ?_
      exact hR _ _ _ _ dX10_in_15 (Or.inr rfl) h
def wX10_ones_4 (x0 : Int32) (Q : Int32 → St → Prop) : Nat → Int32 → Int32 → St → Prop
  | 0, _, _, _ => False
  | n + 1, x1, x2, s =>
  (((6 : Int32) ≤ x2 → Q x1 s) ∧ (¬ (6 : Int32) ≤ x2 → wX10_ones_4 x0 Q n (x1 + ((x0 >>> (x2 &&& 31)) &&& (1 : Int32))) (x2 + (1 : Int32)) s))
set_option maxHeartbeats 4000000 in
set_option maxRecDepth 100000 in
theorem bX10_ones_4 {l : Launch} {V : Wv} {X : Mx} {x0 : Int32} {Q : Int32 → St → Prop} (F : Fx V X cX10_ones RX10 3 0) (hR : RtI l V X 3 cX10_ones Q)   : ∀ (n : Nat) (x1 : Int32) (x2 : Int32) (s : St), wX10_ones_4 x0 Q n x1 x2 s → G l V X 3 4 [(0, .int x0), (1, .int x1), (2, .int x2)] [] s := by
  intro n
  induction n with
  | zero => intro x1 x2 s h; unfold wX10_ones_4 at h; exact h.elim
  | succ n ih =>
    intro x1 x2 s h
    unfold wX10_ones_4 at h
    refine g_iload_n (pc := 4) F dX10_ones_4 rfl 2 rfl ?_
    refine g_bipush (pc := 5) F dX10_ones_5 bp_6 ?_
    refine g_icmp_ge (pc := 7) F 24 dX10_ones_7 (by decide) (fun c => ?_) (fun c => ?_)
    · have h := h.1 c
      refine g_iload_n (pc := 24) F dX10_ones_24 rfl 1 rfl ?_
      exact hR _ _ _ _ dX10_ones_25 h
    · have h := h.2 c
      refine g_iload_n (pc := 10) F dX10_ones_10 rfl 1 rfl ?_
      refine g_iload_n (pc := 11) F dX10_ones_11 rfl 0 rfl ?_
      refine g_iload_n (pc := 12) F dX10_ones_12 rfl 2 rfl ?_
      refine g_ishr (pc := 13) F dX10_ones_13 ?_
      refine g_iconst (pc := 14) F dX10_ones_14 ic_1 ?_
      refine g_iand (pc := 15) F dX10_ones_15 ?_
      refine g_iadd (pc := 16) F dX10_ones_16 ?_
      refine g_istore_n (pc := 17) (lv' := [(_, _), (_, _), (_, _)]) F dX10_ones_17 rfl (by decide) rfl ?_
      refine g_iinc (pc := 18) (lv' := [(_, _), (_, _), (_, _)]) F dX10_ones_18 2 rfl (congrArg _ ic_1) (by decide) rfl ?_
      refine g_goto (pc := 21) F 4 dX10_ones_21 (by decide) ?_
      exact g_weak [2, 1, 0] rfl (ih _ _ _ h)
def wX10_ones (x0 : Int32) (s : St) (Q : Int32 → St → Prop) : Prop :=
  (∃ k_4, wX10_ones_4  x0  Q k_4 (0 : Int32) (0 : Int32) s)
set_option maxHeartbeats 4000000 in
set_option maxRecDepth 100000 in
theorem mX10_ones {l : Launch} {V : Wv} {x0 : Int32} {s : St} {Q : Int32 → St → Prop}  (h : wX10_ones x0 s Q) : Ci yX10_ones cX10_ones 3 (some .int) (0) l V [.int x0] s Q := by
  unfold wX10_ones at h
  refine Ci.of mvX10_ones.1 (Nat.le_of_ble_eq_true rfl) (fun X F hR => ?_)
  refine g_lv (lv' := [(_, _)]) rfl ?_
  refine g_iconst (pc := 0) F dX10_ones_0 ic_0 ?_
  refine g_istore_n (pc := 1) (lv' := [(_, _), (_, _)]) F dX10_ones_1 rfl (by decide) rfl ?_
  refine g_iconst (pc := 2) F dX10_ones_2 ic_0 ?_
  refine g_istore_n (pc := 3) (lv' := [(_, _), (_, _), (_, _)]) F dX10_ones_3 rfl (by decide) rfl ?_
  obtain ⟨k_4, h⟩ := h
  refine g_weak [2, 1, 0] rfl (bX10_ones_4 F hR  k_4 _ _ _ h)
def wX10_type (x0 : Nat) (x1 : Int32) (s : St) (Q : Int32 → St → Prop) : Prop :=
  ∀ s_2 : St, s_2 = stI s x0 0 (0 : Int32) → wX10_in x1 (0 : Int32) (255 : Int32) s_2 (fun r_10 s_10 => ((¬ r_10 = 0 → ((¬ (s_10.1 x0 3) = (120 : Int32) → vp_in (s_10.1 x0 3) 120 ∧ ∀ s_39 : St, s_39 = stI s_10 (x0 + 1) (s_10.1 x0 3).toNatClampNeg x1 → ∀ s_47 : St, s_47 = stI s_39 x0 3 ((s_39.1 x0 3) + (1 : Int32)) → Q (s_47.1 x0 3) s_47) ∧ ((s_10.1 x0 3) = (120 : Int32) → Q (-3 : Int32) s_10))) ∧ (r_10 = 0 → Q (-1 : Int32) s_10)))
set_option maxHeartbeats 4000000 in
set_option maxRecDepth 100000 in
theorem mX10_type {l : Launch} {V : Wv} {x0 : Nat} {x1 : Int32} {s : St} {Q : Int32 → St → Prop} (hx0 : isX10 V x0) (h : wX10_type x0 x1 s Q) : Ci yX10_type cX10_type 2 (some .int) (1) l V [rf V x0, .int x1] s Q := by
  unfold wX10_type at h
  refine Ci.of mvX10_type.1 (Nat.le_of_ble_eq_true rfl) (fun X F hR => ?_)
  refine g_lv (lv' := [(_, _), (_, _)]) rfl ?_
  refine g_aload_n (pc := 0) F dX10_type_0 rfl 0 rfl ?_
  refine g_iconst (pc := 1) F dX10_type_1 ic_0 ?_
  have h := h _ rfl
  refine g_putI (pc := 2) F clX10 hx0.1 0 rfl (by decide) rfl (tyX10_ok 0 (by decide)) uX10_89 dX10_type_2 ?_
  refine g_iload_n (pc := 5) F dX10_type_5 rfl 1 rfl ?_
  refine g_iconst (pc := 6) F dX10_type_6 ic_0 ?_
  refine g_sipush (pc := 7) F dX10_type_7 sp_255 ?_
  refine g_callSi (pc := 10) F (mX10_in  h) mvX10_in uX10_93 (by decide)  rfl rfl (Nat.le_of_ble_eq_true rfl) dX10_type_10 (fun r_10 s_10 h => ?_)
  refine g_if_ne (pc := 13) F 18 dX10_type_13 (by decide) (fun c => ?_) (fun c => ?_)
  · have h := h.1 c
    refine g_aload_n (pc := 18) F dX10_type_18 rfl 0 rfl ?_
    refine g_getI (pc := 19) F clX10 hx0.1 3 rfl (by decide) uX10_97 dX10_type_19 ?_
    refine g_bipush (pc := 22) F dX10_type_22 bp_120 ?_
    refine g_icmp_ne (pc := 24) F 30 dX10_type_24 (by decide) (fun c => ?_) (fun c => ?_)
    · have h := h.1 c
      refine g_aload_n (pc := 30) F dX10_type_30 rfl 0 rfl ?_
      refine g_getR (pc := 31) F clX10 hx0.1 2 _ rfl (by decide) uX10_7 dX10_type_31 ?_
      refine g_aload_n (pc := 34) F dX10_type_34 rfl 0 rfl ?_
      refine g_getI (pc := 35) F clX10 hx0.1 3 rfl (by decide) uX10_97 dX10_type_35 ?_
      refine g_iload_n (pc := 38) F dX10_type_38 rfl 1 rfl ?_
      obtain ⟨hb_39, h⟩ := h
      have h := h _ rfl
      refine g_iast (pc := 39) F hx0.2.1 hb_39 dX10_type_39 ?_
      refine g_aload_n (pc := 40) F dX10_type_40 rfl 0 rfl ?_
      refine g_dup (pc := 41) F dX10_type_41 rfl ?_
      refine g_getI (pc := 42) F clX10 hx0.1 3 rfl (by decide) uX10_97 dX10_type_42 ?_
      refine g_iconst (pc := 45) F dX10_type_45 ic_1 ?_
      refine g_iadd (pc := 46) F dX10_type_46 ?_
      have h := h _ rfl
      refine g_putI (pc := 47) F clX10 hx0.1 3 rfl (by decide) rfl (tyX10_ok 3 (by decide)) uX10_97 dX10_type_47 ?_
      refine g_aload_n (pc := 50) F dX10_type_50 rfl 0 rfl ?_
      refine g_getI (pc := 51) F clX10 hx0.1 3 rfl (by decide) uX10_97 dX10_type_51 ?_
      exact hR _ _ _ _ dX10_type_54 h
    · have h := h.2 c
      refine g_bipush (pc := 27) F dX10_type_27 bp_m3 ?_
      exact hR _ _ _ _ dX10_type_29 h
  · have h := h.2 c
    refine g_iconst (pc := 16) F dX10_type_16 ic_m1 ?_
    exact hR _ _ _ _ dX10_type_17 h
def wX10_clear (x0 : Nat) (s : St) (Q : Int32 → St → Prop) : Prop :=
  ∀ s_2 : St, s_2 = stI s x0 0 (0 : Int32) → ∀ s_12 : St, s_12 = stI s_2 x0 3 (0 : Int32) → Q (s_2.1 x0 3) s_12
set_option maxHeartbeats 4000000 in
set_option maxRecDepth 100000 in
theorem mX10_clear {l : Launch} {V : Wv} {x0 : Nat} {s : St} {Q : Int32 → St → Prop} (hx0 : isX10 V x0) (h : wX10_clear x0 s Q) : Ci yX10_clear cX10_clear 2 (some .int) (0) l V [rf V x0] s Q := by
  unfold wX10_clear at h
  refine Ci.of mvX10_clear.1 (Nat.le_of_ble_eq_true rfl) (fun X F hR => ?_)
  refine g_lv (lv' := [(_, _)]) rfl ?_
  refine g_aload_n (pc := 0) F dX10_clear_0 rfl 0 rfl ?_
  refine g_iconst (pc := 1) F dX10_clear_1 ic_0 ?_
  have h := h _ rfl
  refine g_putI (pc := 2) F clX10 hx0.1 0 rfl (by decide) rfl (tyX10_ok 0 (by decide)) uX10_89 dX10_clear_2 ?_
  refine g_aload_n (pc := 5) F dX10_clear_5 rfl 0 rfl ?_
  refine g_getI (pc := 6) F clX10 hx0.1 3 rfl (by decide) uX10_97 dX10_clear_6 ?_
  refine g_istore_n (pc := 9) (lv' := [(_, _), (_, _)]) F dX10_clear_9 rfl (by decide) rfl ?_
  refine g_aload_n (pc := 10) F dX10_clear_10 rfl 1 rfl ?_
  refine g_iconst (pc := 11) F dX10_clear_11 ic_0 ?_
  have h := h _ rfl
  refine g_putI (pc := 12) F clX10 hx0.1 3 rfl (by decide) rfl (tyX10_ok 3 (by decide)) uX10_97 dX10_clear_12 ?_
  refine g_iload_n (pc := 15) F dX10_clear_15 rfl 0 rfl ?_
  exact hR _ _ _ _ dX10_clear_16 h
def wX10_letterAt (x0 : Nat) (x1 : Int32) (s : St) (Q : Int32 → St → Prop) : Prop :=
  (((s.1 x0 3) ≤ x1 → Q (-1 : Int32) s) ∧ (¬ (s.1 x0 3) ≤ x1 → vp_in x1 120 ∧ Q (s.1 (x0 + 1) x1.toNatClampNeg) s))
set_option maxHeartbeats 4000000 in
set_option maxRecDepth 100000 in
theorem mX10_letterAt {l : Launch} {V : Wv} {x0 : Nat} {x1 : Int32} {s : St} {Q : Int32 → St → Prop} (hx0 : isX10 V x0) (h : wX10_letterAt x0 x1 s Q) : Ci yX10_letterAt cX10_letterAt 2 (some .int) (0) l V [rf V x0, .int x1] s Q := by
  unfold wX10_letterAt at h
  refine Ci.of mvX10_letterAt.1 (Nat.le_of_ble_eq_true rfl) (fun X F hR => ?_)
  refine g_lv (lv' := [(_, _), (_, _)]) rfl ?_
  refine g_iload_n (pc := 0) F dX10_letterAt_0 rfl 1 rfl ?_
  refine g_aload_n (pc := 1) F dX10_letterAt_1 rfl 0 rfl ?_
  refine g_getI (pc := 2) F clX10 hx0.1 3 rfl (by decide) uX10_97 dX10_letterAt_2 ?_
  refine g_icmp_ge (pc := 5) F 17 dX10_letterAt_5 (by decide) (fun c => ?_) (fun c => ?_)
  · have h := h.1 c
    refine g_iconst (pc := 17) F dX10_letterAt_17 ic_m1 ?_
    exact hR _ _ _ _ dX10_letterAt_18 h
  · have h := h.2 c
    refine g_aload_n (pc := 8) F dX10_letterAt_8 rfl 0 rfl ?_
    refine g_getR (pc := 9) F clX10 hx0.1 2 _ rfl (by decide) uX10_7 dX10_letterAt_9 ?_
    refine g_iload_n (pc := 12) F dX10_letterAt_12 rfl 1 rfl ?_
    obtain ⟨hb_13, h⟩ := h
    refine g_iald (pc := 13) F hx0.2.1 hb_13 dX10_letterAt_13 ?_
    refine g_goto (pc := 14) F 18 dX10_letterAt_14 (by decide) ?_
    exact hR _ _ _ _ dX10_letterAt_18 h
def wX10_advances_0 (x0 : Nat) (K26 : St → Prop) (Q : St → Prop) : Nat → St → Prop
  | 0, _ => False
  | n + 1, s =>
  wX10_letterAt x0 (s.1 x0 4) s (fun r_5 s_5 => ((¬ r_5 = (32 : Int32) → K26  s_5) ∧ (r_5 = (32 : Int32) → ∀ s_20 : St, s_20 = stI s_5 x0 4 ((s_5.1 x0 4) + (1 : Int32)) → wX10_advances_0 x0 K26 Q n  s_20)))
set_option maxHeartbeats 4000000 in
set_option maxRecDepth 100000 in
theorem bX10_advances_0 {l : Launch} {V : Wv} {X : Mx} {x0 : Nat} {K26 : St → Prop} {Q : St → Prop} (F : Fx V X cX10_advances RX10 2 1) (hR : RtV l V X 2 cX10_advances Q) (hx0 : isX10 V x0) (hK26 : ∀  (s : St), K26  s → G l V X 2 26 [(0, rf V x0)] [] s) : ∀ (n : Nat)  (s : St), wX10_advances_0 x0 K26 Q n  s → G l V X 2 0 [(0, rf V x0)] [] s := by
  intro n
  induction n with
  | zero => intro  s h; unfold wX10_advances_0 at h; exact h.elim
  | succ n ih =>
    intro  s h
    unfold wX10_advances_0 at h
    refine g_aload_n (pc := 0) F dX10_advances_0 rfl 0 rfl ?_
    refine g_aload_n (pc := 1) F dX10_advances_1 rfl 0 rfl ?_
    refine g_getI (pc := 2) F clX10 hx0.1 4 rfl (by decide) uX10_100 dX10_advances_2 ?_
    refine g_callVi (pc := 5) F (mX10_letterAt hx0 h) mvX10_letterAt uX10_103 (by decide) clX10 hx0.1 rfl rfl (Nat.le_of_ble_eq_true rfl) dX10_advances_5 (fun r_5 s_5 h => ?_)
    refine g_bipush (pc := 8) F dX10_advances_8 bp_32 ?_
    refine g_icmp_ne (pc := 10) F 26 dX10_advances_10 (by decide) (fun c => ?_) (fun c => ?_)
    · have h := h.1 c
      exact g_weak [0] rfl (hK26 _ h)
    · have h := h.2 c
      refine g_aload_n (pc := 13) F dX10_advances_13 rfl 0 rfl ?_
      refine g_dup (pc := 14) F dX10_advances_14 rfl ?_
      refine g_getI (pc := 15) F clX10 hx0.1 4 rfl (by decide) uX10_100 dX10_advances_15 ?_
      refine g_iconst (pc := 18) F dX10_advances_18 ic_1 ?_
      refine g_iadd (pc := 19) F dX10_advances_19 ?_
      have h := h _ rfl
      refine g_putI (pc := 20) F clX10 hx0.1 4 rfl (by decide) rfl (tyX10_ok 4 (by decide)) uX10_100 dX10_advances_20 ?_
      refine g_goto (pc := 23) F 0 dX10_advances_23 (by decide) ?_
      exact g_weak [0] rfl (ih _ h)
def wX10_advances_230 (Q : St → Prop) (t0 : Int32) (t1 : Nat) (s : St) : Prop :=
  ∀ s_230 : St, s_230 = stI s t1 5 t0 → Q s_230
set_option maxHeartbeats 4000000 in
set_option maxRecDepth 100000 in
theorem bX10_advances_230 {l : Launch} {V : Wv} {X : Mx} {Q : St → Prop} {t0 : Int32} {t1 : Nat} (F : Fx V X cX10_advances RX10 2 1) (hR : RtV l V X 2 cX10_advances Q) (ht1 : isX10 V t1)  {s : St} (h : wX10_advances_230 Q t0 t1 s) : G l V X 2 230 [] [.int t0, rf V t1] s := by
  unfold wX10_advances_230 at h
  have h := h _ rfl
  refine g_putI (pc := 230) F clX10 ht1.1 5 rfl (by decide) rfl (tyX10_ok 5 (by decide)) uX10_110 dX10_advances_230 ?_
  exact hR _ _ _ dX10_advances_233 h
def wX10_advances_225 (Q : St → Prop) (t0 : Nat) (s : St) : Prop :=
  wX10_advances_230 Q (1 : Int32) t0 s
set_option maxHeartbeats 4000000 in
set_option maxRecDepth 100000 in
theorem bX10_advances_225 {l : Launch} {V : Wv} {X : Mx} {Q : St → Prop} {t0 : Nat} (F : Fx V X cX10_advances RX10 2 1) (hR : RtV l V X 2 cX10_advances Q) (ht0 : isX10 V t0)  {s : St} (h : wX10_advances_225 Q t0 s) : G l V X 2 225 [] [rf V t0] s := by
  unfold wX10_advances_225 at h
  refine g_iconst (pc := 225) F dX10_advances_225 ic_1 ?_
  refine g_goto (pc := 226) F 230 dX10_advances_226 (by decide) ?_
  exact g_weak [] rfl (bX10_advances_230 F hR ht0 h)
def wX10_advances_125 (rec : St → Prop) (K141 : St → Prop) (Q : St → Prop) (x0 : Nat) (x1 : Int32) (t0 : Int32) (t1 : Nat) (s : St) : Prop :=
  ∀ s_125 : St, s_125 = stI s t1 7 t0 → ∀ s_135 : St, s_135 = stI s_125 x0 4 ((s_125.1 x0 4) + (1 : Int32)) → rec  s_135
set_option maxHeartbeats 4000000 in
set_option maxRecDepth 100000 in
theorem bX10_advances_125 {l : Launch} {V : Wv} {X : Mx} {rec : St → Prop} {K141 : St → Prop} {Q : St → Prop} {x0 : Nat} {x1 : Int32} {t0 : Int32} {t1 : Nat} (F : Fx V X cX10_advances RX10 2 1) (hR : RtV l V X 2 cX10_advances Q) (hx0 : isX10 V x0) (ht1 : isX10 V t1) (hrec : ∀  (s : St), rec  s → G l V X 2 71 [(0, rf V x0), (1, .int x1)] [] s) (hK141 : ∀  (s : St), K141  s → G l V X 2 141 [(0, rf V x0), (1, .int x1)] [] s) {s : St} (h : wX10_advances_125 rec K141 Q x0 x1 t0 t1 s) : G l V X 2 125 [(0, rf V x0), (1, .int x1)] [.int t0, rf V t1] s := by
  unfold wX10_advances_125 at h
  have h := h _ rfl
  refine g_putI (pc := 125) F clX10 ht1.1 7 rfl (by decide) rfl (tyX10_ok 7 (by decide)) uX10_113 dX10_advances_125 ?_
  refine g_aload_n (pc := 128) F dX10_advances_128 rfl 0 rfl ?_
  refine g_dup (pc := 129) F dX10_advances_129 rfl ?_
  refine g_getI (pc := 130) F clX10 hx0.1 4 rfl (by decide) uX10_100 dX10_advances_130 ?_
  refine g_iconst (pc := 133) F dX10_advances_133 ic_1 ?_
  refine g_iadd (pc := 134) F dX10_advances_134 ?_
  have h := h _ rfl
  refine g_putI (pc := 135) F clX10 hx0.1 4 rfl (by decide) rfl (tyX10_ok 4 (by decide)) uX10_100 dX10_advances_135 ?_
  refine g_goto (pc := 138) F 71 dX10_advances_138 (by decide) ?_
  exact g_weak [0, 1] rfl (hrec _ h)
def wX10_advances_71 (x0 : Nat) (x1 : Int32) (K141 : St → Prop) (Q : St → Prop) : Nat → St → Prop
  | 0, _ => False
  | n + 1, s =>
  wX10_letterAt x0 (s.1 x0 4) s (fun r_76 s_76 => wX10_in r_76 (48 : Int32) (57 : Int32) s_76 (fun r_83 s_83 => ((r_83 = 0 → K141  s_83) ∧ (¬ r_83 = 0 → (((s_83.1 x0 7) ≤ (99 : Int32) → wX10_letterAt x0 (s_83.1 x0 4) s_83 (fun r_118 s_118 => wX10_advances_125 (wX10_advances_71 x0 x1 K141 Q n) (K141) Q x0 x1 ((((10 : Int32) * (s_83.1 x0 7)) + r_118) - (48 : Int32)) x0 s_118)) ∧ (¬ (s_83.1 x0 7) ≤ (99 : Int32) → wX10_advances_125 (wX10_advances_71 x0 x1 K141 Q n) (K141) Q x0 x1 (s_83.1 x0 7) x0 s_83))))))
set_option maxHeartbeats 4000000 in
set_option maxRecDepth 100000 in
theorem bX10_advances_71 {l : Launch} {V : Wv} {X : Mx} {x0 : Nat} {x1 : Int32} {K141 : St → Prop} {Q : St → Prop} (F : Fx V X cX10_advances RX10 2 1) (hR : RtV l V X 2 cX10_advances Q) (hx0 : isX10 V x0) (hK141 : ∀  (s : St), K141  s → G l V X 2 141 [(0, rf V x0), (1, .int x1)] [] s) : ∀ (n : Nat)  (s : St), wX10_advances_71 x0 x1 K141 Q n  s → G l V X 2 71 [(0, rf V x0), (1, .int x1)] [] s := by
  intro n
  induction n with
  | zero => intro  s h; unfold wX10_advances_71 at h; exact h.elim
  | succ n ih =>
    intro  s h
    unfold wX10_advances_71 at h
    refine g_aload_n (pc := 71) F dX10_advances_71 rfl 0 rfl ?_
    refine g_aload_n (pc := 72) F dX10_advances_72 rfl 0 rfl ?_
    refine g_getI (pc := 73) F clX10 hx0.1 4 rfl (by decide) uX10_100 dX10_advances_73 ?_
    refine g_callVi (pc := 76) F (mX10_letterAt hx0 h) mvX10_letterAt uX10_103 (by decide) clX10 hx0.1 rfl rfl (Nat.le_of_ble_eq_true rfl) dX10_advances_76 (fun r_76 s_76 h => ?_)
    refine g_bipush (pc := 79) F dX10_advances_79 bp_48 ?_
    refine g_bipush (pc := 81) F dX10_advances_81 bp_57 ?_
    refine g_callSi (pc := 83) F (mX10_in  h) mvX10_in uX10_93 (by decide)  rfl rfl (Nat.le_of_ble_eq_true rfl) dX10_advances_83 (fun r_83 s_83 h => ?_)
    refine g_if_eq (pc := 86) F 141 dX10_advances_86 (by decide) (fun c => ?_) (fun c => ?_)
    · have h := h.1 c
      exact g_weak [0, 1] rfl (hK141 _ h)
    · have h := h.2 c
      refine g_aload_n (pc := 89) F dX10_advances_89 rfl 0 rfl ?_
      refine g_aload_n (pc := 90) F dX10_advances_90 rfl 0 rfl ?_
      refine g_getI (pc := 91) F clX10 hx0.1 7 rfl (by decide) uX10_113 dX10_advances_91 ?_
      refine g_bipush (pc := 94) F dX10_advances_94 bp_99 ?_
      refine g_icmp_le (pc := 96) F 106 dX10_advances_96 (by decide) (fun c => ?_) (fun c => ?_)
      · have h := h.1 c
        refine g_bipush (pc := 106) F dX10_advances_106 bp_10 ?_
        refine g_aload_n (pc := 108) F dX10_advances_108 rfl 0 rfl ?_
        refine g_getI (pc := 109) F clX10 hx0.1 7 rfl (by decide) uX10_113 dX10_advances_109 ?_
        refine g_imul (pc := 112) F dX10_advances_112 ?_
        refine g_aload_n (pc := 113) F dX10_advances_113 rfl 0 rfl ?_
        refine g_aload_n (pc := 114) F dX10_advances_114 rfl 0 rfl ?_
        refine g_getI (pc := 115) F clX10 hx0.1 4 rfl (by decide) uX10_100 dX10_advances_115 ?_
        refine g_callVi (pc := 118) F (mX10_letterAt hx0 h) mvX10_letterAt uX10_103 (by decide) clX10 hx0.1 rfl rfl (Nat.le_of_ble_eq_true rfl) dX10_advances_118 (fun r_118 s_118 h => ?_)
        refine g_iadd (pc := 121) F dX10_advances_121 ?_
        refine g_bipush (pc := 122) F dX10_advances_122 bp_48 ?_
        refine g_isub (pc := 124) F dX10_advances_124 ?_
        exact g_weak [0, 1] rfl (bX10_advances_125 F hR hx0 hx0 ih hK141 h)
      · have h := h.2 c
        refine g_aload_n (pc := 99) F dX10_advances_99 rfl 0 rfl ?_
        refine g_getI (pc := 100) F clX10 hx0.1 7 rfl (by decide) uX10_113 dX10_advances_100 ?_
        refine g_goto (pc := 103) F 125 dX10_advances_103 (by decide) ?_
        exact g_weak [0, 1] rfl (bX10_advances_125 F hR hx0 hx0 ih hK141 h)
def wX10_advances_175 (Q : St → Prop) (t0 : Int32) (t1 : Nat) (s : St) : Prop :=
  ∀ s_175 : St, s_175 = stI s t1 5 t0 → Q s_175
set_option maxHeartbeats 4000000 in
set_option maxRecDepth 100000 in
theorem bX10_advances_175 {l : Launch} {V : Wv} {X : Mx} {Q : St → Prop} {t0 : Int32} {t1 : Nat} (F : Fx V X cX10_advances RX10 2 1) (hR : RtV l V X 2 cX10_advances Q) (ht1 : isX10 V t1)  {s : St} (h : wX10_advances_175 Q t0 t1 s) : G l V X 2 175 [] [.int t0, rf V t1] s := by
  unfold wX10_advances_175 at h
  have h := h _ rfl
  refine g_putI (pc := 175) F clX10 ht1.1 5 rfl (by decide) rfl (tyX10_ok 5 (by decide)) uX10_110 dX10_advances_175 ?_
  refine g_goto (pc := 178) F 233 dX10_advances_178 (by decide) ?_
  exact hR _ _ _ dX10_advances_233 h
def wX10_advances_170 (Q : St → Prop) (t0 : Nat) (s : St) : Prop :=
  wX10_advances_175 Q (4 : Int32) t0 s
set_option maxHeartbeats 4000000 in
set_option maxRecDepth 100000 in
theorem bX10_advances_170 {l : Launch} {V : Wv} {X : Mx} {Q : St → Prop} {t0 : Nat} (F : Fx V X cX10_advances RX10 2 1) (hR : RtV l V X 2 cX10_advances Q) (ht0 : isX10 V t0)  {s : St} (h : wX10_advances_170 Q t0 s) : G l V X 2 170 [] [rf V t0] s := by
  unfold wX10_advances_170 at h
  refine g_iconst (pc := 170) F dX10_advances_170 ic_4 ?_
  refine g_goto (pc := 171) F 175 dX10_advances_171 (by decide) ?_
  exact g_weak [] rfl (bX10_advances_175 F hR ht0 h)
def wX10_advances_174 (Q : St → Prop) (t0 : Nat) (s : St) : Prop :=
  wX10_advances_175 Q (2 : Int32) t0 s
set_option maxHeartbeats 4000000 in
set_option maxRecDepth 100000 in
theorem bX10_advances_174 {l : Launch} {V : Wv} {X : Mx} {Q : St → Prop} {t0 : Nat} (F : Fx V X cX10_advances RX10 2 1) (hR : RtV l V X 2 cX10_advances Q) (ht0 : isX10 V t0)  {s : St} (h : wX10_advances_174 Q t0 s) : G l V X 2 174 [] [rf V t0] s := by
  unfold wX10_advances_174 at h
  refine g_iconst (pc := 174) F dX10_advances_174 ic_2 ?_
  exact g_weak [] rfl (bX10_advances_175 F hR ht0 h)
def wX10_advances (x0 : Nat) (s : St) (Q : St → Prop) : Prop :=
  (∃ k_0, wX10_advances_0  x0 (fun  s_k26 => ∀ s_31 : St, s_31 = stI s_k26 x0 6 (s_k26.1 x0 4) → wX10_letterAt x0 (s_31.1 x0 4) s_31 (fun r_39 s_39 => ((0 ≤ r_39 → wX10_in r_39 (48 : Int32) (57 : Int32) s_39 (fun r_60 s_60 => ((r_60 = 0 → ∀ s_188 : St, s_188 = stI s_60 x0 4 ((s_60.1 x0 4) + (1 : Int32)) → ∀ s_193 : St, s_193 = stI s_188 x0 7 r_39 → ((¬ r_39 = (59 : Int32) → ((r_39 = (110 : Int32) → wX10_advances_225 Q x0 s_193) ∧ (¬ r_39 = (110 : Int32) → ((r_39 = (108 : Int32) → wX10_advances_225 Q x0 s_193) ∧ (¬ r_39 = (108 : Int32) → ((¬ r_39 = (109 : Int32) → wX10_advances_230 Q (4 : Int32) x0 s_193) ∧ (r_39 = (109 : Int32) → wX10_advances_225 Q x0 s_193))))))) ∧ (r_39 = (59 : Int32) → wX10_advances_230 Q (3 : Int32) x0 s_193))) ∧ (¬ r_60 = 0 → ∀ s_68 : St, s_68 = stI s_60 x0 7 (0 : Int32) → (∃ k_71, wX10_advances_71  x0 r_39 (fun  s_k141 => (((99 : Int32) < (s_k141.1 x0 7) → wX10_advances_170 Q x0 s_k141) ∧ (¬ (99 : Int32) < (s_k141.1 x0 7) → ((¬ r_39 = (48 : Int32) → wX10_advances_174 Q x0 s_k141) ∧ (r_39 = (48 : Int32) → ((((s_k141.1 x0 4) - (s_k141.1 x0 6)) ≤ (1 : Int32) → wX10_advances_174 Q x0 s_k141) ∧ (¬ ((s_k141.1 x0 4) - (s_k141.1 x0 6)) ≤ (1 : Int32) → wX10_advances_170 Q x0 s_k141))))))) Q k_71  s_68))))) ∧ (¬ 0 ≤ r_39 → ∀ s_49 : St, s_49 = stI s_39 x0 5 (0 : Int32) → Q s_49)))) Q k_0  s)
set_option maxHeartbeats 4000000 in
set_option maxRecDepth 100000 in
theorem mX10_advances {l : Launch} {V : Wv} {x0 : Nat} {s : St} {Q : St → Prop} (hx0 : isX10 V x0) (h : wX10_advances x0 s Q) : Cv yX10_advances cX10_advances 2 (1) l V [rf V x0] s Q := by
  unfold wX10_advances at h
  refine Cv.of mvX10_advances.1 (Nat.le_of_ble_eq_true rfl) (fun X F hR => ?_)
  refine g_lv (lv' := [(_, _)]) rfl ?_
  obtain ⟨k_0, h⟩ := h
  refine g_weak [0] rfl (bX10_advances_0 F hR hx0 (fun  s_k26 h => ?_) k_0 _ h)
  · refine g_aload_n (pc := 26) F dX10_advances_26 rfl 0 rfl ?_
    refine g_aload_n (pc := 27) F dX10_advances_27 rfl 0 rfl ?_
    refine g_getI (pc := 28) F clX10 hx0.1 4 rfl (by decide) uX10_100 dX10_advances_28 ?_
    have h := h _ rfl
    refine g_putI (pc := 31) F clX10 hx0.1 6 rfl (by decide) rfl (tyX10_ok 6 (by decide)) uX10_107 dX10_advances_31 ?_
    refine g_aload_n (pc := 34) F dX10_advances_34 rfl 0 rfl ?_
    refine g_aload_n (pc := 35) F dX10_advances_35 rfl 0 rfl ?_
    refine g_getI (pc := 36) F clX10 hx0.1 4 rfl (by decide) uX10_100 dX10_advances_36 ?_
    refine g_callVi (pc := 39) F (mX10_letterAt hx0 h) mvX10_letterAt uX10_103 (by decide) clX10 hx0.1 rfl rfl (Nat.le_of_ble_eq_true rfl) dX10_advances_39 (fun r_39 s_39 h => ?_)
    refine g_istore_n (pc := 42) (lv' := [(_, _), (_, _)]) F dX10_advances_42 rfl (by decide) rfl ?_
    refine g_iload_n (pc := 43) F dX10_advances_43 rfl 0 rfl ?_
    refine g_if_ge (pc := 44) F 55 dX10_advances_44 (by decide) (fun c => ?_) (fun c => ?_)
    · have h := h.1 c
      refine g_iload_n (pc := 55) F dX10_advances_55 rfl 0 rfl ?_
      refine g_bipush (pc := 56) F dX10_advances_56 bp_48 ?_
      refine g_bipush (pc := 58) F dX10_advances_58 bp_57 ?_
      refine g_callSi (pc := 60) F (mX10_in  h) mvX10_in uX10_93 (by decide)  rfl rfl (Nat.le_of_ble_eq_true rfl) dX10_advances_60 (fun r_60 s_60 h => ?_)
      refine g_if_eq (pc := 63) F 181 dX10_advances_63 (by decide) (fun c => ?_) (fun c => ?_)
      · have h := h.1 c
        refine g_aload_n (pc := 181) F dX10_advances_181 rfl 1 rfl ?_
        refine g_dup (pc := 182) F dX10_advances_182 rfl ?_
        refine g_getI (pc := 183) F clX10 hx0.1 4 rfl (by decide) uX10_100 dX10_advances_183 ?_
        refine g_iconst (pc := 186) F dX10_advances_186 ic_1 ?_
        refine g_iadd (pc := 187) F dX10_advances_187 ?_
        have h := h _ rfl
        refine g_putI (pc := 188) F clX10 hx0.1 4 rfl (by decide) rfl (tyX10_ok 4 (by decide)) uX10_100 dX10_advances_188 ?_
        refine g_aload_n (pc := 191) F dX10_advances_191 rfl 1 rfl ?_
        refine g_iload_n (pc := 192) F dX10_advances_192 rfl 0 rfl ?_
        have h := h _ rfl
        refine g_putI (pc := 193) F clX10 hx0.1 7 rfl (by decide) rfl (tyX10_ok 7 (by decide)) uX10_113 dX10_advances_193 ?_
        refine g_aload_n (pc := 196) F dX10_advances_196 rfl 1 rfl ?_
        refine g_iload_n (pc := 197) F dX10_advances_197 rfl 0 rfl ?_
        refine g_bipush (pc := 198) F dX10_advances_198 bp_59 ?_
        refine g_icmp_ne (pc := 200) F 207 dX10_advances_200 (by decide) (fun c => ?_) (fun c => ?_)
        · have h := h.1 c
          refine g_iload_n (pc := 207) F dX10_advances_207 rfl 0 rfl ?_
          refine g_bipush (pc := 208) F dX10_advances_208 bp_110 ?_
          refine g_icmp_eq (pc := 210) F 225 dX10_advances_210 (by decide) (fun c => ?_) (fun c => ?_)
          · have h := h.1 c
            exact g_weak [] rfl (bX10_advances_225 F hR hx0 h)
          · have h := h.2 c
            refine g_iload_n (pc := 213) F dX10_advances_213 rfl 0 rfl ?_
            refine g_bipush (pc := 214) F dX10_advances_214 bp_108 ?_
            refine g_icmp_eq (pc := 216) F 225 dX10_advances_216 (by decide) (fun c => ?_) (fun c => ?_)
            · have h := h.1 c
              exact g_weak [] rfl (bX10_advances_225 F hR hx0 h)
            · have h := h.2 c
              refine g_iload_n (pc := 219) F dX10_advances_219 rfl 0 rfl ?_
              refine g_bipush (pc := 220) F dX10_advances_220 bp_109 ?_
              refine g_icmp_ne (pc := 222) F 229 dX10_advances_222 (by decide) (fun c => ?_) (fun c => ?_)
              · have h := h.1 c
                refine g_iconst (pc := 229) F dX10_advances_229 ic_4 ?_
                exact g_weak [] rfl (bX10_advances_230 F hR hx0 h)
              · have h := h.2 c
                exact g_weak [] rfl (bX10_advances_225 F hR hx0 h)
        · have h := h.2 c
          refine g_iconst (pc := 203) F dX10_advances_203 ic_3 ?_
          refine g_goto (pc := 204) F 230 dX10_advances_204 (by decide) ?_
          exact g_weak [] rfl (bX10_advances_230 F hR hx0 h)
      · have h := h.2 c
        refine g_aload_n (pc := 66) F dX10_advances_66 rfl 1 rfl ?_
        refine g_iconst (pc := 67) F dX10_advances_67 ic_0 ?_
        have h := h _ rfl
        refine g_putI (pc := 68) F clX10 hx0.1 7 rfl (by decide) rfl (tyX10_ok 7 (by decide)) uX10_113 dX10_advances_68 ?_
        obtain ⟨k_71, h⟩ := h
        refine g_weak [1, 0] rfl (bX10_advances_71 F hR hx0 (fun  s_k141 h => ?_) k_71 _ h)
        · refine g_aload_n (pc := 141) F dX10_advances_141 rfl 0 rfl ?_
          refine g_aload_n (pc := 142) F dX10_advances_142 rfl 0 rfl ?_
          refine g_getI (pc := 143) F clX10 hx0.1 7 rfl (by decide) uX10_113 dX10_advances_143 ?_
          refine g_bipush (pc := 146) F dX10_advances_146 bp_99 ?_
          refine g_icmp_gt (pc := 148) F 170 dX10_advances_148 (by decide) (fun c => ?_) (fun c => ?_)
          · have h := h.1 c
            exact g_weak [] rfl (bX10_advances_170 F hR hx0 h)
          · have h := h.2 c
            refine g_iload_n (pc := 151) F dX10_advances_151 rfl 1 rfl ?_
            refine g_bipush (pc := 152) F dX10_advances_152 bp_48 ?_
            refine g_icmp_ne (pc := 154) F 174 dX10_advances_154 (by decide) (fun c => ?_) (fun c => ?_)
            · have h := h.1 c
              exact g_weak [] rfl (bX10_advances_174 F hR hx0 h)
            · have h := h.2 c
              refine g_aload_n (pc := 157) F dX10_advances_157 rfl 0 rfl ?_
              refine g_getI (pc := 158) F clX10 hx0.1 4 rfl (by decide) uX10_100 dX10_advances_158 ?_
              refine g_aload_n (pc := 161) F dX10_advances_161 rfl 0 rfl ?_
              refine g_getI (pc := 162) F clX10 hx0.1 6 rfl (by decide) uX10_107 dX10_advances_162 ?_
              refine g_isub (pc := 165) F dX10_advances_165 ?_
              refine g_iconst (pc := 166) F dX10_advances_166 ic_1 ?_
              refine g_icmp_le (pc := 167) F 174 dX10_advances_167 (by decide) (fun c => ?_) (fun c => ?_)
              · have h := h.1 c
                exact g_weak [] rfl (bX10_advances_174 F hR hx0 h)
              · have h := h.2 c
                exact g_weak [] rfl (bX10_advances_170 F hR hx0 h)
    · have h := h.2 c
      refine g_aload_n (pc := 47) F dX10_advances_47 rfl 1 rfl ?_
      refine g_iconst (pc := 48) F dX10_advances_48 ic_0 ?_
      have h := h _ rfl
      refine g_putI (pc := 49) F clX10 hx0.1 5 rfl (by decide) rfl (tyX10_ok 5 (by decide)) uX10_110 dX10_advances_49 ?_
      refine g_goto (pc := 52) F 233 dX10_advances_52 (by decide) ?_
      exact hR _ _ _ dX10_advances_233 h
def wX10_isWell (x0 : Nat) (s : St) (Q : Int32 → St → Prop) : Prop :=
  ((0 ≤ (s.1 x0 8) → Q (0 : Int32) s) ∧ (¬ 0 ≤ (s.1 x0 8) → Q (1 : Int32) s))
set_option maxHeartbeats 4000000 in
set_option maxRecDepth 100000 in
theorem mX10_isWell {l : Launch} {V : Wv} {x0 : Nat} {s : St} {Q : Int32 → St → Prop} (hx0 : isX10 V x0) (h : wX10_isWell x0 s Q) : Ci yX10_isWell cX10_isWell 1 (some .boolean) (0) l V [rf V x0] s Q := by
  unfold wX10_isWell at h
  refine Cz.of mvX10_isWell.1 (Nat.le_of_ble_eq_true rfl) (fun X F hR => ?_)
  refine g_lv (lv' := [(_, _)]) rfl ?_
  refine g_aload_n (pc := 0) F dX10_isWell_0 rfl 0 rfl ?_
  refine g_getI (pc := 1) F clX10 hx0.1 8 rfl (by decide) uX10_116 dX10_isWell_1 ?_
  refine g_if_ge (pc := 4) F 11 dX10_isWell_4 (by decide) (fun c => ?_) (fun c => ?_)
  · have h := h.1 c
    refine g_iconst (pc := 11) F dX10_isWell_11 ic_0 ?_
    exact hR _ _ _ _ dX10_isWell_12 (Or.inl rfl) h
  · have h := h.2 c
    refine g_iconst (pc := 7) F dX10_isWell_7 ic_1 ?_
    refine g_goto (pc := 8) F 12 dX10_isWell_8 (by decide) ?_
    exact hR _ _ _ _ dX10_isWell_12 (Or.inr rfl) h
def wX10_takes (x0 : Nat) (x1 : Int32) (s : St) (Q : Int32 → St → Prop) : Prop :=
  wX10_isWell x0 s (fun r_1 s_1 => ((¬ r_1 = 0 → ((¬ x1 = 0 → wX10_advances x0 s_1 (fun s_29 => Q (s_1.1 x0 7) s_29)) ∧ (x1 = 0 → ∀ s_18 : St, s_18 = stI s_1 x0 8 (s_1.1 x0 6) → Q (0 : Int32) s_18))) ∧ (r_1 = 0 → Q (0 : Int32) s_1)))
set_option maxHeartbeats 4000000 in
set_option maxRecDepth 100000 in
theorem mX10_takes {l : Launch} {V : Wv} {x0 : Nat} {x1 : Int32} {s : St} {Q : Int32 → St → Prop} (hx0 : isX10 V x0) (h : wX10_takes x0 x1 s Q) : Ci yX10_takes cX10_takes 3 (some .int) (2) l V [rf V x0, .int x1] s Q := by
  unfold wX10_takes at h
  refine Ci.of mvX10_takes.1 (Nat.le_of_ble_eq_true rfl) (fun X F hR => ?_)
  refine g_lv (lv' := [(_, _), (_, _)]) rfl ?_
  refine g_aload_n (pc := 0) F dX10_takes_0 rfl 0 rfl ?_
  refine g_callVi (pc := 1) F (mX10_isWell hx0 h) mvX10_isWell uX10_119 (by decide) clX10 hx0.1 rfl rfl (Nat.le_of_ble_eq_true rfl) dX10_takes_1 (fun r_1 s_1 h => ?_)
  refine g_if_ne (pc := 4) F 9 dX10_takes_4 (by decide) (fun c => ?_) (fun c => ?_)
  · have h := h.1 c
    refine g_iload_n (pc := 9) F dX10_takes_9 rfl 1 rfl ?_
    refine g_if_ne (pc := 10) F 23 dX10_takes_10 (by decide) (fun c => ?_) (fun c => ?_)
    · have h := h.1 c
      refine g_aload_n (pc := 23) F dX10_takes_23 rfl 0 rfl ?_
      refine g_getI (pc := 24) F clX10 hx0.1 7 rfl (by decide) uX10_113 dX10_takes_24 ?_
      refine g_istore_n (pc := 27) (lv' := [(_, _), (_, _), (_, _)]) F dX10_takes_27 rfl (by decide) rfl ?_
      refine g_aload_n (pc := 28) F dX10_takes_28 rfl 1 rfl ?_
      refine g_callVv (pc := 29) F (mX10_advances hx0 h) mvX10_advances uX10_123 (by decide) clX10 hx0.1 rfl rfl (Nat.le_of_ble_eq_true rfl) dX10_takes_29 (fun s_29 h => ?_)
      refine g_iload_n (pc := 32) F dX10_takes_32 rfl 0 rfl ?_
      exact hR _ _ _ _ dX10_takes_33 h
    · have h := h.2 c
      refine g_aload_n (pc := 13) F dX10_takes_13 rfl 0 rfl ?_
      refine g_aload_n (pc := 14) F dX10_takes_14 rfl 0 rfl ?_
      refine g_getI (pc := 15) F clX10 hx0.1 6 rfl (by decide) uX10_107 dX10_takes_15 ?_
      have h := h _ rfl
      refine g_putI (pc := 18) F clX10 hx0.1 8 rfl (by decide) rfl (tyX10_ok 8 (by decide)) uX10_116 dX10_takes_18 ?_
      refine g_iconst (pc := 21) F dX10_takes_21 ic_0 ?_
      exact hR _ _ _ _ dX10_takes_22 h
  · have h := h.2 c
    refine g_iconst (pc := 7) F dX10_takes_7 ic_0 ?_
    exact hR _ _ _ _ dX10_takes_8 h
def wX10_number_26 (Q : Int32 → St → Prop) (t0 : Int32) (t1 : Nat) (s : St) : Prop :=
  wX10_takes t1 t0 s (fun r_26 s_26 => Q r_26 s_26)
set_option maxHeartbeats 4000000 in
set_option maxRecDepth 100000 in
theorem bX10_number_26 {l : Launch} {V : Wv} {X : Mx} {Q : Int32 → St → Prop} {t0 : Int32} {t1 : Nat} (F : Fx V X cX10_number RX10 3 3) (hR : RtI l V X 3 cX10_number Q) (ht1 : isX10 V t1)  {s : St} (h : wX10_number_26 Q t0 t1 s) : G l V X 3 26 [] [.int t0, rf V t1] s := by
  unfold wX10_number_26 at h
  refine g_callVi (pc := 26) F (mX10_takes ht1 h) mvX10_takes uX10_126 (by decide) clX10 ht1.1 rfl rfl (Nat.le_of_ble_eq_true rfl) dX10_number_26 (fun r_26 s_26 h => ?_)
  exact hR _ _ _ _ dX10_number_29 h
def wX10_number_25 (Q : Int32 → St → Prop) (t0 : Nat) (s : St) : Prop :=
  wX10_number_26 Q (0 : Int32) t0 s
set_option maxHeartbeats 4000000 in
set_option maxRecDepth 100000 in
theorem bX10_number_25 {l : Launch} {V : Wv} {X : Mx} {Q : Int32 → St → Prop} {t0 : Nat} (F : Fx V X cX10_number RX10 3 3) (hR : RtI l V X 3 cX10_number Q) (ht0 : isX10 V t0)  {s : St} (h : wX10_number_25 Q t0 s) : G l V X 3 25 [] [rf V t0] s := by
  unfold wX10_number_25 at h
  refine g_iconst (pc := 25) F dX10_number_25 ic_0 ?_
  exact g_weak [] rfl (bX10_number_26 F hR ht0 h)
def wX10_number (x0 : Nat) (x1 : Int32) (x2 : Int32) (s : St) (Q : Int32 → St → Prop) : Prop :=
  ((¬ (s.1 x0 5) = (2 : Int32) → wX10_number_25 Q x0 s) ∧ ((s.1 x0 5) = (2 : Int32) → wX10_in (s.1 x0 7) x1 x2 s (fun r_15 s_15 => ((r_15 = 0 → wX10_number_25 Q x0 s_15) ∧ (¬ r_15 = 0 → wX10_number_26 Q (1 : Int32) x0 s_15)))))
set_option maxHeartbeats 4000000 in
set_option maxRecDepth 100000 in
theorem mX10_number {l : Launch} {V : Wv} {x0 : Nat} {x1 : Int32} {x2 : Int32} {s : St} {Q : Int32 → St → Prop} (hx0 : isX10 V x0) (h : wX10_number x0 x1 x2 s Q) : Ci yX10_number cX10_number 3 (some .int) (3) l V [rf V x0, .int x1, .int x2] s Q := by
  unfold wX10_number at h
  refine Ci.of mvX10_number.1 (Nat.le_of_ble_eq_true rfl) (fun X F hR => ?_)
  refine g_lv (lv' := [(_, _), (_, _), (_, _)]) rfl ?_
  refine g_aload_n (pc := 0) F dX10_number_0 rfl 0 rfl ?_
  refine g_aload_n (pc := 1) F dX10_number_1 rfl 0 rfl ?_
  refine g_getI (pc := 2) F clX10 hx0.1 5 rfl (by decide) uX10_110 dX10_number_2 ?_
  refine g_iconst (pc := 5) F dX10_number_5 ic_2 ?_
  refine g_icmp_ne (pc := 6) F 25 dX10_number_6 (by decide) (fun c => ?_) (fun c => ?_)
  · have h := h.1 c
    exact g_weak [] rfl (bX10_number_25 F hR hx0 h)
  · have h := h.2 c
    refine g_aload_n (pc := 9) F dX10_number_9 rfl 0 rfl ?_
    refine g_getI (pc := 10) F clX10 hx0.1 7 rfl (by decide) uX10_113 dX10_number_10 ?_
    refine g_iload_n (pc := 13) F dX10_number_13 rfl 1 rfl ?_
    refine g_iload_n (pc := 14) F dX10_number_14 rfl 2 rfl ?_
    refine g_callSi (pc := 15) F (mX10_in  h) mvX10_in uX10_93 (by decide)  rfl rfl (Nat.le_of_ble_eq_true rfl) dX10_number_15 (fun r_15 s_15 h => ?_)
    refine g_if_eq (pc := 18) F 25 dX10_number_18 (by decide) (fun c => ?_) (fun c => ?_)
    · have h := h.1 c
      exact g_weak [] rfl (bX10_number_25 F hR hx0 h)
    · have h := h.2 c
      refine g_iconst (pc := 21) F dX10_number_21 ic_1 ?_
      refine g_goto (pc := 22) F 26 dX10_number_22 (by decide) ?_
      exact g_weak [] rfl (bX10_number_26 F hR hx0 h)
def wX10_begins_16 (x0 : Nat) (Q : St → Prop) : Nat → Int32 → St → Prop
  | 0, _, _ => False
  | n + 1, x1, s =>
  (((38 : Int32) ≤ x1 → Q s) ∧ (¬ (38 : Int32) ≤ x1 → vp_in x1 38 ∧ ∀ s_28 : St, s_28 = stI s (x0 + 6) x1.toNatClampNeg (0 : Int32) → wX10_begins_16 x0 Q n (x1 + (1 : Int32)) s_28))
set_option maxHeartbeats 4000000 in
set_option maxRecDepth 100000 in
theorem bX10_begins_16 {l : Launch} {V : Wv} {X : Mx} {x0 : Nat} {Q : St → Prop} (F : Fx V X cX10_begins RX10 2 0) (hR : RtV l V X 2 cX10_begins Q) (hx0 : isX10 V x0)  : ∀ (n : Nat) (x1 : Int32) (s : St), wX10_begins_16 x0 Q n x1 s → G l V X 2 16 [(0, rf V x0), (1, .int x1)] [] s := by
  intro n
  induction n with
  | zero => intro x1 s h; unfold wX10_begins_16 at h; exact h.elim
  | succ n ih =>
    intro x1 s h
    unfold wX10_begins_16 at h
    refine g_iload_n (pc := 16) F dX10_begins_16 rfl 1 rfl ?_
    refine g_bipush (pc := 17) F dX10_begins_17 bp_38 ?_
    refine g_icmp_ge (pc := 19) F 35 dX10_begins_19 (by decide) (fun c => ?_) (fun c => ?_)
    · have h := h.1 c
      exact hR _ _ _ dX10_begins_35 h
    · have h := h.2 c
      refine g_aload_n (pc := 22) F dX10_begins_22 rfl 0 rfl ?_
      refine g_getR (pc := 23) F clX10 hx0.1 13 _ rfl (by decide) uX10_25 dX10_begins_23 ?_
      refine g_iload_n (pc := 26) F dX10_begins_26 rfl 1 rfl ?_
      refine g_iconst (pc := 27) F dX10_begins_27 ic_0 ?_
      obtain ⟨hb_28, h⟩ := h
      have h := h _ rfl
      refine g_iast (pc := 28) F hx0.2.2.2.2.2.2.1 hb_28 dX10_begins_28 ?_
      refine g_iinc (pc := 29) (lv' := [(_, _), (_, _)]) F dX10_begins_29 1 rfl (congrArg _ ic_1) (by decide) rfl ?_
      refine g_goto (pc := 32) F 16 dX10_begins_32 (by decide) ?_
      exact g_weak [1, 0] rfl (ih _ _ h)
def wX10_begins (x0 : Nat) (s : St) (Q : St → Prop) : Prop :=
  vp_in (2 : Int32) 4 ∧ ∀ s_6 : St, s_6 = stI s (x0 + 2) (2 : Int32).toNatClampNeg (2 : Int32) → vp_in (3 : Int32) 4 ∧ ∀ s_13 : St, s_13 = stI s_6 (x0 + 2) (3 : Int32).toNatClampNeg (0 : Int32) → (∃ k_16, wX10_begins_16  x0  Q k_16 (0 : Int32) s_13)
set_option maxHeartbeats 4000000 in
set_option maxRecDepth 100000 in
theorem mX10_begins {l : Launch} {V : Wv} {x0 : Nat} {s : St} {Q : St → Prop} (hx0 : isX10 V x0) (h : wX10_begins x0 s Q) : Cv yX10_begins cX10_begins 2 (0) l V [rf V x0] s Q := by
  unfold wX10_begins at h
  refine Cv.of mvX10_begins.1 (Nat.le_of_ble_eq_true rfl) (fun X F hR => ?_)
  refine g_lv (lv' := [(_, _)]) rfl ?_
  refine g_aload_n (pc := 0) F dX10_begins_0 rfl 0 rfl ?_
  refine g_getR (pc := 1) F clX10 hx0.1 9 _ rfl (by decide) uX10_13 dX10_begins_1 ?_
  refine g_iconst (pc := 4) F dX10_begins_4 ic_2 ?_
  refine g_iconst (pc := 5) F dX10_begins_5 ic_2 ?_
  obtain ⟨hb_6, h⟩ := h
  have h := h _ rfl
  refine g_iast (pc := 6) F hx0.2.2.1 hb_6 dX10_begins_6 ?_
  refine g_aload_n (pc := 7) F dX10_begins_7 rfl 0 rfl ?_
  refine g_getR (pc := 8) F clX10 hx0.1 9 _ rfl (by decide) uX10_13 dX10_begins_8 ?_
  refine g_iconst (pc := 11) F dX10_begins_11 ic_3 ?_
  refine g_iconst (pc := 12) F dX10_begins_12 ic_0 ?_
  obtain ⟨hb_13, h⟩ := h
  have h := h _ rfl
  refine g_iast (pc := 13) F hx0.2.2.1 hb_13 dX10_begins_13 ?_
  refine g_iconst (pc := 14) F dX10_begins_14 ic_0 ?_
  refine g_istore_n (pc := 15) (lv' := [(_, _), (_, _)]) F dX10_begins_15 rfl (by decide) rfl ?_
  obtain ⟨k_16, h⟩ := h
  refine g_weak [1, 0] rfl (bX10_begins_16 F hR hx0 k_16 _ _ h)
def wX10_laneOf_60 (rec : Int32 → St → Prop) (Q : Int32 → St → Prop) (x0 : Nat) (x1 : Int32) (x2 : Int32) (x3 : Int32) (x4 : Int32) (x5 : Int32) (s : St) : Prop :=
  rec (x5 + (1 : Int32)) s
set_option maxHeartbeats 4000000 in
set_option maxRecDepth 100000 in
theorem bX10_laneOf_60 {l : Launch} {V : Wv} {X : Mx} {rec : Int32 → St → Prop} {Q : Int32 → St → Prop} {x0 : Nat} {x1 : Int32} {x2 : Int32} {x3 : Int32} {x4 : Int32} {x5 : Int32} (F : Fx V X cX10_laneOf RX10 8 0) (hR : RtI l V X 8 cX10_laneOf Q) (hx0 : isX10 V x0) (hrec : ∀ (y5 : Int32) (s : St), rec y5 s → G l V X 8 3 [(0, rf V x0), (1, .int x1), (2, .int x2), (3, .int x3), (4, .int x4), (5, .int y5)] [] s) {s : St} (h : wX10_laneOf_60 rec Q x0 x1 x2 x3 x4 x5 s) : G l V X 8 60 [(0, rf V x0), (1, .int x1), (2, .int x2), (3, .int x3), (4, .int x4), (5, .int x5)] [] s := by
  unfold wX10_laneOf_60 at h
  refine g_iinc (pc := 60) (lv' := [(_, _), (_, _), (_, _), (_, _), (_, _), (_, _)]) F dX10_laneOf_60 5 rfl (congrArg _ ic_1) (by decide) rfl ?_
  refine g_goto (pc := 63) F 3 dX10_laneOf_63 (by decide) ?_
  exact g_weak [1, 2, 3, 4, 5, 0] rfl (hrec _ _ h)
def wX10_laneOf_44 (rec : Int32 → St → Prop) (Q : Int32 → St → Prop) (x0 : Nat) (x1 : Int32) (x2 : Int32) (x3 : Int32) (x4 : Int32) (x5 : Int32) (x6 : Int32) (x7 : Int32) (s : St) : Prop :=
  ((¬ x6 = x4 → wX10_laneOf_60 (rec) Q x0 x1 x2 x3 x4 x5 s) ∧ (x6 = x4 → ((¬ x7 = x3 → wX10_laneOf_60 (rec) Q x0 x1 x2 x3 x4 x5 s) ∧ (x7 = x3 → Q x5 s))))
set_option maxHeartbeats 4000000 in
set_option maxRecDepth 100000 in
theorem bX10_laneOf_44 {l : Launch} {V : Wv} {X : Mx} {rec : Int32 → St → Prop} {Q : Int32 → St → Prop} {x0 : Nat} {x1 : Int32} {x2 : Int32} {x3 : Int32} {x4 : Int32} {x5 : Int32} {x6 : Int32} {x7 : Int32} (F : Fx V X cX10_laneOf RX10 8 0) (hR : RtI l V X 8 cX10_laneOf Q) (hx0 : isX10 V x0) (hrec : ∀ (y5 : Int32) (s : St), rec y5 s → G l V X 8 3 [(0, rf V x0), (1, .int x1), (2, .int x2), (3, .int x3), (4, .int x4), (5, .int y5)] [] s) {s : St} (h : wX10_laneOf_44 rec Q x0 x1 x2 x3 x4 x5 x6 x7 s) : G l V X 8 44 [(0, rf V x0), (1, .int x1), (2, .int x2), (3, .int x3), (4, .int x4), (5, .int x5), (6, .int x6), (7, .int x7)] [] s := by
  unfold wX10_laneOf_44 at h
  refine g_iload (pc := 44) F dX10_laneOf_44 6 rfl ?_
  refine g_iload (pc := 46) F dX10_laneOf_46 4 rfl ?_
  refine g_icmp_ne (pc := 48) F 60 dX10_laneOf_48 (by decide) (fun c => ?_) (fun c => ?_)
  · have h := h.1 c
    exact g_weak [0, 1, 2, 3, 4, 5] rfl (bX10_laneOf_60 F hR hx0 hrec h)
  · have h := h.2 c
    refine g_iload (pc := 51) F dX10_laneOf_51 7 rfl ?_
    refine g_iload_n (pc := 53) F dX10_laneOf_53 rfl 3 rfl ?_
    refine g_icmp_ne (pc := 54) F 60 dX10_laneOf_54 (by decide) (fun c => ?_) (fun c => ?_)
    · have h := h.1 c
      exact g_weak [0, 1, 2, 3, 4, 5] rfl (bX10_laneOf_60 F hR hx0 hrec h)
    · have h := h.2 c
      refine g_iload (pc := 57) F dX10_laneOf_57 5 rfl ?_
      exact hR _ _ _ _ dX10_laneOf_59 h
def wX10_laneOf_3 (x0 : Nat) (x1 : Int32) (x2 : Int32) (x3 : Int32) (x4 : Int32) (Q : Int32 → St → Prop) : Nat → Int32 → St → Prop
  | 0, _, _ => False
  | n + 1, x5, s =>
  ((x2 ≤ x5 → Q (-9 : Int32) s) ∧ (¬ x2 ≤ x5 → vp_in (x1 + x5) 12 ∧ vp_in (x1 + x5) 12 ∧ ((¬ (s.1 (x0 + 3) (x1 + x5).toNatClampNeg) = x3 → wX10_laneOf_44 (wX10_laneOf_3 x0 x1 x2 x3 x4 Q n) Q x0 x1 x2 x3 x4 x5 (s.1 (x0 + 3) (x1 + x5).toNatClampNeg) (s.1 (x0 + 4) (x1 + x5).toNatClampNeg) s) ∧ ((s.1 (x0 + 3) (x1 + x5).toNatClampNeg) = x3 → (((s.1 (x0 + 4) (x1 + x5).toNatClampNeg) = x4 → Q x5 s) ∧ (¬ (s.1 (x0 + 4) (x1 + x5).toNatClampNeg) = x4 → wX10_laneOf_44 (wX10_laneOf_3 x0 x1 x2 x3 x4 Q n) Q x0 x1 x2 x3 x4 x5 (s.1 (x0 + 3) (x1 + x5).toNatClampNeg) (s.1 (x0 + 4) (x1 + x5).toNatClampNeg) s))))))
set_option maxHeartbeats 4000000 in
set_option maxRecDepth 100000 in
theorem bX10_laneOf_3 {l : Launch} {V : Wv} {X : Mx} {x0 : Nat} {x1 : Int32} {x2 : Int32} {x3 : Int32} {x4 : Int32} {Q : Int32 → St → Prop} (F : Fx V X cX10_laneOf RX10 8 0) (hR : RtI l V X 8 cX10_laneOf Q) (hx0 : isX10 V x0)  : ∀ (n : Nat) (x5 : Int32) (s : St), wX10_laneOf_3 x0 x1 x2 x3 x4 Q n x5 s → G l V X 8 3 [(0, rf V x0), (1, .int x1), (2, .int x2), (3, .int x3), (4, .int x4), (5, .int x5)] [] s := by
  intro n
  induction n with
  | zero => intro x5 s h; unfold wX10_laneOf_3 at h; exact h.elim
  | succ n ih =>
    intro x5 s h
    unfold wX10_laneOf_3 at h
    refine g_iload (pc := 3) F dX10_laneOf_3 5 rfl ?_
    refine g_iload_n (pc := 5) F dX10_laneOf_5 rfl 2 rfl ?_
    refine g_icmp_ge (pc := 6) F 66 dX10_laneOf_6 (by decide) (fun c => ?_) (fun c => ?_)
    · have h := h.1 c
      refine g_bipush (pc := 66) F dX10_laneOf_66 bp_m9 ?_
      exact hR _ _ _ _ dX10_laneOf_68 h
    · have h := h.2 c
      refine g_aload_n (pc := 9) F dX10_laneOf_9 rfl 0 rfl ?_
      refine g_getR (pc := 10) F clX10 hx0.1 10 _ rfl (by decide) uX10_16 dX10_laneOf_10 ?_
      refine g_iload_n (pc := 13) F dX10_laneOf_13 rfl 1 rfl ?_
      refine g_iload (pc := 14) F dX10_laneOf_14 5 rfl ?_
      refine g_iadd (pc := 16) F dX10_laneOf_16 ?_
      obtain ⟨hb_17, h⟩ := h
      refine g_iald (pc := 17) F hx0.2.2.2.1 hb_17 dX10_laneOf_17 ?_
      refine g_istore (pc := 18) (lv' := [(_, _), (_, _), (_, _), (_, _), (_, _), (_, _), (_, _)]) F dX10_laneOf_18 (by decide) rfl ?_
      refine g_aload_n (pc := 20) F dX10_laneOf_20 rfl 1 rfl ?_
      refine g_getR (pc := 21) F clX10 hx0.1 11 _ rfl (by decide) uX10_19 dX10_laneOf_21 ?_
      refine g_iload_n (pc := 24) F dX10_laneOf_24 rfl 2 rfl ?_
      refine g_iload (pc := 25) F dX10_laneOf_25 6 rfl ?_
      refine g_iadd (pc := 27) F dX10_laneOf_27 ?_
      obtain ⟨hb_28, h⟩ := h
      refine g_iald (pc := 28) F hx0.2.2.2.2.1 hb_28 dX10_laneOf_28 ?_
      refine g_istore (pc := 29) (lv' := [(_, _), (_, _), (_, _), (_, _), (_, _), (_, _), (_, _), (_, _)]) F dX10_laneOf_29 (by decide) rfl ?_
      refine g_iload (pc := 31) F dX10_laneOf_31 1 rfl ?_
      refine g_iload_n (pc := 33) F dX10_laneOf_33 rfl 5 rfl ?_
      refine g_icmp_ne (pc := 34) F 44 dX10_laneOf_34 (by decide) (fun c => ?_) (fun c => ?_)
      · have h := h.1 c
        exact g_weak [2, 3, 4, 5, 6, 7, 1, 0] rfl (bX10_laneOf_44 F hR hx0 ih h)
      · have h := h.2 c
        refine g_iload (pc := 37) F dX10_laneOf_37 0 rfl ?_
        refine g_iload (pc := 39) F dX10_laneOf_39 6 rfl ?_
        refine g_icmp_eq (pc := 41) F 57 dX10_laneOf_41 (by decide) (fun c => ?_) (fun c => ?_)
        · have h := h.1 c
          refine g_iload (pc := 57) F dX10_laneOf_57 7 rfl ?_
          exact hR _ _ _ _ dX10_laneOf_59 h
        · have h := h.2 c
          exact g_weak [2, 3, 4, 5, 6, 7, 1, 0] rfl (bX10_laneOf_44 F hR hx0 ih h)
def wX10_laneOf (x0 : Nat) (x1 : Int32) (x2 : Int32) (x3 : Int32) (x4 : Int32) (s : St) (Q : Int32 → St → Prop) : Prop :=
  (∃ k_3, wX10_laneOf_3  x0 x1 x2 x3 x4  Q k_3 (0 : Int32) s)
set_option maxHeartbeats 4000000 in
set_option maxRecDepth 100000 in
theorem mX10_laneOf {l : Launch} {V : Wv} {x0 : Nat} {x1 : Int32} {x2 : Int32} {x3 : Int32} {x4 : Int32} {s : St} {Q : Int32 → St → Prop} (hx0 : isX10 V x0) (h : wX10_laneOf x0 x1 x2 x3 x4 s Q) : Ci yX10_laneOf cX10_laneOf 8 (some .int) (0) l V [rf V x0, .int x1, .int x2, .int x3, .int x4] s Q := by
  unfold wX10_laneOf at h
  refine Ci.of mvX10_laneOf.1 (Nat.le_of_ble_eq_true rfl) (fun X F hR => ?_)
  refine g_lv (lv' := [(_, _), (_, _), (_, _), (_, _), (_, _)]) rfl ?_
  refine g_iconst (pc := 0) F dX10_laneOf_0 ic_0 ?_
  refine g_istore (pc := 1) (lv' := [(_, _), (_, _), (_, _), (_, _), (_, _), (_, _)]) F dX10_laneOf_1 (by decide) rfl ?_
  obtain ⟨k_3, h⟩ := h
  refine g_weak [1, 2, 3, 4, 5, 0] rfl (bX10_laneOf_3 F hR hx0 k_3 _ _ h)
def wX10_readsLane_89 (Q : St → Prop) (x0 : Nat) (x1 : Int32) (x2 : Int32) (t0 : Int32) (t1 : Nat) (s : St) : Prop :=
  wX10_takes t1 t0 s (fun r_89 s_89 => wX10_number x0 (1 : Int32) (5 : Int32) s_89 (fun r_104 s_104 => vp_in ((0 : Int32) + x1) 38 ∧ ∀ s_107 : St, s_107 = stI s_104 (x0 + 6) ((0 : Int32) + x1).toNatClampNeg r_104 → wX10_number x0 (1 : Int32) (9 : Int32) s_107 (fun r_120 s_120 => vp_in ((6 : Int32) + x1) 12 ∧ ∀ s_123 : St, s_123 = stI s_120 (x0 + 5) ((6 : Int32) + x1).toNatClampNeg r_120 → vp_in ((6 : Int32) + x1) 12 ∧ ∀ s_133 : St, s_133 = stI s_123 (x0 + 3) ((6 : Int32) + x1).toNatClampNeg x2 → vp_in ((6 : Int32) + x1) 12 ∧ ∀ s_144 : St, s_144 = stI s_133 (x0 + 4) ((6 : Int32) + x1).toNatClampNeg r_89 → vp_in (3 : Int32) 4 ∧ vp_in (3 : Int32) 4 ∧ ∀ s_154 : St, s_154 = stI s_144 (x0 + 2) (3 : Int32).toNatClampNeg ((s_144.1 (x0 + 2) (3 : Int32).toNatClampNeg) + (1 : Int32)) → Q s_154)))
set_option maxHeartbeats 4000000 in
set_option maxRecDepth 100000 in
theorem bX10_readsLane_89 {l : Launch} {V : Wv} {X : Mx} {Q : St → Prop} {x0 : Nat} {x1 : Int32} {x2 : Int32} {t0 : Int32} {t1 : Nat} (F : Fx V X cX10_readsLane RX10 5 4) (hR : RtV l V X 5 cX10_readsLane Q) (hx0 : isX10 V x0) (ht1 : isX10 V t1)  {s : St} (h : wX10_readsLane_89 Q x0 x1 x2 t0 t1 s) : G l V X 5 89 [(0, rf V x0), (1, .int x1), (2, .int x2)] [.int t0, rf V t1] s := by
  unfold wX10_readsLane_89 at h
  refine g_callVi (pc := 89) F (mX10_takes ht1 h) mvX10_takes uX10_126 (by decide) clX10 ht1.1 rfl rfl (Nat.le_of_ble_eq_true rfl) dX10_readsLane_89 (fun r_89 s_89 h => ?_)
  refine g_istore (pc := 92) (lv' := [(_, _), (_, _), (_, _), (_, _)]) F dX10_readsLane_92 (by decide) rfl ?_
  refine g_aload_n (pc := 94) F dX10_readsLane_94 rfl 1 rfl ?_
  refine g_getR (pc := 95) F clX10 hx0.1 13 _ rfl (by decide) uX10_25 dX10_readsLane_95 ?_
  refine g_iconst (pc := 98) F dX10_readsLane_98 ic_0 ?_
  refine g_iload_n (pc := 99) F dX10_readsLane_99 rfl 2 rfl ?_
  refine g_iadd (pc := 100) F dX10_readsLane_100 ?_
  refine g_aload_n (pc := 101) F dX10_readsLane_101 rfl 1 rfl ?_
  refine g_iconst (pc := 102) F dX10_readsLane_102 ic_1 ?_
  refine g_iconst (pc := 103) F dX10_readsLane_103 ic_5 ?_
  refine g_callVi (pc := 104) F (mX10_number hx0 h) mvX10_number uX10_130 (by decide) clX10 hx0.1 rfl rfl (Nat.le_of_ble_eq_true rfl) dX10_readsLane_104 (fun r_104 s_104 h => ?_)
  obtain ⟨hb_107, h⟩ := h
  have h := h _ rfl
  refine g_iast (pc := 107) F hx0.2.2.2.2.2.2.1 hb_107 dX10_readsLane_107 ?_
  refine g_aload_n (pc := 108) F dX10_readsLane_108 rfl 1 rfl ?_
  refine g_getR (pc := 109) F clX10 hx0.1 12 _ rfl (by decide) uX10_22 dX10_readsLane_109 ?_
  refine g_bipush (pc := 112) F dX10_readsLane_112 bp_6 ?_
  refine g_iload_n (pc := 114) F dX10_readsLane_114 rfl 2 rfl ?_
  refine g_iadd (pc := 115) F dX10_readsLane_115 ?_
  refine g_aload_n (pc := 116) F dX10_readsLane_116 rfl 1 rfl ?_
  refine g_iconst (pc := 117) F dX10_readsLane_117 ic_1 ?_
  refine g_bipush (pc := 118) F dX10_readsLane_118 bp_9 ?_
  refine g_callVi (pc := 120) F (mX10_number hx0 h) mvX10_number uX10_130 (by decide) clX10 hx0.1 rfl rfl (Nat.le_of_ble_eq_true rfl) dX10_readsLane_120 (fun r_120 s_120 h => ?_)
  obtain ⟨hb_123, h⟩ := h
  have h := h _ rfl
  refine g_iast (pc := 123) F hx0.2.2.2.2.2.1 hb_123 dX10_readsLane_123 ?_
  refine g_aload_n (pc := 124) F dX10_readsLane_124 rfl 1 rfl ?_
  refine g_getR (pc := 125) F clX10 hx0.1 10 _ rfl (by decide) uX10_16 dX10_readsLane_125 ?_
  refine g_bipush (pc := 128) F dX10_readsLane_128 bp_6 ?_
  refine g_iload_n (pc := 130) F dX10_readsLane_130 rfl 2 rfl ?_
  refine g_iadd (pc := 131) F dX10_readsLane_131 ?_
  refine g_iload_n (pc := 132) F dX10_readsLane_132 rfl 3 rfl ?_
  obtain ⟨hb_133, h⟩ := h
  have h := h _ rfl
  refine g_iast (pc := 133) F hx0.2.2.2.1 hb_133 dX10_readsLane_133 ?_
  refine g_aload_n (pc := 134) F dX10_readsLane_134 rfl 1 rfl ?_
  refine g_getR (pc := 135) F clX10 hx0.1 11 _ rfl (by decide) uX10_19 dX10_readsLane_135 ?_
  refine g_bipush (pc := 138) F dX10_readsLane_138 bp_6 ?_
  refine g_iload_n (pc := 140) F dX10_readsLane_140 rfl 2 rfl ?_
  refine g_iadd (pc := 141) F dX10_readsLane_141 ?_
  refine g_iload (pc := 142) F dX10_readsLane_142 0 rfl ?_
  obtain ⟨hb_144, h⟩ := h
  have h := h _ rfl
  refine g_iast (pc := 144) F hx0.2.2.2.2.1 hb_144 dX10_readsLane_144 ?_
  refine g_aload_n (pc := 145) F dX10_readsLane_145 rfl 1 rfl ?_
  refine g_getR (pc := 146) F clX10 hx0.1 9 _ rfl (by decide) uX10_13 dX10_readsLane_146 ?_
  refine g_iconst (pc := 149) F dX10_readsLane_149 ic_3 ?_
  refine g_dup2 (pc := 150) F dX10_readsLane_150 rfl rfl ?_
  obtain ⟨hb_151, h⟩ := h
  refine g_iald (pc := 151) F hx0.2.2.1 hb_151 dX10_readsLane_151 ?_
  refine g_iconst (pc := 152) F dX10_readsLane_152 ic_1 ?_
  refine g_iadd (pc := 153) F dX10_readsLane_153 ?_
  obtain ⟨hb_154, h⟩ := h
  have h := h _ rfl
  refine g_iast (pc := 154) F hx0.2.2.1 hb_154 dX10_readsLane_154 ?_
  exact hR _ _ _ dX10_readsLane_155 h
def wX10_readsLane_88 (Q : St → Prop) (x0 : Nat) (x1 : Int32) (x2 : Int32) (t0 : Nat) (s : St) : Prop :=
  wX10_readsLane_89 Q x0 x1 x2 (0 : Int32) t0 s
set_option maxHeartbeats 4000000 in
set_option maxRecDepth 100000 in
theorem bX10_readsLane_88 {l : Launch} {V : Wv} {X : Mx} {Q : St → Prop} {x0 : Nat} {x1 : Int32} {x2 : Int32} {t0 : Nat} (F : Fx V X cX10_readsLane RX10 5 4) (hR : RtV l V X 5 cX10_readsLane Q) (hx0 : isX10 V x0) (ht0 : isX10 V t0)  {s : St} (h : wX10_readsLane_88 Q x0 x1 x2 t0 s) : G l V X 5 88 [(0, rf V x0), (1, .int x1), (2, .int x2)] [rf V t0] s := by
  unfold wX10_readsLane_88 at h
  refine g_iconst (pc := 88) F dX10_readsLane_88 ic_0 ?_
  exact g_weak [0, 1, 2] rfl (bX10_readsLane_89 F hR hx0 ht0 h)
def wX10_readsLane_61 (Q : St → Prop) (x0 : Nat) (x1 : Int32) (x2 : Int32) (t0 : Int32) (s : St) : Prop :=
  ((t0 = 0 → wX10_readsLane_88 Q x0 x1 x2 x0 s) ∧ (¬ t0 = 0 → wX10_laneOf x0 (6 : Int32) x1 x2 (s.1 x0 7) s (fun r_76 s_76 => ((¬ r_76 = (-9 : Int32) → wX10_readsLane_88 Q x0 x1 x2 x0 s_76) ∧ (r_76 = (-9 : Int32) → wX10_readsLane_89 Q x0 x1 x2 (1 : Int32) x0 s_76)))))
set_option maxHeartbeats 4000000 in
set_option maxRecDepth 100000 in
theorem bX10_readsLane_61 {l : Launch} {V : Wv} {X : Mx} {Q : St → Prop} {x0 : Nat} {x1 : Int32} {x2 : Int32} {t0 : Int32} (F : Fx V X cX10_readsLane RX10 5 4) (hR : RtV l V X 5 cX10_readsLane Q) (hx0 : isX10 V x0)  {s : St} (h : wX10_readsLane_61 Q x0 x1 x2 t0 s) : G l V X 5 61 [(0, rf V x0), (1, .int x1), (2, .int x2)] [.int t0] s := by
  unfold wX10_readsLane_61 at h
  refine g_istore_n (pc := 61) (lv' := [(_, _), (_, _), (_, _), (_, _)]) F dX10_readsLane_61 rfl (by decide) rfl ?_
  refine g_aload_n (pc := 62) F dX10_readsLane_62 rfl 1 rfl ?_
  refine g_iload_n (pc := 63) F dX10_readsLane_63 rfl 0 rfl ?_
  refine g_if_eq (pc := 64) F 88 dX10_readsLane_64 (by decide) (fun c => ?_) (fun c => ?_)
  · have h := h.1 c
    exact g_weak [1, 2, 3] rfl (bX10_readsLane_88 F hR hx0 hx0 h)
  · have h := h.2 c
    refine g_aload_n (pc := 67) F dX10_readsLane_67 rfl 1 rfl ?_
    refine g_bipush (pc := 68) F dX10_readsLane_68 bp_6 ?_
    refine g_iload_n (pc := 70) F dX10_readsLane_70 rfl 2 rfl ?_
    refine g_iload_n (pc := 71) F dX10_readsLane_71 rfl 3 rfl ?_
    refine g_aload_n (pc := 72) F dX10_readsLane_72 rfl 1 rfl ?_
    refine g_getI (pc := 73) F clX10 hx0.1 7 rfl (by decide) uX10_113 dX10_readsLane_73 ?_
    refine g_callVi (pc := 76) F (mX10_laneOf hx0 h) mvX10_laneOf uX10_134 (by decide) clX10 hx0.1 rfl rfl (Nat.le_of_ble_eq_true rfl) dX10_readsLane_76 (fun r_76 s_76 h => ?_)
    refine g_bipush (pc := 79) F dX10_readsLane_79 bp_m9 ?_
    refine g_icmp_ne (pc := 81) F 88 dX10_readsLane_81 (by decide) (fun c => ?_) (fun c => ?_)
    · have h := h.1 c
      exact g_weak [1, 2, 3] rfl (bX10_readsLane_88 F hR hx0 hx0 h)
    · have h := h.2 c
      refine g_iconst (pc := 84) F dX10_readsLane_84 ic_1 ?_
      refine g_goto (pc := 85) F 89 dX10_readsLane_85 (by decide) ?_
      exact g_weak [1, 2, 3] rfl (bX10_readsLane_89 F hR hx0 hx0 h)
def wX10_readsLane_60 (Q : St → Prop) (x0 : Nat) (x1 : Int32) (x2 : Int32) (s : St) : Prop :=
  wX10_readsLane_61 Q x0 x1 x2 (0 : Int32) s
set_option maxHeartbeats 4000000 in
set_option maxRecDepth 100000 in
theorem bX10_readsLane_60 {l : Launch} {V : Wv} {X : Mx} {Q : St → Prop} {x0 : Nat} {x1 : Int32} {x2 : Int32} (F : Fx V X cX10_readsLane RX10 5 4) (hR : RtV l V X 5 cX10_readsLane Q) (hx0 : isX10 V x0)  {s : St} (h : wX10_readsLane_60 Q x0 x1 x2 s) : G l V X 5 60 [(0, rf V x0), (1, .int x1), (2, .int x2)] [] s := by
  unfold wX10_readsLane_60 at h
  refine g_iconst (pc := 60) F dX10_readsLane_60 ic_0 ?_
  exact g_weak [0, 1, 2] rfl (bX10_readsLane_61 F hR hx0 h)
def wX10_readsLane (x0 : Nat) (s : St) (Q : St → Prop) : Prop :=
  vp_in (3 : Int32) 4 ∧ vp_in (2 : Int32) 4 ∧ wX10_number x0 (0 : Int32) ((s.1 (x0 + 2) (2 : Int32).toNatClampNeg) - (1 : Int32)) s (fun r_17 s_17 => ((¬ (s_17.1 x0 5) = (2 : Int32) → wX10_readsLane_60 Q x0 (s.1 (x0 + 2) (3 : Int32).toNatClampNeg) r_17 s_17) ∧ ((s_17.1 x0 5) = (2 : Int32) → vp_in (2 : Int32) 4 ∧ wX10_in (s_17.1 x0 7) (0 : Int32) ((s_17.1 (x0 + 2) (2 : Int32).toNatClampNeg) - (1 : Int32)) s_17 (fun r_42 s_42 => ((r_42 = 0 → wX10_readsLane_60 Q x0 (s.1 (x0 + 2) (3 : Int32).toNatClampNeg) r_17 s_42) ∧ (¬ r_42 = 0 → (((s_42.1 x0 7) = r_17 → wX10_readsLane_60 Q x0 (s.1 (x0 + 2) (3 : Int32).toNatClampNeg) r_17 s_42) ∧ (¬ (s_42.1 x0 7) = r_17 → wX10_readsLane_61 Q x0 (s.1 (x0 + 2) (3 : Int32).toNatClampNeg) r_17 (1 : Int32) s_42))))))))
set_option maxHeartbeats 4000000 in
set_option maxRecDepth 100000 in
theorem mX10_readsLane {l : Launch} {V : Wv} {x0 : Nat} {s : St} {Q : St → Prop} (hx0 : isX10 V x0) (h : wX10_readsLane x0 s Q) : Cv yX10_readsLane cX10_readsLane 5 (4) l V [rf V x0] s Q := by
  unfold wX10_readsLane at h
  refine Cv.of mvX10_readsLane.1 (Nat.le_of_ble_eq_true rfl) (fun X F hR => ?_)
  refine g_lv (lv' := [(_, _)]) rfl ?_
  refine g_aload_n (pc := 0) F dX10_readsLane_0 rfl 0 rfl ?_
  refine g_getR (pc := 1) F clX10 hx0.1 9 _ rfl (by decide) uX10_13 dX10_readsLane_1 ?_
  refine g_iconst (pc := 4) F dX10_readsLane_4 ic_3 ?_
  obtain ⟨hb_5, h⟩ := h
  refine g_iald (pc := 5) F hx0.2.2.1 hb_5 dX10_readsLane_5 ?_
  refine g_istore_n (pc := 6) (lv' := [(_, _), (_, _)]) F dX10_readsLane_6 rfl (by decide) rfl ?_
  refine g_aload_n (pc := 7) F dX10_readsLane_7 rfl 1 rfl ?_
  refine g_iconst (pc := 8) F dX10_readsLane_8 ic_0 ?_
  refine g_aload_n (pc := 9) F dX10_readsLane_9 rfl 1 rfl ?_
  refine g_getR (pc := 10) F clX10 hx0.1 9 _ rfl (by decide) uX10_13 dX10_readsLane_10 ?_
  refine g_iconst (pc := 13) F dX10_readsLane_13 ic_2 ?_
  obtain ⟨hb_14, h⟩ := h
  refine g_iald (pc := 14) F hx0.2.2.1 hb_14 dX10_readsLane_14 ?_
  refine g_iconst (pc := 15) F dX10_readsLane_15 ic_1 ?_
  refine g_isub (pc := 16) F dX10_readsLane_16 ?_
  refine g_callVi (pc := 17) F (mX10_number hx0 h) mvX10_number uX10_130 (by decide) clX10 hx0.1 rfl rfl (Nat.le_of_ble_eq_true rfl) dX10_readsLane_17 (fun r_17 s_17 h => ?_)
  refine g_istore_n (pc := 20) (lv' := [(_, _), (_, _), (_, _)]) F dX10_readsLane_20 rfl (by decide) rfl ?_
  refine g_aload_n (pc := 21) F dX10_readsLane_21 rfl 2 rfl ?_
  refine g_getI (pc := 22) F clX10 hx0.1 5 rfl (by decide) uX10_110 dX10_readsLane_22 ?_
  refine g_iconst (pc := 25) F dX10_readsLane_25 ic_2 ?_
  refine g_icmp_ne (pc := 26) F 60 dX10_readsLane_26 (by decide) (fun c => ?_) (fun c => ?_)
  · have h := h.1 c
    exact g_weak [2, 1, 0] rfl (bX10_readsLane_60 F hR hx0 h)
  · have h := h.2 c
    refine g_aload_n (pc := 29) F dX10_readsLane_29 rfl 2 rfl ?_
    refine g_getI (pc := 30) F clX10 hx0.1 7 rfl (by decide) uX10_113 dX10_readsLane_30 ?_
    refine g_iconst (pc := 33) F dX10_readsLane_33 ic_0 ?_
    refine g_aload_n (pc := 34) F dX10_readsLane_34 rfl 2 rfl ?_
    refine g_getR (pc := 35) F clX10 hx0.1 9 _ rfl (by decide) uX10_13 dX10_readsLane_35 ?_
    refine g_iconst (pc := 38) F dX10_readsLane_38 ic_2 ?_
    obtain ⟨hb_39, h⟩ := h
    refine g_iald (pc := 39) F hx0.2.2.1 hb_39 dX10_readsLane_39 ?_
    refine g_iconst (pc := 40) F dX10_readsLane_40 ic_1 ?_
    refine g_isub (pc := 41) F dX10_readsLane_41 ?_
    refine g_callSi (pc := 42) F (mX10_in  h) mvX10_in uX10_93 (by decide)  rfl rfl (Nat.le_of_ble_eq_true rfl) dX10_readsLane_42 (fun r_42 s_42 h => ?_)
    refine g_if_eq (pc := 45) F 60 dX10_readsLane_45 (by decide) (fun c => ?_) (fun c => ?_)
    · have h := h.1 c
      exact g_weak [2, 1, 0] rfl (bX10_readsLane_60 F hR hx0 h)
    · have h := h.2 c
      refine g_aload_n (pc := 48) F dX10_readsLane_48 rfl 2 rfl ?_
      refine g_getI (pc := 49) F clX10 hx0.1 7 rfl (by decide) uX10_113 dX10_readsLane_49 ?_
      refine g_iload_n (pc := 52) F dX10_readsLane_52 rfl 0 rfl ?_
      refine g_icmp_eq (pc := 53) F 60 dX10_readsLane_53 (by decide) (fun c => ?_) (fun c => ?_)
      · have h := h.1 c
        exact g_weak [2, 1, 0] rfl (bX10_readsLane_60 F hR hx0 h)
      · have h := h.2 c
        refine g_iconst (pc := 56) F dX10_readsLane_56 ic_1 ?_
        refine g_goto (pc := 57) F 61 dX10_readsLane_57 (by decide) ?_
        exact g_weak [2, 1, 0] rfl (bX10_readsLane_61 F hR hx0 h)
def wX10_canBeNext_68 (rec : Int32 → Int32 → St → Prop) (Q : Int32 → St → Prop) (x1 : Nat) (n1 : Nat) (x2 : Int32) (x3 : Int32) (x4 : Int32) (x8 : Int32) (t0 : Int32) (s : St) : Prop :=
  rec t0 (x8 + (1 : Int32)) s
set_option maxHeartbeats 4000000 in
set_option maxRecDepth 100000 in
theorem bX10_canBeNext_68 {l : Launch} {V : Wv} {X : Mx} {rec : Int32 → Int32 → St → Prop} {Q : Int32 → St → Prop} {x1 : Nat} {n1 : Nat} {x2 : Int32} {x3 : Int32} {x4 : Int32} {x8 : Int32} {t0 : Int32} (F : Fx V X cX10_canBeNext RX10 9 1) (hR : RtZ l V X 9 cX10_canBeNext Q) (hx1 : V.2.1[x1]? = some (11, [n1])) (hrec : ∀ (y7 : Int32) (y8 : Int32) (s : St), rec y7 y8 s → G l V X 9 41 [(1, rf V x1), (2, .int x2), (3, .int x3), (4, .int x4), (7, .int y7), (8, .int y8)] [] s) {s : St} (h : wX10_canBeNext_68 rec Q x1 n1 x2 x3 x4 x8 t0 s) : G l V X 9 68 [(1, rf V x1), (2, .int x2), (3, .int x3), (4, .int x4), (8, .int x8)] [.int t0] s := by
  unfold wX10_canBeNext_68 at h
  refine g_istore (pc := 68) (lv' := [(_, _), (_, _), (_, _), (_, _), (_, _), (_, _)]) F dX10_canBeNext_68 (by decide) rfl ?_
  refine g_iinc (pc := 70) (lv' := [(_, _), (_, _), (_, _), (_, _), (_, _), (_, _)]) F dX10_canBeNext_70 5 rfl (congrArg _ ic_1) (by decide) rfl ?_
  refine g_goto (pc := 73) F 41 dX10_canBeNext_73 (by decide) ?_
  exact g_weak [2, 3, 4, 5, 1, 0] rfl (hrec _ _ _ h)
def wX10_canBeNext_67 (rec : Int32 → Int32 → St → Prop) (Q : Int32 → St → Prop) (x1 : Nat) (n1 : Nat) (x2 : Int32) (x3 : Int32) (x4 : Int32) (x8 : Int32) (s : St) : Prop :=
  wX10_canBeNext_68 (rec) Q x1 n1 x2 x3 x4 x8 (0 : Int32) s
set_option maxHeartbeats 4000000 in
set_option maxRecDepth 100000 in
theorem bX10_canBeNext_67 {l : Launch} {V : Wv} {X : Mx} {rec : Int32 → Int32 → St → Prop} {Q : Int32 → St → Prop} {x1 : Nat} {n1 : Nat} {x2 : Int32} {x3 : Int32} {x4 : Int32} {x8 : Int32} (F : Fx V X cX10_canBeNext RX10 9 1) (hR : RtZ l V X 9 cX10_canBeNext Q) (hx1 : V.2.1[x1]? = some (11, [n1])) (hrec : ∀ (y7 : Int32) (y8 : Int32) (s : St), rec y7 y8 s → G l V X 9 41 [(1, rf V x1), (2, .int x2), (3, .int x3), (4, .int x4), (7, .int y7), (8, .int y8)] [] s) {s : St} (h : wX10_canBeNext_67 rec Q x1 n1 x2 x3 x4 x8 s) : G l V X 9 67 [(1, rf V x1), (2, .int x2), (3, .int x3), (4, .int x4), (8, .int x8)] [] s := by
  unfold wX10_canBeNext_67 at h
  refine g_iconst (pc := 67) F dX10_canBeNext_67 ic_0 ?_
  exact g_weak [0, 1, 2, 3, 4] rfl (bX10_canBeNext_68 F hR hx1 hrec h)
def wX10_canBeNext_41 (x1 : Nat) (n1 : Nat) (x2 : Int32) (x3 : Int32) (x4 : Int32) (Q : Int32 → St → Prop) : Nat → Int32 → Int32 → St → Prop
  | 0, _, _, _ => False
  | n + 1, x7, x8, s =>
  ((x3 ≤ x8 → (isB x7 ∧ Q x7 s)) ∧ (¬ x3 ≤ x8 → ((x7 = 0 → wX10_canBeNext_67 (wX10_canBeNext_41 x1 n1 x2 x3 x4 Q n) Q x1 n1 x2 x3 x4 x8 s) ∧ (¬ x7 = 0 → vp_in (x2 + x8) n1 ∧ (((s.1 x1 (x2 + x8).toNatClampNeg) = x4 → wX10_canBeNext_67 (wX10_canBeNext_41 x1 n1 x2 x3 x4 Q n) Q x1 n1 x2 x3 x4 x8 s) ∧ (¬ (s.1 x1 (x2 + x8).toNatClampNeg) = x4 → wX10_canBeNext_68 (wX10_canBeNext_41 x1 n1 x2 x3 x4 Q n) Q x1 n1 x2 x3 x4 x8 (1 : Int32) s))))))
set_option maxHeartbeats 4000000 in
set_option maxRecDepth 100000 in
theorem bX10_canBeNext_41 {l : Launch} {V : Wv} {X : Mx} {x1 : Nat} {n1 : Nat} {x2 : Int32} {x3 : Int32} {x4 : Int32} {Q : Int32 → St → Prop} (F : Fx V X cX10_canBeNext RX10 9 1) (hR : RtZ l V X 9 cX10_canBeNext Q) (hx1 : V.2.1[x1]? = some (11, [n1]))  : ∀ (n : Nat) (x7 : Int32) (x8 : Int32) (s : St), wX10_canBeNext_41 x1 n1 x2 x3 x4 Q n x7 x8 s → G l V X 9 41 [(1, rf V x1), (2, .int x2), (3, .int x3), (4, .int x4), (7, .int x7), (8, .int x8)] [] s := by
  intro n
  induction n with
  | zero => intro x7 x8 s h; unfold wX10_canBeNext_41 at h; exact h.elim
  | succ n ih =>
    intro x7 x8 s h
    unfold wX10_canBeNext_41 at h
    refine g_iload (pc := 41) F dX10_canBeNext_41 5 rfl ?_
    refine g_iload_n (pc := 43) F dX10_canBeNext_43 rfl 2 rfl ?_
    refine g_icmp_ge (pc := 44) F 76 dX10_canBeNext_44 (by decide) (fun c => ?_) (fun c => ?_)
    · have h := h.1 c
      refine g_iload (pc := 76) F dX10_canBeNext_76 4 rfl ?_
      exact hR _ _ _ _ dX10_canBeNext_78 h.1 h.2
    · have h := h.2 c
      refine g_iload (pc := 47) F dX10_canBeNext_47 4 rfl ?_
      refine g_if_eq (pc := 49) F 67 dX10_canBeNext_49 (by decide) (fun c => ?_) (fun c => ?_)
      · have h := h.1 c
        exact g_weak [0, 1, 2, 3, 5] rfl (bX10_canBeNext_67 F hR hx1 ih h)
      · have h := h.2 c
        refine g_aload_n (pc := 52) F dX10_canBeNext_52 rfl 0 rfl ?_
        refine g_iload_n (pc := 53) F dX10_canBeNext_53 rfl 1 rfl ?_
        refine g_iload (pc := 54) F dX10_canBeNext_54 5 rfl ?_
        refine g_iadd (pc := 56) F dX10_canBeNext_56 ?_
        obtain ⟨hb_57, h⟩ := h
        refine g_iald (pc := 57) F hx1 hb_57 dX10_canBeNext_57 ?_
        refine g_iload (pc := 58) F dX10_canBeNext_58 3 rfl ?_
        refine g_icmp_eq (pc := 60) F 67 dX10_canBeNext_60 (by decide) (fun c => ?_) (fun c => ?_)
        · have h := h.1 c
          exact g_weak [0, 1, 2, 3, 5] rfl (bX10_canBeNext_67 F hR hx1 ih h)
        · have h := h.2 c
          refine g_iconst (pc := 63) F dX10_canBeNext_63 ic_1 ?_
          refine g_goto (pc := 64) F 68 dX10_canBeNext_64 (by decide) ?_
          exact g_weak [0, 1, 2, 3, 5] rfl (bX10_canBeNext_68 F hR hx1 ih h)
def wX10_canBeNext_36 (Q : Int32 → St → Prop) (x1 : Nat) (n1 : Nat) (x2 : Int32) (x3 : Int32) (x4 : Int32) (t0 : Int32) (s : St) : Prop :=
  (∃ k_41, wX10_canBeNext_41  x1 n1 x2 x3 x4  Q k_41 t0 (0 : Int32) s)
set_option maxHeartbeats 4000000 in
set_option maxRecDepth 100000 in
theorem bX10_canBeNext_36 {l : Launch} {V : Wv} {X : Mx} {Q : Int32 → St → Prop} {x1 : Nat} {n1 : Nat} {x2 : Int32} {x3 : Int32} {x4 : Int32} {t0 : Int32} (F : Fx V X cX10_canBeNext RX10 9 1) (hR : RtZ l V X 9 cX10_canBeNext Q) (hx1 : V.2.1[x1]? = some (11, [n1]))  {s : St} (h : wX10_canBeNext_36 Q x1 n1 x2 x3 x4 t0 s) : G l V X 9 36 [(1, rf V x1), (2, .int x2), (3, .int x3), (4, .int x4)] [.int t0] s := by
  unfold wX10_canBeNext_36 at h
  refine g_istore (pc := 36) (lv' := [(_, _), (_, _), (_, _), (_, _), (_, _)]) F dX10_canBeNext_36 (by decide) rfl ?_
  refine g_iconst (pc := 38) F dX10_canBeNext_38 ic_0 ?_
  refine g_istore (pc := 39) (lv' := [(_, _), (_, _), (_, _), (_, _), (_, _), (_, _)]) F dX10_canBeNext_39 (by decide) rfl ?_
  obtain ⟨k_41, h⟩ := h
  refine g_weak [2, 3, 4, 5, 1, 0] rfl (bX10_canBeNext_41 F hR hx1 k_41 _ _ _ h)
def wX10_canBeNext_31 (Q : Int32 → St → Prop) (x1 : Nat) (n1 : Nat) (x2 : Int32) (x3 : Int32) (x4 : Int32) (s : St) : Prop :=
  wX10_canBeNext_36 Q x1 n1 x2 x3 x4 (1 : Int32) s
set_option maxHeartbeats 4000000 in
set_option maxRecDepth 100000 in
theorem bX10_canBeNext_31 {l : Launch} {V : Wv} {X : Mx} {Q : Int32 → St → Prop} {x1 : Nat} {n1 : Nat} {x2 : Int32} {x3 : Int32} {x4 : Int32} (F : Fx V X cX10_canBeNext RX10 9 1) (hR : RtZ l V X 9 cX10_canBeNext Q) (hx1 : V.2.1[x1]? = some (11, [n1]))  {s : St} (h : wX10_canBeNext_31 Q x1 n1 x2 x3 x4 s) : G l V X 9 31 [(1, rf V x1), (2, .int x2), (3, .int x3), (4, .int x4)] [] s := by
  unfold wX10_canBeNext_31 at h
  refine g_iconst (pc := 31) F dX10_canBeNext_31 ic_1 ?_
  refine g_goto (pc := 32) F 36 dX10_canBeNext_32 (by decide) ?_
  exact g_weak [0, 1, 2, 3] rfl (bX10_canBeNext_36 F hR hx1 h)
def wX10_canBeNext_35 (Q : Int32 → St → Prop) (x1 : Nat) (n1 : Nat) (x2 : Int32) (x3 : Int32) (x4 : Int32) (s : St) : Prop :=
  wX10_canBeNext_36 Q x1 n1 x2 x3 x4 (0 : Int32) s
set_option maxHeartbeats 4000000 in
set_option maxRecDepth 100000 in
theorem bX10_canBeNext_35 {l : Launch} {V : Wv} {X : Mx} {Q : Int32 → St → Prop} {x1 : Nat} {n1 : Nat} {x2 : Int32} {x3 : Int32} {x4 : Int32} (F : Fx V X cX10_canBeNext RX10 9 1) (hR : RtZ l V X 9 cX10_canBeNext Q) (hx1 : V.2.1[x1]? = some (11, [n1]))  {s : St} (h : wX10_canBeNext_35 Q x1 n1 x2 x3 x4 s) : G l V X 9 35 [(1, rf V x1), (2, .int x2), (3, .int x3), (4, .int x4)] [] s := by
  unfold wX10_canBeNext_35 at h
  refine g_iconst (pc := 35) F dX10_canBeNext_35 ic_0 ?_
  exact g_weak [0, 1, 2, 3] rfl (bX10_canBeNext_36 F hR hx1 h)
def wX10_canBeNext (x0 : Nat) (x1 : Nat) (n1 : Nat) (x2 : Int32) (x3 : Int32) (x4 : Int32) (x5 : Int32) (x6 : Int32) (s : St) (Q : Int32 → St → Prop) : Prop :=
  ((x3 = 0 → wX10_canBeNext_31 Q x1 n1 x2 x3 x4 s) ∧ (¬ x3 = 0 → (((5 : Int32) ≤ x3 → wX10_canBeNext_35 Q x1 n1 x2 x3 x4 s) ∧ (¬ (5 : Int32) ≤ x3 → vp_in ((x2 + x3) - (1 : Int32)) n1 ∧ wX10_laneOf x0 x5 x6 (s.1 x1 ((x2 + x3) - (1 : Int32)).toNatClampNeg) x4 s (fun r_23 s_23 => ((r_23 = (-9 : Int32) → wX10_canBeNext_35 Q x1 n1 x2 x3 x4 s_23) ∧ (¬ r_23 = (-9 : Int32) → wX10_canBeNext_31 Q x1 n1 x2 x3 x4 s_23)))))))
set_option maxHeartbeats 4000000 in
set_option maxRecDepth 100000 in
theorem mX10_canBeNext {l : Launch} {V : Wv} {x0 : Nat} {x1 : Nat} {n1 : Nat} {x2 : Int32} {x3 : Int32} {x4 : Int32} {x5 : Int32} {x6 : Int32} {s : St} {Q : Int32 → St → Prop} (hx0 : isX10 V x0) (hx1 : V.2.1[x1]? = some (11, [n1])) (h : wX10_canBeNext x0 x1 n1 x2 x3 x4 x5 x6 s Q) : Ci yX10_canBeNext cX10_canBeNext 9 (some .boolean) (1) l V [rf V x0, rf V x1, .int x2, .int x3, .int x4, .int x5, .int x6] s Q := by
  unfold wX10_canBeNext at h
  refine Cz.of mvX10_canBeNext.1 (Nat.le_of_ble_eq_true rfl) (fun X F hR => ?_)
  refine g_lv (lv' := [(_, _), (_, _), (_, _), (_, _), (_, _), (_, _), (_, _)]) rfl ?_
  refine g_iload_n (pc := 0) F dX10_canBeNext_0 rfl 3 rfl ?_
  refine g_if_eq (pc := 1) F 31 dX10_canBeNext_1 (by decide) (fun c => ?_) (fun c => ?_)
  · have h := h.1 c
    exact g_weak [1, 2, 3, 4] rfl (bX10_canBeNext_31 F hR hx1 h)
  · have h := h.2 c
    refine g_iload_n (pc := 4) F dX10_canBeNext_4 rfl 3 rfl ?_
    refine g_iconst (pc := 5) F dX10_canBeNext_5 ic_5 ?_
    refine g_icmp_ge (pc := 6) F 35 dX10_canBeNext_6 (by decide) (fun c => ?_) (fun c => ?_)
    · have h := h.1 c
      exact g_weak [1, 2, 3, 4] rfl (bX10_canBeNext_35 F hR hx1 h)
    · have h := h.2 c
      refine g_aload_n (pc := 9) F dX10_canBeNext_9 rfl 0 rfl ?_
      refine g_iload (pc := 10) F dX10_canBeNext_10 5 rfl ?_
      refine g_iload (pc := 12) F dX10_canBeNext_12 6 rfl ?_
      refine g_aload_n (pc := 14) F dX10_canBeNext_14 rfl 1 rfl ?_
      refine g_iload_n (pc := 15) F dX10_canBeNext_15 rfl 2 rfl ?_
      refine g_iload_n (pc := 16) F dX10_canBeNext_16 rfl 3 rfl ?_
      refine g_iadd (pc := 17) F dX10_canBeNext_17 ?_
      refine g_iconst (pc := 18) F dX10_canBeNext_18 ic_1 ?_
      refine g_isub (pc := 19) F dX10_canBeNext_19 ?_
      obtain ⟨hb_20, h⟩ := h
      refine g_iald (pc := 20) F hx1 hb_20 dX10_canBeNext_20 ?_
      refine g_iload (pc := 21) F dX10_canBeNext_21 4 rfl ?_
      refine g_callVi (pc := 23) F (mX10_laneOf hx0 h) mvX10_laneOf uX10_134 (by decide) clX10 hx0.1 rfl rfl (Nat.le_of_ble_eq_true rfl) dX10_canBeNext_23 (fun r_23 s_23 h => ?_)
      refine g_bipush (pc := 26) F dX10_canBeNext_26 bp_m9 ?_
      refine g_icmp_eq (pc := 28) F 35 dX10_canBeNext_28 (by decide) (fun c => ?_) (fun c => ?_)
      · have h := h.1 c
        exact g_weak [1, 2, 3, 4] rfl (bX10_canBeNext_35 F hR hx1 h)
      · have h := h.2 c
        exact g_weak [1, 2, 3, 4] rfl (bX10_canBeNext_31 F hR hx1 h)
