/-! printed by program: what each method does to the state (w..), and that its code does so (b.., m..) -/
def wX7_add (x0 : Nat) (x1 : Int32) (s : St) (Q : Int32 → St → Prop) : Prop :=
  (((s.1 x0 0) < (120 : Int32) → vp_in (s.1 x0 0) 120 ∧ ∀ s_20 : St, s_20 = stI s (x0 + 1) (s.1 x0 0).toNatClampNeg x1 → ∀ s_28 : St, s_28 = stI s_20 x0 0 ((s_20.1 x0 0) + (1 : Int32)) → Q (1 : Int32) s_28) ∧ (¬ (s.1 x0 0) < (120 : Int32) → Q (0 : Int32) s))
set_option maxHeartbeats 4000000 in
set_option maxRecDepth 100000 in
theorem mX7_add {l : Launch} {V : Wv} {x0 : Nat} {x1 : Int32} {s : St} {Q : Int32 → St → Prop} (hx0 : isX7 V x0) (h : wX7_add x0 x1 s Q) : Ci yX7_add cX7_add 2 (some .boolean) (0) l V [rf V x0, .int x1] s Q := by
  unfold wX7_add at h
  refine Cz.of mvX7_add.1 (Nat.le_of_ble_eq_true rfl) (fun X F hR => ?_)
  refine g_lv (lv' := [(_, _), (_, _)]) rfl ?_
  refine g_aload_n (pc := 0) F dX7_add_0 rfl 0 rfl ?_
  refine g_getI (pc := 1) F clX7 hx0.1 0 rfl (by decide) uX7_9 dX7_add_1 ?_
  refine g_bipush (pc := 4) F dX7_add_4 bp_120 ?_
  refine g_icmp_lt (pc := 6) F 11 dX7_add_6 (by decide) (fun c => ?_) (fun c => ?_)
  · have h := h.1 c
    refine g_aload_n (pc := 11) F dX7_add_11 rfl 0 rfl ?_
    refine g_getR (pc := 12) F clX7 hx0.1 1 _ rfl (by decide) uX7_15 dX7_add_12 ?_
    refine g_aload_n (pc := 15) F dX7_add_15 rfl 0 rfl ?_
    refine g_getI (pc := 16) F clX7 hx0.1 0 rfl (by decide) uX7_9 dX7_add_16 ?_
    refine g_iload_n (pc := 19) F dX7_add_19 rfl 1 rfl ?_
    obtain ⟨hb_20, h⟩ := h
    have h := h _ rfl
    refine g_iast (pc := 20) F hx0.2 hb_20 dX7_add_20 ?_
    refine g_aload_n (pc := 21) F dX7_add_21 rfl 0 rfl ?_
    refine g_dup (pc := 22) F dX7_add_22 rfl ?_
    refine g_getI (pc := 23) F clX7 hx0.1 0 rfl (by decide) uX7_9 dX7_add_23 ?_
    refine g_iconst (pc := 26) F dX7_add_26 ic_1 ?_
    refine g_iadd (pc := 27) F dX7_add_27 ?_
    have h := h _ rfl
    refine g_putI (pc := 28) F clX7 hx0.1 0 rfl (by decide) rfl (tyX7_ok 0 (by decide)) uX7_9 dX7_add_28 ?_
    refine g_iconst (pc := 31) F dX7_add_31 ic_1 ?_
    exact hR _ _ _ _ dX7_add_32 (Or.inr rfl) h
  · have h := h.2 c
    refine g_iconst (pc := 9) F dX7_add_9 ic_0 ?_
    exact hR _ _ _ _ dX7_add_10 (Or.inl rfl) h
def wX7_empty (x0 : Nat) (s : St) (Q : Int32 → St → Prop) : Prop :=
  ∀ s_7 : St, s_7 = stI s x0 0 (0 : Int32) → Q (s.1 x0 0) s_7
set_option maxHeartbeats 4000000 in
set_option maxRecDepth 100000 in
theorem mX7_empty {l : Launch} {V : Wv} {x0 : Nat} {s : St} {Q : Int32 → St → Prop} (hx0 : isX7 V x0) (h : wX7_empty x0 s Q) : Ci yX7_empty cX7_empty 2 (some .int) (0) l V [rf V x0] s Q := by
  unfold wX7_empty at h
  refine Ci.of mvX7_empty.1 (Nat.le_of_ble_eq_true rfl) (fun X F hR => ?_)
  refine g_lv (lv' := [(_, _)]) rfl ?_
  refine g_aload_n (pc := 0) F dX7_empty_0 rfl 0 rfl ?_
  refine g_getI (pc := 1) F clX7 hx0.1 0 rfl (by decide) uX7_9 dX7_empty_1 ?_
  refine g_istore_n (pc := 4) (lv' := [(_, _), (_, _)]) F dX7_empty_4 rfl (by decide) rfl ?_
  refine g_aload_n (pc := 5) F dX7_empty_5 rfl 1 rfl ?_
  refine g_iconst (pc := 6) F dX7_empty_6 ic_0 ?_
  have h := h _ rfl
  refine g_putI (pc := 7) F clX7 hx0.1 0 rfl (by decide) rfl (tyX7_ok 0 (by decide)) uX7_9 dX7_empty_7 ?_
  refine g_iload_n (pc := 10) F dX7_empty_10 rfl 0 rfl ?_
  exact hR _ _ _ _ dX7_empty_11 h
def wX7_isDigit (x0 : Int32) (s : St) (Q : Int32 → St → Prop) : Prop :=
  ((x0 < (48 : Int32) → Q (0 : Int32) s) ∧ (¬ x0 < (48 : Int32) → (((57 : Int32) < x0 → Q (0 : Int32) s) ∧ (¬ (57 : Int32) < x0 → Q (1 : Int32) s))))
set_option maxHeartbeats 4000000 in
set_option maxRecDepth 100000 in
theorem mX7_isDigit {l : Launch} {V : Wv} {x0 : Int32} {s : St} {Q : Int32 → St → Prop}  (h : wX7_isDigit x0 s Q) : Ci yX7_isDigit cX7_isDigit 1 (some .boolean) (0) l V [.int x0] s Q := by
  unfold wX7_isDigit at h
  refine Cz.of mvX7_isDigit.1 (Nat.le_of_ble_eq_true rfl) (fun X F hR => ?_)
  refine g_lv (lv' := [(_, _)]) rfl ?_
  refine g_iload_n (pc := 0) F dX7_isDigit_0 rfl 0 rfl ?_
  refine g_bipush (pc := 1) F dX7_isDigit_1 bp_48 ?_
  refine g_icmp_lt (pc := 3) F 16 dX7_isDigit_3 (by decide) (fun c => ?_) (fun c => ?_)
  · have h := h.1 c
    refine g_iconst (pc := 16) F dX7_isDigit_16 ic_0 ?_
    exact hR _ _ _ _ dX7_isDigit_17 (Or.inl rfl) h
  · have h := h.2 c
    refine g_iload_n (pc := 6) F dX7_isDigit_6 rfl 0 rfl ?_
    refine g_bipush (pc := 7) F dX7_isDigit_7 bp_57 ?_
    refine g_icmp_gt (pc := 9) F 16 dX7_isDigit_9 (by decide) (fun c => ?_) (fun c => ?_)
    · have h := h.1 c
      refine g_iconst (pc := 16) F dX7_isDigit_16 ic_0 ?_
      exact hR _ _ _ _ dX7_isDigit_17 (Or.inl rfl) h
    · have h := h.2 c
      refine g_iconst (pc := 12) F dX7_isDigit_12 ic_1 ?_
      refine g_goto (pc := 13) F 17 dX7_isDigit_13 (by decide) ?_
      exact hR _ _ _ _ dX7_isDigit_17 (Or.inr rfl) h
def wX7_numberToken_46 (Q : Int32 → St → Prop)  (s : St) : Prop :=
  Q (2 : Int32) s
set_option maxHeartbeats 4000000 in
set_option maxRecDepth 100000 in
theorem bX7_numberToken_46 {l : Launch} {V : Wv} {X : Mx} {Q : Int32 → St → Prop}  (F : Fx V X cX7_numberToken RX7 2 0) (hR : RtI l V X 2 cX7_numberToken Q)   {s : St} (h : wX7_numberToken_46 Q  s) : G l V X 2 46 [] [] s := by
  unfold wX7_numberToken_46 at h
  refine g_iconst (pc := 46) F dX7_numberToken_46 ic_2 ?_
  refine g_goto (pc := 47) F 51 dX7_numberToken_47 (by decide) ?_
  exact hR _ _ _ _ dX7_numberToken_51 h
def wX7_numberToken_32 (Q : Int32 → St → Prop) (x0 : Nat) (t0 : Int32) (s : St) : Prop :=
  ((¬ t0 = 0 → wX7_numberToken_46 Q  s) ∧ (t0 = 0 → (((s.1 x0 5) ≤ (99 : Int32) → Q (1 : Int32) s) ∧ (¬ (s.1 x0 5) ≤ (99 : Int32) → wX7_numberToken_46 Q  s))))
set_option maxHeartbeats 4000000 in
set_option maxRecDepth 100000 in
theorem bX7_numberToken_32 {l : Launch} {V : Wv} {X : Mx} {Q : Int32 → St → Prop} {x0 : Nat} {t0 : Int32} (F : Fx V X cX7_numberToken RX7 2 0) (hR : RtI l V X 2 cX7_numberToken Q) (hx0 : isX7 V x0)  {s : St} (h : wX7_numberToken_32 Q x0 t0 s) : G l V X 2 32 [(0, rf V x0)] [.int t0] s := by
  unfold wX7_numberToken_32 at h
  refine g_istore_n (pc := 32) (lv' := [(_, _), (_, _)]) F dX7_numberToken_32 rfl (by decide) rfl ?_
  refine g_iload_n (pc := 33) F dX7_numberToken_33 rfl 0 rfl ?_
  refine g_if_ne (pc := 34) F 46 dX7_numberToken_34 (by decide) (fun c => ?_) (fun c => ?_)
  · have h := h.1 c
    exact g_weak [] rfl (bX7_numberToken_46 F hR  h)
  · have h := h.2 c
    refine g_aload_n (pc := 37) F dX7_numberToken_37 rfl 1 rfl ?_
    refine g_getI (pc := 38) F clX7 hx0.1 5 rfl (by decide) uX7_28 dX7_numberToken_38 ?_
    refine g_bipush (pc := 41) F dX7_numberToken_41 bp_99 ?_
    refine g_icmp_le (pc := 43) F 50 dX7_numberToken_43 (by decide) (fun c => ?_) (fun c => ?_)
    · have h := h.1 c
      refine g_iconst (pc := 50) F dX7_numberToken_50 ic_1 ?_
      exact hR _ _ _ _ dX7_numberToken_51 h
    · have h := h.2 c
      exact g_weak [] rfl (bX7_numberToken_46 F hR  h)
def wX7_numberToken_31 (Q : Int32 → St → Prop) (x0 : Nat) (s : St) : Prop :=
  wX7_numberToken_32 Q x0 (0 : Int32) s
set_option maxHeartbeats 4000000 in
set_option maxRecDepth 100000 in
theorem bX7_numberToken_31 {l : Launch} {V : Wv} {X : Mx} {Q : Int32 → St → Prop} {x0 : Nat} (F : Fx V X cX7_numberToken RX7 2 0) (hR : RtI l V X 2 cX7_numberToken Q) (hx0 : isX7 V x0)  {s : St} (h : wX7_numberToken_31 Q x0 s) : G l V X 2 31 [(0, rf V x0)] [] s := by
  unfold wX7_numberToken_31 at h
  refine g_iconst (pc := 31) F dX7_numberToken_31 ic_0 ?_
  exact g_weak [0] rfl (bX7_numberToken_32 F hR hx0 h)
def wX7_numberToken (x0 : Nat) (s : St) (Q : Int32 → St → Prop) : Prop :=
  ((((s.1 x0 3) - (s.1 x0 2)) ≤ (1 : Int32) → wX7_numberToken_31 Q x0 s) ∧ (¬ ((s.1 x0 3) - (s.1 x0 2)) ≤ (1 : Int32) → vp_in (s.1 x0 2) 120 ∧ ((¬ (s.1 (x0 + 1) (s.1 x0 2).toNatClampNeg) = (48 : Int32) → wX7_numberToken_31 Q x0 s) ∧ ((s.1 (x0 + 1) (s.1 x0 2).toNatClampNeg) = (48 : Int32) → wX7_numberToken_32 Q x0 (1 : Int32) s))))
set_option maxHeartbeats 4000000 in
set_option maxRecDepth 100000 in
theorem mX7_numberToken {l : Launch} {V : Wv} {x0 : Nat} {s : St} {Q : Int32 → St → Prop} (hx0 : isX7 V x0) (h : wX7_numberToken x0 s Q) : Ci yX7_numberToken cX7_numberToken 2 (some .int) (0) l V [rf V x0] s Q := by
  unfold wX7_numberToken at h
  refine Ci.of mvX7_numberToken.1 (Nat.le_of_ble_eq_true rfl) (fun X F hR => ?_)
  refine g_lv (lv' := [(_, _)]) rfl ?_
  refine g_aload_n (pc := 0) F dX7_numberToken_0 rfl 0 rfl ?_
  refine g_getI (pc := 1) F clX7 hx0.1 3 rfl (by decide) uX7_22 dX7_numberToken_1 ?_
  refine g_aload_n (pc := 4) F dX7_numberToken_4 rfl 0 rfl ?_
  refine g_getI (pc := 5) F clX7 hx0.1 2 rfl (by decide) uX7_19 dX7_numberToken_5 ?_
  refine g_isub (pc := 8) F dX7_numberToken_8 ?_
  refine g_iconst (pc := 9) F dX7_numberToken_9 ic_1 ?_
  refine g_icmp_le (pc := 10) F 31 dX7_numberToken_10 (by decide) (fun c => ?_) (fun c => ?_)
  · have h := h.1 c
    exact g_weak [0] rfl (bX7_numberToken_31 F hR hx0 h)
  · have h := h.2 c
    refine g_aload_n (pc := 13) F dX7_numberToken_13 rfl 0 rfl ?_
    refine g_getR (pc := 14) F clX7 hx0.1 1 _ rfl (by decide) uX7_15 dX7_numberToken_14 ?_
    refine g_aload_n (pc := 17) F dX7_numberToken_17 rfl 0 rfl ?_
    refine g_getI (pc := 18) F clX7 hx0.1 2 rfl (by decide) uX7_19 dX7_numberToken_18 ?_
    obtain ⟨hb_21, h⟩ := h
    refine g_iald (pc := 21) F hx0.2 hb_21 dX7_numberToken_21 ?_
    refine g_bipush (pc := 22) F dX7_numberToken_22 bp_48 ?_
    refine g_icmp_ne (pc := 24) F 31 dX7_numberToken_24 (by decide) (fun c => ?_) (fun c => ?_)
    · have h := h.1 c
      exact g_weak [0] rfl (bX7_numberToken_31 F hR hx0 h)
    · have h := h.2 c
      refine g_iconst (pc := 27) F dX7_numberToken_27 ic_1 ?_
      refine g_goto (pc := 28) F 32 dX7_numberToken_28 (by decide) ?_
      exact g_weak [0] rfl (bX7_numberToken_32 F hR hx0 h)
def wX7_letterToken_62 (Q : Int32 → St → Prop) (x1 : Int32) (t0 : Int32) (s : St) : Prop :=
  ((t0 = 0 → Q (2 : Int32) s) ∧ (¬ t0 = 0 → Q x1 s))
set_option maxHeartbeats 4000000 in
set_option maxRecDepth 100000 in
theorem bX7_letterToken_62 {l : Launch} {V : Wv} {X : Mx} {Q : Int32 → St → Prop} {x1 : Int32} {t0 : Int32} (F : Fx V X cX7_letterToken RX7 3 0) (hR : RtI l V X 3 cX7_letterToken Q)   {s : St} (h : wX7_letterToken_62 Q x1 t0 s) : G l V X 3 62 [(1, .int x1)] [.int t0] s := by
  unfold wX7_letterToken_62 at h
  refine g_istore_n (pc := 62) (lv' := [(_, _), (_, _)]) F dX7_letterToken_62 rfl (by decide) rfl ?_
  refine g_iload_n (pc := 63) F dX7_letterToken_63 rfl 0 rfl ?_
  refine g_if_eq (pc := 64) F 71 dX7_letterToken_64 (by decide) (fun c => ?_) (fun c => ?_)
  · have h := h.1 c
    refine g_iconst (pc := 71) F dX7_letterToken_71 ic_2 ?_
    exact hR _ _ _ _ dX7_letterToken_72 h
  · have h := h.2 c
    refine g_iload_n (pc := 67) F dX7_letterToken_67 rfl 1 rfl ?_
    refine g_goto (pc := 68) F 72 dX7_letterToken_68 (by decide) ?_
    exact hR _ _ _ _ dX7_letterToken_72 h
def wX7_letterToken_57 (Q : Int32 → St → Prop) (x1 : Int32) (s : St) : Prop :=
  wX7_letterToken_62 Q x1 (1 : Int32) s
set_option maxHeartbeats 4000000 in
set_option maxRecDepth 100000 in
theorem bX7_letterToken_57 {l : Launch} {V : Wv} {X : Mx} {Q : Int32 → St → Prop} {x1 : Int32} (F : Fx V X cX7_letterToken RX7 3 0) (hR : RtI l V X 3 cX7_letterToken Q)   {s : St} (h : wX7_letterToken_57 Q x1 s) : G l V X 3 57 [(1, .int x1)] [] s := by
  unfold wX7_letterToken_57 at h
  refine g_iconst (pc := 57) F dX7_letterToken_57 ic_1 ?_
  refine g_goto (pc := 58) F 62 dX7_letterToken_58 (by decide) ?_
  exact g_weak [0] rfl (bX7_letterToken_62 F hR  h)
def wX7_letterToken (x0 : Nat) (s : St) (Q : Int32 → St → Prop) : Prop :=
  (((s.1 x0 3) < (s.1 x0 0) → vp_in (s.1 x0 3) 120 ∧ ∀ s_30 : St, s_30 = stI s x0 3 ((s.1 x0 3) + (1 : Int32)) → (((s.1 (x0 + 1) (s.1 x0 3).toNatClampNeg) = (110 : Int32) → wX7_letterToken_57 Q (s.1 (x0 + 1) (s.1 x0 3).toNatClampNeg) s_30) ∧ (¬ (s.1 (x0 + 1) (s.1 x0 3).toNatClampNeg) = (110 : Int32) → (((s.1 (x0 + 1) (s.1 x0 3).toNatClampNeg) = (108 : Int32) → wX7_letterToken_57 Q (s.1 (x0 + 1) (s.1 x0 3).toNatClampNeg) s_30) ∧ (¬ (s.1 (x0 + 1) (s.1 x0 3).toNatClampNeg) = (108 : Int32) → (((s.1 (x0 + 1) (s.1 x0 3).toNatClampNeg) = (109 : Int32) → wX7_letterToken_57 Q (s.1 (x0 + 1) (s.1 x0 3).toNatClampNeg) s_30) ∧ (¬ (s.1 (x0 + 1) (s.1 x0 3).toNatClampNeg) = (109 : Int32) → ((¬ (s.1 (x0 + 1) (s.1 x0 3).toNatClampNeg) = (59 : Int32) → wX7_letterToken_62 Q (s.1 (x0 + 1) (s.1 x0 3).toNatClampNeg) (0 : Int32) s_30) ∧ ((s.1 (x0 + 1) (s.1 x0 3).toNatClampNeg) = (59 : Int32) → wX7_letterToken_57 Q (s.1 (x0 + 1) (s.1 x0 3).toNatClampNeg) s_30))))))))) ∧ (¬ (s.1 x0 3) < (s.1 x0 0) → Q (0 : Int32) s))
set_option maxHeartbeats 4000000 in
set_option maxRecDepth 100000 in
theorem mX7_letterToken {l : Launch} {V : Wv} {x0 : Nat} {s : St} {Q : Int32 → St → Prop} (hx0 : isX7 V x0) (h : wX7_letterToken x0 s Q) : Ci yX7_letterToken cX7_letterToken 3 (some .int) (0) l V [rf V x0] s Q := by
  unfold wX7_letterToken at h
  refine Ci.of mvX7_letterToken.1 (Nat.le_of_ble_eq_true rfl) (fun X F hR => ?_)
  refine g_lv (lv' := [(_, _)]) rfl ?_
  refine g_aload_n (pc := 0) F dX7_letterToken_0 rfl 0 rfl ?_
  refine g_getI (pc := 1) F clX7 hx0.1 3 rfl (by decide) uX7_22 dX7_letterToken_1 ?_
  refine g_aload_n (pc := 4) F dX7_letterToken_4 rfl 0 rfl ?_
  refine g_getI (pc := 5) F clX7 hx0.1 0 rfl (by decide) uX7_9 dX7_letterToken_5 ?_
  refine g_icmp_lt (pc := 8) F 13 dX7_letterToken_8 (by decide) (fun c => ?_) (fun c => ?_)
  · have h := h.1 c
    refine g_aload_n (pc := 13) F dX7_letterToken_13 rfl 0 rfl ?_
    refine g_getR (pc := 14) F clX7 hx0.1 1 _ rfl (by decide) uX7_15 dX7_letterToken_14 ?_
    refine g_aload_n (pc := 17) F dX7_letterToken_17 rfl 0 rfl ?_
    refine g_getI (pc := 18) F clX7 hx0.1 3 rfl (by decide) uX7_22 dX7_letterToken_18 ?_
    obtain ⟨hb_21, h⟩ := h
    refine g_iald (pc := 21) F hx0.2 hb_21 dX7_letterToken_21 ?_
    refine g_istore_n (pc := 22) (lv' := [(_, _), (_, _)]) F dX7_letterToken_22 rfl (by decide) rfl ?_
    refine g_aload_n (pc := 23) F dX7_letterToken_23 rfl 1 rfl ?_
    refine g_dup (pc := 24) F dX7_letterToken_24 rfl ?_
    refine g_getI (pc := 25) F clX7 hx0.1 3 rfl (by decide) uX7_22 dX7_letterToken_25 ?_
    refine g_iconst (pc := 28) F dX7_letterToken_28 ic_1 ?_
    refine g_iadd (pc := 29) F dX7_letterToken_29 ?_
    have h := h _ rfl
    refine g_putI (pc := 30) F clX7 hx0.1 3 rfl (by decide) rfl (tyX7_ok 3 (by decide)) uX7_22 dX7_letterToken_30 ?_
    refine g_iload_n (pc := 33) F dX7_letterToken_33 rfl 0 rfl ?_
    refine g_bipush (pc := 34) F dX7_letterToken_34 bp_110 ?_
    refine g_icmp_eq (pc := 36) F 57 dX7_letterToken_36 (by decide) (fun c => ?_) (fun c => ?_)
    · have h := h.1 c
      exact g_weak [0] rfl (bX7_letterToken_57 F hR  h)
    · have h := h.2 c
      refine g_iload_n (pc := 39) F dX7_letterToken_39 rfl 0 rfl ?_
      refine g_bipush (pc := 40) F dX7_letterToken_40 bp_108 ?_
      refine g_icmp_eq (pc := 42) F 57 dX7_letterToken_42 (by decide) (fun c => ?_) (fun c => ?_)
      · have h := h.1 c
        exact g_weak [0] rfl (bX7_letterToken_57 F hR  h)
      · have h := h.2 c
        refine g_iload_n (pc := 45) F dX7_letterToken_45 rfl 0 rfl ?_
        refine g_bipush (pc := 46) F dX7_letterToken_46 bp_109 ?_
        refine g_icmp_eq (pc := 48) F 57 dX7_letterToken_48 (by decide) (fun c => ?_) (fun c => ?_)
        · have h := h.1 c
          exact g_weak [0] rfl (bX7_letterToken_57 F hR  h)
        · have h := h.2 c
          refine g_iload_n (pc := 51) F dX7_letterToken_51 rfl 0 rfl ?_
          refine g_bipush (pc := 52) F dX7_letterToken_52 bp_59 ?_
          refine g_icmp_ne (pc := 54) F 61 dX7_letterToken_54 (by decide) (fun c => ?_) (fun c => ?_)
          · have h := h.1 c
            refine g_iconst (pc := 61) F dX7_letterToken_61 ic_0 ?_
            exact g_weak [0] rfl (bX7_letterToken_62 F hR  h)
          · have h := h.2 c
            exact g_weak [0] rfl (bX7_letterToken_57 F hR  h)
  · have h := h.2 c
    refine g_iconst (pc := 11) F dX7_letterToken_11 ic_0 ?_
    exact hR _ _ _ _ dX7_letterToken_12 h
def wX7_step_0 (x0 : Nat) (K38 : St → Prop) (Q : St → Prop) : Nat → St → Prop
  | 0, _ => False
  | n + 1, s =>
  (((s.1 x0 0) ≤ (s.1 x0 3) → K38  s) ∧ (¬ (s.1 x0 0) ≤ (s.1 x0 3) → vp_in (s.1 x0 3) 120 ∧ ((¬ (s.1 (x0 + 1) (s.1 x0 3).toNatClampNeg) = (32 : Int32) → K38  s) ∧ ((s.1 (x0 + 1) (s.1 x0 3).toNatClampNeg) = (32 : Int32) → ∀ s_32 : St, s_32 = stI s x0 3 ((s.1 x0 3) + (1 : Int32)) → wX7_step_0 x0 K38 Q n  s_32))))
set_option maxHeartbeats 4000000 in
set_option maxRecDepth 100000 in
theorem bX7_step_0 {l : Launch} {V : Wv} {X : Mx} {x0 : Nat} {K38 : St → Prop} {Q : St → Prop} (F : Fx V X cX7_step RX7 1 1) (hR : RtV l V X 1 cX7_step Q) (hx0 : isX7 V x0) (hK38 : ∀  (s : St), K38  s → G l V X 1 38 [(0, rf V x0)] [] s) : ∀ (n : Nat)  (s : St), wX7_step_0 x0 K38 Q n  s → G l V X 1 0 [(0, rf V x0)] [] s := by
  intro n
  induction n with
  | zero => intro  s h; unfold wX7_step_0 at h; exact h.elim
  | succ n ih =>
    intro  s h
    unfold wX7_step_0 at h
    refine g_aload_n (pc := 0) F dX7_step_0 rfl 0 rfl ?_
    refine g_getI (pc := 1) F clX7 hx0.1 3 rfl (by decide) uX7_22 dX7_step_1 ?_
    refine g_aload_n (pc := 4) F dX7_step_4 rfl 0 rfl ?_
    refine g_getI (pc := 5) F clX7 hx0.1 0 rfl (by decide) uX7_9 dX7_step_5 ?_
    refine g_icmp_ge (pc := 8) F 38 dX7_step_8 (by decide) (fun c => ?_) (fun c => ?_)
    · have h := h.1 c
      exact g_weak [0] rfl (hK38 _ h)
    · have h := h.2 c
      refine g_aload_n (pc := 11) F dX7_step_11 rfl 0 rfl ?_
      refine g_getR (pc := 12) F clX7 hx0.1 1 _ rfl (by decide) uX7_15 dX7_step_12 ?_
      refine g_aload_n (pc := 15) F dX7_step_15 rfl 0 rfl ?_
      refine g_getI (pc := 16) F clX7 hx0.1 3 rfl (by decide) uX7_22 dX7_step_16 ?_
      obtain ⟨hb_19, h⟩ := h
      refine g_iald (pc := 19) F hx0.2 hb_19 dX7_step_19 ?_
      refine g_bipush (pc := 20) F dX7_step_20 bp_32 ?_
      refine g_icmp_ne (pc := 22) F 38 dX7_step_22 (by decide) (fun c => ?_) (fun c => ?_)
      · have h := h.1 c
        exact g_weak [0] rfl (hK38 _ h)
      · have h := h.2 c
        refine g_aload_n (pc := 25) F dX7_step_25 rfl 0 rfl ?_
        refine g_dup (pc := 26) F dX7_step_26 rfl ?_
        refine g_getI (pc := 27) F clX7 hx0.1 3 rfl (by decide) uX7_22 dX7_step_27 ?_
        refine g_iconst (pc := 30) F dX7_step_30 ic_1 ?_
        refine g_iadd (pc := 31) F dX7_step_31 ?_
        have h := h _ rfl
        refine g_putI (pc := 32) F clX7 hx0.1 3 rfl (by decide) rfl (tyX7_ok 3 (by decide)) uX7_22 dX7_step_32 ?_
        refine g_goto (pc := 35) F 0 dX7_step_35 (by decide) ?_
        exact g_weak [0] rfl (ih _ h)
def wX7_step_114 (rec : St → Prop) (K130 : St → Prop) (Q : St → Prop) (x0 : Nat) (t0 : Int32) (t1 : Nat) (s : St) : Prop :=
  ∀ s_114 : St, s_114 = stI s t1 5 t0 → ∀ s_124 : St, s_124 = stI s_114 x0 3 ((s_114.1 x0 3) + (1 : Int32)) → rec  s_124
set_option maxHeartbeats 4000000 in
set_option maxRecDepth 100000 in
theorem bX7_step_114 {l : Launch} {V : Wv} {X : Mx} {rec : St → Prop} {K130 : St → Prop} {Q : St → Prop} {x0 : Nat} {t0 : Int32} {t1 : Nat} (F : Fx V X cX7_step RX7 1 1) (hR : RtV l V X 1 cX7_step Q) (hx0 : isX7 V x0) (ht1 : isX7 V t1) (hrec : ∀  (s : St), rec  s → G l V X 1 51 [(0, rf V x0)] [] s) (hK130 : ∀  (s : St), K130  s → G l V X 1 130 [(0, rf V x0)] [] s) {s : St} (h : wX7_step_114 rec K130 Q x0 t0 t1 s) : G l V X 1 114 [(0, rf V x0)] [.int t0, rf V t1] s := by
  unfold wX7_step_114 at h
  have h := h _ rfl
  refine g_putI (pc := 114) F clX7 ht1.1 5 rfl (by decide) rfl (tyX7_ok 5 (by decide)) uX7_28 dX7_step_114 ?_
  refine g_aload_n (pc := 117) F dX7_step_117 rfl 0 rfl ?_
  refine g_dup (pc := 118) F dX7_step_118 rfl ?_
  refine g_getI (pc := 119) F clX7 hx0.1 3 rfl (by decide) uX7_22 dX7_step_119 ?_
  refine g_iconst (pc := 122) F dX7_step_122 ic_1 ?_
  refine g_iadd (pc := 123) F dX7_step_123 ?_
  have h := h _ rfl
  refine g_putI (pc := 124) F clX7 hx0.1 3 rfl (by decide) rfl (tyX7_ok 3 (by decide)) uX7_22 dX7_step_124 ?_
  refine g_goto (pc := 127) F 51 dX7_step_127 (by decide) ?_
  exact g_weak [0] rfl (hrec _ h)
def wX7_step_51 (x0 : Nat) (K130 : St → Prop) (Q : St → Prop) : Nat → St → Prop
  | 0, _ => False
  | n + 1, s =>
  (((s.1 x0 0) ≤ (s.1 x0 3) → K130  s) ∧ (¬ (s.1 x0 0) ≤ (s.1 x0 3) → vp_in (s.1 x0 3) 120 ∧ wX7_isDigit (s.1 (x0 + 1) (s.1 x0 3).toNatClampNeg) s (fun r_71 s_71 => ((r_71 = 0 → K130  s_71) ∧ (¬ r_71 = 0 → (((s_71.1 x0 5) ≤ (99 : Int32) → vp_in (s_71.1 x0 3) 120 ∧ wX7_step_114 (wX7_step_51 x0 K130 Q n) (K130) Q x0 ((((s_71.1 x0 5) * (10 : Int32)) + (s_71.1 (x0 + 1) (s_71.1 x0 3).toNatClampNeg)) - (48 : Int32)) x0 s_71) ∧ (¬ (s_71.1 x0 5) ≤ (99 : Int32) → wX7_step_114 (wX7_step_51 x0 K130 Q n) (K130) Q x0 (s_71.1 x0 5) x0 s_71)))))))
set_option maxHeartbeats 4000000 in
set_option maxRecDepth 100000 in
theorem bX7_step_51 {l : Launch} {V : Wv} {X : Mx} {x0 : Nat} {K130 : St → Prop} {Q : St → Prop} (F : Fx V X cX7_step RX7 1 1) (hR : RtV l V X 1 cX7_step Q) (hx0 : isX7 V x0) (hK130 : ∀  (s : St), K130  s → G l V X 1 130 [(0, rf V x0)] [] s) : ∀ (n : Nat)  (s : St), wX7_step_51 x0 K130 Q n  s → G l V X 1 51 [(0, rf V x0)] [] s := by
  intro n
  induction n with
  | zero => intro  s h; unfold wX7_step_51 at h; exact h.elim
  | succ n ih =>
    intro  s h
    unfold wX7_step_51 at h
    refine g_aload_n (pc := 51) F dX7_step_51 rfl 0 rfl ?_
    refine g_getI (pc := 52) F clX7 hx0.1 3 rfl (by decide) uX7_22 dX7_step_52 ?_
    refine g_aload_n (pc := 55) F dX7_step_55 rfl 0 rfl ?_
    refine g_getI (pc := 56) F clX7 hx0.1 0 rfl (by decide) uX7_9 dX7_step_56 ?_
    refine g_icmp_ge (pc := 59) F 130 dX7_step_59 (by decide) (fun c => ?_) (fun c => ?_)
    · have h := h.1 c
      exact g_weak [0] rfl (hK130 _ h)
    · have h := h.2 c
      refine g_aload_n (pc := 62) F dX7_step_62 rfl 0 rfl ?_
      refine g_getR (pc := 63) F clX7 hx0.1 1 _ rfl (by decide) uX7_15 dX7_step_63 ?_
      refine g_aload_n (pc := 66) F dX7_step_66 rfl 0 rfl ?_
      refine g_getI (pc := 67) F clX7 hx0.1 3 rfl (by decide) uX7_22 dX7_step_67 ?_
      obtain ⟨hb_70, h⟩ := h
      refine g_iald (pc := 70) F hx0.2 hb_70 dX7_step_70 ?_
      refine g_callSi (pc := 71) F (mX7_isDigit  h) mvX7_isDigit uX7_92 (by decide)  rfl rfl (Nat.le_of_ble_eq_true rfl) dX7_step_71 (fun r_71 s_71 h => ?_)
      refine g_if_eq (pc := 74) F 130 dX7_step_74 (by decide) (fun c => ?_) (fun c => ?_)
      · have h := h.1 c
        exact g_weak [0] rfl (hK130 _ h)
      · have h := h.2 c
        refine g_aload_n (pc := 77) F dX7_step_77 rfl 0 rfl ?_
        refine g_aload_n (pc := 78) F dX7_step_78 rfl 0 rfl ?_
        refine g_getI (pc := 79) F clX7 hx0.1 5 rfl (by decide) uX7_28 dX7_step_79 ?_
        refine g_bipush (pc := 82) F dX7_step_82 bp_99 ?_
        refine g_icmp_le (pc := 84) F 94 dX7_step_84 (by decide) (fun c => ?_) (fun c => ?_)
        · have h := h.1 c
          refine g_aload_n (pc := 94) F dX7_step_94 rfl 0 rfl ?_
          refine g_getI (pc := 95) F clX7 hx0.1 5 rfl (by decide) uX7_28 dX7_step_95 ?_
          refine g_bipush (pc := 98) F dX7_step_98 bp_10 ?_
          refine g_imul (pc := 100) F dX7_step_100 ?_
          refine g_aload_n (pc := 101) F dX7_step_101 rfl 0 rfl ?_
          refine g_getR (pc := 102) F clX7 hx0.1 1 _ rfl (by decide) uX7_15 dX7_step_102 ?_
          refine g_aload_n (pc := 105) F dX7_step_105 rfl 0 rfl ?_
          refine g_getI (pc := 106) F clX7 hx0.1 3 rfl (by decide) uX7_22 dX7_step_106 ?_
          obtain ⟨hb_109, h⟩ := h
          refine g_iald (pc := 109) F hx0.2 hb_109 dX7_step_109 ?_
          refine g_iadd (pc := 110) F dX7_step_110 ?_
          refine g_bipush (pc := 111) F dX7_step_111 bp_48 ?_
          refine g_isub (pc := 113) F dX7_step_113 ?_
          exact g_weak [0] rfl (bX7_step_114 F hR hx0 hx0 ih hK130 h)
        · have h := h.2 c
          refine g_aload_n (pc := 87) F dX7_step_87 rfl 0 rfl ?_
          refine g_getI (pc := 88) F clX7 hx0.1 5 rfl (by decide) uX7_28 dX7_step_88 ?_
          refine g_goto (pc := 91) F 114 dX7_step_91 (by decide) ?_
          exact g_weak [0] rfl (bX7_step_114 F hR hx0 hx0 ih hK130 h)
def wX7_step_153 (Q : St → Prop) (t0 : Int32) (t1 : Nat) (s : St) : Prop :=
  ∀ s_153 : St, s_153 = stI s t1 4 t0 → Q s_153
set_option maxHeartbeats 4000000 in
set_option maxRecDepth 100000 in
theorem bX7_step_153 {l : Launch} {V : Wv} {X : Mx} {Q : St → Prop} {t0 : Int32} {t1 : Nat} (F : Fx V X cX7_step RX7 1 1) (hR : RtV l V X 1 cX7_step Q) (ht1 : isX7 V t1)  {s : St} (h : wX7_step_153 Q t0 t1 s) : G l V X 1 153 [] [.int t0, rf V t1] s := by
  unfold wX7_step_153 at h
  have h := h _ rfl
  refine g_putI (pc := 153) F clX7 ht1.1 4 rfl (by decide) rfl (tyX7_ok 4 (by decide)) uX7_25 dX7_step_153 ?_
  exact hR _ _ _ dX7_step_156 h
def wX7_step (x0 : Nat) (s : St) (Q : St → Prop) : Prop :=
  (∃ k_0, wX7_step_0  x0 (fun  s_k38 => ∀ s_43 : St, s_43 = stI s_k38 x0 2 (s_k38.1 x0 3) → ∀ s_48 : St, s_48 = stI s_43 x0 5 (0 : Int32) → (∃ k_51, wX7_step_51  x0 (fun  s_k130 => (((s_k130.1 x0 3) ≤ (s_k130.1 x0 2) → wX7_letterToken x0 s_k130 (fun r_150 s_150 => wX7_step_153 Q r_150 x0 s_150)) ∧ (¬ (s_k130.1 x0 3) ≤ (s_k130.1 x0 2) → wX7_numberToken x0 s_k130 (fun r_143 s_143 => wX7_step_153 Q r_143 x0 s_143)))) Q k_51  s_48)) Q k_0  s)
set_option maxHeartbeats 4000000 in
set_option maxRecDepth 100000 in
theorem mX7_step {l : Launch} {V : Wv} {x0 : Nat} {s : St} {Q : St → Prop} (hx0 : isX7 V x0) (h : wX7_step x0 s Q) : Cv yX7_step cX7_step 1 (1) l V [rf V x0] s Q := by
  unfold wX7_step at h
  refine Cv.of mvX7_step.1 (Nat.le_of_ble_eq_true rfl) (fun X F hR => ?_)
  refine g_lv (lv' := [(_, _)]) rfl ?_
  obtain ⟨k_0, h⟩ := h
  refine g_weak [0] rfl (bX7_step_0 F hR hx0 (fun  s_k38 h => ?_) k_0 _ h)
  · refine g_aload_n (pc := 38) F dX7_step_38 rfl 0 rfl ?_
    refine g_aload_n (pc := 39) F dX7_step_39 rfl 0 rfl ?_
    refine g_getI (pc := 40) F clX7 hx0.1 3 rfl (by decide) uX7_22 dX7_step_40 ?_
    have h := h _ rfl
    refine g_putI (pc := 43) F clX7 hx0.1 2 rfl (by decide) rfl (tyX7_ok 2 (by decide)) uX7_19 dX7_step_43 ?_
    refine g_aload_n (pc := 46) F dX7_step_46 rfl 0 rfl ?_
    refine g_iconst (pc := 47) F dX7_step_47 ic_0 ?_
    have h := h _ rfl
    refine g_putI (pc := 48) F clX7 hx0.1 5 rfl (by decide) rfl (tyX7_ok 5 (by decide)) uX7_28 dX7_step_48 ?_
    obtain ⟨k_51, h⟩ := h
    refine g_weak [0] rfl (bX7_step_51 F hR hx0 (fun  s_k130 h => ?_) k_51 _ h)
    · refine g_aload_n (pc := 130) F dX7_step_130 rfl 0 rfl ?_
      refine g_aload_n (pc := 131) F dX7_step_131 rfl 0 rfl ?_
      refine g_getI (pc := 132) F clX7 hx0.1 3 rfl (by decide) uX7_22 dX7_step_132 ?_
      refine g_aload_n (pc := 135) F dX7_step_135 rfl 0 rfl ?_
      refine g_getI (pc := 136) F clX7 hx0.1 2 rfl (by decide) uX7_19 dX7_step_136 ?_
      refine g_icmp_le (pc := 139) F 149 dX7_step_139 (by decide) (fun c => ?_) (fun c => ?_)
      · have h := h.1 c
        refine g_aload_n (pc := 149) F dX7_step_149 rfl 0 rfl ?_
        refine g_callVi (pc := 150) F (mX7_letterToken hx0 h) mvX7_letterToken uX7_100 (by decide) clX7 hx0.1 rfl rfl (Nat.le_of_ble_eq_true rfl) dX7_step_150 (fun r_150 s_150 h => ?_)
        exact g_weak [] rfl (bX7_step_153 F hR hx0 h)
      · have h := h.2 c
        refine g_aload_n (pc := 142) F dX7_step_142 rfl 0 rfl ?_
        refine g_callVi (pc := 143) F (mX7_numberToken hx0 h) mvX7_numberToken uX7_96 (by decide) clX7 hx0.1 rfl rfl (Nat.le_of_ble_eq_true rfl) dX7_step_143 (fun r_143 s_143 h => ?_)
        refine g_goto (pc := 146) F 153 dX7_step_146 (by decide) ?_
        exact g_weak [] rfl (bX7_step_153 F hR hx0 h)
def wX7_stepTo (x0 : Nat) (x1 : Int32) (x2 : Int32) (s : St) (Q : Int32 → St → Prop) : Prop :=
  wX7_step x0 s (fun s_1 => ((¬ (s_1.1 x0 4) = (1 : Int32) → Q (0 : Int32) s_1) ∧ ((s_1.1 x0 4) = (1 : Int32) → (((s_1.1 x0 5) < x1 → Q (0 : Int32) s_1) ∧ (¬ (s_1.1 x0 5) < x1 → ((x2 < (s_1.1 x0 5) → Q (0 : Int32) s_1) ∧ (¬ x2 < (s_1.1 x0 5) → Q (1 : Int32) s_1)))))))
set_option maxHeartbeats 4000000 in
set_option maxRecDepth 100000 in
theorem mX7_stepTo {l : Launch} {V : Wv} {x0 : Nat} {x1 : Int32} {x2 : Int32} {s : St} {Q : Int32 → St → Prop} (hx0 : isX7 V x0) (h : wX7_stepTo x0 x1 x2 s Q) : Ci yX7_stepTo cX7_stepTo 3 (some .boolean) (2) l V [rf V x0, .int x1, .int x2] s Q := by
  unfold wX7_stepTo at h
  refine Cz.of mvX7_stepTo.1 (Nat.le_of_ble_eq_true rfl) (fun X F hR => ?_)
  refine g_lv (lv' := [(_, _), (_, _), (_, _)]) rfl ?_
  refine g_aload_n (pc := 0) F dX7_stepTo_0 rfl 0 rfl ?_
  refine g_callVv (pc := 1) F (mX7_step hx0 h) mvX7_step uX7_31 (by decide) clX7 hx0.1 rfl rfl (Nat.le_of_ble_eq_true rfl) dX7_stepTo_1 (fun s_1 h => ?_)
  refine g_aload_n (pc := 4) F dX7_stepTo_4 rfl 0 rfl ?_
  refine g_getI (pc := 5) F clX7 hx0.1 4 rfl (by decide) uX7_25 dX7_stepTo_5 ?_
  refine g_iconst (pc := 8) F dX7_stepTo_8 ic_1 ?_
  refine g_icmp_ne (pc := 9) F 32 dX7_stepTo_9 (by decide) (fun c => ?_) (fun c => ?_)
  · have h := h.1 c
    refine g_iconst (pc := 32) F dX7_stepTo_32 ic_0 ?_
    exact hR _ _ _ _ dX7_stepTo_33 (Or.inl rfl) h
  · have h := h.2 c
    refine g_aload_n (pc := 12) F dX7_stepTo_12 rfl 0 rfl ?_
    refine g_getI (pc := 13) F clX7 hx0.1 5 rfl (by decide) uX7_28 dX7_stepTo_13 ?_
    refine g_iload_n (pc := 16) F dX7_stepTo_16 rfl 1 rfl ?_
    refine g_icmp_lt (pc := 17) F 32 dX7_stepTo_17 (by decide) (fun c => ?_) (fun c => ?_)
    · have h := h.1 c
      refine g_iconst (pc := 32) F dX7_stepTo_32 ic_0 ?_
      exact hR _ _ _ _ dX7_stepTo_33 (Or.inl rfl) h
    · have h := h.2 c
      refine g_aload_n (pc := 20) F dX7_stepTo_20 rfl 0 rfl ?_
      refine g_getI (pc := 21) F clX7 hx0.1 5 rfl (by decide) uX7_28 dX7_stepTo_21 ?_
      refine g_iload_n (pc := 24) F dX7_stepTo_24 rfl 2 rfl ?_
      refine g_icmp_gt (pc := 25) F 32 dX7_stepTo_25 (by decide) (fun c => ?_) (fun c => ?_)
      · have h := h.1 c
        refine g_iconst (pc := 32) F dX7_stepTo_32 ic_0 ?_
        exact hR _ _ _ _ dX7_stepTo_33 (Or.inl rfl) h
      · have h := h.2 c
        refine g_iconst (pc := 28) F dX7_stepTo_28 ic_1 ?_
        refine g_goto (pc := 29) F 33 dX7_stepTo_29 (by decide) ?_
        exact hR _ _ _ _ dX7_stepTo_33 (Or.inr rfl) h
def wX7_stepToEnd (x0 : Nat) (s : St) (Q : Int32 → St → Prop) : Prop :=
  wX7_step x0 s (fun s_1 => ((¬ (s_1.1 x0 4) = (59 : Int32) → Q (0 : Int32) s_1) ∧ ((s_1.1 x0 4) = (59 : Int32) → Q (1 : Int32) s_1)))
set_option maxHeartbeats 4000000 in
set_option maxRecDepth 100000 in
theorem mX7_stepToEnd {l : Launch} {V : Wv} {x0 : Nat} {s : St} {Q : Int32 → St → Prop} (hx0 : isX7 V x0) (h : wX7_stepToEnd x0 s Q) : Ci yX7_stepToEnd cX7_stepToEnd 1 (some .boolean) (2) l V [rf V x0] s Q := by
  unfold wX7_stepToEnd at h
  refine Cz.of mvX7_stepToEnd.1 (Nat.le_of_ble_eq_true rfl) (fun X F hR => ?_)
  refine g_lv (lv' := [(_, _)]) rfl ?_
  refine g_aload_n (pc := 0) F dX7_stepToEnd_0 rfl 0 rfl ?_
  refine g_callVv (pc := 1) F (mX7_step hx0 h) mvX7_step uX7_31 (by decide) clX7 hx0.1 rfl rfl (Nat.le_of_ble_eq_true rfl) dX7_stepToEnd_1 (fun s_1 h => ?_)
  refine g_aload_n (pc := 4) F dX7_stepToEnd_4 rfl 0 rfl ?_
  refine g_getI (pc := 5) F clX7 hx0.1 4 rfl (by decide) uX7_25 dX7_stepToEnd_5 ?_
  refine g_bipush (pc := 8) F dX7_stepToEnd_8 bp_59 ?_
  refine g_icmp_ne (pc := 10) F 17 dX7_stepToEnd_10 (by decide) (fun c => ?_) (fun c => ?_)
  · have h := h.1 c
    refine g_iconst (pc := 17) F dX7_stepToEnd_17 ic_0 ?_
    exact hR _ _ _ _ dX7_stepToEnd_18 (Or.inl rfl) h
  · have h := h.2 c
    refine g_iconst (pc := 13) F dX7_stepToEnd_13 ic_1 ?_
    refine g_goto (pc := 14) F 18 dX7_stepToEnd_14 (by decide) ?_
    exact hR _ _ _ _ dX7_stepToEnd_18 (Or.inr rfl) h
def wX7_readPlaces (x0 : Nat) (x1 : Nat) (s : St) (Q : Int32 → St → Prop) : Prop :=
  wX7_stepTo x0 (2 : Int32) (5 : Int32) s (fun r_3 s_3 => ((¬ r_3 = 0 → ∀ s_16 : St, s_16 = stI s_3 x1 0 (s_3.1 x0 5) → wX7_stepToEnd x0 s_16 (fun r_20 s_20 => (isB r_20 ∧ Q r_20 s_20))) ∧ (r_3 = 0 → Q (0 : Int32) s_3)))
set_option maxHeartbeats 4000000 in
set_option maxRecDepth 100000 in
theorem mX7_readPlaces {l : Launch} {V : Wv} {x0 : Nat} {x1 : Nat} {s : St} {Q : Int32 → St → Prop} (hx0 : isX7 V x0) (hx1 : isX1 V x1) (h : wX7_readPlaces x0 x1 s Q) : Ci yX7_readPlaces cX7_readPlaces 2 (some .boolean) (3) l V [rf V x0, rf V x1] s Q := by
  unfold wX7_readPlaces at h
  refine Cz.of mvX7_readPlaces.1 (Nat.le_of_ble_eq_true rfl) (fun X F hR => ?_)
  refine g_lv (lv' := [(_, _), (_, _)]) rfl ?_
  refine g_aload_n (pc := 0) F dX7_readPlaces_0 rfl 0 rfl ?_
  refine g_iconst (pc := 1) F dX7_readPlaces_1 ic_2 ?_
  refine g_iconst (pc := 2) F dX7_readPlaces_2 ic_5 ?_
  refine g_callVi (pc := 3) F (mX7_stepTo hx0 h) mvX7_stepTo uX7_59 (by decide) clX7 hx0.1 rfl rfl (Nat.le_of_ble_eq_true rfl) dX7_readPlaces_3 (fun r_3 s_3 h => ?_)
  refine g_if_ne (pc := 6) F 11 dX7_readPlaces_6 (by decide) (fun c => ?_) (fun c => ?_)
  · have h := h.1 c
    refine g_aload_n (pc := 11) F dX7_readPlaces_11 rfl 1 rfl ?_
    refine g_aload_n (pc := 12) F dX7_readPlaces_12 rfl 0 rfl ?_
    refine g_getI (pc := 13) F clX7 hx0.1 5 rfl (by decide) uX7_28 dX7_readPlaces_13 ?_
    have h := h _ rfl
    refine g_putI (pc := 16) F clX1 hx1.1 0 rfl (by decide) rfl (tyX1_ok 0 (by decide)) uX7_63 dX7_readPlaces_16 ?_
    refine g_aload_n (pc := 19) F dX7_readPlaces_19 rfl 0 rfl ?_
    refine g_callVi (pc := 20) F (mX7_stepToEnd hx0 h) mvX7_stepToEnd uX7_66 (by decide) clX7 hx0.1 rfl rfl (Nat.le_of_ble_eq_true rfl) dX7_readPlaces_20 (fun r_20 s_20 h => ?_)
    exact hR _ _ _ _ dX7_readPlaces_23 h.1 h.2
  · have h := h.2 c
    refine g_iconst (pc := 9) F dX7_readPlaces_9 ic_0 ?_
    exact hR _ _ _ _ dX7_readPlaces_10 (Or.inl rfl) h
def wX7_readLane (x0 : Nat) (x1 : Nat) (x2 : Nat) (s : St) (Q : Int32 → St → Prop) : Prop :=
  wX7_stepTo x0 (0 : Int32) ((s.1 x1 0) - (1 : Int32)) s (fun r_8 s_8 => ((¬ r_8 = 0 → wX7_stepTo x0 (0 : Int32) ((s_8.1 x1 0) - (1 : Int32)) s_8 (fun r_29 s_29 => ((r_29 = 0 → Q (0 : Int32) s_29) ∧ (¬ r_29 = 0 → (((s_29.1 x0 5) = (s_8.1 x0 5) → Q (0 : Int32) s_29) ∧ (¬ (s_29.1 x0 5) = (s_8.1 x0 5) → wX1_laneBetween x1 (s_8.1 x0 5) (s_29.1 x0 5) s_29 (fun r_49 s_49 => ((r_49 = (-9 : Int32) → wX7_stepTo x0 (1 : Int32) (5 : Int32) s_49 (fun r_68 s_68 => ((¬ r_68 = 0 → vp_in (s_68.1 x1 1) 6 ∧ ∀ s_88 : St, s_88 = stI s_68 (x2 + 1) (s_68.1 x1 1).toNatClampNeg (s_68.1 x0 5) → wX7_stepTo x0 (1 : Int32) (9 : Int32) s_88 (fun r_93 s_93 => ((¬ r_93 = 0 → wX1_addLane x1 (s_8.1 x0 5) (s_49.1 x0 5) (s_93.1 x0 5) s_93 (fun s_109 => wX7_stepToEnd x0 s_109 (fun r_113 s_113 => (isB r_113 ∧ Q r_113 s_113)))) ∧ (r_93 = 0 → Q (0 : Int32) s_93)))) ∧ (r_68 = 0 → Q (0 : Int32) s_68)))) ∧ (¬ r_49 = (-9 : Int32) → Q (0 : Int32) s_49))))))))) ∧ (r_8 = 0 → Q (0 : Int32) s_8)))
set_option maxHeartbeats 4000000 in
set_option maxRecDepth 100000 in
theorem mX7_readLane {l : Launch} {V : Wv} {x0 : Nat} {x1 : Nat} {x2 : Nat} {s : St} {Q : Int32 → St → Prop} (hx0 : isX7 V x0) (hx1 : isX1 V x1) (hx2 : isX2 V x2) (h : wX7_readLane x0 x1 x2 s Q) : Ci yX7_readLane cX7_readLane 5 (some .boolean) (3) l V [rf V x0, rf V x1, rf V x2] s Q := by
  unfold wX7_readLane at h
  refine Cz.of mvX7_readLane.1 (Nat.le_of_ble_eq_true rfl) (fun X F hR => ?_)
  refine g_lv (lv' := [(_, _), (_, _), (_, _)]) rfl ?_
  refine g_aload_n (pc := 0) F dX7_readLane_0 rfl 0 rfl ?_
  refine g_iconst (pc := 1) F dX7_readLane_1 ic_0 ?_
  refine g_aload_n (pc := 2) F dX7_readLane_2 rfl 1 rfl ?_
  refine g_getI (pc := 3) F clX1 hx1.1 0 rfl (by decide) uX7_63 dX7_readLane_3 ?_
  refine g_iconst (pc := 6) F dX7_readLane_6 ic_1 ?_
  refine g_isub (pc := 7) F dX7_readLane_7 ?_
  refine g_callVi (pc := 8) F (mX7_stepTo hx0 h) mvX7_stepTo uX7_59 (by decide) clX7 hx0.1 rfl rfl (Nat.le_of_ble_eq_true rfl) dX7_readLane_8 (fun r_8 s_8 h => ?_)
  refine g_if_ne (pc := 11) F 16 dX7_readLane_11 (by decide) (fun c => ?_) (fun c => ?_)
  · have h := h.1 c
    refine g_aload_n (pc := 16) F dX7_readLane_16 rfl 0 rfl ?_
    refine g_getI (pc := 17) F clX7 hx0.1 5 rfl (by decide) uX7_28 dX7_readLane_17 ?_
    refine g_istore_n (pc := 20) (lv' := [(_, _), (_, _), (_, _), (_, _)]) F dX7_readLane_20 rfl (by decide) rfl ?_
    refine g_aload_n (pc := 21) F dX7_readLane_21 rfl 1 rfl ?_
    refine g_iconst (pc := 22) F dX7_readLane_22 ic_0 ?_
    refine g_aload_n (pc := 23) F dX7_readLane_23 rfl 2 rfl ?_
    refine g_getI (pc := 24) F clX1 hx1.1 0 rfl (by decide) uX7_63 dX7_readLane_24 ?_
    refine g_iconst (pc := 27) F dX7_readLane_27 ic_1 ?_
    refine g_isub (pc := 28) F dX7_readLane_28 ?_
    refine g_callVi (pc := 29) F (mX7_stepTo hx0 h) mvX7_stepTo uX7_59 (by decide) clX7 hx0.1 rfl rfl (Nat.le_of_ble_eq_true rfl) dX7_readLane_29 (fun r_29 s_29 h => ?_)
    refine g_if_eq (pc := 32) F 57 dX7_readLane_32 (by decide) (fun c => ?_) (fun c => ?_)
    · have h := h.1 c
      refine g_iconst (pc := 57) F dX7_readLane_57 ic_0 ?_
      exact hR _ _ _ _ dX7_readLane_58 (Or.inl rfl) h
    · have h := h.2 c
      refine g_aload_n (pc := 35) F dX7_readLane_35 rfl 1 rfl ?_
      refine g_getI (pc := 36) F clX7 hx0.1 5 rfl (by decide) uX7_28 dX7_readLane_36 ?_
      refine g_iload_n (pc := 39) F dX7_readLane_39 rfl 0 rfl ?_
      refine g_icmp_eq (pc := 40) F 57 dX7_readLane_40 (by decide) (fun c => ?_) (fun c => ?_)
      · have h := h.1 c
        refine g_iconst (pc := 57) F dX7_readLane_57 ic_0 ?_
        exact hR _ _ _ _ dX7_readLane_58 (Or.inl rfl) h
      · have h := h.2 c
        refine g_aload_n (pc := 43) F dX7_readLane_43 rfl 2 rfl ?_
        refine g_iload_n (pc := 44) F dX7_readLane_44 rfl 0 rfl ?_
        refine g_aload_n (pc := 45) F dX7_readLane_45 rfl 1 rfl ?_
        refine g_getI (pc := 46) F clX7 hx0.1 5 rfl (by decide) uX7_28 dX7_readLane_46 ?_
        refine g_callVi (pc := 49) F (mX1_laneBetween hx1 h) mvX1_laneBetween uX7_70 (by decide) clX1 hx1.1 rfl rfl (Nat.le_of_ble_eq_true rfl) dX7_readLane_49 (fun r_49 s_49 h => ?_)
        refine g_bipush (pc := 52) F dX7_readLane_52 bp_m9 ?_
        refine g_icmp_eq (pc := 54) F 59 dX7_readLane_54 (by decide) (fun c => ?_) (fun c => ?_)
        · have h := h.1 c
          refine g_aload_n (pc := 59) F dX7_readLane_59 rfl 1 rfl ?_
          refine g_getI (pc := 60) F clX7 hx0.1 5 rfl (by decide) uX7_28 dX7_readLane_60 ?_
          refine g_istore (pc := 63) (lv' := [(_, _), (_, _), (_, _), (_, _), (_, _)]) F dX7_readLane_63 (by decide) rfl ?_
          refine g_aload_n (pc := 65) F dX7_readLane_65 rfl 2 rfl ?_
          refine g_iconst (pc := 66) F dX7_readLane_66 ic_1 ?_
          refine g_iconst (pc := 67) F dX7_readLane_67 ic_5 ?_
          refine g_callVi (pc := 68) F (mX7_stepTo hx0 h) mvX7_stepTo uX7_59 (by decide) clX7 hx0.1 rfl rfl (Nat.le_of_ble_eq_true rfl) dX7_readLane_68 (fun r_68 s_68 h => ?_)
          refine g_if_ne (pc := 71) F 76 dX7_readLane_71 (by decide) (fun c => ?_) (fun c => ?_)
          · have h := h.1 c
            refine g_aload_n (pc := 76) F dX7_readLane_76 rfl 4 rfl ?_
            refine g_getR (pc := 77) F clX2 hx2.1 0 _ rfl (by decide) uX7_74 dX7_readLane_77 ?_
            refine g_aload_n (pc := 80) F dX7_readLane_80 rfl 3 rfl ?_
            refine g_getI (pc := 81) F clX1 hx1.1 1 rfl (by decide) uX7_42 dX7_readLane_81 ?_
            refine g_aload_n (pc := 84) F dX7_readLane_84 rfl 2 rfl ?_
            refine g_getI (pc := 85) F clX7 hx0.1 5 rfl (by decide) uX7_28 dX7_readLane_85 ?_
            obtain ⟨hb_88, h⟩ := h
            have h := h _ rfl
            refine g_iast (pc := 88) F hx2.2.1 hb_88 dX7_readLane_88 ?_
            refine g_aload_n (pc := 89) F dX7_readLane_89 rfl 2 rfl ?_
            refine g_iconst (pc := 90) F dX7_readLane_90 ic_1 ?_
            refine g_bipush (pc := 91) F dX7_readLane_91 bp_9 ?_
            refine g_callVi (pc := 93) F (mX7_stepTo hx0 h) mvX7_stepTo uX7_59 (by decide) clX7 hx0.1 rfl rfl (Nat.le_of_ble_eq_true rfl) dX7_readLane_93 (fun r_93 s_93 h => ?_)
            refine g_if_ne (pc := 96) F 101 dX7_readLane_96 (by decide) (fun c => ?_) (fun c => ?_)
            · have h := h.1 c
              refine g_aload_n (pc := 101) F dX7_readLane_101 rfl 3 rfl ?_
              refine g_iload_n (pc := 102) F dX7_readLane_102 rfl 1 rfl ?_
              refine g_iload (pc := 103) F dX7_readLane_103 0 rfl ?_
              refine g_aload_n (pc := 105) F dX7_readLane_105 rfl 2 rfl ?_
              refine g_getI (pc := 106) F clX7 hx0.1 5 rfl (by decide) uX7_28 dX7_readLane_106 ?_
              refine g_callVv (pc := 109) F (mX1_addLane hx1 h) mvX1_addLane uX7_77 (by decide) clX1 hx1.1 rfl rfl (Nat.le_of_ble_eq_true rfl) dX7_readLane_109 (fun s_109 h => ?_)
              refine g_aload_n (pc := 112) F dX7_readLane_112 rfl 2 rfl ?_
              refine g_callVi (pc := 113) F (mX7_stepToEnd hx0 h) mvX7_stepToEnd uX7_66 (by decide) clX7 hx0.1 rfl rfl (Nat.le_of_ble_eq_true rfl) dX7_readLane_113 (fun r_113 s_113 h => ?_)
              exact hR _ _ _ _ dX7_readLane_116 h.1 h.2
            · have h := h.2 c
              refine g_iconst (pc := 99) F dX7_readLane_99 ic_0 ?_
              exact hR _ _ _ _ dX7_readLane_100 (Or.inl rfl) h
          · have h := h.2 c
            refine g_iconst (pc := 74) F dX7_readLane_74 ic_0 ?_
            exact hR _ _ _ _ dX7_readLane_75 (Or.inl rfl) h
        · have h := h.2 c
          refine g_iconst (pc := 57) F dX7_readLane_57 ic_0 ?_
          exact hR _ _ _ _ dX7_readLane_58 (Or.inl rfl) h
  · have h := h.2 c
    refine g_iconst (pc := 14) F dX7_readLane_14 ic_0 ?_
    exact hR _ _ _ _ dX7_readLane_15 (Or.inl rfl) h
def wX7_readMap_66 (rec : Int32 → St → Prop) (K54 : St → Prop) (K101 : St → Prop) (Q : Int32 → St → Prop) (x0 : Nat) (x1 : Nat) (x2 : Nat) (x3 : Int32) (x4 : Int32) (x5 : Int32) (s : St) : Prop :=
  ((x5 = 0 → Q (0 : Int32) s) ∧ (¬ x5 = 0 → wX2_fits x2 x1 x3 (s.1 x0 5) s (fun r_78 s_78 => ((¬ r_78 = 0 → wX2_append x2 x3 (s_78.1 x0 5) s_78 (fun s_92 => rec (x4 + (1 : Int32)) s_92)) ∧ (r_78 = 0 → Q (0 : Int32) s_78)))))
set_option maxHeartbeats 4000000 in
set_option maxRecDepth 100000 in
theorem bX7_readMap_66 {l : Launch} {V : Wv} {X : Mx} {rec : Int32 → St → Prop} {K54 : St → Prop} {K101 : St → Prop} {Q : Int32 → St → Prop} {x0 : Nat} {x1 : Nat} {x2 : Nat} {x3 : Int32} {x4 : Int32} {x5 : Int32} (F : Fx V X cX7_readMap RX7 6 3) (hR : RtZ l V X 6 cX7_readMap Q) (hx0 : isX7 V x0) (hx1 : isX1 V x1) (hx2 : isX2 V x2) (hrec : ∀ (y4 : Int32) (s : St), rec y4 s → G l V X 6 15 [(0, rf V x0), (1, rf V x1), (2, rf V x2), (3, .int x3), (4, .int y4)] [] s) (hK54 : ∀  (s : St), K54  s → G l V X 6 54 [(2, rf V x2)] [] s) (hK101 : ∀  (s : St), K101  s → G l V X 6 101 [(0, rf V x0), (2, rf V x2)] [] s) {s : St} (h : wX7_readMap_66 rec K54 K101 Q x0 x1 x2 x3 x4 x5 s) : G l V X 6 66 [(0, rf V x0), (1, rf V x1), (2, rf V x2), (3, .int x3), (4, .int x4), (5, .int x5)] [] s := by
  unfold wX7_readMap_66 at h
  refine g_iload (pc := 66) F dX7_readMap_66 5 rfl ?_
  refine g_if_eq (pc := 68) F 84 dX7_readMap_68 (by decide) (fun c => ?_) (fun c => ?_)
  · have h := h.1 c
    refine g_iconst (pc := 84) F dX7_readMap_84 ic_0 ?_
    exact hR _ _ _ _ dX7_readMap_85 (Or.inl rfl) h
  · have h := h.2 c
    refine g_aload_n (pc := 71) F dX7_readMap_71 rfl 2 rfl ?_
    refine g_aload_n (pc := 72) F dX7_readMap_72 rfl 1 rfl ?_
    refine g_iload_n (pc := 73) F dX7_readMap_73 rfl 3 rfl ?_
    refine g_aload_n (pc := 74) F dX7_readMap_74 rfl 0 rfl ?_
    refine g_getI (pc := 75) F clX7 hx0.1 5 rfl (by decide) uX7_28 dX7_readMap_75 ?_
    refine g_callVi (pc := 78) F (mX2_fits hx2 hx1 h) mvX2_fits uX7_84 (by decide) clX2 hx2.1 rfl rfl (Nat.le_of_ble_eq_true rfl) dX7_readMap_78 (fun r_78 s_78 h => ?_)
    refine g_if_ne (pc := 81) F 86 dX7_readMap_81 (by decide) (fun c => ?_) (fun c => ?_)
    · have h := h.1 c
      refine g_aload_n (pc := 86) F dX7_readMap_86 rfl 2 rfl ?_
      refine g_iload_n (pc := 87) F dX7_readMap_87 rfl 3 rfl ?_
      refine g_aload_n (pc := 88) F dX7_readMap_88 rfl 0 rfl ?_
      refine g_getI (pc := 89) F clX7 hx0.1 5 rfl (by decide) uX7_28 dX7_readMap_89 ?_
      refine g_callVv (pc := 92) F (mX2_append hx2 h) mvX2_append uX7_88 (by decide) clX2 hx2.1 rfl rfl (Nat.le_of_ble_eq_true rfl) dX7_readMap_92 (fun s_92 h => ?_)
      refine g_iinc (pc := 95) (lv' := [(_, _), (_, _), (_, _), (_, _), (_, _), (_, _)]) F dX7_readMap_95 4 rfl (congrArg _ ic_1) (by decide) rfl ?_
      refine g_goto (pc := 98) F 15 dX7_readMap_98 (by decide) ?_
      exact g_weak [1, 2, 3, 4, 0] rfl (hrec _ _ h)
    · have h := h.2 c
      refine g_iconst (pc := 84) F dX7_readMap_84 ic_0 ?_
      exact hR _ _ _ _ dX7_readMap_85 (Or.inl rfl) h
def wX7_readMap_15 (x0 : Nat) (x1 : Nat) (x2 : Nat) (x3 : Int32) (K54 : St → Prop) (K101 : St → Prop) (Q : Int32 → St → Prop) : Nat → Int32 → St → Prop
  | 0, _, _ => False
  | n + 1, x4, s =>
  (((5 : Int32) ≤ x4 → K101  s) ∧ (¬ (5 : Int32) ≤ x4 → wX7_stepTo x0 (0 : Int32) ((s.1 x1 0) - (1 : Int32)) s (fun r_29 s_29 => ((¬ r_29 = 0 → wX7_readMap_66 (wX7_readMap_15 x0 x1 x2 x3 K54 K101 Q n) (K54) (K101) Q x0 x1 x2 x3 x4 r_29 s_29) ∧ (r_29 = 0 → ((¬ (s_29.1 x0 4) = (59 : Int32) → wX7_readMap_66 (wX7_readMap_15 x0 x1 x2 x3 K54 K101 Q n) (K54) (K101) Q x0 x1 x2 x3 x4 r_29 s_29) ∧ ((s_29.1 x0 4) = (59 : Int32) → ((x4 < (2 : Int32) → wX7_readMap_66 (wX7_readMap_15 x0 x1 x2 x3 K54 K101 Q n) (K54) (K101) Q x0 x1 x2 x3 x4 r_29 s_29) ∧ (¬ x4 < (2 : Int32) → K54  s_29)))))))))
set_option maxHeartbeats 4000000 in
set_option maxRecDepth 100000 in
theorem bX7_readMap_15 {l : Launch} {V : Wv} {X : Mx} {x0 : Nat} {x1 : Nat} {x2 : Nat} {x3 : Int32} {K54 : St → Prop} {K101 : St → Prop} {Q : Int32 → St → Prop} (F : Fx V X cX7_readMap RX7 6 3) (hR : RtZ l V X 6 cX7_readMap Q) (hx0 : isX7 V x0) (hx1 : isX1 V x1) (hx2 : isX2 V x2) (hK54 : ∀  (s : St), K54  s → G l V X 6 54 [(2, rf V x2)] [] s) (hK101 : ∀  (s : St), K101  s → G l V X 6 101 [(0, rf V x0), (2, rf V x2)] [] s) : ∀ (n : Nat) (x4 : Int32) (s : St), wX7_readMap_15 x0 x1 x2 x3 K54 K101 Q n x4 s → G l V X 6 15 [(0, rf V x0), (1, rf V x1), (2, rf V x2), (3, .int x3), (4, .int x4)] [] s := by
  intro n
  induction n with
  | zero => intro x4 s h; unfold wX7_readMap_15 at h; exact h.elim
  | succ n ih =>
    intro x4 s h
    unfold wX7_readMap_15 at h
    refine g_iload (pc := 15) F dX7_readMap_15 4 rfl ?_
    refine g_iconst (pc := 17) F dX7_readMap_17 ic_5 ?_
    refine g_icmp_ge (pc := 18) F 101 dX7_readMap_18 (by decide) (fun c => ?_) (fun c => ?_)
    · have h := h.1 c
      exact g_weak [0, 2] rfl (hK101 _ h)
    · have h := h.2 c
      refine g_aload_n (pc := 21) F dX7_readMap_21 rfl 0 rfl ?_
      refine g_iconst (pc := 22) F dX7_readMap_22 ic_0 ?_
      refine g_aload_n (pc := 23) F dX7_readMap_23 rfl 1 rfl ?_
      refine g_getI (pc := 24) F clX1 hx1.1 0 rfl (by decide) uX7_63 dX7_readMap_24 ?_
      refine g_iconst (pc := 27) F dX7_readMap_27 ic_1 ?_
      refine g_isub (pc := 28) F dX7_readMap_28 ?_
      refine g_callVi (pc := 29) F (mX7_stepTo hx0 h) mvX7_stepTo uX7_59 (by decide) clX7 hx0.1 rfl rfl (Nat.le_of_ble_eq_true rfl) dX7_readMap_29 (fun r_29 s_29 h => ?_)
      refine g_istore (pc := 32) (lv' := [(_, _), (_, _), (_, _), (_, _), (_, _), (_, _)]) F dX7_readMap_32 (by decide) rfl ?_
      refine g_iload (pc := 34) F dX7_readMap_34 0 rfl ?_
      refine g_if_ne (pc := 36) F 66 dX7_readMap_36 (by decide) (fun c => ?_) (fun c => ?_)
      · have h := h.1 c
        exact g_weak [1, 2, 3, 4, 5, 0] rfl (bX7_readMap_66 F hR hx0 hx1 hx2 ih hK54 hK101 h)
      · have h := h.2 c
        refine g_aload_n (pc := 39) F dX7_readMap_39 rfl 1 rfl ?_
        refine g_getI (pc := 40) F clX7 hx0.1 4 rfl (by decide) uX7_25 dX7_readMap_40 ?_
        refine g_bipush (pc := 43) F dX7_readMap_43 bp_59 ?_
        refine g_icmp_ne (pc := 45) F 66 dX7_readMap_45 (by decide) (fun c => ?_) (fun c => ?_)
        · have h := h.1 c
          exact g_weak [1, 2, 3, 4, 5, 0] rfl (bX7_readMap_66 F hR hx0 hx1 hx2 ih hK54 hK101 h)
        · have h := h.2 c
          refine g_iload (pc := 48) F dX7_readMap_48 5 rfl ?_
          refine g_iconst (pc := 50) F dX7_readMap_50 ic_2 ?_
          refine g_icmp_lt (pc := 51) F 66 dX7_readMap_51 (by decide) (fun c => ?_) (fun c => ?_)
          · have h := h.1 c
            exact g_weak [1, 2, 3, 4, 5, 0] rfl (bX7_readMap_66 F hR hx0 hx1 hx2 ih hK54 hK101 h)
          · have h := h.2 c
            exact g_weak [3] rfl (hK54 _ h)
def wX7_readMap (x0 : Nat) (x1 : Nat) (x2 : Nat) (s : St) (Q : Int32 → St → Prop) : Prop :=
  vp_in (s.1 x2 3) 5 ∧ ∀ s_11 : St, s_11 = stI s (x2 + 2) (s.1 x2 3).toNatClampNeg (0 : Int32) → (∃ k_15, wX7_readMap_15  x0 x1 x2 (s.1 x2 3) (fun  s_k54 => ∀ s_61 : St, s_61 = stI s_k54 x2 3 ((s_k54.1 x2 3) + (1 : Int32)) → Q (1 : Int32) s_61) (fun  s_k101 => ∀ s_108 : St, s_108 = stI s_k101 x2 3 ((s_k101.1 x2 3) + (1 : Int32)) → wX7_stepToEnd x0 s_108 (fun r_112 s_112 => (isB r_112 ∧ Q r_112 s_112))) Q k_15 (0 : Int32) s_11)
set_option maxHeartbeats 4000000 in
set_option maxRecDepth 100000 in
theorem mX7_readMap {l : Launch} {V : Wv} {x0 : Nat} {x1 : Nat} {x2 : Nat} {s : St} {Q : Int32 → St → Prop} (hx0 : isX7 V x0) (hx1 : isX1 V x1) (hx2 : isX2 V x2) (h : wX7_readMap x0 x1 x2 s Q) : Ci yX7_readMap cX7_readMap 6 (some .boolean) (3) l V [rf V x0, rf V x1, rf V x2] s Q := by
  unfold wX7_readMap at h
  refine Cz.of mvX7_readMap.1 (Nat.le_of_ble_eq_true rfl) (fun X F hR => ?_)
  refine g_lv (lv' := [(_, _), (_, _), (_, _)]) rfl ?_
  refine g_aload_n (pc := 0) F dX7_readMap_0 rfl 2 rfl ?_
  refine g_getI (pc := 1) F clX2 hx2.1 3 rfl (by decide) uX7_51 dX7_readMap_1 ?_
  refine g_istore_n (pc := 4) (lv' := [(_, _), (_, _), (_, _), (_, _)]) F dX7_readMap_4 rfl (by decide) rfl ?_
  refine g_aload_n (pc := 5) F dX7_readMap_5 rfl 3 rfl ?_
  refine g_getR (pc := 6) F clX2 hx2.1 1 _ rfl (by decide) uX7_81 dX7_readMap_6 ?_
  refine g_iload_n (pc := 9) F dX7_readMap_9 rfl 0 rfl ?_
  refine g_iconst (pc := 10) F dX7_readMap_10 ic_0 ?_
  obtain ⟨hb_11, h⟩ := h
  have h := h _ rfl
  refine g_iast (pc := 11) F hx2.2.2.1 hb_11 dX7_readMap_11 ?_
  refine g_iconst (pc := 12) F dX7_readMap_12 ic_0 ?_
  refine g_istore (pc := 13) (lv' := [(_, _), (_, _), (_, _), (_, _), (_, _)]) F dX7_readMap_13 (by decide) rfl ?_
  obtain ⟨k_15, h⟩ := h
  refine g_weak [2, 3, 4, 1, 0] rfl (bX7_readMap_15 F hR hx0 hx1 hx2 (fun  s_k54 h => ?_) (fun  s_k101 h => ?_) k_15 _ _ h)
  · refine g_aload_n (pc := 54) F dX7_readMap_54 rfl 0 rfl ?_
    refine g_dup (pc := 55) F dX7_readMap_55 rfl ?_
    refine g_getI (pc := 56) F clX2 hx2.1 3 rfl (by decide) uX7_51 dX7_readMap_56 ?_
    refine g_iconst (pc := 59) F dX7_readMap_59 ic_1 ?_
    refine g_iadd (pc := 60) F dX7_readMap_60 ?_
    have h := h _ rfl
    refine g_putI (pc := 61) F clX2 hx2.1 3 rfl (by decide) rfl (tyX2_ok 3 (by decide)) uX7_51 dX7_readMap_61 ?_
    refine g_iconst (pc := 64) F dX7_readMap_64 ic_1 ?_
    exact hR _ _ _ _ dX7_readMap_65 (Or.inr rfl) h
  · refine g_aload_n (pc := 101) F dX7_readMap_101 rfl 1 rfl ?_
    refine g_dup (pc := 102) F dX7_readMap_102 rfl ?_
    refine g_getI (pc := 103) F clX2 hx2.1 3 rfl (by decide) uX7_51 dX7_readMap_103 ?_
    refine g_iconst (pc := 106) F dX7_readMap_106 ic_1 ?_
    refine g_iadd (pc := 107) F dX7_readMap_107 ?_
    have h := h _ rfl
    refine g_putI (pc := 108) F clX2 hx2.1 3 rfl (by decide) rfl (tyX2_ok 3 (by decide)) uX7_51 dX7_readMap_108 ?_
    refine g_aload_n (pc := 111) F dX7_readMap_111 rfl 0 rfl ?_
    refine g_callVi (pc := 112) F (mX7_stepToEnd hx0 h) mvX7_stepToEnd uX7_66 (by decide) clX7 hx0.1 rfl rfl (Nat.le_of_ble_eq_true rfl) dX7_readMap_112 (fun r_112 s_112 h => ?_)
    exact hR _ _ _ _ dX7_readMap_115 h.1 h.2
def wX7_readItem (x0 : Nat) (x1 : Nat) (x2 : Nat) (x3 : Int32) (s : St) (Q : Int32 → St → Prop) : Prop :=
  (((s.1 x0 4) = (108 : Int32) → (((6 : Int32) ≤ (s.1 x1 1) → Q (0 : Int32) s) ∧ (¬ (6 : Int32) ≤ (s.1 x1 1) → wX7_readLane x0 x1 x2 s (fun r_62 s_62 => ((r_62 = 0 → Q (0 : Int32) s_62) ∧ (¬ r_62 = 0 → Q (1 : Int32) s_62)))))) ∧ (¬ (s.1 x0 4) = (108 : Int32) → (((s.1 x0 4) = (109 : Int32) → (((4 : Int32) ≤ (s.1 x2 3) → Q (0 : Int32) s) ∧ (¬ (4 : Int32) ≤ (s.1 x2 3) → wX7_readMap x0 x1 x2 s (fun r_85 s_85 => ((r_85 = 0 → Q (0 : Int32) s_85) ∧ (¬ r_85 = 0 → Q (1 : Int32) s_85)))))) ∧ (¬ (s.1 x0 4) = (109 : Int32) → (((s.1 x0 4) = (110 : Int32) → ((¬ x3 = 0 → Q (0 : Int32) s) ∧ (x3 = 0 → wX7_readPlaces x0 x1 s (fun r_38 s_38 => ((r_38 = 0 → Q (0 : Int32) s_38) ∧ (¬ r_38 = 0 → Q (1 : Int32) s_38)))))) ∧ (¬ (s.1 x0 4) = (110 : Int32) → Q (0 : Int32) s))))))
set_option maxHeartbeats 4000000 in
set_option maxRecDepth 100000 in
theorem mX7_readItem {l : Launch} {V : Wv} {x0 : Nat} {x1 : Nat} {x2 : Nat} {x3 : Int32} {s : St} {Q : Int32 → St → Prop} (hx0 : isX7 V x0) (hx1 : isX1 V x1) (hx2 : isX2 V x2) (h : wX7_readItem x0 x1 x2 x3 s Q) : Ci yX7_readItem cX7_readItem 4 (some .boolean) (4) l V [rf V x0, rf V x1, rf V x2, .int x3] s Q := by
  unfold wX7_readItem at h
  refine Cz.of mvX7_readItem.1 (Nat.le_of_ble_eq_true rfl) (fun X F hR => ?_)
  refine g_lv (lv' := [(_, _), (_, _), (_, _), (_, _)]) rfl ?_
  refine g_aload_n (pc := 0) F dX7_readItem_0 rfl 0 rfl ?_
  refine g_getI (pc := 1) F clX7 hx0.1 4 rfl (by decide) uX7_25 dX7_readItem_1 ?_
  by_cases c0 : (s.1 x0 4) = (108 : Int32)
  · have h := h.1 c0
    refine g_tabIn (o := 46) (pc := 4) F 50 dX7_readItem_4 (by rw [c0]; decide) (by rw [c0]; decide) (by rw [c0]; rfl) (by decide) ?_
    refine g_aload_n (pc := 50) F dX7_readItem_50 rfl 1 rfl ?_
    refine g_getI (pc := 51) F clX1 hx1.1 1 rfl (by decide) uX7_42 dX7_readItem_51 ?_
    refine g_bipush (pc := 54) F dX7_readItem_54 bp_6 ?_
    refine g_icmp_ge (pc := 56) F 72 dX7_readItem_56 (by decide) (fun c => ?_) (fun c => ?_)
    · have h := h.1 c
      refine g_iconst (pc := 72) F dX7_readItem_72 ic_0 ?_
      exact hR _ _ _ _ dX7_readItem_73 (Or.inl rfl) h
    · have h := h.2 c
      refine g_aload_n (pc := 59) F dX7_readItem_59 rfl 0 rfl ?_
      refine g_aload_n (pc := 60) F dX7_readItem_60 rfl 1 rfl ?_
      refine g_aload_n (pc := 61) F dX7_readItem_61 rfl 2 rfl ?_
      refine g_callVi (pc := 62) F (mX7_readLane hx0 hx1 hx2 h) mvX7_readLane uX7_47 (by decide) clX7 hx0.1 rfl rfl (Nat.le_of_ble_eq_true rfl) dX7_readItem_62 (fun r_62 s_62 h => ?_)
      refine g_if_eq (pc := 65) F 72 dX7_readItem_65 (by decide) (fun c => ?_) (fun c => ?_)
      · have h := h.1 c
        refine g_iconst (pc := 72) F dX7_readItem_72 ic_0 ?_
        exact hR _ _ _ _ dX7_readItem_73 (Or.inl rfl) h
      · have h := h.2 c
        refine g_iconst (pc := 68) F dX7_readItem_68 ic_1 ?_
        refine g_goto (pc := 69) F 73 dX7_readItem_69 (by decide) ?_
        exact hR _ _ _ _ dX7_readItem_73 (Or.inr rfl) h
  · have h := h.2 c0
    by_cases c1 : (s.1 x0 4) = (109 : Int32)
    · have h := h.1 c1
      refine g_tabIn (o := 70) (pc := 4) F 74 dX7_readItem_4 (by rw [c1]; decide) (by rw [c1]; decide) (by rw [c1]; rfl) (by decide) ?_
      refine g_aload_n (pc := 74) F dX7_readItem_74 rfl 2 rfl ?_
      refine g_getI (pc := 75) F clX2 hx2.1 3 rfl (by decide) uX7_51 dX7_readItem_75 ?_
      refine g_iconst (pc := 78) F dX7_readItem_78 ic_4 ?_
      refine g_icmp_ge (pc := 79) F 95 dX7_readItem_79 (by decide) (fun c => ?_) (fun c => ?_)
      · have h := h.1 c
        refine g_iconst (pc := 95) F dX7_readItem_95 ic_0 ?_
        exact hR _ _ _ _ dX7_readItem_96 (Or.inl rfl) h
      · have h := h.2 c
        refine g_aload_n (pc := 82) F dX7_readItem_82 rfl 0 rfl ?_
        refine g_aload_n (pc := 83) F dX7_readItem_83 rfl 1 rfl ?_
        refine g_aload_n (pc := 84) F dX7_readItem_84 rfl 2 rfl ?_
        refine g_callVi (pc := 85) F (mX7_readMap hx0 hx1 hx2 h) mvX7_readMap uX7_56 (by decide) clX7 hx0.1 rfl rfl (Nat.le_of_ble_eq_true rfl) dX7_readItem_85 (fun r_85 s_85 h => ?_)
        refine g_if_eq (pc := 88) F 95 dX7_readItem_88 (by decide) (fun c => ?_) (fun c => ?_)
        · have h := h.1 c
          refine g_iconst (pc := 95) F dX7_readItem_95 ic_0 ?_
          exact hR _ _ _ _ dX7_readItem_96 (Or.inl rfl) h
        · have h := h.2 c
          refine g_iconst (pc := 91) F dX7_readItem_91 ic_1 ?_
          refine g_goto (pc := 92) F 96 dX7_readItem_92 (by decide) ?_
          exact hR _ _ _ _ dX7_readItem_96 (Or.inr rfl) h
    · have h := h.2 c1
      by_cases c2 : (s.1 x0 4) = (110 : Int32)
      · have h := h.1 c2
        refine g_tabIn (o := 28) (pc := 4) F 32 dX7_readItem_4 (by rw [c2]; decide) (by rw [c2]; decide) (by rw [c2]; rfl) (by decide) ?_
        refine g_iload_n (pc := 32) F dX7_readItem_32 rfl 3 rfl ?_
        refine g_if_ne (pc := 33) F 48 dX7_readItem_33 (by decide) (fun c => ?_) (fun c => ?_)
        · have h := h.1 c
          refine g_iconst (pc := 48) F dX7_readItem_48 ic_0 ?_
          exact hR _ _ _ _ dX7_readItem_49 (Or.inl rfl) h
        · have h := h.2 c
          refine g_aload_n (pc := 36) F dX7_readItem_36 rfl 0 rfl ?_
          refine g_aload_n (pc := 37) F dX7_readItem_37 rfl 1 rfl ?_
          refine g_callVi (pc := 38) F (mX7_readPlaces hx0 hx1 h) mvX7_readPlaces uX7_38 (by decide) clX7 hx0.1 rfl rfl (Nat.le_of_ble_eq_true rfl) dX7_readItem_38 (fun r_38 s_38 h => ?_)
          refine g_if_eq (pc := 41) F 48 dX7_readItem_41 (by decide) (fun c => ?_) (fun c => ?_)
          · have h := h.1 c
            refine g_iconst (pc := 48) F dX7_readItem_48 ic_0 ?_
            exact hR _ _ _ _ dX7_readItem_49 (Or.inl rfl) h
          · have h := h.2 c
            refine g_iconst (pc := 44) F dX7_readItem_44 ic_1 ?_
            refine g_goto (pc := 45) F 49 dX7_readItem_45 (by decide) ?_
            exact hR _ _ _ _ dX7_readItem_49 (Or.inr rfl) h
      · have h := h.2 c2
        refine g_tabOut (pc := 4) F 97 dX7_readItem_4 ?_ (by decide) ?_
        · have e0 := lv_neT c0 (show ((108 : Int32)).toInt = 108 from rfl); have e1 := lv_neT c1 (show ((109 : Int32)).toInt = 109 from rfl); have e2 := lv_neT c2 (show ((110 : Int32)).toInt = 110 from rfl); omega
        · refine g_iconst (pc := 97) F dX7_readItem_97 ic_0 ?_
          exact hR _ _ _ _ dX7_readItem_98 (Or.inl rfl) h
def wX7_read_11 (x0 : Nat) (x1 : Nat) (x2 : Nat) (Q : Int32 → St → Prop) : Nat → Int32 → St → Prop
  | 0, _, _ => False
  | n + 1, x3, s =>
  (((120 : Int32) ≤ x3 → Q x3 s) ∧ (¬ (120 : Int32) ≤ x3 → (((s.1 x0 4) = 0 → Q x3 s) ∧ (¬ (s.1 x0 4) = 0 → wX7_readItem x0 x1 x2 x3 s (fun r_28 s_28 => ((¬ r_28 = 0 → wX7_step x0 s_28 (fun s_46 => wX7_read_11 x0 x1 x2 Q n (x3 + (1 : Int32)) s_46)) ∧ (r_28 = 0 → Q ((-10 : Int32) - (s_28.1 x0 2)) s_28)))))))
set_option maxHeartbeats 4000000 in
set_option maxRecDepth 100000 in
theorem bX7_read_11 {l : Launch} {V : Wv} {X : Mx} {x0 : Nat} {x1 : Nat} {x2 : Nat} {Q : Int32 → St → Prop} (F : Fx V X cX7_read RX7 4 5) (hR : RtI l V X 4 cX7_read Q) (hx0 : isX7 V x0) (hx1 : isX1 V x1) (hx2 : isX2 V x2)  : ∀ (n : Nat) (x3 : Int32) (s : St), wX7_read_11 x0 x1 x2 Q n x3 s → G l V X 4 11 [(0, rf V x0), (1, rf V x1), (2, rf V x2), (3, .int x3)] [] s := by
  intro n
  induction n with
  | zero => intro x3 s h; unfold wX7_read_11 at h; exact h.elim
  | succ n ih =>
    intro x3 s h
    unfold wX7_read_11 at h
    refine g_iload_n (pc := 11) F dX7_read_11 rfl 3 rfl ?_
    refine g_bipush (pc := 12) F dX7_read_12 bp_120 ?_
    refine g_icmp_ge (pc := 14) F 52 dX7_read_14 (by decide) (fun c => ?_) (fun c => ?_)
    · have h := h.1 c
      refine g_iload_n (pc := 52) F dX7_read_52 rfl 3 rfl ?_
      exact hR _ _ _ _ dX7_read_53 h
    · have h := h.2 c
      refine g_aload_n (pc := 17) F dX7_read_17 rfl 0 rfl ?_
      refine g_getI (pc := 18) F clX7 hx0.1 4 rfl (by decide) uX7_25 dX7_read_18 ?_
      refine g_if_eq (pc := 21) F 52 dX7_read_21 (by decide) (fun c => ?_) (fun c => ?_)
      · have h := h.1 c
        refine g_iload_n (pc := 52) F dX7_read_52 rfl 3 rfl ?_
        exact hR _ _ _ _ dX7_read_53 h
      · have h := h.2 c
        refine g_aload_n (pc := 24) F dX7_read_24 rfl 0 rfl ?_
        refine g_aload_n (pc := 25) F dX7_read_25 rfl 1 rfl ?_
        refine g_aload_n (pc := 26) F dX7_read_26 rfl 2 rfl ?_
        refine g_iload_n (pc := 27) F dX7_read_27 rfl 3 rfl ?_
        refine g_callVi (pc := 28) F (mX7_readItem hx0 hx1 hx2 h) mvX7_readItem uX7_34 (by decide) clX7 hx0.1 rfl rfl (Nat.le_of_ble_eq_true rfl) dX7_read_28 (fun r_28 s_28 h => ?_)
        refine g_if_ne (pc := 31) F 42 dX7_read_31 (by decide) (fun c => ?_) (fun c => ?_)
        · have h := h.1 c
          refine g_iinc (pc := 42) (lv' := [(_, _), (_, _), (_, _), (_, _)]) F dX7_read_42 3 rfl (congrArg _ ic_1) (by decide) rfl ?_
          refine g_aload_n (pc := 45) F dX7_read_45 rfl 1 rfl ?_
          refine g_callVv (pc := 46) F (mX7_step hx0 h) mvX7_step uX7_31 (by decide) clX7 hx0.1 rfl rfl (Nat.le_of_ble_eq_true rfl) dX7_read_46 (fun s_46 h => ?_)
          refine g_goto (pc := 49) F 11 dX7_read_49 (by decide) ?_
          exact g_weak [1, 2, 3, 0] rfl (ih _ _ h)
        · have h := h.2 c
          refine g_bipush (pc := 34) F dX7_read_34 bp_m10 ?_
          refine g_aload_n (pc := 36) F dX7_read_36 rfl 0 rfl ?_
          refine g_getI (pc := 37) F clX7 hx0.1 2 rfl (by decide) uX7_19 dX7_read_37 ?_
          refine g_isub (pc := 40) F dX7_read_40 ?_
          exact hR _ _ _ _ dX7_read_41 h
def wX7_read (x0 : Nat) (x1 : Nat) (x2 : Nat) (s : St) (Q : Int32 → St → Prop) : Prop :=
  ∀ s_2 : St, s_2 = stI s x0 3 (0 : Int32) → wX7_step x0 s_2 (fun s_6 => (∃ k_11, wX7_read_11  x0 x1 x2  Q k_11 (0 : Int32) s_6))
set_option maxHeartbeats 4000000 in
set_option maxRecDepth 100000 in
theorem mX7_read {l : Launch} {V : Wv} {x0 : Nat} {x1 : Nat} {x2 : Nat} {s : St} {Q : Int32 → St → Prop} (hx0 : isX7 V x0) (hx1 : isX1 V x1) (hx2 : isX2 V x2) (h : wX7_read x0 x1 x2 s Q) : Ci yX7_read cX7_read 4 (some .int) (5) l V [rf V x0, rf V x1, rf V x2] s Q := by
  unfold wX7_read at h
  refine Ci.of mvX7_read.1 (Nat.le_of_ble_eq_true rfl) (fun X F hR => ?_)
  refine g_lv (lv' := [(_, _), (_, _), (_, _)]) rfl ?_
  refine g_aload_n (pc := 0) F dX7_read_0 rfl 0 rfl ?_
  refine g_iconst (pc := 1) F dX7_read_1 ic_0 ?_
  have h := h _ rfl
  refine g_putI (pc := 2) F clX7 hx0.1 3 rfl (by decide) rfl (tyX7_ok 3 (by decide)) uX7_22 dX7_read_2 ?_
  refine g_aload_n (pc := 5) F dX7_read_5 rfl 0 rfl ?_
  refine g_callVv (pc := 6) F (mX7_step hx0 h) mvX7_step uX7_31 (by decide) clX7 hx0.1 rfl rfl (Nat.le_of_ble_eq_true rfl) dX7_read_6 (fun s_6 h => ?_)
  refine g_iconst (pc := 9) F dX7_read_9 ic_0 ?_
  refine g_istore_n (pc := 10) (lv' := [(_, _), (_, _), (_, _), (_, _)]) F dX7_read_10 rfl (by decide) rfl ?_
  obtain ⟨k_11, h⟩ := h
  refine g_weak [1, 2, 3, 0] rfl (bX7_read_11 F hR hx0 hx1 hx2 k_11 _ _ h)
