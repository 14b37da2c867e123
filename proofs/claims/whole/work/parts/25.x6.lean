/-! printed by program: what each method does to the state (w..), and that its code does so (b.., m..) -/
def wX6_empty (x0 : Nat) (s : St) (Q : Int32 → St → Prop) : Prop :=
  ∀ s_7 : St, s_7 = stI s x0 0 (0 : Int32) → ∀ s_12 : St, s_12 = stI s_7 x0 1 (0 : Int32) → ∀ s_17 : St, s_17 = stI s_12 x0 2 (0 : Int32) → Q (s.1 x0 0) s_17
set_option maxHeartbeats 4000000 in
set_option maxRecDepth 100000 in
theorem mX6_empty {l : Launch} {V : Wv} {x0 : Nat} {s : St} {Q : Int32 → St → Prop} (hx0 : isX6 V x0) (h : wX6_empty x0 s Q) : Ci yX6_empty cX6_empty 2 (some .int) (0) l V [rf V x0] s Q := by
  unfold wX6_empty at h
  refine Ci.of mvX6_empty.1 (Nat.le_of_ble_eq_true rfl) (fun X F hR => ?_)
  refine g_lv (lv' := [(_, _)]) rfl ?_
  refine g_aload_n (pc := 0) F dX6_empty_0 rfl 0 rfl ?_
  refine g_getI (pc := 1) F clX6 hx0.1 0 rfl (by decide) uX6_9 dX6_empty_1 ?_
  refine g_istore_n (pc := 4) (lv' := [(_, _), (_, _)]) F dX6_empty_4 rfl (by decide) rfl ?_
  refine g_aload_n (pc := 5) F dX6_empty_5 rfl 1 rfl ?_
  refine g_iconst (pc := 6) F dX6_empty_6 ic_0 ?_
  have h := h _ rfl
  refine g_putI (pc := 7) F clX6 hx0.1 0 rfl (by decide) rfl (tyX6_ok 0 (by decide)) uX6_9 dX6_empty_7 ?_
  refine g_aload_n (pc := 10) F dX6_empty_10 rfl 1 rfl ?_
  refine g_iconst (pc := 11) F dX6_empty_11 ic_0 ?_
  have h := h _ rfl
  refine g_putI (pc := 12) F clX6 hx0.1 1 rfl (by decide) rfl (tyX6_ok 1 (by decide)) uX6_15 dX6_empty_12 ?_
  refine g_aload_n (pc := 15) F dX6_empty_15 rfl 1 rfl ?_
  refine g_iconst (pc := 16) F dX6_empty_16 ic_0 ?_
  have h := h _ rfl
  refine g_putI (pc := 17) F clX6 hx0.1 2 rfl (by decide) rfl (tyX6_ok 2 (by decide)) uX6_18 dX6_empty_17 ?_
  refine g_iload_n (pc := 20) F dX6_empty_20 rfl 0 rfl ?_
  exact hR _ _ _ _ dX6_empty_21 h
def wX6_add_43 (Q : Int32 → St → Prop) (x0 : Nat) (s : St) : Prop :=
  ∀ s_50 : St, s_50 = stI s x0 0 ((s.1 x0 0) + (1 : Int32)) → Q (1 : Int32) s_50
set_option maxHeartbeats 4000000 in
set_option maxRecDepth 100000 in
theorem bX6_add_43 {l : Launch} {V : Wv} {X : Mx} {Q : Int32 → St → Prop} {x0 : Nat} (F : Fx V X cX6_add RX6 3 0) (hR : RtZ l V X 3 cX6_add Q) (hx0 : isX6 V x0)  {s : St} (h : wX6_add_43 Q x0 s) : G l V X 3 43 [(0, rf V x0)] [] s := by
  unfold wX6_add_43 at h
  refine g_aload_n (pc := 43) F dX6_add_43 rfl 0 rfl ?_
  refine g_dup (pc := 44) F dX6_add_44 rfl ?_
  refine g_getI (pc := 45) F clX6 hx0.1 0 rfl (by decide) uX6_9 dX6_add_45 ?_
  refine g_iconst (pc := 48) F dX6_add_48 ic_1 ?_
  refine g_iadd (pc := 49) F dX6_add_49 ?_
  have h := h _ rfl
  refine g_putI (pc := 50) F clX6 hx0.1 0 rfl (by decide) rfl (tyX6_ok 0 (by decide)) uX6_9 dX6_add_50 ?_
  refine g_iconst (pc := 53) F dX6_add_53 ic_1 ?_
  exact hR _ _ _ _ dX6_add_54 (Or.inr rfl) h
def wX6_add (x0 : Nat) (x1 : Int32) (x2 : Int32) (s : St) (Q : Int32 → St → Prop) : Prop :=
  (((s.1 x0 0) < (6 : Int32) → ((¬ x2 = (1 : Int32) → ∀ s_40 : St, s_40 = stI s x0 2 ((s.1 x0 2) ||| ((1 : Int32) <<< (x1 &&& 31))) → wX6_add_43 Q x0 s_40) ∧ (x2 = (1 : Int32) → ∀ s_25 : St, s_25 = stI s x0 1 ((s.1 x0 1) ||| ((1 : Int32) <<< (x1 &&& 31))) → wX6_add_43 Q x0 s_25))) ∧ (¬ (s.1 x0 0) < (6 : Int32) → Q (0 : Int32) s))
set_option maxHeartbeats 4000000 in
set_option maxRecDepth 100000 in
theorem mX6_add {l : Launch} {V : Wv} {x0 : Nat} {x1 : Int32} {x2 : Int32} {s : St} {Q : Int32 → St → Prop} (hx0 : isX6 V x0) (h : wX6_add x0 x1 x2 s Q) : Ci yX6_add cX6_add 3 (some .boolean) (0) l V [rf V x0, .int x1, .int x2] s Q := by
  unfold wX6_add at h
  refine Cz.of mvX6_add.1 (Nat.le_of_ble_eq_true rfl) (fun X F hR => ?_)
  refine g_lv (lv' := [(_, _), (_, _), (_, _)]) rfl ?_
  refine g_aload_n (pc := 0) F dX6_add_0 rfl 0 rfl ?_
  refine g_getI (pc := 1) F clX6 hx0.1 0 rfl (by decide) uX6_9 dX6_add_1 ?_
  refine g_bipush (pc := 4) F dX6_add_4 bp_6 ?_
  refine g_icmp_lt (pc := 6) F 11 dX6_add_6 (by decide) (fun c => ?_) (fun c => ?_)
  · have h := h.1 c
    refine g_iload_n (pc := 11) F dX6_add_11 rfl 2 rfl ?_
    refine g_iconst (pc := 12) F dX6_add_12 ic_1 ?_
    refine g_icmp_ne (pc := 13) F 31 dX6_add_13 (by decide) (fun c => ?_) (fun c => ?_)
    · have h := h.1 c
      refine g_aload_n (pc := 31) F dX6_add_31 rfl 0 rfl ?_
      refine g_dup (pc := 32) F dX6_add_32 rfl ?_
      refine g_getI (pc := 33) F clX6 hx0.1 2 rfl (by decide) uX6_18 dX6_add_33 ?_
      refine g_iconst (pc := 36) F dX6_add_36 ic_1 ?_
      refine g_iload_n (pc := 37) F dX6_add_37 rfl 1 rfl ?_
      refine g_ishl (pc := 38) F dX6_add_38 ?_
      refine g_ior (pc := 39) F dX6_add_39 ?_
      have h := h _ rfl
      refine g_putI (pc := 40) F clX6 hx0.1 2 rfl (by decide) rfl (tyX6_ok 2 (by decide)) uX6_18 dX6_add_40 ?_
      exact g_weak [0] rfl (bX6_add_43 F hR hx0 h)
    · have h := h.2 c
      refine g_aload_n (pc := 16) F dX6_add_16 rfl 0 rfl ?_
      refine g_dup (pc := 17) F dX6_add_17 rfl ?_
      refine g_getI (pc := 18) F clX6 hx0.1 1 rfl (by decide) uX6_15 dX6_add_18 ?_
      refine g_iconst (pc := 21) F dX6_add_21 ic_1 ?_
      refine g_iload_n (pc := 22) F dX6_add_22 rfl 1 rfl ?_
      refine g_ishl (pc := 23) F dX6_add_23 ?_
      refine g_ior (pc := 24) F dX6_add_24 ?_
      have h := h _ rfl
      refine g_putI (pc := 25) F clX6 hx0.1 1 rfl (by decide) rfl (tyX6_ok 1 (by decide)) uX6_15 dX6_add_25 ?_
      refine g_goto (pc := 28) F 43 dX6_add_28 (by decide) ?_
      exact g_weak [0] rfl (bX6_add_43 F hR hx0 h)
  · have h := h.2 c
    refine g_iconst (pc := 9) F dX6_add_9 ic_0 ?_
    exact hR _ _ _ _ dX6_add_10 (Or.inl rfl) h
def wX6_addFitting_32 (x0 : Nat) (x1 : Int32) (Q : St → Prop) : Nat → Int32 → St → Prop
  | 0, _, _ => False
  | n + 1, x2, s =>
  (((6 : Int32) ≤ x2 → Q s) ∧ (¬ (6 : Int32) ≤ x2 → vp_in x2 6 ∧ vp_in x2 6 ∧ ∀ s_51 : St, s_51 = stI s (x0 + 1) x2.toNatClampNeg ((s.1 (x0 + 1) x2.toNatClampNeg) + ((x1 >>> (x2 &&& 31)) &&& (1 : Int32))) → wX6_addFitting_32 x0 x1 Q n (x2 + (1 : Int32)) s_51))
set_option maxHeartbeats 4000000 in
set_option maxRecDepth 100000 in
theorem bX6_addFitting_32 {l : Launch} {V : Wv} {X : Mx} {x0 : Nat} {x1 : Int32} {Q : St → Prop} (F : Fx V X cX6_addFitting RX6 3 0) (hR : RtV l V X 3 cX6_addFitting Q) (hx0 : isX6 V x0)  : ∀ (n : Nat) (x2 : Int32) (s : St), wX6_addFitting_32 x0 x1 Q n x2 s → G l V X 3 32 [(0, rf V x0), (1, .int x1), (2, .int x2)] [] s := by
  intro n
  induction n with
  | zero => intro x2 s h; unfold wX6_addFitting_32 at h; exact h.elim
  | succ n ih =>
    intro x2 s h
    unfold wX6_addFitting_32 at h
    refine g_iload_n (pc := 32) F dX6_addFitting_32 rfl 2 rfl ?_
    refine g_bipush (pc := 33) F dX6_addFitting_33 bp_6 ?_
    refine g_icmp_ge (pc := 35) F 58 dX6_addFitting_35 (by decide) (fun c => ?_) (fun c => ?_)
    · have h := h.1 c
      exact hR _ _ _ dX6_addFitting_58 h
    · have h := h.2 c
      refine g_aload_n (pc := 38) F dX6_addFitting_38 rfl 0 rfl ?_
      refine g_getR (pc := 39) F clX6 hx0.1 6 _ rfl (by decide) uX6_30 dX6_addFitting_39 ?_
      refine g_iload_n (pc := 42) F dX6_addFitting_42 rfl 2 rfl ?_
      refine g_dup2 (pc := 43) F dX6_addFitting_43 rfl rfl ?_
      obtain ⟨hb_44, h⟩ := h
      refine g_iald (pc := 44) F hx0.2 hb_44 dX6_addFitting_44 ?_
      refine g_iload_n (pc := 45) F dX6_addFitting_45 rfl 1 rfl ?_
      refine g_iload_n (pc := 46) F dX6_addFitting_46 rfl 2 rfl ?_
      refine g_ishr (pc := 47) F dX6_addFitting_47 ?_
      refine g_iconst (pc := 48) F dX6_addFitting_48 ic_1 ?_
      refine g_iand (pc := 49) F dX6_addFitting_49 ?_
      refine g_iadd (pc := 50) F dX6_addFitting_50 ?_
      obtain ⟨hb_51, h⟩ := h
      have h := h _ rfl
      refine g_iast (pc := 51) F hx0.2 hb_51 dX6_addFitting_51 ?_
      refine g_iinc (pc := 52) (lv' := [(_, _), (_, _), (_, _)]) F dX6_addFitting_52 2 rfl (congrArg _ ic_1) (by decide) rfl ?_
      refine g_goto (pc := 55) F 32 dX6_addFitting_55 (by decide) ?_
      exact g_weak [1, 2, 0] rfl (ih _ _ h)
def wX6_addFitting (x0 : Nat) (x1 : Int32) (s : St) (Q : St → Prop) : Prop :=
  ∀ s_7 : St, s_7 = stI s x0 3 ((s.1 x0 3) + (1 : Int32)) → ∀ s_17 : St, s_17 = stI s_7 x0 4 ((s_7.1 x0 4) &&& x1) → ∀ s_27 : St, s_27 = stI s_17 x0 5 ((s_17.1 x0 5) ||| x1) → (∃ k_32, wX6_addFitting_32  x0 x1  Q k_32 (0 : Int32) s_27)
set_option maxHeartbeats 4000000 in
set_option maxRecDepth 100000 in
theorem mX6_addFitting {l : Launch} {V : Wv} {x0 : Nat} {x1 : Int32} {s : St} {Q : St → Prop} (hx0 : isX6 V x0) (h : wX6_addFitting x0 x1 s Q) : Cv yX6_addFitting cX6_addFitting 3 (0) l V [rf V x0, .int x1] s Q := by
  unfold wX6_addFitting at h
  refine Cv.of mvX6_addFitting.1 (Nat.le_of_ble_eq_true rfl) (fun X F hR => ?_)
  refine g_lv (lv' := [(_, _), (_, _)]) rfl ?_
  refine g_aload_n (pc := 0) F dX6_addFitting_0 rfl 0 rfl ?_
  refine g_dup (pc := 1) F dX6_addFitting_1 rfl ?_
  refine g_getI (pc := 2) F clX6 hx0.1 3 rfl (by decide) uX6_21 dX6_addFitting_2 ?_
  refine g_iconst (pc := 5) F dX6_addFitting_5 ic_1 ?_
  refine g_iadd (pc := 6) F dX6_addFitting_6 ?_
  have h := h _ rfl
  refine g_putI (pc := 7) F clX6 hx0.1 3 rfl (by decide) rfl (tyX6_ok 3 (by decide)) uX6_21 dX6_addFitting_7 ?_
  refine g_aload_n (pc := 10) F dX6_addFitting_10 rfl 0 rfl ?_
  refine g_dup (pc := 11) F dX6_addFitting_11 rfl ?_
  refine g_getI (pc := 12) F clX6 hx0.1 4 rfl (by decide) uX6_24 dX6_addFitting_12 ?_
  refine g_iload_n (pc := 15) F dX6_addFitting_15 rfl 1 rfl ?_
  refine g_iand (pc := 16) F dX6_addFitting_16 ?_
  have h := h _ rfl
  refine g_putI (pc := 17) F clX6 hx0.1 4 rfl (by decide) rfl (tyX6_ok 4 (by decide)) uX6_24 dX6_addFitting_17 ?_
  refine g_aload_n (pc := 20) F dX6_addFitting_20 rfl 0 rfl ?_
  refine g_dup (pc := 21) F dX6_addFitting_21 rfl ?_
  refine g_getI (pc := 22) F clX6 hx0.1 5 rfl (by decide) uX6_27 dX6_addFitting_22 ?_
  refine g_iload_n (pc := 25) F dX6_addFitting_25 rfl 1 rfl ?_
  refine g_ior (pc := 26) F dX6_addFitting_26 ?_
  have h := h _ rfl
  refine g_putI (pc := 27) F clX6 hx0.1 5 rfl (by decide) rfl (tyX6_ok 5 (by decide)) uX6_27 dX6_addFitting_27 ?_
  refine g_iconst (pc := 30) F dX6_addFitting_30 ic_0 ?_
  refine g_istore_n (pc := 31) (lv' := [(_, _), (_, _), (_, _)]) F dX6_addFitting_31 rfl (by decide) rfl ?_
  obtain ⟨k_32, h⟩ := h
  refine g_weak [1, 2, 0] rfl (bX6_addFitting_32 F hR hx0 k_32 _ _ h)
def wX6_guess_18 (x0 : Nat) (x1 : Nat) (K37 : St → Prop) (Q : St → Prop) : Nat → Int32 → St → Prop
  | 0, _, _ => False
  | n + 1, x2, s =>
  (((6 : Int32) ≤ x2 → K37  s) ∧ (¬ (6 : Int32) ≤ x2 → vp_in x2 6 ∧ ∀ s_30 : St, s_30 = stI s (x0 + 1) x2.toNatClampNeg (0 : Int32) → wX6_guess_18 x0 x1 K37 Q n (x2 + (1 : Int32)) s_30))
set_option maxHeartbeats 4000000 in
set_option maxRecDepth 100000 in
theorem bX6_guess_18 {l : Launch} {V : Wv} {X : Mx} {x0 : Nat} {x1 : Nat} {K37 : St → Prop} {Q : St → Prop} (F : Fx V X cX6_guess RX6 5 1) (hR : RtV l V X 5 cX6_guess Q) (hx0 : isX6 V x0) (hx1 : isX8 V x1) (hK37 : ∀  (s : St), K37  s → G l V X 5 37 [(0, rf V x0), (1, rf V x1)] [] s) : ∀ (n : Nat) (x2 : Int32) (s : St), wX6_guess_18 x0 x1 K37 Q n x2 s → G l V X 5 18 [(0, rf V x0), (1, rf V x1), (2, .int x2)] [] s := by
  intro n
  induction n with
  | zero => intro x2 s h; unfold wX6_guess_18 at h; exact h.elim
  | succ n ih =>
    intro x2 s h
    unfold wX6_guess_18 at h
    refine g_iload_n (pc := 18) F dX6_guess_18 rfl 2 rfl ?_
    refine g_bipush (pc := 19) F dX6_guess_19 bp_6 ?_
    refine g_icmp_ge (pc := 21) F 37 dX6_guess_21 (by decide) (fun c => ?_) (fun c => ?_)
    · have h := h.1 c
      exact g_weak [0, 1] rfl (hK37 _ h)
    · have h := h.2 c
      refine g_aload_n (pc := 24) F dX6_guess_24 rfl 0 rfl ?_
      refine g_getR (pc := 25) F clX6 hx0.1 6 _ rfl (by decide) uX6_30 dX6_guess_25 ?_
      refine g_iload_n (pc := 28) F dX6_guess_28 rfl 2 rfl ?_
      refine g_iconst (pc := 29) F dX6_guess_29 ic_0 ?_
      obtain ⟨hb_30, h⟩ := h
      have h := h _ rfl
      refine g_iast (pc := 30) F hx0.2 hb_30 dX6_guess_30 ?_
      refine g_iinc (pc := 31) (lv' := [(_, _), (_, _), (_, _)]) F dX6_guess_31 2 rfl (congrArg _ ic_1) (by decide) rfl ?_
      refine g_goto (pc := 34) F 18 dX6_guess_34 (by decide) ?_
      exact g_weak [1, 2, 0] rfl (ih _ _ h)
def wX6_guess_101 (rec : Int32 → St → Prop) (Q : St → Prop) (x0 : Nat) (x1 : Nat) (x2 : Int32) (s : St) : Prop :=
  rec (x2 + (1 : Int32)) s
set_option maxHeartbeats 4000000 in
set_option maxRecDepth 100000 in
theorem bX6_guess_101 {l : Launch} {V : Wv} {X : Mx} {rec : Int32 → St → Prop} {Q : St → Prop} {x0 : Nat} {x1 : Nat} {x2 : Int32} (F : Fx V X cX6_guess RX6 5 1) (hR : RtV l V X 5 cX6_guess Q) (hx0 : isX6 V x0) (hx1 : isX8 V x1) (hrec : ∀ (y2 : Int32) (s : St), rec y2 s → G l V X 5 39 [(0, rf V x0), (1, rf V x1), (2, .int y2)] [] s) {s : St} (h : wX6_guess_101 rec Q x0 x1 x2 s) : G l V X 5 101 [(0, rf V x0), (1, rf V x1), (2, .int x2)] [] s := by
  unfold wX6_guess_101 at h
  refine g_iinc (pc := 101) (lv' := [(_, _), (_, _), (_, _)]) F dX6_guess_101 2 rfl (congrArg _ ic_1) (by decide) rfl ?_
  refine g_goto (pc := 104) F 39 dX6_guess_104 (by decide) ?_
  exact g_weak [1, 2, 0] rfl (hrec _ _ h)
def wX6_guess_81 (rec : Int32 → St → Prop) (Q : St → Prop) (x0 : Nat) (x1 : Nat) (x2 : Int32) (x3 : Int32) (t0 : Int32) (s : St) : Prop :=
  ((t0 = 0 → wX6_guess_101 (rec) Q x0 x1 x2 s) ∧ (¬ t0 = 0 → wX8_isShortest x1 x2 s (fun r_90 s_90 => ((r_90 = 0 → wX6_guess_101 (rec) Q x0 x1 x2 s_90) ∧ (¬ r_90 = 0 → wX6_addFitting x0 x3 s_90 (fun s_98 => wX6_guess_101 (rec) Q x0 x1 x2 s_98))))))
set_option maxHeartbeats 4000000 in
set_option maxRecDepth 100000 in
theorem bX6_guess_81 {l : Launch} {V : Wv} {X : Mx} {rec : Int32 → St → Prop} {Q : St → Prop} {x0 : Nat} {x1 : Nat} {x2 : Int32} {x3 : Int32} {t0 : Int32} (F : Fx V X cX6_guess RX6 5 1) (hR : RtV l V X 5 cX6_guess Q) (hx0 : isX6 V x0) (hx1 : isX8 V x1) (hrec : ∀ (y2 : Int32) (s : St), rec y2 s → G l V X 5 39 [(0, rf V x0), (1, rf V x1), (2, .int y2)] [] s) {s : St} (h : wX6_guess_81 rec Q x0 x1 x2 x3 t0 s) : G l V X 5 81 [(0, rf V x0), (1, rf V x1), (2, .int x2), (3, .int x3)] [.int t0] s := by
  unfold wX6_guess_81 at h
  refine g_istore (pc := 81) (lv' := [(_, _), (_, _), (_, _), (_, _), (_, _)]) F dX6_guess_81 (by decide) rfl ?_
  refine g_iload (pc := 83) F dX6_guess_83 0 rfl ?_
  refine g_if_eq (pc := 85) F 101 dX6_guess_85 (by decide) (fun c => ?_) (fun c => ?_)
  · have h := h.1 c
    exact g_weak [1, 2, 3] rfl (bX6_guess_101 F hR hx0 hx1 hrec h)
  · have h := h.2 c
    refine g_aload_n (pc := 88) F dX6_guess_88 rfl 2 rfl ?_
    refine g_iload_n (pc := 89) F dX6_guess_89 rfl 3 rfl ?_
    refine g_callVi (pc := 90) F (mX8_isShortest hx1 h) mvX8_isShortest uX6_40 (by decide) clX8 hx1.1 rfl rfl (Nat.le_of_ble_eq_true rfl) dX6_guess_90 (fun r_90 s_90 h => ?_)
    refine g_if_eq (pc := 93) F 101 dX6_guess_93 (by decide) (fun c => ?_) (fun c => ?_)
    · have h := h.1 c
      exact g_weak [1, 2, 3] rfl (bX6_guess_101 F hR hx0 hx1 hrec h)
    · have h := h.2 c
      refine g_aload_n (pc := 96) F dX6_guess_96 rfl 1 rfl ?_
      refine g_iload_n (pc := 97) F dX6_guess_97 rfl 4 rfl ?_
      refine g_callVv (pc := 98) F (mX6_addFitting hx0 h) mvX6_addFitting uX6_44 (by decide) clX6 hx0.1 rfl rfl (Nat.le_of_ble_eq_true rfl) dX6_guess_98 (fun s_98 h => ?_)
      exact g_weak [1, 2, 3] rfl (bX6_guess_101 F hR hx0 hx1 hrec h)
def wX6_guess_80 (rec : Int32 → St → Prop) (Q : St → Prop) (x0 : Nat) (x1 : Nat) (x2 : Int32) (x3 : Int32) (s : St) : Prop :=
  wX6_guess_81 (rec) Q x0 x1 x2 x3 (0 : Int32) s
set_option maxHeartbeats 4000000 in
set_option maxRecDepth 100000 in
theorem bX6_guess_80 {l : Launch} {V : Wv} {X : Mx} {rec : Int32 → St → Prop} {Q : St → Prop} {x0 : Nat} {x1 : Nat} {x2 : Int32} {x3 : Int32} (F : Fx V X cX6_guess RX6 5 1) (hR : RtV l V X 5 cX6_guess Q) (hx0 : isX6 V x0) (hx1 : isX8 V x1) (hrec : ∀ (y2 : Int32) (s : St), rec y2 s → G l V X 5 39 [(0, rf V x0), (1, rf V x1), (2, .int y2)] [] s) {s : St} (h : wX6_guess_80 rec Q x0 x1 x2 x3 s) : G l V X 5 80 [(0, rf V x0), (1, rf V x1), (2, .int x2), (3, .int x3)] [] s := by
  unfold wX6_guess_80 at h
  refine g_iconst (pc := 80) F dX6_guess_80 ic_0 ?_
  exact g_weak [0, 1, 2, 3] rfl (bX6_guess_81 F hR hx0 hx1 hrec h)
def wX6_guess_39 (x0 : Nat) (x1 : Nat) (Q : St → Prop) : Nat → Int32 → St → Prop
  | 0, _, _ => False
  | n + 1, x2, s =>
  (((s.1 x1 0) ≤ x2 → Q s) ∧ (¬ (s.1 x1 0) ≤ x2 → vp_in x2 33 ∧ ((¬ ((s.1 (x1 + 4) x2.toNatClampNeg) &&& (s.1 x0 1)) = (s.1 x0 1) → wX6_guess_80 (wX6_guess_39 x0 x1 Q n) Q x0 x1 x2 (s.1 (x1 + 4) x2.toNatClampNeg) s) ∧ (((s.1 (x1 + 4) x2.toNatClampNeg) &&& (s.1 x0 1)) = (s.1 x0 1) → ((¬ ((s.1 (x1 + 4) x2.toNatClampNeg) &&& (s.1 x0 2)) = 0 → wX6_guess_80 (wX6_guess_39 x0 x1 Q n) Q x0 x1 x2 (s.1 (x1 + 4) x2.toNatClampNeg) s) ∧ (((s.1 (x1 + 4) x2.toNatClampNeg) &&& (s.1 x0 2)) = 0 → wX6_guess_81 (wX6_guess_39 x0 x1 Q n) Q x0 x1 x2 (s.1 (x1 + 4) x2.toNatClampNeg) (1 : Int32) s))))))
set_option maxHeartbeats 4000000 in
set_option maxRecDepth 100000 in
theorem bX6_guess_39 {l : Launch} {V : Wv} {X : Mx} {x0 : Nat} {x1 : Nat} {Q : St → Prop} (F : Fx V X cX6_guess RX6 5 1) (hR : RtV l V X 5 cX6_guess Q) (hx0 : isX6 V x0) (hx1 : isX8 V x1)  : ∀ (n : Nat) (x2 : Int32) (s : St), wX6_guess_39 x0 x1 Q n x2 s → G l V X 5 39 [(0, rf V x0), (1, rf V x1), (2, .int x2)] [] s := by
  intro n
  induction n with
  | zero => intro x2 s h; unfold wX6_guess_39 at h; exact h.elim
  | succ n ih =>
    intro x2 s h
    unfold wX6_guess_39 at h
    refine g_iload_n (pc := 39) F dX6_guess_39 rfl 2 rfl ?_
    refine g_aload_n (pc := 40) F dX6_guess_40 rfl 1 rfl ?_
    refine g_getI (pc := 41) F clX8 hx1.1 0 rfl (by decide) uX6_34 dX6_guess_41 ?_
    refine g_icmp_ge (pc := 44) F 107 dX6_guess_44 (by decide) (fun c => ?_) (fun c => ?_)
    · have h := h.1 c
      exact hR _ _ _ dX6_guess_107 h
    · have h := h.2 c
      refine g_aload_n (pc := 47) F dX6_guess_47 rfl 1 rfl ?_
      refine g_getR (pc := 48) F clX8 hx1.1 4 _ rfl (by decide) uX6_37 dX6_guess_48 ?_
      refine g_iload_n (pc := 51) F dX6_guess_51 rfl 2 rfl ?_
      obtain ⟨hb_52, h⟩ := h
      refine g_iald (pc := 52) F hx1.2.2.2.2.1 hb_52 dX6_guess_52 ?_
      refine g_istore_n (pc := 53) (lv' := [(_, _), (_, _), (_, _), (_, _)]) F dX6_guess_53 rfl (by decide) rfl ?_
      refine g_iload_n (pc := 54) F dX6_guess_54 rfl 0 rfl ?_
      refine g_aload_n (pc := 55) F dX6_guess_55 rfl 1 rfl ?_
      refine g_getI (pc := 56) F clX6 hx0.1 1 rfl (by decide) uX6_15 dX6_guess_56 ?_
      refine g_iand (pc := 59) F dX6_guess_59 ?_
      refine g_aload_n (pc := 60) F dX6_guess_60 rfl 1 rfl ?_
      refine g_getI (pc := 61) F clX6 hx0.1 1 rfl (by decide) uX6_15 dX6_guess_61 ?_
      refine g_icmp_ne (pc := 64) F 80 dX6_guess_64 (by decide) (fun c => ?_) (fun c => ?_)
      · have h := h.1 c
        exact g_weak [1, 2, 3, 0] rfl (bX6_guess_80 F hR hx0 hx1 ih h)
      · have h := h.2 c
        refine g_iload_n (pc := 67) F dX6_guess_67 rfl 0 rfl ?_
        refine g_aload_n (pc := 68) F dX6_guess_68 rfl 1 rfl ?_
        refine g_getI (pc := 69) F clX6 hx0.1 2 rfl (by decide) uX6_18 dX6_guess_69 ?_
        refine g_iand (pc := 72) F dX6_guess_72 ?_
        refine g_if_ne (pc := 73) F 80 dX6_guess_73 (by decide) (fun c => ?_) (fun c => ?_)
        · have h := h.1 c
          exact g_weak [1, 2, 3, 0] rfl (bX6_guess_80 F hR hx0 hx1 ih h)
        · have h := h.2 c
          refine g_iconst (pc := 76) F dX6_guess_76 ic_1 ?_
          refine g_goto (pc := 77) F 81 dX6_guess_77 (by decide) ?_
          exact g_weak [1, 2, 3, 0] rfl (bX6_guess_81 F hR hx0 hx1 ih h)
def wX6_guess (x0 : Nat) (x1 : Nat) (s : St) (Q : St → Prop) : Prop :=
  ∀ s_2 : St, s_2 = stI s x0 3 (0 : Int32) → ∀ s_8 : St, s_8 = stI s_2 x0 4 (63 : Int32) → ∀ s_13 : St, s_13 = stI s_8 x0 5 (0 : Int32) → (∃ k_18, wX6_guess_18  x0 x1 (fun  s_k37 => (∃ k_39, wX6_guess_39  x0 x1  Q k_39 (0 : Int32) s_k37)) Q k_18 (0 : Int32) s_13)
set_option maxHeartbeats 4000000 in
set_option maxRecDepth 100000 in
theorem mX6_guess {l : Launch} {V : Wv} {x0 : Nat} {x1 : Nat} {s : St} {Q : St → Prop} (hx0 : isX6 V x0) (hx1 : isX8 V x1) (h : wX6_guess x0 x1 s Q) : Cv yX6_guess cX6_guess 5 (1) l V [rf V x0, rf V x1] s Q := by
  unfold wX6_guess at h
  refine Cv.of mvX6_guess.1 (Nat.le_of_ble_eq_true rfl) (fun X F hR => ?_)
  refine g_lv (lv' := [(_, _), (_, _)]) rfl ?_
  refine g_aload_n (pc := 0) F dX6_guess_0 rfl 0 rfl ?_
  refine g_iconst (pc := 1) F dX6_guess_1 ic_0 ?_
  have h := h _ rfl
  refine g_putI (pc := 2) F clX6 hx0.1 3 rfl (by decide) rfl (tyX6_ok 3 (by decide)) uX6_21 dX6_guess_2 ?_
  refine g_aload_n (pc := 5) F dX6_guess_5 rfl 0 rfl ?_
  refine g_bipush (pc := 6) F dX6_guess_6 bp_63 ?_
  have h := h _ rfl
  refine g_putI (pc := 8) F clX6 hx0.1 4 rfl (by decide) rfl (tyX6_ok 4 (by decide)) uX6_24 dX6_guess_8 ?_
  refine g_aload_n (pc := 11) F dX6_guess_11 rfl 0 rfl ?_
  refine g_iconst (pc := 12) F dX6_guess_12 ic_0 ?_
  have h := h _ rfl
  refine g_putI (pc := 13) F clX6 hx0.1 5 rfl (by decide) rfl (tyX6_ok 5 (by decide)) uX6_27 dX6_guess_13 ?_
  refine g_iconst (pc := 16) F dX6_guess_16 ic_0 ?_
  refine g_istore_n (pc := 17) (lv' := [(_, _), (_, _), (_, _)]) F dX6_guess_17 rfl (by decide) rfl ?_
  obtain ⟨k_18, h⟩ := h
  refine g_weak [1, 2, 0] rfl (bX6_guess_18 F hR hx0 hx1 (fun  s_k37 h => ?_) k_18 _ _ h)
  · refine g_iconst (pc := 37) F dX6_guess_37 ic_0 ?_
    refine g_istore_n (pc := 38) (lv' := [(_, _), (_, _), (_, _)]) F dX6_guess_38 rfl (by decide) rfl ?_
    obtain ⟨k_39, h⟩ := h
    refine g_weak [1, 2, 0] rfl (bX6_guess_39 F hR hx0 hx1 k_39 _ _ h)
