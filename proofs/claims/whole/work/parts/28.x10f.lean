/-! printed by program: what each method does to the state (w..), and that its code does so (b.., m..) -/
def wX10_digs (x0 : Nat) (x1 : Int32) (x2 : Int32) (s : St) (Q : Int32 → St → Prop) : Prop :=
  ∀ s_2 : St, s_2 = stI s x0 0 (0 : Int32) → wX10_isLane x0 x1 s_2 (fun r_7 s_7 => ((r_7 = 0 → Q (-1 : Int32) s_7) ∧ (¬ r_7 = 0 → wX10_in x2 (1 : Int32) (5 : Int32) s_7 (fun r_16 s_16 => ((¬ r_16 = 0 → vp_in ((0 : Int32) + x1) 38 ∧ ((¬ (s_16.1 (x0 + 7) ((0 : Int32) + x1).toNatClampNeg) = x2 → wX10_notes x0 s_16 (fun s_42 => vp_in ((0 : Int32) + x1) 38 ∧ ∀ s_53 : St, s_53 = stI s_42 (x0 + 7) ((0 : Int32) + x1).toNatClampNeg x2 → vp_in x1 12 ∧ wX10_apart (s_16.1 (x0 + 7) ((0 : Int32) + x1).toNatClampNeg) x2 s_53 (fun r_63 s_63 => wX10_digsFor x0 ((s_53.1 (x0 + 5) x1.toNatClampNeg) * r_63) s_63 (fun s_67 => Q (s_16.1 (x0 + 7) ((0 : Int32) + x1).toNatClampNeg) s_67)))) ∧ ((s_16.1 (x0 + 7) ((0 : Int32) + x1).toNatClampNeg) = x2 → Q (-2 : Int32) s_16))) ∧ (r_16 = 0 → Q (-1 : Int32) s_16))))))
set_option maxHeartbeats 4000000 in
set_option maxRecDepth 100000 in
theorem mX10_digs {l : Launch} {V : Wv} {x0 : Nat} {x1 : Int32} {x2 : Int32} {s : St} {Q : Int32 → St → Prop} (hx0 : isX10 V x0) (h : wX10_digs x0 x1 x2 s Q) : Ci yX10_digs cX10_digs 4 (some .int) (2) l V [rf V x0, .int x1, .int x2] s Q := by
  unfold wX10_digs at h
  refine Ci.of mvX10_digs.1 (Nat.le_of_ble_eq_true rfl) (fun X F hR => ?_)
  refine g_lv (lv' := [(_, _), (_, _), (_, _)]) rfl ?_
  refine g_aload_n (pc := 0) F dX10_digs_0 rfl 0 rfl ?_
  refine g_iconst (pc := 1) F dX10_digs_1 ic_0 ?_
  have h := h _ rfl
  refine g_putI (pc := 2) F clX10 hx0.1 0 rfl (by decide) rfl (tyX10_ok 0 (by decide)) uX10_89 dX10_digs_2 ?_
  refine g_aload_n (pc := 5) F dX10_digs_5 rfl 0 rfl ?_
  refine g_iload_n (pc := 6) F dX10_digs_6 rfl 1 rfl ?_
  refine g_callVi (pc := 7) F (mX10_isLane hx0 h) mvX10_isLane uX10_171 (by decide) clX10 hx0.1 rfl rfl (Nat.le_of_ble_eq_true rfl) dX10_digs_7 (fun r_7 s_7 h => ?_)
  refine g_if_eq (pc := 10) F 22 dX10_digs_10 (by decide) (fun c => ?_) (fun c => ?_)
  · have h := h.1 c
    refine g_iconst (pc := 22) F dX10_digs_22 ic_m1 ?_
    exact hR _ _ _ _ dX10_digs_23 h
  · have h := h.2 c
    refine g_iload_n (pc := 13) F dX10_digs_13 rfl 2 rfl ?_
    refine g_iconst (pc := 14) F dX10_digs_14 ic_1 ?_
    refine g_iconst (pc := 15) F dX10_digs_15 ic_5 ?_
    refine g_callSi (pc := 16) F (mX10_in  h) mvX10_in uX10_93 (by decide)  rfl rfl (Nat.le_of_ble_eq_true rfl) dX10_digs_16 (fun r_16 s_16 h => ?_)
    refine g_if_ne (pc := 19) F 24 dX10_digs_19 (by decide) (fun c => ?_) (fun c => ?_)
    · have h := h.1 c
      refine g_aload_n (pc := 24) F dX10_digs_24 rfl 0 rfl ?_
      refine g_getR (pc := 25) F clX10 hx0.1 14 _ rfl (by decide) uX10_28 dX10_digs_25 ?_
      refine g_iconst (pc := 28) F dX10_digs_28 ic_0 ?_
      refine g_iload_n (pc := 29) F dX10_digs_29 rfl 1 rfl ?_
      refine g_iadd (pc := 30) F dX10_digs_30 ?_
      obtain ⟨hb_31, h⟩ := h
      refine g_iald (pc := 31) F hx0.2.2.2.2.2.2.2.1 hb_31 dX10_digs_31 ?_
      refine g_istore_n (pc := 32) (lv' := [(_, _), (_, _), (_, _), (_, _)]) F dX10_digs_32 rfl (by decide) rfl ?_
      refine g_iload_n (pc := 33) F dX10_digs_33 rfl 0 rfl ?_
      refine g_iload_n (pc := 34) F dX10_digs_34 rfl 3 rfl ?_
      refine g_icmp_ne (pc := 35) F 41 dX10_digs_35 (by decide) (fun c => ?_) (fun c => ?_)
      · have h := h.1 c
        refine g_aload_n (pc := 41) F dX10_digs_41 rfl 1 rfl ?_
        refine g_callVv (pc := 42) F (mX10_notes hx0 h) mvX10_notes uX10_191 (by decide) clX10 hx0.1 rfl rfl (Nat.le_of_ble_eq_true rfl) dX10_digs_42 (fun s_42 h => ?_)
        refine g_aload_n (pc := 45) F dX10_digs_45 rfl 1 rfl ?_
        refine g_getR (pc := 46) F clX10 hx0.1 14 _ rfl (by decide) uX10_28 dX10_digs_46 ?_
        refine g_iconst (pc := 49) F dX10_digs_49 ic_0 ?_
        refine g_iload_n (pc := 50) F dX10_digs_50 rfl 2 rfl ?_
        refine g_iadd (pc := 51) F dX10_digs_51 ?_
        refine g_iload_n (pc := 52) F dX10_digs_52 rfl 3 rfl ?_
        obtain ⟨hb_53, h⟩ := h
        have h := h _ rfl
        refine g_iast (pc := 53) F hx0.2.2.2.2.2.2.2.1 hb_53 dX10_digs_53 ?_
        refine g_aload_n (pc := 54) F dX10_digs_54 rfl 1 rfl ?_
        refine g_aload_n (pc := 55) F dX10_digs_55 rfl 1 rfl ?_
        refine g_getR (pc := 56) F clX10 hx0.1 12 _ rfl (by decide) uX10_22 dX10_digs_56 ?_
        refine g_iload_n (pc := 59) F dX10_digs_59 rfl 2 rfl ?_
        obtain ⟨hb_60, h⟩ := h
        refine g_iald (pc := 60) F hx0.2.2.2.2.2.1 hb_60 dX10_digs_60 ?_
        refine g_iload_n (pc := 61) F dX10_digs_61 rfl 0 rfl ?_
        refine g_iload_n (pc := 62) F dX10_digs_62 rfl 3 rfl ?_
        refine g_callSi (pc := 63) F (mX10_apart  h) mvX10_apart uX10_211 (by decide)  rfl rfl (Nat.le_of_ble_eq_true rfl) dX10_digs_63 (fun r_63 s_63 h => ?_)
        refine g_imul (pc := 66) F dX10_digs_66 ?_
        refine g_callVv (pc := 67) F (mX10_digsFor hx0 h) mvX10_digsFor uX10_208 (by decide) clX10 hx0.1 rfl rfl (Nat.le_of_ble_eq_true rfl) dX10_digs_67 (fun s_67 h => ?_)
        refine g_iload_n (pc := 70) F dX10_digs_70 rfl 0 rfl ?_
        exact hR _ _ _ _ dX10_digs_71 h
      · have h := h.2 c
        refine g_bipush (pc := 38) F dX10_digs_38 bp_m2 ?_
        exact hR _ _ _ _ dX10_digs_40 h
    · have h := h.2 c
      refine g_iconst (pc := 22) F dX10_digs_22 ic_m1 ?_
      exact hR _ _ _ _ dX10_digs_23 h
def wX10_burns_48 (x0 : Nat) (x2 : Int32) (K87 : St → Prop) (Q : Int32 → St → Prop) : Nat → Int32 → St → Prop
  | 0, _, _ => False
  | n + 1, x3, s =>
  (((5 : Int32) ≤ x3 → K87  s) ∧ (¬ (5 : Int32) ≤ x3 → vp_in ((((11 : Int32) + ((5 : Int32) * x2)) + (5 : Int32)) + x3) 38 ∧ vp_in (((11 : Int32) + ((5 : Int32) * x2)) + x3) 38 ∧ ∀ s_80 : St, s_80 = stI s (x0 + 7) (((11 : Int32) + ((5 : Int32) * x2)) + x3).toNatClampNeg (s.1 (x0 + 7) ((((11 : Int32) + ((5 : Int32) * x2)) + (5 : Int32)) + x3).toNatClampNeg) → wX10_burns_48 x0 x2 K87 Q n (x3 + (1 : Int32)) s_80))
set_option maxHeartbeats 4000000 in
set_option maxRecDepth 100000 in
theorem bX10_burns_48 {l : Launch} {V : Wv} {X : Mx} {x0 : Nat} {x2 : Int32} {K87 : St → Prop} {Q : Int32 → St → Prop} (F : Fx V X cX10_burns RX10 4 2) (hR : RtI l V X 4 cX10_burns Q) (hx0 : isX10 V x0) (hK87 : ∀  (s : St), K87  s → G l V X 4 87 [(0, rf V x0), (2, .int x2)] [] s) : ∀ (n : Nat) (x3 : Int32) (s : St), wX10_burns_48 x0 x2 K87 Q n x3 s → G l V X 4 48 [(0, rf V x0), (2, .int x2), (3, .int x3)] [] s := by
  intro n
  induction n with
  | zero => intro x3 s h; unfold wX10_burns_48 at h; exact h.elim
  | succ n ih =>
    intro x3 s h
    unfold wX10_burns_48 at h
    refine g_iload_n (pc := 48) F dX10_burns_48 rfl 2 rfl ?_
    refine g_iconst (pc := 49) F dX10_burns_49 ic_5 ?_
    refine g_icmp_ge (pc := 50) F 87 dX10_burns_50 (by decide) (fun c => ?_) (fun c => ?_)
    · have h := h.1 c
      exact g_weak [0, 1] rfl (hK87 _ h)
    · have h := h.2 c
      refine g_aload_n (pc := 53) F dX10_burns_53 rfl 0 rfl ?_
      refine g_getR (pc := 54) F clX10 hx0.1 14 _ rfl (by decide) uX10_28 dX10_burns_54 ?_
      refine g_bipush (pc := 57) F dX10_burns_57 bp_11 ?_
      refine g_iconst (pc := 59) F dX10_burns_59 ic_5 ?_
      refine g_iload_n (pc := 60) F dX10_burns_60 rfl 1 rfl ?_
      refine g_imul (pc := 61) F dX10_burns_61 ?_
      refine g_iadd (pc := 62) F dX10_burns_62 ?_
      refine g_iload_n (pc := 63) F dX10_burns_63 rfl 2 rfl ?_
      refine g_iadd (pc := 64) F dX10_burns_64 ?_
      refine g_aload_n (pc := 65) F dX10_burns_65 rfl 0 rfl ?_
      refine g_getR (pc := 66) F clX10 hx0.1 14 _ rfl (by decide) uX10_28 dX10_burns_66 ?_
      refine g_bipush (pc := 69) F dX10_burns_69 bp_11 ?_
      refine g_iconst (pc := 71) F dX10_burns_71 ic_5 ?_
      refine g_iload_n (pc := 72) F dX10_burns_72 rfl 1 rfl ?_
      refine g_imul (pc := 73) F dX10_burns_73 ?_
      refine g_iadd (pc := 74) F dX10_burns_74 ?_
      refine g_iconst (pc := 75) F dX10_burns_75 ic_5 ?_
      refine g_iadd (pc := 76) F dX10_burns_76 ?_
      refine g_iload_n (pc := 77) F dX10_burns_77 rfl 2 rfl ?_
      refine g_iadd (pc := 78) F dX10_burns_78 ?_
      obtain ⟨hb_79, h⟩ := h
      refine g_iald (pc := 79) F hx0.2.2.2.2.2.2.2.1 hb_79 dX10_burns_79 ?_
      obtain ⟨hb_80, h⟩ := h
      have h := h _ rfl
      refine g_iast (pc := 80) F hx0.2.2.2.2.2.2.2.1 hb_80 dX10_burns_80 ?_
      refine g_iinc (pc := 81) (lv' := [(_, _), (_, _), (_, _)]) F dX10_burns_81 2 rfl (congrArg _ ic_1) (by decide) rfl ?_
      refine g_goto (pc := 84) F 48 dX10_burns_84 (by decide) ?_
      exact g_weak [1, 2, 0] rfl (ih _ _ h)
def wX10_burns_21 (x0 : Nat) (K93 : St → Prop) (Q : Int32 → St → Prop) : Nat → Int32 → St → Prop
  | 0, _, _ => False
  | n + 1, x2, s =>
  (((3 : Int32) ≤ x2 → K93  s) ∧ (¬ (3 : Int32) ≤ x2 → vp_in (((7 : Int32) + x2) + (1 : Int32)) 38 ∧ vp_in ((7 : Int32) + x2) 38 ∧ ∀ s_45 : St, s_45 = stI s (x0 + 7) ((7 : Int32) + x2).toNatClampNeg (s.1 (x0 + 7) (((7 : Int32) + x2) + (1 : Int32)).toNatClampNeg) → (∃ k_48, wX10_burns_48  x0 x2 (fun  s_k87 => wX10_burns_21 x0 K93 Q n (x2 + (1 : Int32)) s_k87) Q k_48 (0 : Int32) s_45)))
set_option maxHeartbeats 4000000 in
set_option maxRecDepth 100000 in
theorem bX10_burns_21 {l : Launch} {V : Wv} {X : Mx} {x0 : Nat} {K93 : St → Prop} {Q : Int32 → St → Prop} (F : Fx V X cX10_burns RX10 4 2) (hR : RtI l V X 4 cX10_burns Q) (hx0 : isX10 V x0) (hK93 : ∀  (s : St), K93  s → G l V X 4 93 [(0, rf V x0)] [] s) : ∀ (n : Nat) (x2 : Int32) (s : St), wX10_burns_21 x0 K93 Q n x2 s → G l V X 4 21 [(0, rf V x0), (2, .int x2)] [] s := by
  intro n
  induction n with
  | zero => intro x2 s h; unfold wX10_burns_21 at h; exact h.elim
  | succ n ih =>
    intro x2 s h
    unfold wX10_burns_21 at h
    refine g_iload_n (pc := 21) F dX10_burns_21 rfl 1 rfl ?_
    refine g_iconst (pc := 22) F dX10_burns_22 ic_3 ?_
    refine g_icmp_ge (pc := 23) F 93 dX10_burns_23 (by decide) (fun c => ?_) (fun c => ?_)
    · have h := h.1 c
      exact g_weak [0] rfl (hK93 _ h)
    · have h := h.2 c
      refine g_aload_n (pc := 26) F dX10_burns_26 rfl 0 rfl ?_
      refine g_getR (pc := 27) F clX10 hx0.1 14 _ rfl (by decide) uX10_28 dX10_burns_27 ?_
      refine g_bipush (pc := 30) F dX10_burns_30 bp_7 ?_
      refine g_iload_n (pc := 32) F dX10_burns_32 rfl 1 rfl ?_
      refine g_iadd (pc := 33) F dX10_burns_33 ?_
      refine g_aload_n (pc := 34) F dX10_burns_34 rfl 0 rfl ?_
      refine g_getR (pc := 35) F clX10 hx0.1 14 _ rfl (by decide) uX10_28 dX10_burns_35 ?_
      refine g_bipush (pc := 38) F dX10_burns_38 bp_7 ?_
      refine g_iload_n (pc := 40) F dX10_burns_40 rfl 1 rfl ?_
      refine g_iadd (pc := 41) F dX10_burns_41 ?_
      refine g_iconst (pc := 42) F dX10_burns_42 ic_1 ?_
      refine g_iadd (pc := 43) F dX10_burns_43 ?_
      obtain ⟨hb_44, h⟩ := h
      refine g_iald (pc := 44) F hx0.2.2.2.2.2.2.2.1 hb_44 dX10_burns_44 ?_
      obtain ⟨hb_45, h⟩ := h
      have h := h _ rfl
      refine g_iast (pc := 45) F hx0.2.2.2.2.2.2.2.1 hb_45 dX10_burns_45 ?_
      refine g_iconst (pc := 46) F dX10_burns_46 ic_0 ?_
      refine g_istore_n (pc := 47) (lv' := [(_, _), (_, _), (_, _)]) F dX10_burns_47 rfl (by decide) rfl ?_
      obtain ⟨k_48, h⟩ := h
      refine g_weak [1, 2, 0] rfl (bX10_burns_48 F hR hx0 (fun  s_k87 h => ?_) k_48 _ _ h)
      · refine g_iinc (pc := 87) (lv' := [(_, _), (_, _)]) F dX10_burns_87 1 rfl (congrArg _ ic_1) (by decide) rfl ?_
        refine g_goto (pc := 90) F 21 dX10_burns_90 (by decide) ?_
        exact g_weak [1, 0] rfl (ih _ _ h)
def wX10_burns (x0 : Nat) (x1 : Int32) (s : St) (Q : Int32 → St → Prop) : Prop :=
  ∀ s_2 : St, s_2 = stI s x0 0 (0 : Int32) → wX10_isMap x0 x1 s_2 (fun r_7 s_7 => ((¬ r_7 = 0 → wX10_notes x0 s_7 (fun s_16 => (∃ k_21, wX10_burns_21  x0 (fun  s_k93 => vp_in (6 : Int32) 38 ∧ vp_in (6 : Int32) 38 ∧ ∀ s_103 : St, s_103 = stI s_k93 (x0 + 7) (6 : Int32).toNatClampNeg ((s_k93.1 (x0 + 7) (6 : Int32).toNatClampNeg) - (1 : Int32)) → vp_in (6 : Int32) 38 ∧ Q (s_103.1 (x0 + 7) (6 : Int32).toNatClampNeg) s_103) Q k_21 x1 s_16))) ∧ (r_7 = 0 → Q (-1 : Int32) s_7)))
set_option maxHeartbeats 4000000 in
set_option maxRecDepth 100000 in
theorem mX10_burns {l : Launch} {V : Wv} {x0 : Nat} {x1 : Int32} {s : St} {Q : Int32 → St → Prop} (hx0 : isX10 V x0) (h : wX10_burns x0 x1 s Q) : Ci yX10_burns cX10_burns 4 (some .int) (2) l V [rf V x0, .int x1] s Q := by
  unfold wX10_burns at h
  refine Ci.of mvX10_burns.1 (Nat.le_of_ble_eq_true rfl) (fun X F hR => ?_)
  refine g_lv (lv' := [(_, _), (_, _)]) rfl ?_
  refine g_aload_n (pc := 0) F dX10_burns_0 rfl 0 rfl ?_
  refine g_iconst (pc := 1) F dX10_burns_1 ic_0 ?_
  have h := h _ rfl
  refine g_putI (pc := 2) F clX10 hx0.1 0 rfl (by decide) rfl (tyX10_ok 0 (by decide)) uX10_89 dX10_burns_2 ?_
  refine g_aload_n (pc := 5) F dX10_burns_5 rfl 0 rfl ?_
  refine g_iload_n (pc := 6) F dX10_burns_6 rfl 1 rfl ?_
  refine g_callVi (pc := 7) F (mX10_isMap hx0 h) mvX10_isMap uX10_178 (by decide) clX10 hx0.1 rfl rfl (Nat.le_of_ble_eq_true rfl) dX10_burns_7 (fun r_7 s_7 h => ?_)
  refine g_if_ne (pc := 10) F 15 dX10_burns_10 (by decide) (fun c => ?_) (fun c => ?_)
  · have h := h.1 c
    refine g_aload_n (pc := 15) F dX10_burns_15 rfl 0 rfl ?_
    refine g_callVv (pc := 16) F (mX10_notes hx0 h) mvX10_notes uX10_191 (by decide) clX10 hx0.1 rfl rfl (Nat.le_of_ble_eq_true rfl) dX10_burns_16 (fun s_16 h => ?_)
    refine g_iload_n (pc := 19) F dX10_burns_19 rfl 1 rfl ?_
    refine g_istore_n (pc := 20) (lv' := [(_, _), (_, _), (_, _)]) F dX10_burns_20 rfl (by decide) rfl ?_
    obtain ⟨k_21, h⟩ := h
    refine g_weak [1, 0] rfl (bX10_burns_21 F hR hx0 (fun  s_k93 h => ?_) k_21 _ _ h)
    · refine g_aload_n (pc := 93) F dX10_burns_93 rfl 0 rfl ?_
      refine g_getR (pc := 94) F clX10 hx0.1 14 _ rfl (by decide) uX10_28 dX10_burns_94 ?_
      refine g_bipush (pc := 97) F dX10_burns_97 bp_6 ?_
      refine g_dup2 (pc := 99) F dX10_burns_99 rfl rfl ?_
      obtain ⟨hb_100, h⟩ := h
      refine g_iald (pc := 100) F hx0.2.2.2.2.2.2.2.1 hb_100 dX10_burns_100 ?_
      refine g_iconst (pc := 101) F dX10_burns_101 ic_1 ?_
      refine g_isub (pc := 102) F dX10_burns_102 ?_
      obtain ⟨hb_103, h⟩ := h
      have h := h _ rfl
      refine g_iast (pc := 103) F hx0.2.2.2.2.2.2.2.1 hb_103 dX10_burns_103 ?_
      refine g_aload_n (pc := 104) F dX10_burns_104 rfl 0 rfl ?_
      refine g_getR (pc := 105) F clX10 hx0.1 14 _ rfl (by decide) uX10_28 dX10_burns_105 ?_
      refine g_bipush (pc := 108) F dX10_burns_108 bp_6 ?_
      obtain ⟨hb_110, h⟩ := h
      refine g_iald (pc := 110) F hx0.2.2.2.2.2.2.2.1 hb_110 dX10_burns_110 ?_
      exact hR _ _ _ _ dX10_burns_111 h
  · have h := h.2 c
    refine g_iconst (pc := 13) F dX10_burns_13 ic_m1 ?_
    exact hR _ _ _ _ dX10_burns_14 h
def wX10_wipes (x0 : Nat) (s : St) (Q : Int32 → St → Prop) : Prop :=
  ∀ s_2 : St, s_2 = stI s x0 0 (0 : Int32) → vp_in (36 : Int32) 38 ∧ ((¬ (s_2.1 (x0 + 7) (36 : Int32).toNatClampNeg) = 0 → wX10_notes x0 s_2 (fun s_19 => vp_in (36 : Int32) 38 ∧ vp_in (36 : Int32) 38 ∧ ∀ s_37 : St, s_37 = stI s_19 (x0 + 7) (36 : Int32).toNatClampNeg (0 : Int32) → Q (s_19.1 (x0 + 7) (36 : Int32).toNatClampNeg) s_37)) ∧ ((s_2.1 (x0 + 7) (36 : Int32).toNatClampNeg) = 0 → Q (-2 : Int32) s_2))
set_option maxHeartbeats 4000000 in
set_option maxRecDepth 100000 in
theorem mX10_wipes {l : Launch} {V : Wv} {x0 : Nat} {s : St} {Q : Int32 → St → Prop} (hx0 : isX10 V x0) (h : wX10_wipes x0 s Q) : Ci yX10_wipes cX10_wipes 2 (some .int) (1) l V [rf V x0] s Q := by
  unfold wX10_wipes at h
  refine Ci.of mvX10_wipes.1 (Nat.le_of_ble_eq_true rfl) (fun X F hR => ?_)
  refine g_lv (lv' := [(_, _)]) rfl ?_
  refine g_aload_n (pc := 0) F dX10_wipes_0 rfl 0 rfl ?_
  refine g_iconst (pc := 1) F dX10_wipes_1 ic_0 ?_
  have h := h _ rfl
  refine g_putI (pc := 2) F clX10 hx0.1 0 rfl (by decide) rfl (tyX10_ok 0 (by decide)) uX10_89 dX10_wipes_2 ?_
  refine g_aload_n (pc := 5) F dX10_wipes_5 rfl 0 rfl ?_
  refine g_getR (pc := 6) F clX10 hx0.1 14 _ rfl (by decide) uX10_28 dX10_wipes_6 ?_
  refine g_bipush (pc := 9) F dX10_wipes_9 bp_36 ?_
  obtain ⟨hb_11, h⟩ := h
  refine g_iald (pc := 11) F hx0.2.2.2.2.2.2.2.1 hb_11 dX10_wipes_11 ?_
  refine g_if_ne (pc := 12) F 18 dX10_wipes_12 (by decide) (fun c => ?_) (fun c => ?_)
  · have h := h.1 c
    refine g_aload_n (pc := 18) F dX10_wipes_18 rfl 0 rfl ?_
    refine g_callVv (pc := 19) F (mX10_notes hx0 h) mvX10_notes uX10_191 (by decide) clX10 hx0.1 rfl rfl (Nat.le_of_ble_eq_true rfl) dX10_wipes_19 (fun s_19 h => ?_)
    refine g_aload_n (pc := 22) F dX10_wipes_22 rfl 0 rfl ?_
    refine g_getR (pc := 23) F clX10 hx0.1 14 _ rfl (by decide) uX10_28 dX10_wipes_23 ?_
    refine g_bipush (pc := 26) F dX10_wipes_26 bp_36 ?_
    obtain ⟨hb_28, h⟩ := h
    refine g_iald (pc := 28) F hx0.2.2.2.2.2.2.2.1 hb_28 dX10_wipes_28 ?_
    refine g_istore_n (pc := 29) (lv' := [(_, _), (_, _)]) F dX10_wipes_29 rfl (by decide) rfl ?_
    refine g_aload_n (pc := 30) F dX10_wipes_30 rfl 1 rfl ?_
    refine g_getR (pc := 31) F clX10 hx0.1 14 _ rfl (by decide) uX10_28 dX10_wipes_31 ?_
    refine g_bipush (pc := 34) F dX10_wipes_34 bp_36 ?_
    refine g_iconst (pc := 36) F dX10_wipes_36 ic_0 ?_
    obtain ⟨hb_37, h⟩ := h
    have h := h _ rfl
    refine g_iast (pc := 37) F hx0.2.2.2.2.2.2.2.1 hb_37 dX10_wipes_37 ?_
    refine g_iload_n (pc := 38) F dX10_wipes_38 rfl 0 rfl ?_
    exact hR _ _ _ _ dX10_wipes_39 h
  · have h := h.2 c
    refine g_bipush (pc := 15) F dX10_wipes_15 bp_m2 ?_
    exact hR _ _ _ _ dX10_wipes_17 h
def wX10_undo_27 (x0 : Nat) (Q : Int32 → St → Prop) : Nat → Int32 → St → Prop
  | 0, _, _ => False
  | n + 1, x1, s =>
  (((38 : Int32) ≤ x1 → Q (s.1 x0 18) s) ∧ (¬ (38 : Int32) ≤ x1 → vp_in (((38 : Int32) * (s.1 x0 18)) + x1) 380 ∧ vp_in x1 38 ∧ ∀ s_52 : St, s_52 = stI s (x0 + 7) x1.toNatClampNeg (s.1 (x0 + 10) (((38 : Int32) * (s.1 x0 18)) + x1).toNatClampNeg) → wX10_undo_27 x0 Q n (x1 + (1 : Int32)) s_52))
set_option maxHeartbeats 4000000 in
set_option maxRecDepth 100000 in
theorem bX10_undo_27 {l : Launch} {V : Wv} {X : Mx} {x0 : Nat} {Q : Int32 → St → Prop} (F : Fx V X cX10_undo RX10 2 0) (hR : RtI l V X 2 cX10_undo Q) (hx0 : isX10 V x0)  : ∀ (n : Nat) (x1 : Int32) (s : St), wX10_undo_27 x0 Q n x1 s → G l V X 2 27 [(0, rf V x0), (1, .int x1)] [] s := by
  intro n
  induction n with
  | zero => intro x1 s h; unfold wX10_undo_27 at h; exact h.elim
  | succ n ih =>
    intro x1 s h
    unfold wX10_undo_27 at h
    refine g_iload_n (pc := 27) F dX10_undo_27 rfl 1 rfl ?_
    refine g_bipush (pc := 28) F dX10_undo_28 bp_38 ?_
    refine g_icmp_ge (pc := 30) F 59 dX10_undo_30 (by decide) (fun c => ?_) (fun c => ?_)
    · have h := h.1 c
      refine g_aload_n (pc := 59) F dX10_undo_59 rfl 0 rfl ?_
      refine g_getI (pc := 60) F clX10 hx0.1 18 rfl (by decide) uX10_161 dX10_undo_60 ?_
      exact hR _ _ _ _ dX10_undo_63 h
    · have h := h.2 c
      refine g_aload_n (pc := 33) F dX10_undo_33 rfl 0 rfl ?_
      refine g_getR (pc := 34) F clX10 hx0.1 14 _ rfl (by decide) uX10_28 dX10_undo_34 ?_
      refine g_iload_n (pc := 37) F dX10_undo_37 rfl 1 rfl ?_
      refine g_aload_n (pc := 38) F dX10_undo_38 rfl 0 rfl ?_
      refine g_getR (pc := 39) F clX10 hx0.1 17 _ rfl (by decide) uX10_38 dX10_undo_39 ?_
      refine g_bipush (pc := 42) F dX10_undo_42 bp_38 ?_
      refine g_aload_n (pc := 44) F dX10_undo_44 rfl 0 rfl ?_
      refine g_getI (pc := 45) F clX10 hx0.1 18 rfl (by decide) uX10_161 dX10_undo_45 ?_
      refine g_imul (pc := 48) F dX10_undo_48 ?_
      refine g_iload_n (pc := 49) F dX10_undo_49 rfl 1 rfl ?_
      refine g_iadd (pc := 50) F dX10_undo_50 ?_
      obtain ⟨hb_51, h⟩ := h
      refine g_iald (pc := 51) F hx0.2.2.2.2.2.2.2.2.2.2.1 hb_51 dX10_undo_51 ?_
      obtain ⟨hb_52, h⟩ := h
      have h := h _ rfl
      refine g_iast (pc := 52) F hx0.2.2.2.2.2.2.2.1 hb_52 dX10_undo_52 ?_
      refine g_iinc (pc := 53) (lv' := [(_, _), (_, _)]) F dX10_undo_53 1 rfl (congrArg _ ic_1) (by decide) rfl ?_
      refine g_goto (pc := 56) F 27 dX10_undo_56 (by decide) ?_
      exact g_weak [1, 0] rfl (ih _ _ h)
def wX10_undo (x0 : Nat) (s : St) (Q : Int32 → St → Prop) : Prop :=
  ∀ s_2 : St, s_2 = stI s x0 0 (0 : Int32) → ((¬ (s_2.1 x0 18) = 0 → ∀ s_22 : St, s_22 = stI s_2 x0 18 ((s_2.1 x0 18) - (1 : Int32)) → (∃ k_27, wX10_undo_27  x0  Q k_27 (0 : Int32) s_22)) ∧ ((s_2.1 x0 18) = 0 → Q (-2 : Int32) s_2))
set_option maxHeartbeats 4000000 in
set_option maxRecDepth 100000 in
theorem mX10_undo {l : Launch} {V : Wv} {x0 : Nat} {s : St} {Q : Int32 → St → Prop} (hx0 : isX10 V x0) (h : wX10_undo x0 s Q) : Ci yX10_undo cX10_undo 2 (some .int) (0) l V [rf V x0] s Q := by
  unfold wX10_undo at h
  refine Ci.of mvX10_undo.1 (Nat.le_of_ble_eq_true rfl) (fun X F hR => ?_)
  refine g_lv (lv' := [(_, _)]) rfl ?_
  refine g_aload_n (pc := 0) F dX10_undo_0 rfl 0 rfl ?_
  refine g_iconst (pc := 1) F dX10_undo_1 ic_0 ?_
  have h := h _ rfl
  refine g_putI (pc := 2) F clX10 hx0.1 0 rfl (by decide) rfl (tyX10_ok 0 (by decide)) uX10_89 dX10_undo_2 ?_
  refine g_aload_n (pc := 5) F dX10_undo_5 rfl 0 rfl ?_
  refine g_getI (pc := 6) F clX10 hx0.1 18 rfl (by decide) uX10_161 dX10_undo_6 ?_
  refine g_if_ne (pc := 9) F 15 dX10_undo_9 (by decide) (fun c => ?_) (fun c => ?_)
  · have h := h.1 c
    refine g_aload_n (pc := 15) F dX10_undo_15 rfl 0 rfl ?_
    refine g_dup (pc := 16) F dX10_undo_16 rfl ?_
    refine g_getI (pc := 17) F clX10 hx0.1 18 rfl (by decide) uX10_161 dX10_undo_17 ?_
    refine g_iconst (pc := 20) F dX10_undo_20 ic_1 ?_
    refine g_isub (pc := 21) F dX10_undo_21 ?_
    have h := h _ rfl
    refine g_putI (pc := 22) F clX10 hx0.1 18 rfl (by decide) rfl (tyX10_ok 18 (by decide)) uX10_161 dX10_undo_22 ?_
    refine g_iconst (pc := 25) F dX10_undo_25 ic_0 ?_
    refine g_istore_n (pc := 26) (lv' := [(_, _), (_, _)]) F dX10_undo_26 rfl (by decide) rfl ?_
    obtain ⟨k_27, h⟩ := h
    refine g_weak [1, 0] rfl (bX10_undo_27 F hR hx0 k_27 _ _ h)
  · have h := h.2 c
    refine g_bipush (pc := 12) F dX10_undo_12 bp_m2 ?_
    exact hR _ _ _ _ dX10_undo_14 h
def wX10_endsBetween (x0 : Int32) (x1 : Int32) (s : St) (Q : Int32 → St → Prop) : Prop :=
  ((x1 ≤ x0 → Q ((((5 : Int32) * x1) + x0) + (1 : Int32)) s) ∧ (¬ x1 ≤ x0 → Q ((((5 : Int32) * x0) + x1) + (1 : Int32)) s))
set_option maxHeartbeats 4000000 in
set_option maxRecDepth 100000 in
theorem mX10_endsBetween {l : Launch} {V : Wv} {x0 : Int32} {x1 : Int32} {s : St} {Q : Int32 → St → Prop}  (h : wX10_endsBetween x0 x1 s Q) : Ci yX10_endsBetween cX10_endsBetween 2 (some .int) (0) l V [.int x0, .int x1] s Q := by
  unfold wX10_endsBetween at h
  refine Ci.of mvX10_endsBetween.1 (Nat.le_of_ble_eq_true rfl) (fun X F hR => ?_)
  refine g_lv (lv' := [(_, _), (_, _)]) rfl ?_
  refine g_iload_n (pc := 0) F dX10_endsBetween_0 rfl 0 rfl ?_
  refine g_iload_n (pc := 1) F dX10_endsBetween_1 rfl 1 rfl ?_
  refine g_icmp_ge (pc := 2) F 15 dX10_endsBetween_2 (by decide) (fun c => ?_) (fun c => ?_)
  · have h := h.1 c
    refine g_iconst (pc := 15) F dX10_endsBetween_15 ic_5 ?_
    refine g_iload_n (pc := 16) F dX10_endsBetween_16 rfl 1 rfl ?_
    refine g_imul (pc := 17) F dX10_endsBetween_17 ?_
    refine g_iload_n (pc := 18) F dX10_endsBetween_18 rfl 0 rfl ?_
    refine g_iadd (pc := 19) F dX10_endsBetween_19 ?_
    refine g_iconst (pc := 20) F dX10_endsBetween_20 ic_1 ?_
    refine g_iadd (pc := 21) F dX10_endsBetween_21 ?_
    exact hR _ _ _ _ dX10_endsBetween_22 h
  · have h := h.2 c
    refine g_iconst (pc := 5) F dX10_endsBetween_5 ic_5 ?_
    refine g_iload_n (pc := 6) F dX10_endsBetween_6 rfl 0 rfl ?_
    refine g_imul (pc := 7) F dX10_endsBetween_7 ?_
    refine g_iload_n (pc := 8) F dX10_endsBetween_8 rfl 1 rfl ?_
    refine g_iadd (pc := 9) F dX10_endsBetween_9 ?_
    refine g_iconst (pc := 10) F dX10_endsBetween_10 ic_1 ?_
    refine g_iadd (pc := 11) F dX10_endsBetween_11 ?_
    refine g_goto (pc := 12) F 22 dX10_endsBetween_12 (by decide) ?_
    exact hR _ _ _ _ dX10_endsBetween_22 h
def wX10_far (x0 : Nat) (x1 : Int32) (x2 : Int32) (s : St) (Q : Int32 → St → Prop) : Prop :=
  ∀ s_2 : St, s_2 = stI s x0 0 (0 : Int32) → wX10_isPlace x0 x1 s_2 (fun r_7 s_7 => ((r_7 = 0 → Q (-1 : Int32) s_7) ∧ (¬ r_7 = 0 → wX10_isPlace x0 x2 s_7 (fun r_15 s_15 => ((¬ r_15 = 0 → wX10_measures x0 (x0 + 7) 38 s_15 (fun s_28 => ((¬ x1 = x2 → wX10_endsBetween x1 x2 s_28 (fun r_46 s_46 => vp_in r_46 26 ∧ ((¬ (s_46.1 (x0 + 18) r_46.toNatClampNeg) = (1000000 : Int32) → wX10_endsBetween x1 x2 s_46 (fun r_66 s_66 => vp_in r_66 26 ∧ Q (s_66.1 (x0 + 18) r_66.toNatClampNeg) s_66)) ∧ ((s_46.1 (x0 + 18) r_46.toNatClampNeg) = (1000000 : Int32) → Q (-9 : Int32) s_46)))) ∧ (x1 = x2 → Q (0 : Int32) s_28)))) ∧ (r_15 = 0 → Q (-1 : Int32) s_15))))))
set_option maxHeartbeats 4000000 in
set_option maxRecDepth 100000 in
theorem mX10_far {l : Launch} {V : Wv} {x0 : Nat} {x1 : Int32} {x2 : Int32} {s : St} {Q : Int32 → St → Prop} (hx0 : isX10 V x0) (h : wX10_far x0 x1 x2 s Q) : Ci yX10_far cX10_far 3 (some .int) (2) l V [rf V x0, .int x1, .int x2] s Q := by
  unfold wX10_far at h
  refine Ci.of mvX10_far.1 (Nat.le_of_ble_eq_true rfl) (fun X F hR => ?_)
  refine g_lv (lv' := [(_, _), (_, _), (_, _)]) rfl ?_
  refine g_aload_n (pc := 0) F dX10_far_0 rfl 0 rfl ?_
  refine g_iconst (pc := 1) F dX10_far_1 ic_0 ?_
  have h := h _ rfl
  refine g_putI (pc := 2) F clX10 hx0.1 0 rfl (by decide) rfl (tyX10_ok 0 (by decide)) uX10_89 dX10_far_2 ?_
  refine g_aload_n (pc := 5) F dX10_far_5 rfl 0 rfl ?_
  refine g_iload_n (pc := 6) F dX10_far_6 rfl 1 rfl ?_
  refine g_callVi (pc := 7) F (mX10_isPlace hx0 h) mvX10_isPlace uX10_188 (by decide) clX10 hx0.1 rfl rfl (Nat.le_of_ble_eq_true rfl) dX10_far_7 (fun r_7 s_7 h => ?_)
  refine g_if_eq (pc := 10) F 21 dX10_far_10 (by decide) (fun c => ?_) (fun c => ?_)
  · have h := h.1 c
    refine g_iconst (pc := 21) F dX10_far_21 ic_m1 ?_
    exact hR _ _ _ _ dX10_far_22 h
  · have h := h.2 c
    refine g_aload_n (pc := 13) F dX10_far_13 rfl 0 rfl ?_
    refine g_iload_n (pc := 14) F dX10_far_14 rfl 2 rfl ?_
    refine g_callVi (pc := 15) F (mX10_isPlace hx0 h) mvX10_isPlace uX10_188 (by decide) clX10 hx0.1 rfl rfl (Nat.le_of_ble_eq_true rfl) dX10_far_15 (fun r_15 s_15 h => ?_)
    refine g_if_ne (pc := 18) F 23 dX10_far_18 (by decide) (fun c => ?_) (fun c => ?_)
    · have h := h.1 c
      refine g_aload_n (pc := 23) F dX10_far_23 rfl 0 rfl ?_
      refine g_aload_n (pc := 24) F dX10_far_24 rfl 0 rfl ?_
      refine g_getR (pc := 25) F clX10 hx0.1 14 _ rfl (by decide) uX10_28 dX10_far_25 ?_
      refine g_callVv (pc := 28) F (mX10_measures hx0 hx0.2.2.2.2.2.2.2.1 h) mvX10_measures uX10_181 (by decide) clX10 hx0.1 rfl rfl (Nat.le_of_ble_eq_true rfl) dX10_far_28 (fun s_28 h => ?_)
      refine g_iload_n (pc := 31) F dX10_far_31 rfl 1 rfl ?_
      refine g_iload_n (pc := 32) F dX10_far_32 rfl 2 rfl ?_
      refine g_icmp_ne (pc := 33) F 40 dX10_far_33 (by decide) (fun c => ?_) (fun c => ?_)
      · have h := h.1 c
        refine g_aload_n (pc := 40) F dX10_far_40 rfl 0 rfl ?_
        refine g_getR (pc := 41) F clX10 hx0.1 28 _ rfl (by decide) uX10_62 dX10_far_41 ?_
        refine g_iload_n (pc := 44) F dX10_far_44 rfl 1 rfl ?_
        refine g_iload_n (pc := 45) F dX10_far_45 rfl 2 rfl ?_
        refine g_callSi (pc := 46) F (mX10_endsBetween  h) mvX10_endsBetween uX10_214 (by decide)  rfl rfl (Nat.le_of_ble_eq_true rfl) dX10_far_46 (fun r_46 s_46 h => ?_)
        obtain ⟨hb_49, h⟩ := h
        refine g_iald (pc := 49) F hx0.2.2.2.2.2.2.2.2.2.2.2.2.2.2.2.2.2.2.1 hb_49 dX10_far_49 ?_
        refine g_ldc (pc := 50) F dX10_far_50 uX10_167 ?_
        refine g_icmp_ne (pc := 52) F 60 dX10_far_52 (by decide) (fun c => ?_) (fun c => ?_)
        · have h := h.1 c
          refine g_aload_n (pc := 60) F dX10_far_60 rfl 0 rfl ?_
          refine g_getR (pc := 61) F clX10 hx0.1 28 _ rfl (by decide) uX10_62 dX10_far_61 ?_
          refine g_iload_n (pc := 64) F dX10_far_64 rfl 1 rfl ?_
          refine g_iload_n (pc := 65) F dX10_far_65 rfl 2 rfl ?_
          refine g_callSi (pc := 66) F (mX10_endsBetween  h) mvX10_endsBetween uX10_214 (by decide)  rfl rfl (Nat.le_of_ble_eq_true rfl) dX10_far_66 (fun r_66 s_66 h => ?_)
          obtain ⟨hb_69, h⟩ := h
          refine g_iald (pc := 69) F hx0.2.2.2.2.2.2.2.2.2.2.2.2.2.2.2.2.2.2.1 hb_69 dX10_far_69 ?_
          exact hR _ _ _ _ dX10_far_70 h
        · have h := h.2 c
          refine g_bipush (pc := 55) F dX10_far_55 bp_m9 ?_
          refine g_goto (pc := 57) F 70 dX10_far_57 (by decide) ?_
          exact hR _ _ _ _ dX10_far_70 h
      · have h := h.2 c
        refine g_iconst (pc := 36) F dX10_far_36 ic_0 ?_
        refine g_goto (pc := 37) F 70 dX10_far_37 (by decide) ?_
        exact hR _ _ _ _ dX10_far_70 h
    · have h := h.2 c
      refine g_iconst (pc := 21) F dX10_far_21 ic_m1 ?_
      exact hR _ _ _ _ dX10_far_22 h
def wX10_by_78 (rec : Int32 → Int32 → St → Prop) (Q : Int32 → St → Prop) (x0 : Nat) (x1 : Int32) (x2 : Int32) (x4 : Int32) (t0 : Int32) (t1 : Int32) (s : St) : Prop :=
  rec (t1 + t0) (x4 + (1 : Int32)) s
set_option maxHeartbeats 4000000 in
set_option maxRecDepth 100000 in
theorem bX10_by_78 {l : Launch} {V : Wv} {X : Mx} {rec : Int32 → Int32 → St → Prop} {Q : Int32 → St → Prop} {x0 : Nat} {x1 : Int32} {x2 : Int32} {x4 : Int32} {t0 : Int32} {t1 : Int32} (F : Fx V X cX10_by RX10 5 2) (hR : RtI l V X 5 cX10_by Q) (hx0 : isX10 V x0) (hrec : ∀ (y3 : Int32) (y4 : Int32) (s : St), rec y3 y4 s → G l V X 5 41 [(0, rf V x0), (1, .int x1), (2, .int x2), (3, .int y3), (4, .int y4)] [] s) {s : St} (h : wX10_by_78 rec Q x0 x1 x2 x4 t0 t1 s) : G l V X 5 78 [(0, rf V x0), (1, .int x1), (2, .int x2), (4, .int x4)] [.int t0, .int t1] s := by
  unfold wX10_by_78 at h
  refine g_iadd (pc := 78) F dX10_by_78 ?_
  refine g_istore_n (pc := 79) (lv' := [(_, _), (_, _), (_, _), (_, _), (_, _)]) F dX10_by_79 rfl (by decide) rfl ?_
  refine g_iinc (pc := 80) (lv' := [(_, _), (_, _), (_, _), (_, _), (_, _)]) F dX10_by_80 4 rfl (congrArg _ ic_1) (by decide) rfl ?_
  refine g_goto (pc := 83) F 41 dX10_by_83 (by decide) ?_
  exact g_weak [2, 3, 4, 1, 0] rfl (hrec _ _ _ h)
def wX10_by_77 (rec : Int32 → Int32 → St → Prop) (Q : Int32 → St → Prop) (x0 : Nat) (x1 : Int32) (x2 : Int32) (x4 : Int32) (t0 : Int32) (s : St) : Prop :=
  wX10_by_78 (rec) Q x0 x1 x2 x4 (0 : Int32) t0 s
set_option maxHeartbeats 4000000 in
set_option maxRecDepth 100000 in
theorem bX10_by_77 {l : Launch} {V : Wv} {X : Mx} {rec : Int32 → Int32 → St → Prop} {Q : Int32 → St → Prop} {x0 : Nat} {x1 : Int32} {x2 : Int32} {x4 : Int32} {t0 : Int32} (F : Fx V X cX10_by RX10 5 2) (hR : RtI l V X 5 cX10_by Q) (hx0 : isX10 V x0) (hrec : ∀ (y3 : Int32) (y4 : Int32) (s : St), rec y3 y4 s → G l V X 5 41 [(0, rf V x0), (1, .int x1), (2, .int x2), (3, .int y3), (4, .int y4)] [] s) {s : St} (h : wX10_by_77 rec Q x0 x1 x2 x4 t0 s) : G l V X 5 77 [(0, rf V x0), (1, .int x1), (2, .int x2), (4, .int x4)] [.int t0] s := by
  unfold wX10_by_77 at h
  refine g_iconst (pc := 77) F dX10_by_77 ic_0 ?_
  exact g_weak [0, 1, 2, 3] rfl (bX10_by_78 F hR hx0 hrec h)
def wX10_by_41 (x0 : Nat) (x1 : Int32) (x2 : Int32) (Q : Int32 → St → Prop) : Nat → Int32 → Int32 → St → Prop
  | 0, _, _, _ => False
  | n + 1, x3, x4, s =>
  (((64 : Int32) ≤ x4 → Q x3 s) ∧ (¬ (64 : Int32) ≤ x4 → vp_in x4 64 ∧ wX10_endsBetween x1 x2 s (fun r_58 s_58 => ((¬ (s.1 (x0 + 13) x4.toNatClampNeg) = r_58 → wX10_by_77 (wX10_by_41 x0 x1 x2 Q n) Q x0 x1 x2 x4 x3 s_58) ∧ ((s.1 (x0 + 13) x4.toNatClampNeg) = r_58 → wX10_holds x0 x4 s_58 (fun r_67 s_67 => ((r_67 = 0 → wX10_by_77 (wX10_by_41 x0 x1 x2 Q n) Q x0 x1 x2 x4 x3 s_67) ∧ (¬ r_67 = 0 → wX10_by_78 (wX10_by_41 x0 x1 x2 Q n) Q x0 x1 x2 x4 (1 : Int32) x3 s_67))))))))
set_option maxHeartbeats 4000000 in
set_option maxRecDepth 100000 in
theorem bX10_by_41 {l : Launch} {V : Wv} {X : Mx} {x0 : Nat} {x1 : Int32} {x2 : Int32} {Q : Int32 → St → Prop} (F : Fx V X cX10_by RX10 5 2) (hR : RtI l V X 5 cX10_by Q) (hx0 : isX10 V x0)  : ∀ (n : Nat) (x3 : Int32) (x4 : Int32) (s : St), wX10_by_41 x0 x1 x2 Q n x3 x4 s → G l V X 5 41 [(0, rf V x0), (1, .int x1), (2, .int x2), (3, .int x3), (4, .int x4)] [] s := by
  intro n
  induction n with
  | zero => intro x3 x4 s h; unfold wX10_by_41 at h; exact h.elim
  | succ n ih =>
    intro x3 x4 s h
    unfold wX10_by_41 at h
    refine g_iload (pc := 41) F dX10_by_41 4 rfl ?_
    refine g_bipush (pc := 43) F dX10_by_43 bp_64 ?_
    refine g_icmp_ge (pc := 45) F 86 dX10_by_45 (by decide) (fun c => ?_) (fun c => ?_)
    · have h := h.1 c
      refine g_iload_n (pc := 86) F dX10_by_86 rfl 3 rfl ?_
      exact hR _ _ _ _ dX10_by_87 h
    · have h := h.2 c
      refine g_iload_n (pc := 48) F dX10_by_48 rfl 3 rfl ?_
      refine g_aload_n (pc := 49) F dX10_by_49 rfl 0 rfl ?_
      refine g_getR (pc := 50) F clX10 hx0.1 22 _ rfl (by decide) uX10_47 dX10_by_50 ?_
      refine g_iload (pc := 53) F dX10_by_53 4 rfl ?_
      obtain ⟨hb_55, h⟩ := h
      refine g_iald (pc := 55) F hx0.2.2.2.2.2.2.2.2.2.2.2.2.2.1 hb_55 dX10_by_55 ?_
      refine g_iload_n (pc := 56) F dX10_by_56 rfl 1 rfl ?_
      refine g_iload_n (pc := 57) F dX10_by_57 rfl 2 rfl ?_
      refine g_callSi (pc := 58) F (mX10_endsBetween  h) mvX10_endsBetween uX10_214 (by decide)  rfl rfl (Nat.le_of_ble_eq_true rfl) dX10_by_58 (fun r_58 s_58 h => ?_)
      refine g_icmp_ne (pc := 61) F 77 dX10_by_61 (by decide) (fun c => ?_) (fun c => ?_)
      · have h := h.1 c
        exact g_weak [0, 1, 2, 4] rfl (bX10_by_77 F hR hx0 ih h)
      · have h := h.2 c
        refine g_aload_n (pc := 64) F dX10_by_64 rfl 0 rfl ?_
        refine g_iload (pc := 65) F dX10_by_65 4 rfl ?_
        refine g_callVi (pc := 67) F (mX10_holds hx0 h) mvX10_holds uX10_185 (by decide) clX10 hx0.1 rfl rfl (Nat.le_of_ble_eq_true rfl) dX10_by_67 (fun r_67 s_67 h => ?_)
        refine g_if_eq (pc := 70) F 77 dX10_by_70 (by decide) (fun c => ?_) (fun c => ?_)
        · have h := h.1 c
          exact g_weak [0, 1, 2, 4] rfl (bX10_by_77 F hR hx0 ih h)
        · have h := h.2 c
          refine g_iconst (pc := 73) F dX10_by_73 ic_1 ?_
          refine g_goto (pc := 74) F 78 dX10_by_74 (by decide) ?_
          exact g_weak [0, 1, 2, 4] rfl (bX10_by_78 F hR hx0 ih h)
def wX10_by (x0 : Nat) (x1 : Int32) (x2 : Int32) (s : St) (Q : Int32 → St → Prop) : Prop :=
  ∀ s_2 : St, s_2 = stI s x0 0 (0 : Int32) → wX10_isPlace x0 x1 s_2 (fun r_7 s_7 => ((r_7 = 0 → Q (-1 : Int32) s_7) ∧ (¬ r_7 = 0 → wX10_isPlace x0 x2 s_7 (fun r_15 s_15 => ((r_15 = 0 → Q (-1 : Int32) s_15) ∧ (¬ r_15 = 0 → ((¬ x1 = x2 → wX10_measures x0 (x0 + 7) 38 s_15 (fun s_33 => (∃ k_41, wX10_by_41  x0 x1 x2  Q k_41 (0 : Int32) (1 : Int32) s_33))) ∧ (x1 = x2 → Q (-1 : Int32) s_15))))))))
set_option maxHeartbeats 4000000 in
set_option maxRecDepth 100000 in
theorem mX10_by {l : Launch} {V : Wv} {x0 : Nat} {x1 : Int32} {x2 : Int32} {s : St} {Q : Int32 → St → Prop} (hx0 : isX10 V x0) (h : wX10_by x0 x1 x2 s Q) : Ci yX10_by cX10_by 5 (some .int) (2) l V [rf V x0, .int x1, .int x2] s Q := by
  unfold wX10_by at h
  refine Ci.of mvX10_by.1 (Nat.le_of_ble_eq_true rfl) (fun X F hR => ?_)
  refine g_lv (lv' := [(_, _), (_, _), (_, _)]) rfl ?_
  refine g_aload_n (pc := 0) F dX10_by_0 rfl 0 rfl ?_
  refine g_iconst (pc := 1) F dX10_by_1 ic_0 ?_
  have h := h _ rfl
  refine g_putI (pc := 2) F clX10 hx0.1 0 rfl (by decide) rfl (tyX10_ok 0 (by decide)) uX10_89 dX10_by_2 ?_
  refine g_aload_n (pc := 5) F dX10_by_5 rfl 0 rfl ?_
  refine g_iload_n (pc := 6) F dX10_by_6 rfl 1 rfl ?_
  refine g_callVi (pc := 7) F (mX10_isPlace hx0 h) mvX10_isPlace uX10_188 (by decide) clX10 hx0.1 rfl rfl (Nat.le_of_ble_eq_true rfl) dX10_by_7 (fun r_7 s_7 h => ?_)
  refine g_if_eq (pc := 10) F 26 dX10_by_10 (by decide) (fun c => ?_) (fun c => ?_)
  · have h := h.1 c
    refine g_iconst (pc := 26) F dX10_by_26 ic_m1 ?_
    exact hR _ _ _ _ dX10_by_27 h
  · have h := h.2 c
    refine g_aload_n (pc := 13) F dX10_by_13 rfl 0 rfl ?_
    refine g_iload_n (pc := 14) F dX10_by_14 rfl 2 rfl ?_
    refine g_callVi (pc := 15) F (mX10_isPlace hx0 h) mvX10_isPlace uX10_188 (by decide) clX10 hx0.1 rfl rfl (Nat.le_of_ble_eq_true rfl) dX10_by_15 (fun r_15 s_15 h => ?_)
    refine g_if_eq (pc := 18) F 26 dX10_by_18 (by decide) (fun c => ?_) (fun c => ?_)
    · have h := h.1 c
      refine g_iconst (pc := 26) F dX10_by_26 ic_m1 ?_
      exact hR _ _ _ _ dX10_by_27 h
    · have h := h.2 c
      refine g_iload_n (pc := 21) F dX10_by_21 rfl 1 rfl ?_
      refine g_iload_n (pc := 22) F dX10_by_22 rfl 2 rfl ?_
      refine g_icmp_ne (pc := 23) F 28 dX10_by_23 (by decide) (fun c => ?_) (fun c => ?_)
      · have h := h.1 c
        refine g_aload_n (pc := 28) F dX10_by_28 rfl 0 rfl ?_
        refine g_aload_n (pc := 29) F dX10_by_29 rfl 0 rfl ?_
        refine g_getR (pc := 30) F clX10 hx0.1 14 _ rfl (by decide) uX10_28 dX10_by_30 ?_
        refine g_callVv (pc := 33) F (mX10_measures hx0 hx0.2.2.2.2.2.2.2.1 h) mvX10_measures uX10_181 (by decide) clX10 hx0.1 rfl rfl (Nat.le_of_ble_eq_true rfl) dX10_by_33 (fun s_33 h => ?_)
        refine g_iconst (pc := 36) F dX10_by_36 ic_0 ?_
        refine g_istore_n (pc := 37) (lv' := [(_, _), (_, _), (_, _), (_, _)]) F dX10_by_37 rfl (by decide) rfl ?_
        refine g_iconst (pc := 38) F dX10_by_38 ic_1 ?_
        refine g_istore (pc := 39) (lv' := [(_, _), (_, _), (_, _), (_, _), (_, _)]) F dX10_by_39 (by decide) rfl ?_
        obtain ⟨k_41, h⟩ := h
        refine g_weak [2, 3, 4, 1, 0] rfl (bX10_by_41 F hR hx0 k_41 _ _ _ h)
      · have h := h.2 c
        refine g_iconst (pc := 26) F dX10_by_26 ic_m1 ?_
        exact hR _ _ _ _ dX10_by_27 h
def wX10_knot_69 (rec : Int32 → Int32 → St → Prop) (Q : Int32 → St → Prop) (x0 : Nat) (x1 : Int32) (x3 : Int32) (t0 : Int32) (t1 : Int32) (s : St) : Prop :=
  rec (t1 + t0) (x3 + (1 : Int32)) s
set_option maxHeartbeats 4000000 in
set_option maxRecDepth 100000 in
theorem bX10_knot_69 {l : Launch} {V : Wv} {X : Mx} {rec : Int32 → Int32 → St → Prop} {Q : Int32 → St → Prop} {x0 : Nat} {x1 : Int32} {x3 : Int32} {t0 : Int32} {t1 : Int32} (F : Fx V X cX10_knot RX10 4 2) (hR : RtI l V X 4 cX10_knot Q) (hx0 : isX10 V x0) (hrec : ∀ (y2 : Int32) (y3 : Int32) (s : St), rec y2 y3 s → G l V X 4 19 [(0, rf V x0), (1, .int x1), (2, .int y2), (3, .int y3)] [] s) {s : St} (h : wX10_knot_69 rec Q x0 x1 x3 t0 t1 s) : G l V X 4 69 [(0, rf V x0), (1, .int x1), (3, .int x3)] [.int t0, .int t1] s := by
  unfold wX10_knot_69 at h
  refine g_iadd (pc := 69) F dX10_knot_69 ?_
  refine g_istore_n (pc := 70) (lv' := [(_, _), (_, _), (_, _), (_, _)]) F dX10_knot_70 rfl (by decide) rfl ?_
  refine g_iinc (pc := 71) (lv' := [(_, _), (_, _), (_, _), (_, _)]) F dX10_knot_71 3 rfl (congrArg _ ic_1) (by decide) rfl ?_
  refine g_goto (pc := 74) F 19 dX10_knot_74 (by decide) ?_
  exact g_weak [2, 3, 1, 0] rfl (hrec _ _ _ h)
def wX10_knot_50 (rec : Int32 → Int32 → St → Prop) (Q : Int32 → St → Prop) (x0 : Nat) (x1 : Int32) (x3 : Int32) (t0 : Int32) (s : St) : Prop :=
  vp_in x3 12 ∧ vp_in ((0 : Int32) + x3) 38 ∧ wX10_knot_69 (rec) Q x0 x1 x3 ((s.1 (x0 + 5) x3.toNatClampNeg) * (s.1 (x0 + 7) ((0 : Int32) + x3).toNatClampNeg)) t0 s
set_option maxHeartbeats 4000000 in
set_option maxRecDepth 100000 in
theorem bX10_knot_50 {l : Launch} {V : Wv} {X : Mx} {rec : Int32 → Int32 → St → Prop} {Q : Int32 → St → Prop} {x0 : Nat} {x1 : Int32} {x3 : Int32} {t0 : Int32} (F : Fx V X cX10_knot RX10 4 2) (hR : RtI l V X 4 cX10_knot Q) (hx0 : isX10 V x0) (hrec : ∀ (y2 : Int32) (y3 : Int32) (s : St), rec y2 y3 s → G l V X 4 19 [(0, rf V x0), (1, .int x1), (2, .int y2), (3, .int y3)] [] s) {s : St} (h : wX10_knot_50 rec Q x0 x1 x3 t0 s) : G l V X 4 50 [(0, rf V x0), (1, .int x1), (3, .int x3)] [.int t0] s := by
  unfold wX10_knot_50 at h
  refine g_aload_n (pc := 50) F dX10_knot_50 rfl 0 rfl ?_
  refine g_getR (pc := 51) F clX10 hx0.1 12 _ rfl (by decide) uX10_22 dX10_knot_51 ?_
  refine g_iload_n (pc := 54) F dX10_knot_54 rfl 2 rfl ?_
  obtain ⟨hb_55, h⟩ := h
  refine g_iald (pc := 55) F hx0.2.2.2.2.2.1 hb_55 dX10_knot_55 ?_
  refine g_aload_n (pc := 56) F dX10_knot_56 rfl 0 rfl ?_
  refine g_getR (pc := 57) F clX10 hx0.1 14 _ rfl (by decide) uX10_28 dX10_knot_57 ?_
  refine g_iconst (pc := 60) F dX10_knot_60 ic_0 ?_
  refine g_iload_n (pc := 61) F dX10_knot_61 rfl 2 rfl ?_
  refine g_iadd (pc := 62) F dX10_knot_62 ?_
  obtain ⟨hb_63, h⟩ := h
  refine g_iald (pc := 63) F hx0.2.2.2.2.2.2.2.1 hb_63 dX10_knot_63 ?_
  refine g_imul (pc := 64) F dX10_knot_64 ?_
  refine g_goto (pc := 65) F 69 dX10_knot_65 (by decide) ?_
  exact g_weak [0, 1, 2] rfl (bX10_knot_69 F hR hx0 hrec h)
def wX10_knot_19 (x0 : Nat) (x1 : Int32) (Q : Int32 → St → Prop) : Nat → Int32 → Int32 → St → Prop
  | 0, _, _, _ => False
  | n + 1, x2, x3, s =>
  vp_in (1 : Int32) 4 ∧ (((s.1 (x0 + 2) (1 : Int32).toNatClampNeg) ≤ x3 → Q x2 s) ∧ (¬ (s.1 (x0 + 2) (1 : Int32).toNatClampNeg) ≤ x3 → vp_in x3 12 ∧ (((s.1 (x0 + 3) x3.toNatClampNeg) = x1 → wX10_knot_50 (wX10_knot_19 x0 x1 Q n) Q x0 x1 x3 x2 s) ∧ (¬ (s.1 (x0 + 3) x3.toNatClampNeg) = x1 → vp_in x3 12 ∧ ((¬ (s.1 (x0 + 4) x3.toNatClampNeg) = x1 → wX10_knot_69 (wX10_knot_19 x0 x1 Q n) Q x0 x1 x3 (0 : Int32) x2 s) ∧ ((s.1 (x0 + 4) x3.toNatClampNeg) = x1 → wX10_knot_50 (wX10_knot_19 x0 x1 Q n) Q x0 x1 x3 x2 s))))))
set_option maxHeartbeats 4000000 in
set_option maxRecDepth 100000 in
theorem bX10_knot_19 {l : Launch} {V : Wv} {X : Mx} {x0 : Nat} {x1 : Int32} {Q : Int32 → St → Prop} (F : Fx V X cX10_knot RX10 4 2) (hR : RtI l V X 4 cX10_knot Q) (hx0 : isX10 V x0)  : ∀ (n : Nat) (x2 : Int32) (x3 : Int32) (s : St), wX10_knot_19 x0 x1 Q n x2 x3 s → G l V X 4 19 [(0, rf V x0), (1, .int x1), (2, .int x2), (3, .int x3)] [] s := by
  intro n
  induction n with
  | zero => intro x2 x3 s h; unfold wX10_knot_19 at h; exact h.elim
  | succ n ih =>
    intro x2 x3 s h
    unfold wX10_knot_19 at h
    refine g_iload_n (pc := 19) F dX10_knot_19 rfl 3 rfl ?_
    refine g_aload_n (pc := 20) F dX10_knot_20 rfl 0 rfl ?_
    refine g_getR (pc := 21) F clX10 hx0.1 9 _ rfl (by decide) uX10_13 dX10_knot_21 ?_
    refine g_iconst (pc := 24) F dX10_knot_24 ic_1 ?_
    obtain ⟨hb_25, h⟩ := h
    refine g_iald (pc := 25) F hx0.2.2.1 hb_25 dX10_knot_25 ?_
    refine g_icmp_ge (pc := 26) F 77 dX10_knot_26 (by decide) (fun c => ?_) (fun c => ?_)
    · have h := h.1 c
      refine g_iload_n (pc := 77) F dX10_knot_77 rfl 2 rfl ?_
      exact hR _ _ _ _ dX10_knot_78 h
    · have h := h.2 c
      refine g_iload_n (pc := 29) F dX10_knot_29 rfl 2 rfl ?_
      refine g_aload_n (pc := 30) F dX10_knot_30 rfl 0 rfl ?_
      refine g_getR (pc := 31) F clX10 hx0.1 10 _ rfl (by decide) uX10_16 dX10_knot_31 ?_
      refine g_iload_n (pc := 34) F dX10_knot_34 rfl 3 rfl ?_
      obtain ⟨hb_35, h⟩ := h
      refine g_iald (pc := 35) F hx0.2.2.2.1 hb_35 dX10_knot_35 ?_
      refine g_iload_n (pc := 36) F dX10_knot_36 rfl 1 rfl ?_
      refine g_icmp_eq (pc := 37) F 50 dX10_knot_37 (by decide) (fun c => ?_) (fun c => ?_)
      · have h := h.1 c
        exact g_weak [0, 1, 3] rfl (bX10_knot_50 F hR hx0 ih h)
      · have h := h.2 c
        refine g_aload_n (pc := 40) F dX10_knot_40 rfl 0 rfl ?_
        refine g_getR (pc := 41) F clX10 hx0.1 11 _ rfl (by decide) uX10_19 dX10_knot_41 ?_
        refine g_iload_n (pc := 44) F dX10_knot_44 rfl 3 rfl ?_
        obtain ⟨hb_45, h⟩ := h
        refine g_iald (pc := 45) F hx0.2.2.2.2.1 hb_45 dX10_knot_45 ?_
        refine g_iload_n (pc := 46) F dX10_knot_46 rfl 1 rfl ?_
        refine g_icmp_ne (pc := 47) F 68 dX10_knot_47 (by decide) (fun c => ?_) (fun c => ?_)
        · have h := h.1 c
          refine g_iconst (pc := 68) F dX10_knot_68 ic_0 ?_
          exact g_weak [0, 1, 3] rfl (bX10_knot_69 F hR hx0 ih h)
        · have h := h.2 c
          exact g_weak [0, 1, 3] rfl (bX10_knot_50 F hR hx0 ih h)
def wX10_knot (x0 : Nat) (x1 : Int32) (s : St) (Q : Int32 → St → Prop) : Prop :=
  ∀ s_2 : St, s_2 = stI s x0 0 (0 : Int32) → wX10_isPlace x0 x1 s_2 (fun r_7 s_7 => ((¬ r_7 = 0 → (∃ k_19, wX10_knot_19  x0 x1  Q k_19 (0 : Int32) (0 : Int32) s_7)) ∧ (r_7 = 0 → Q (-1 : Int32) s_7)))
set_option maxHeartbeats 4000000 in
set_option maxRecDepth 100000 in
theorem mX10_knot {l : Launch} {V : Wv} {x0 : Nat} {x1 : Int32} {s : St} {Q : Int32 → St → Prop} (hx0 : isX10 V x0) (h : wX10_knot x0 x1 s Q) : Ci yX10_knot cX10_knot 4 (some .int) (2) l V [rf V x0, .int x1] s Q := by
  unfold wX10_knot at h
  refine Ci.of mvX10_knot.1 (Nat.le_of_ble_eq_true rfl) (fun X F hR => ?_)
  refine g_lv (lv' := [(_, _), (_, _)]) rfl ?_
  refine g_aload_n (pc := 0) F dX10_knot_0 rfl 0 rfl ?_
  refine g_iconst (pc := 1) F dX10_knot_1 ic_0 ?_
  have h := h _ rfl
  refine g_putI (pc := 2) F clX10 hx0.1 0 rfl (by decide) rfl (tyX10_ok 0 (by decide)) uX10_89 dX10_knot_2 ?_
  refine g_aload_n (pc := 5) F dX10_knot_5 rfl 0 rfl ?_
  refine g_iload_n (pc := 6) F dX10_knot_6 rfl 1 rfl ?_
  refine g_callVi (pc := 7) F (mX10_isPlace hx0 h) mvX10_isPlace uX10_188 (by decide) clX10 hx0.1 rfl rfl (Nat.le_of_ble_eq_true rfl) dX10_knot_7 (fun r_7 s_7 h => ?_)
  refine g_if_ne (pc := 10) F 15 dX10_knot_10 (by decide) (fun c => ?_) (fun c => ?_)
  · have h := h.1 c
    refine g_iconst (pc := 15) F dX10_knot_15 ic_0 ?_
    refine g_istore_n (pc := 16) (lv' := [(_, _), (_, _), (_, _)]) F dX10_knot_16 rfl (by decide) rfl ?_
    refine g_iconst (pc := 17) F dX10_knot_17 ic_0 ?_
    refine g_istore_n (pc := 18) (lv' := [(_, _), (_, _), (_, _), (_, _)]) F dX10_knot_18 rfl (by decide) rfl ?_
    obtain ⟨k_19, h⟩ := h
    refine g_weak [2, 3, 1, 0] rfl (bX10_knot_19 F hR hx0 k_19 _ _ _ h)
  · have h := h.2 c
    refine g_iconst (pc := 13) F dX10_knot_13 ic_m1 ?_
    exact hR _ _ _ _ dX10_knot_14 h
def wX10_asking_20 (Q : Int32 → St → Prop) (x0 : Nat) (x1 : Int32) (s : St) : Prop :=
  wX10_draftLanes x0 s (fun r_22 s_22 => wX10_scans x0 r_22 s_22 (fun s_25 => wX10_allMaps x0 s_25 (fun r_30 s_30 => wX10_costOf x0 r_30 s_30 (fun r_33 s_33 => ((¬ r_33 = (1000000 : Int32) → ((¬ x1 = (-1 : Int32) → vp_in x1 6 ∧ Q (s_33.1 (x0 + 21) x1.toNatClampNeg) s_33) ∧ (x1 = (-1 : Int32) → Q r_33 s_33))) ∧ (r_33 = (1000000 : Int32) → Q (-9 : Int32) s_33))))))
set_option maxHeartbeats 4000000 in
set_option maxRecDepth 100000 in
theorem bX10_asking_20 {l : Launch} {V : Wv} {X : Mx} {Q : Int32 → St → Prop} {x0 : Nat} {x1 : Int32} (F : Fx V X cX10_asking RX10 3 4) (hR : RtI l V X 3 cX10_asking Q) (hx0 : isX10 V x0)  {s : St} (h : wX10_asking_20 Q x0 x1 s) : G l V X 3 20 [(0, rf V x0), (1, .int x1)] [] s := by
  unfold wX10_asking_20 at h
  refine g_aload_n (pc := 20) F dX10_asking_20 rfl 0 rfl ?_
  refine g_aload_n (pc := 21) F dX10_asking_21 rfl 0 rfl ?_
  refine g_callVi (pc := 22) F (mX10_draftLanes hx0 h) mvX10_draftLanes uX10_195 (by decide) clX10 hx0.1 rfl rfl (Nat.le_of_ble_eq_true rfl) dX10_asking_22 (fun r_22 s_22 h => ?_)
  refine g_callVv (pc := 25) F (mX10_scans hx0 h) mvX10_scans uX10_199 (by decide) clX10 hx0.1 rfl rfl (Nat.le_of_ble_eq_true rfl) dX10_asking_25 (fun s_25 h => ?_)
  refine g_aload_n (pc := 28) F dX10_asking_28 rfl 0 rfl ?_
  refine g_aload_n (pc := 29) F dX10_asking_29 rfl 0 rfl ?_
  refine g_callVi (pc := 30) F (mX10_allMaps hx0 h) mvX10_allMaps uX10_202 (by decide) clX10 hx0.1 rfl rfl (Nat.le_of_ble_eq_true rfl) dX10_asking_30 (fun r_30 s_30 h => ?_)
  refine g_callVi (pc := 33) F (mX10_costOf hx0 h) mvX10_costOf uX10_205 (by decide) clX10 hx0.1 rfl rfl (Nat.le_of_ble_eq_true rfl) dX10_asking_33 (fun r_33 s_33 h => ?_)
  refine g_istore_n (pc := 36) (lv' := [(_, _), (_, _), (_, _)]) F dX10_asking_36 rfl (by decide) rfl ?_
  refine g_iload_n (pc := 37) F dX10_asking_37 rfl 0 rfl ?_
  refine g_ldc (pc := 38) F dX10_asking_38 uX10_167 ?_
  refine g_icmp_ne (pc := 40) F 48 dX10_asking_40 (by decide) (fun c => ?_) (fun c => ?_)
  · have h := h.1 c
    refine g_iload_n (pc := 48) F dX10_asking_48 rfl 2 rfl ?_
    refine g_iconst (pc := 49) F dX10_asking_49 ic_m1 ?_
    refine g_icmp_ne (pc := 50) F 57 dX10_asking_50 (by decide) (fun c => ?_) (fun c => ?_)
    · have h := h.1 c
      refine g_aload_n (pc := 57) F dX10_asking_57 rfl 1 rfl ?_
      refine g_getR (pc := 58) F clX10 hx0.1 31 _ rfl (by decide) uX10_71 dX10_asking_58 ?_
      refine g_iload_n (pc := 61) F dX10_asking_61 rfl 2 rfl ?_
      obtain ⟨hb_62, h⟩ := h
      refine g_iald (pc := 62) F hx0.2.2.2.2.2.2.2.2.2.2.2.2.2.2.2.2.2.2.2.2.2.1 hb_62 dX10_asking_62 ?_
      exact hR _ _ _ _ dX10_asking_63 h
    · have h := h.2 c
      refine g_iload_n (pc := 53) F dX10_asking_53 rfl 0 rfl ?_
      refine g_goto (pc := 54) F 63 dX10_asking_54 (by decide) ?_
      exact hR _ _ _ _ dX10_asking_63 h
  · have h := h.2 c
    refine g_bipush (pc := 43) F dX10_asking_43 bp_m9 ?_
    refine g_goto (pc := 45) F 63 dX10_asking_45 (by decide) ?_
    exact hR _ _ _ _ dX10_asking_63 h
def wX10_asking (x0 : Nat) (x1 : Int32) (s : St) (Q : Int32 → St → Prop) : Prop :=
  ∀ s_2 : St, s_2 = stI s x0 0 (0 : Int32) → ((x1 = (-1 : Int32) → wX10_asking_20 Q x0 x1 s_2) ∧ (¬ x1 = (-1 : Int32) → wX10_isLane x0 x1 s_2 (fun r_12 s_12 => ((¬ r_12 = 0 → wX10_asking_20 Q x0 x1 s_12) ∧ (r_12 = 0 → Q (-1 : Int32) s_12)))))
set_option maxHeartbeats 4000000 in
set_option maxRecDepth 100000 in
theorem mX10_asking {l : Launch} {V : Wv} {x0 : Nat} {x1 : Int32} {s : St} {Q : Int32 → St → Prop} (hx0 : isX10 V x0) (h : wX10_asking x0 x1 s Q) : Ci yX10_asking cX10_asking 3 (some .int) (4) l V [rf V x0, .int x1] s Q := by
  unfold wX10_asking at h
  refine Ci.of mvX10_asking.1 (Nat.le_of_ble_eq_true rfl) (fun X F hR => ?_)
  refine g_lv (lv' := [(_, _), (_, _)]) rfl ?_
  refine g_aload_n (pc := 0) F dX10_asking_0 rfl 0 rfl ?_
  refine g_iconst (pc := 1) F dX10_asking_1 ic_0 ?_
  have h := h _ rfl
  refine g_putI (pc := 2) F clX10 hx0.1 0 rfl (by decide) rfl (tyX10_ok 0 (by decide)) uX10_89 dX10_asking_2 ?_
  refine g_iload_n (pc := 5) F dX10_asking_5 rfl 1 rfl ?_
  refine g_iconst (pc := 6) F dX10_asking_6 ic_m1 ?_
  refine g_icmp_eq (pc := 7) F 20 dX10_asking_7 (by decide) (fun c => ?_) (fun c => ?_)
  · have h := h.1 c
    exact g_weak [0, 1] rfl (bX10_asking_20 F hR hx0 h)
  · have h := h.2 c
    refine g_aload_n (pc := 10) F dX10_asking_10 rfl 0 rfl ?_
    refine g_iload_n (pc := 11) F dX10_asking_11 rfl 1 rfl ?_
    refine g_callVi (pc := 12) F (mX10_isLane hx0 h) mvX10_isLane uX10_171 (by decide) clX10 hx0.1 rfl rfl (Nat.le_of_ble_eq_true rfl) dX10_asking_12 (fun r_12 s_12 h => ?_)
    refine g_if_ne (pc := 15) F 20 dX10_asking_15 (by decide) (fun c => ?_) (fun c => ?_)
    · have h := h.1 c
      exact g_weak [0, 1] rfl (bX10_asking_20 F hR hx0 h)
    · have h := h.2 c
      refine g_iconst (pc := 18) F dX10_asking_18 ic_m1 ?_
      exact hR _ _ _ _ dX10_asking_19 h
def wX10_clash_65 (rec : Int32 → Int32 → St → Prop) (Q : Int32 → St → Prop) (x0 : Nat) (x2 : Int32) (t0 : Int32) (s : St) : Prop :=
  rec t0 (x2 + (1 : Int32)) s
set_option maxHeartbeats 4000000 in
set_option maxRecDepth 100000 in
theorem bX10_clash_65 {l : Launch} {V : Wv} {X : Mx} {rec : Int32 → Int32 → St → Prop} {Q : Int32 → St → Prop} {x0 : Nat} {x2 : Int32} {t0 : Int32} (F : Fx V X cX10_clash RX10 4 4) (hR : RtI l V X 4 cX10_clash Q) (hx0 : isX10 V x0) (hrec : ∀ (y1 : Int32) (y2 : Int32) (s : St), rec y1 y2 s → G l V X 4 17 [(0, rf V x0), (1, .int y1), (2, .int y2)] [] s) {s : St} (h : wX10_clash_65 rec Q x0 x2 t0 s) : G l V X 4 65 [(0, rf V x0), (2, .int x2)] [.int t0] s := by
  unfold wX10_clash_65 at h
  refine g_istore_n (pc := 65) (lv' := [(_, _), (_, _), (_, _)]) F dX10_clash_65 rfl (by decide) rfl ?_
  refine g_iinc (pc := 66) (lv' := [(_, _), (_, _), (_, _)]) F dX10_clash_66 2 rfl (congrArg _ ic_1) (by decide) rfl ?_
  refine g_goto (pc := 69) F 17 dX10_clash_69 (by decide) ?_
  exact g_weak [2, 1, 0] rfl (hrec _ _ _ h)
def wX10_clash_64 (rec : Int32 → Int32 → St → Prop) (Q : Int32 → St → Prop) (x0 : Nat) (x1 : Int32) (x2 : Int32) (s : St) : Prop :=
  wX10_clash_65 (rec) Q x0 x2 x1 s
set_option maxHeartbeats 4000000 in
set_option maxRecDepth 100000 in
theorem bX10_clash_64 {l : Launch} {V : Wv} {X : Mx} {rec : Int32 → Int32 → St → Prop} {Q : Int32 → St → Prop} {x0 : Nat} {x1 : Int32} {x2 : Int32} (F : Fx V X cX10_clash RX10 4 4) (hR : RtI l V X 4 cX10_clash Q) (hx0 : isX10 V x0) (hrec : ∀ (y1 : Int32) (y2 : Int32) (s : St), rec y1 y2 s → G l V X 4 17 [(0, rf V x0), (1, .int y1), (2, .int y2)] [] s) {s : St} (h : wX10_clash_64 rec Q x0 x1 x2 s) : G l V X 4 64 [(0, rf V x0), (1, .int x1), (2, .int x2)] [] s := by
  unfold wX10_clash_64 at h
  refine g_iload_n (pc := 64) F dX10_clash_64 rfl 1 rfl ?_
  exact g_weak [0, 2] rfl (bX10_clash_65 F hR hx0 hrec h)
def wX10_clash_45 (rec : Int32 → Int32 → St → Prop) (Q : Int32 → St → Prop) (x0 : Nat) (x1 : Int32) (x2 : Int32) (t0 : Int32) (s : St) : Prop :=
  ((t0 = 0 → wX10_clash_64 (rec) Q x0 x1 x2 s) ∧ (¬ t0 = 0 → wX10_costOf x0 x2 s (fun r_52 s_52 => ((¬ r_52 = (1000000 : Int32) → wX10_clash_64 (rec) Q x0 x1 x2 s_52) ∧ (r_52 = (1000000 : Int32) → wX10_clash_65 (rec) Q x0 x2 x2 s_52)))))
set_option maxHeartbeats 4000000 in
set_option maxRecDepth 100000 in
theorem bX10_clash_45 {l : Launch} {V : Wv} {X : Mx} {rec : Int32 → Int32 → St → Prop} {Q : Int32 → St → Prop} {x0 : Nat} {x1 : Int32} {x2 : Int32} {t0 : Int32} (F : Fx V X cX10_clash RX10 4 4) (hR : RtI l V X 4 cX10_clash Q) (hx0 : isX10 V x0) (hrec : ∀ (y1 : Int32) (y2 : Int32) (s : St), rec y1 y2 s → G l V X 4 17 [(0, rf V x0), (1, .int y1), (2, .int y2)] [] s) {s : St} (h : wX10_clash_45 rec Q x0 x1 x2 t0 s) : G l V X 4 45 [(0, rf V x0), (1, .int x1), (2, .int x2)] [.int t0] s := by
  unfold wX10_clash_45 at h
  refine g_istore_n (pc := 45) (lv' := [(_, _), (_, _), (_, _), (_, _)]) F dX10_clash_45 rfl (by decide) rfl ?_
  refine g_iload_n (pc := 46) F dX10_clash_46 rfl 0 rfl ?_
  refine g_if_eq (pc := 47) F 64 dX10_clash_47 (by decide) (fun c => ?_) (fun c => ?_)
  · have h := h.1 c
    exact g_weak [1, 2, 3] rfl (bX10_clash_64 F hR hx0 hrec h)
  · have h := h.2 c
    refine g_aload_n (pc := 50) F dX10_clash_50 rfl 1 rfl ?_
    refine g_iload_n (pc := 51) F dX10_clash_51 rfl 3 rfl ?_
    refine g_callVi (pc := 52) F (mX10_costOf hx0 h) mvX10_costOf uX10_205 (by decide) clX10 hx0.1 rfl rfl (Nat.le_of_ble_eq_true rfl) dX10_clash_52 (fun r_52 s_52 h => ?_)
    refine g_ldc (pc := 55) F dX10_clash_55 uX10_167 ?_
    refine g_icmp_ne (pc := 57) F 64 dX10_clash_57 (by decide) (fun c => ?_) (fun c => ?_)
    · have h := h.1 c
      exact g_weak [1, 2, 3] rfl (bX10_clash_64 F hR hx0 hrec h)
    · have h := h.2 c
      refine g_iload_n (pc := 60) F dX10_clash_60 rfl 3 rfl ?_
      refine g_goto (pc := 61) F 65 dX10_clash_61 (by decide) ?_
      exact g_weak [1, 3] rfl (bX10_clash_65 F hR hx0 hrec h)
def wX10_clash_40 (rec : Int32 → Int32 → St → Prop) (Q : Int32 → St → Prop) (x0 : Nat) (x1 : Int32) (x2 : Int32) (s : St) : Prop :=
  wX10_clash_45 (rec) Q x0 x1 x2 (1 : Int32) s
set_option maxHeartbeats 4000000 in
set_option maxRecDepth 100000 in
theorem bX10_clash_40 {l : Launch} {V : Wv} {X : Mx} {rec : Int32 → Int32 → St → Prop} {Q : Int32 → St → Prop} {x0 : Nat} {x1 : Int32} {x2 : Int32} (F : Fx V X cX10_clash RX10 4 4) (hR : RtI l V X 4 cX10_clash Q) (hx0 : isX10 V x0) (hrec : ∀ (y1 : Int32) (y2 : Int32) (s : St), rec y1 y2 s → G l V X 4 17 [(0, rf V x0), (1, .int y1), (2, .int y2)] [] s) {s : St} (h : wX10_clash_40 rec Q x0 x1 x2 s) : G l V X 4 40 [(0, rf V x0), (1, .int x1), (2, .int x2)] [] s := by
  unfold wX10_clash_40 at h
  refine g_iconst (pc := 40) F dX10_clash_40 ic_1 ?_
  refine g_goto (pc := 41) F 45 dX10_clash_41 (by decide) ?_
  exact g_weak [0, 1, 2] rfl (bX10_clash_45 F hR hx0 hrec h)
def wX10_clash_17 (x0 : Nat) (Q : Int32 → St → Prop) : Nat → Int32 → Int32 → St → Prop
  | 0, _, _, _ => False
  | n + 1, x1, x2, s =>
  wX10_allMaps x0 s (fun r_19 s_19 => ((r_19 < x2 → Q x1 s_19) ∧ (¬ r_19 < x2 → ((x1 = 0 → wX10_clash_40 (wX10_clash_17 x0 Q n) Q x0 x1 x2 s_19) ∧ (¬ x1 = 0 → wX10_ones x2 s_19 (fun r_30 s_30 => wX10_ones x1 s_30 (fun r_34 s_34 => ((r_34 ≤ r_30 → wX10_clash_45 (wX10_clash_17 x0 Q n) Q x0 x1 x2 (0 : Int32) s_34) ∧ (¬ r_34 ≤ r_30 → wX10_clash_40 (wX10_clash_17 x0 Q n) Q x0 x1 x2 s_34)))))))))
set_option maxHeartbeats 4000000 in
set_option maxRecDepth 100000 in
theorem bX10_clash_17 {l : Launch} {V : Wv} {X : Mx} {x0 : Nat} {Q : Int32 → St → Prop} (F : Fx V X cX10_clash RX10 4 4) (hR : RtI l V X 4 cX10_clash Q) (hx0 : isX10 V x0)  : ∀ (n : Nat) (x1 : Int32) (x2 : Int32) (s : St), wX10_clash_17 x0 Q n x1 x2 s → G l V X 4 17 [(0, rf V x0), (1, .int x1), (2, .int x2)] [] s := by
  intro n
  induction n with
  | zero => intro x1 x2 s h; unfold wX10_clash_17 at h; exact h.elim
  | succ n ih =>
    intro x1 x2 s h
    unfold wX10_clash_17 at h
    refine g_iload_n (pc := 17) F dX10_clash_17 rfl 2 rfl ?_
    refine g_aload_n (pc := 18) F dX10_clash_18 rfl 0 rfl ?_
    refine g_callVi (pc := 19) F (mX10_allMaps hx0 h) mvX10_allMaps uX10_202 (by decide) clX10 hx0.1 rfl rfl (Nat.le_of_ble_eq_true rfl) dX10_clash_19 (fun r_19 s_19 h => ?_)
    refine g_icmp_gt (pc := 22) F 72 dX10_clash_22 (by decide) (fun c => ?_) (fun c => ?_)
    · have h := h.1 c
      refine g_iload_n (pc := 72) F dX10_clash_72 rfl 1 rfl ?_
      exact hR _ _ _ _ dX10_clash_73 h
    · have h := h.2 c
      refine g_iload_n (pc := 25) F dX10_clash_25 rfl 1 rfl ?_
      refine g_if_eq (pc := 26) F 40 dX10_clash_26 (by decide) (fun c => ?_) (fun c => ?_)
      · have h := h.1 c
        exact g_weak [0, 1, 2] rfl (bX10_clash_40 F hR hx0 ih h)
      · have h := h.2 c
        refine g_iload_n (pc := 29) F dX10_clash_29 rfl 2 rfl ?_
        refine g_callSi (pc := 30) F (mX10_ones  h) mvX10_ones uX10_223 (by decide)  rfl rfl (Nat.le_of_ble_eq_true rfl) dX10_clash_30 (fun r_30 s_30 h => ?_)
        refine g_iload_n (pc := 33) F dX10_clash_33 rfl 1 rfl ?_
        refine g_callSi (pc := 34) F (mX10_ones  h) mvX10_ones uX10_223 (by decide)  rfl rfl (Nat.le_of_ble_eq_true rfl) dX10_clash_34 (fun r_34 s_34 h => ?_)
        refine g_icmp_ge (pc := 37) F 44 dX10_clash_37 (by decide) (fun c => ?_) (fun c => ?_)
        · have h := h.1 c
          refine g_iconst (pc := 44) F dX10_clash_44 ic_0 ?_
          exact g_weak [0, 1, 2] rfl (bX10_clash_45 F hR hx0 ih h)
        · have h := h.2 c
          exact g_weak [0, 1, 2] rfl (bX10_clash_40 F hR hx0 ih h)
def wX10_clash (x0 : Nat) (s : St) (Q : Int32 → St → Prop) : Prop :=
  ∀ s_2 : St, s_2 = stI s x0 0 (0 : Int32) → wX10_draftLanes x0 s_2 (fun r_7 s_7 => wX10_scans x0 r_7 s_7 (fun s_10 => (∃ k_17, wX10_clash_17  x0  Q k_17 (0 : Int32) (0 : Int32) s_10)))
set_option maxHeartbeats 4000000 in
set_option maxRecDepth 100000 in
theorem mX10_clash {l : Launch} {V : Wv} {x0 : Nat} {s : St} {Q : Int32 → St → Prop} (hx0 : isX10 V x0) (h : wX10_clash x0 s Q) : Ci yX10_clash cX10_clash 4 (some .int) (4) l V [rf V x0] s Q := by
  unfold wX10_clash at h
  refine Ci.of mvX10_clash.1 (Nat.le_of_ble_eq_true rfl) (fun X F hR => ?_)
  refine g_lv (lv' := [(_, _)]) rfl ?_
  refine g_aload_n (pc := 0) F dX10_clash_0 rfl 0 rfl ?_
  refine g_iconst (pc := 1) F dX10_clash_1 ic_0 ?_
  have h := h _ rfl
  refine g_putI (pc := 2) F clX10 hx0.1 0 rfl (by decide) rfl (tyX10_ok 0 (by decide)) uX10_89 dX10_clash_2 ?_
  refine g_aload_n (pc := 5) F dX10_clash_5 rfl 0 rfl ?_
  refine g_aload_n (pc := 6) F dX10_clash_6 rfl 0 rfl ?_
  refine g_callVi (pc := 7) F (mX10_draftLanes hx0 h) mvX10_draftLanes uX10_195 (by decide) clX10 hx0.1 rfl rfl (Nat.le_of_ble_eq_true rfl) dX10_clash_7 (fun r_7 s_7 h => ?_)
  refine g_callVv (pc := 10) F (mX10_scans hx0 h) mvX10_scans uX10_199 (by decide) clX10 hx0.1 rfl rfl (Nat.le_of_ble_eq_true rfl) dX10_clash_10 (fun s_10 h => ?_)
  refine g_iconst (pc := 13) F dX10_clash_13 ic_0 ?_
  refine g_istore_n (pc := 14) (lv' := [(_, _), (_, _)]) F dX10_clash_14 rfl (by decide) rfl ?_
  refine g_iconst (pc := 15) F dX10_clash_15 ic_0 ?_
  refine g_istore_n (pc := 16) (lv' := [(_, _), (_, _), (_, _)]) F dX10_clash_16 rfl (by decide) rfl ?_
  obtain ⟨k_17, h⟩ := h
  refine g_weak [2, 1, 0] rfl (bX10_clash_17 F hR hx0 k_17 _ _ _ h)
def wX10_fire_88 (rec : Int32 → Int32 → St → Prop) (K95 : Int32 → St → Prop) (Q : Int32 → St → Prop) (x0 : Nat) (x1 : Int32) (x3 : Int32) (t0 : Int32) (s : St) : Prop :=
  rec t0 (x3 + (1 : Int32)) s
set_option maxHeartbeats 4000000 in
set_option maxRecDepth 100000 in
theorem bX10_fire_88 {l : Launch} {V : Wv} {X : Mx} {rec : Int32 → Int32 → St → Prop} {K95 : Int32 → St → Prop} {Q : Int32 → St → Prop} {x0 : Nat} {x1 : Int32} {x3 : Int32} {t0 : Int32} (F : Fx V X cX10_fire RX10 4 4) (hR : RtI l V X 4 cX10_fire Q) (hx0 : isX10 V x0) (hrec : ∀ (y2 : Int32) (y3 : Int32) (s : St), rec y2 y3 s → G l V X 4 41 [(0, rf V x0), (1, .int x1), (2, .int y2), (3, .int y3)] [] s) (hK95 : ∀ (y2 : Int32) (s : St), K95 y2 s → G l V X 4 95 [(0, rf V x0), (1, .int x1), (2, .int y2)] [] s) {s : St} (h : wX10_fire_88 rec K95 Q x0 x1 x3 t0 s) : G l V X 4 88 [(0, rf V x0), (1, .int x1), (3, .int x3)] [.int t0] s := by
  unfold wX10_fire_88 at h
  refine g_istore_n (pc := 88) (lv' := [(_, _), (_, _), (_, _), (_, _)]) F dX10_fire_88 rfl (by decide) rfl ?_
  refine g_iinc (pc := 89) (lv' := [(_, _), (_, _), (_, _), (_, _)]) F dX10_fire_89 3 rfl (congrArg _ ic_1) (by decide) rfl ?_
  refine g_goto (pc := 92) F 41 dX10_fire_92 (by decide) ?_
  exact g_weak [2, 3, 1, 0] rfl (hrec _ _ _ h)
def wX10_fire_41 (x0 : Nat) (x1 : Int32) (K95 : Int32 → St → Prop) (Q : Int32 → St → Prop) : Nat → Int32 → Int32 → St → Prop
  | 0, _, _, _ => False
  | n + 1, x2, x3, s =>
  vp_in (6 : Int32) 38 ∧ (((s.1 (x0 + 7) (6 : Int32).toNatClampNeg) ≤ x3 → K95 x2 s) ∧ (¬ (s.1 (x0 + 7) (6 : Int32).toNatClampNeg) ≤ x3 → wX10_allMaps x0 s (fun r_54 s_54 => wX10_costOf x0 (r_54 &&& (((1 : Int32) <<< (x3 &&& 31)) ^^^ (-1 : Int32))) s_54 (fun r_63 s_63 => wX10_allMaps x0 s_63 (fun r_68 s_68 => wX10_costOf x0 (r_68 &&& (((1 : Int32) <<< (x2 &&& 31)) ^^^ (-1 : Int32))) s_68 (fun r_77 s_77 => ((r_77 ≤ r_63 → wX10_fire_88 (wX10_fire_41 x0 x1 K95 Q n) (K95) Q x0 x1 x3 x2 s_77) ∧ (¬ r_77 ≤ r_63 → wX10_fire_88 (wX10_fire_41 x0 x1 K95 Q n) (K95) Q x0 x1 x3 x3 s_77))))))))
set_option maxHeartbeats 4000000 in
set_option maxRecDepth 100000 in
theorem bX10_fire_41 {l : Launch} {V : Wv} {X : Mx} {x0 : Nat} {x1 : Int32} {K95 : Int32 → St → Prop} {Q : Int32 → St → Prop} (F : Fx V X cX10_fire RX10 4 4) (hR : RtI l V X 4 cX10_fire Q) (hx0 : isX10 V x0) (hK95 : ∀ (y2 : Int32) (s : St), K95 y2 s → G l V X 4 95 [(0, rf V x0), (1, .int x1), (2, .int y2)] [] s) : ∀ (n : Nat) (x2 : Int32) (x3 : Int32) (s : St), wX10_fire_41 x0 x1 K95 Q n x2 x3 s → G l V X 4 41 [(0, rf V x0), (1, .int x1), (2, .int x2), (3, .int x3)] [] s := by
  intro n
  induction n with
  | zero => intro x2 x3 s h; unfold wX10_fire_41 at h; exact h.elim
  | succ n ih =>
    intro x2 x3 s h
    unfold wX10_fire_41 at h
    refine g_iload_n (pc := 41) F dX10_fire_41 rfl 3 rfl ?_
    refine g_aload_n (pc := 42) F dX10_fire_42 rfl 0 rfl ?_
    refine g_getR (pc := 43) F clX10 hx0.1 14 _ rfl (by decide) uX10_28 dX10_fire_43 ?_
    refine g_bipush (pc := 46) F dX10_fire_46 bp_6 ?_
    obtain ⟨hb_48, h⟩ := h
    refine g_iald (pc := 48) F hx0.2.2.2.2.2.2.2.1 hb_48 dX10_fire_48 ?_
    refine g_icmp_ge (pc := 49) F 95 dX10_fire_49 (by decide) (fun c => ?_) (fun c => ?_)
    · have h := h.1 c
      exact g_weak [0, 1, 2] rfl (hK95 _ _ h)
    · have h := h.2 c
      refine g_aload_n (pc := 52) F dX10_fire_52 rfl 0 rfl ?_
      refine g_aload_n (pc := 53) F dX10_fire_53 rfl 0 rfl ?_
      refine g_callVi (pc := 54) F (mX10_allMaps hx0 h) mvX10_allMaps uX10_202 (by decide) clX10 hx0.1 rfl rfl (Nat.le_of_ble_eq_true rfl) dX10_fire_54 (fun r_54 s_54 h => ?_)
      refine g_iconst (pc := 57) F dX10_fire_57 ic_1 ?_
      refine g_iload_n (pc := 58) F dX10_fire_58 rfl 3 rfl ?_
      refine g_ishl (pc := 59) F dX10_fire_59 ?_
      refine g_iconst (pc := 60) F dX10_fire_60 ic_m1 ?_
      refine g_ixor (pc := 61) F dX10_fire_61 ?_
      refine g_iand (pc := 62) F dX10_fire_62 ?_
      refine g_callVi (pc := 63) F (mX10_costOf hx0 h) mvX10_costOf uX10_205 (by decide) clX10 hx0.1 rfl rfl (Nat.le_of_ble_eq_true rfl) dX10_fire_63 (fun r_63 s_63 h => ?_)
      refine g_aload_n (pc := 66) F dX10_fire_66 rfl 0 rfl ?_
      refine g_aload_n (pc := 67) F dX10_fire_67 rfl 0 rfl ?_
      refine g_callVi (pc := 68) F (mX10_allMaps hx0 h) mvX10_allMaps uX10_202 (by decide) clX10 hx0.1 rfl rfl (Nat.le_of_ble_eq_true rfl) dX10_fire_68 (fun r_68 s_68 h => ?_)
      refine g_iconst (pc := 71) F dX10_fire_71 ic_1 ?_
      refine g_iload_n (pc := 72) F dX10_fire_72 rfl 2 rfl ?_
      refine g_ishl (pc := 73) F dX10_fire_73 ?_
      refine g_iconst (pc := 74) F dX10_fire_74 ic_m1 ?_
      refine g_ixor (pc := 75) F dX10_fire_75 ?_
      refine g_iand (pc := 76) F dX10_fire_76 ?_
      refine g_callVi (pc := 77) F (mX10_costOf hx0 h) mvX10_costOf uX10_205 (by decide) clX10 hx0.1 rfl rfl (Nat.le_of_ble_eq_true rfl) dX10_fire_77 (fun r_77 s_77 h => ?_)
      refine g_icmp_ge (pc := 80) F 87 dX10_fire_80 (by decide) (fun c => ?_) (fun c => ?_)
      · have h := h.1 c
        refine g_iload_n (pc := 87) F dX10_fire_87 rfl 2 rfl ?_
        exact g_weak [0, 1, 3] rfl (bX10_fire_88 F hR hx0 ih hK95 h)
      · have h := h.2 c
        refine g_iload_n (pc := 83) F dX10_fire_83 rfl 3 rfl ?_
        refine g_goto (pc := 84) F 88 dX10_fire_84 (by decide) ?_
        exact g_weak [0, 1, 3] rfl (bX10_fire_88 F hR hx0 ih hK95 h)
def wX10_fire (x0 : Nat) (x1 : Int32) (s : St) (Q : Int32 → St → Prop) : Prop :=
  ∀ s_2 : St, s_2 = stI s x0 0 (0 : Int32) → wX10_in x1 (0 : Int32) (1 : Int32) s_2 (fun r_8 s_8 => ((¬ r_8 = 0 → vp_in (6 : Int32) 38 ∧ ((¬ (s_8.1 (x0 + 7) (6 : Int32).toNatClampNeg) = 0 → wX10_draftLanes x0 s_8 (fun r_31 s_31 => wX10_scans x0 r_31 s_31 (fun s_34 => (∃ k_41, wX10_fire_41  x0 x1 (fun x2_95 s_k95 => wX10_allMaps x0 s_k95 (fun r_97 s_97 => wX10_costOf x0 (r_97 &&& (((1 : Int32) <<< (x2_95 &&& 31)) ^^^ (-1 : Int32))) s_97 (fun r_106 s_106 => ((¬ x1 = 0 → ((¬ r_106 = (1000000 : Int32) → Q r_106 s_106) ∧ (r_106 = (1000000 : Int32) → Q (-9 : Int32) s_106))) ∧ (x1 = 0 → Q x2_95 s_106))))) Q k_41 (0 : Int32) (1 : Int32) s_34)))) ∧ ((s_8.1 (x0 + 7) (6 : Int32).toNatClampNeg) = 0 → Q (-9 : Int32) s_8))) ∧ (r_8 = 0 → Q (-1 : Int32) s_8)))
set_option maxHeartbeats 4000000 in
set_option maxRecDepth 100000 in
theorem mX10_fire {l : Launch} {V : Wv} {x0 : Nat} {x1 : Int32} {s : St} {Q : Int32 → St → Prop} (hx0 : isX10 V x0) (h : wX10_fire x0 x1 s Q) : Ci yX10_fire cX10_fire 4 (some .int) (4) l V [rf V x0, .int x1] s Q := by
  unfold wX10_fire at h
  refine Ci.of mvX10_fire.1 (Nat.le_of_ble_eq_true rfl) (fun X F hR => ?_)
  refine g_lv (lv' := [(_, _), (_, _)]) rfl ?_
  refine g_aload_n (pc := 0) F dX10_fire_0 rfl 0 rfl ?_
  refine g_iconst (pc := 1) F dX10_fire_1 ic_0 ?_
  have h := h _ rfl
  refine g_putI (pc := 2) F clX10 hx0.1 0 rfl (by decide) rfl (tyX10_ok 0 (by decide)) uX10_89 dX10_fire_2 ?_
  refine g_iload_n (pc := 5) F dX10_fire_5 rfl 1 rfl ?_
  refine g_iconst (pc := 6) F dX10_fire_6 ic_0 ?_
  refine g_iconst (pc := 7) F dX10_fire_7 ic_1 ?_
  refine g_callSi (pc := 8) F (mX10_in  h) mvX10_in uX10_93 (by decide)  rfl rfl (Nat.le_of_ble_eq_true rfl) dX10_fire_8 (fun r_8 s_8 h => ?_)
  refine g_if_ne (pc := 11) F 16 dX10_fire_11 (by decide) (fun c => ?_) (fun c => ?_)
  · have h := h.1 c
    refine g_aload_n (pc := 16) F dX10_fire_16 rfl 0 rfl ?_
    refine g_getR (pc := 17) F clX10 hx0.1 14 _ rfl (by decide) uX10_28 dX10_fire_17 ?_
    refine g_bipush (pc := 20) F dX10_fire_20 bp_6 ?_
    obtain ⟨hb_22, h⟩ := h
    refine g_iald (pc := 22) F hx0.2.2.2.2.2.2.2.1 hb_22 dX10_fire_22 ?_
    refine g_if_ne (pc := 23) F 29 dX10_fire_23 (by decide) (fun c => ?_) (fun c => ?_)
    · have h := h.1 c
      refine g_aload_n (pc := 29) F dX10_fire_29 rfl 0 rfl ?_
      refine g_aload_n (pc := 30) F dX10_fire_30 rfl 0 rfl ?_
      refine g_callVi (pc := 31) F (mX10_draftLanes hx0 h) mvX10_draftLanes uX10_195 (by decide) clX10 hx0.1 rfl rfl (Nat.le_of_ble_eq_true rfl) dX10_fire_31 (fun r_31 s_31 h => ?_)
      refine g_callVv (pc := 34) F (mX10_scans hx0 h) mvX10_scans uX10_199 (by decide) clX10 hx0.1 rfl rfl (Nat.le_of_ble_eq_true rfl) dX10_fire_34 (fun s_34 h => ?_)
      refine g_iconst (pc := 37) F dX10_fire_37 ic_0 ?_
      refine g_istore_n (pc := 38) (lv' := [(_, _), (_, _), (_, _)]) F dX10_fire_38 rfl (by decide) rfl ?_
      refine g_iconst (pc := 39) F dX10_fire_39 ic_1 ?_
      refine g_istore_n (pc := 40) (lv' := [(_, _), (_, _), (_, _), (_, _)]) F dX10_fire_40 rfl (by decide) rfl ?_
      obtain ⟨k_41, h⟩ := h
      refine g_weak [2, 3, 1, 0] rfl (bX10_fire_41 F hR hx0 (fun x2_95 s_k95 h => ?_) k_41 _ _ _ h)
      · refine g_aload_n (pc := 95) F dX10_fire_95 rfl 0 rfl ?_
        refine g_aload_n (pc := 96) F dX10_fire_96 rfl 0 rfl ?_
        refine g_callVi (pc := 97) F (mX10_allMaps hx0 h) mvX10_allMaps uX10_202 (by decide) clX10 hx0.1 rfl rfl (Nat.le_of_ble_eq_true rfl) dX10_fire_97 (fun r_97 s_97 h => ?_)
        refine g_iconst (pc := 100) F dX10_fire_100 ic_1 ?_
        refine g_iload_n (pc := 101) F dX10_fire_101 rfl 2 rfl ?_
        refine g_ishl (pc := 102) F dX10_fire_102 ?_
        refine g_iconst (pc := 103) F dX10_fire_103 ic_m1 ?_
        refine g_ixor (pc := 104) F dX10_fire_104 ?_
        refine g_iand (pc := 105) F dX10_fire_105 ?_
        refine g_callVi (pc := 106) F (mX10_costOf hx0 h) mvX10_costOf uX10_205 (by decide) clX10 hx0.1 rfl rfl (Nat.le_of_ble_eq_true rfl) dX10_fire_106 (fun r_106 s_106 h => ?_)
        refine g_istore_n (pc := 109) (lv' := [(_, _), (_, _), (_, _), (_, _)]) F dX10_fire_109 rfl (by decide) rfl ?_
        refine g_iload_n (pc := 110) F dX10_fire_110 rfl 2 rfl ?_
        refine g_if_ne (pc := 111) F 118 dX10_fire_111 (by decide) (fun c => ?_) (fun c => ?_)
        · have h := h.1 c
          refine g_iload_n (pc := 118) F dX10_fire_118 rfl 0 rfl ?_
          refine g_ldc (pc := 119) F dX10_fire_119 uX10_167 ?_
          refine g_icmp_ne (pc := 121) F 129 dX10_fire_121 (by decide) (fun c => ?_) (fun c => ?_)
          · have h := h.1 c
            refine g_iload_n (pc := 129) F dX10_fire_129 rfl 0 rfl ?_
            exact hR _ _ _ _ dX10_fire_130 h
          · have h := h.2 c
            refine g_bipush (pc := 124) F dX10_fire_124 bp_m9 ?_
            refine g_goto (pc := 126) F 130 dX10_fire_126 (by decide) ?_
            exact hR _ _ _ _ dX10_fire_130 h
        · have h := h.2 c
          refine g_iload_n (pc := 114) F dX10_fire_114 rfl 3 rfl ?_
          refine g_goto (pc := 115) F 130 dX10_fire_115 (by decide) ?_
          exact hR _ _ _ _ dX10_fire_130 h
    · have h := h.2 c
      refine g_bipush (pc := 26) F dX10_fire_26 bp_m9 ?_
      exact hR _ _ _ _ dX10_fire_28 h
  · have h := h.2 c
    refine g_iconst (pc := 14) F dX10_fire_14 ic_m1 ?_
    exact hR _ _ _ _ dX10_fire_15 h
