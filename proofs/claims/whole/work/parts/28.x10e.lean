/-! printed by program: what each method does to the state (w..), and that its code does so (b.., m..) -/
def wX10_steps_9 (K36 : Int32 → St → Prop) (Q : Int32 → St → Prop) : Nat → Int32 → St → Prop
  | 0, _, _ => False
  | n + 1, x1, s =>
  ((x1 < 0 → K36 x1 s) ∧ (¬ x1 < 0 → vp_in x1 6 ∧ ((¬ (s.1 118 x1.toNatClampNeg) = (5 : Int32) → K36 x1 s) ∧ ((s.1 118 x1.toNatClampNeg) = (5 : Int32) → vp_in x1 6 ∧ ∀ s_29 : St, s_29 = stI s 118 x1.toNatClampNeg (1 : Int32) → wX10_steps_9 K36 Q n (x1 + (-1 : Int32)) s_29))))
set_option maxHeartbeats 4000000 in
set_option maxRecDepth 100000 in
theorem bX10_steps_9 {l : Launch} {V : Wv} {X : Mx} {K36 : Int32 → St → Prop} {Q : Int32 → St → Prop} (F : Fx V X cX10_steps RX10 2 0) (hR : RtZ l V X 2 cX10_steps Q) (hV : V.2.1 = DESC) (hK36 : ∀ (y1 : Int32) (s : St), K36 y1 s → G l V X 2 36 [(0, rf V 99), (1, .int y1)] [] s) : ∀ (n : Nat) (x1 : Int32) (s : St), wX10_steps_9 K36 Q n x1 s → G l V X 2 9 [(0, rf V 99), (1, .int x1)] [] s := by
  intro n
  induction n with
  | zero => intro x1 s h; unfold wX10_steps_9 at h; exact h.elim
  | succ n ih =>
    intro x1 s h
    unfold wX10_steps_9 at h
    refine g_iload_n (pc := 9) F dX10_steps_9 rfl 1 rfl ?_
    refine g_if_lt (pc := 10) F 36 dX10_steps_10 (by decide) (fun c => ?_) (fun c => ?_)
    · have h := h.1 c
      exact g_weak [0, 1] rfl (hK36 _ _ h)
    · have h := h.2 c
      refine g_aload_n (pc := 13) F dX10_steps_13 rfl 0 rfl ?_
      refine g_getR (pc := 14) F clX10 (sh_99 hV) 29 _ rfl (by decide) uX10_65 dX10_steps_14 ?_
      refine g_iload_n (pc := 17) F dX10_steps_17 rfl 1 rfl ?_
      obtain ⟨hb_18, h⟩ := h
      refine g_iald (pc := 18) F (sh_118 hV) hb_18 dX10_steps_18 ?_
      refine g_iconst (pc := 19) F dX10_steps_19 ic_5 ?_
      refine g_icmp_ne (pc := 20) F 36 dX10_steps_20 (by decide) (fun c => ?_) (fun c => ?_)
      · have h := h.1 c
        exact g_weak [0, 1] rfl (hK36 _ _ h)
      · have h := h.2 c
        refine g_aload_n (pc := 23) F dX10_steps_23 rfl 0 rfl ?_
        refine g_getR (pc := 24) F clX10 (sh_99 hV) 29 _ rfl (by decide) uX10_65 dX10_steps_24 ?_
        refine g_iload_n (pc := 27) F dX10_steps_27 rfl 1 rfl ?_
        refine g_iconst (pc := 28) F dX10_steps_28 ic_1 ?_
        obtain ⟨hb_29, h⟩ := h
        have h := h _ rfl
        refine g_iast (pc := 29) F (sh_118 hV) hb_29 dX10_steps_29 ?_
        refine g_iinc (pc := 30) (lv' := [(_, _), (_, _)]) F dX10_steps_30 1 rfl (congrArg _ ic_m1) (by decide) rfl ?_
        refine g_goto (pc := 33) F 9 dX10_steps_33 (by decide) ?_
        exact g_weak [1, 0] rfl (ih _ _ h)
def wX10_steps_50 (Q : Int32 → St → Prop) (x1 : Int32) (s : St) : Prop :=
  ((x1 < 0 → Q (0 : Int32) s) ∧ (¬ x1 < 0 → Q (1 : Int32) s))
set_option maxHeartbeats 4000000 in
set_option maxRecDepth 100000 in
theorem bX10_steps_50 {l : Launch} {V : Wv} {X : Mx} {Q : Int32 → St → Prop} {x1 : Int32} (F : Fx V X cX10_steps RX10 2 0) (hR : RtZ l V X 2 cX10_steps Q) (hV : V.2.1 = DESC)  {s : St} (h : wX10_steps_50 Q x1 s) : G l V X 2 50 [(1, .int x1)] [] s := by
  unfold wX10_steps_50 at h
  refine g_iload_n (pc := 50) F dX10_steps_50 rfl 0 rfl ?_
  refine g_if_lt (pc := 51) F 58 dX10_steps_51 (by decide) (fun c => ?_) (fun c => ?_)
  · have h := h.1 c
    refine g_iconst (pc := 58) F dX10_steps_58 ic_0 ?_
    exact hR _ _ _ _ dX10_steps_59 (Or.inl rfl) h
  · have h := h.2 c
    refine g_iconst (pc := 54) F dX10_steps_54 ic_1 ?_
    refine g_goto (pc := 55) F 59 dX10_steps_55 (by decide) ?_
    exact hR _ _ _ _ dX10_steps_59 (Or.inr rfl) h
def wX10_steps  (s : St) (Q : Int32 → St → Prop) : Prop :=
  vp_in (1 : Int32) 4 ∧ (∃ k_9, wX10_steps_9   (fun x1_36 s_k36 => ((x1_36 < 0 → wX10_steps_50 Q x1_36 s_k36) ∧ (¬ x1_36 < 0 → vp_in x1_36 6 ∧ vp_in x1_36 6 ∧ ∀ s_49 : St, s_49 = stI s_k36 118 x1_36.toNatClampNeg ((s_k36.1 118 x1_36.toNatClampNeg) + (1 : Int32)) → wX10_steps_50 Q x1_36 s_49))) Q k_9 ((s.1 101 (1 : Int32).toNatClampNeg) - (1 : Int32)) s)
set_option maxHeartbeats 4000000 in
set_option maxRecDepth 100000 in
theorem mX10_steps {l : Launch} {V : Wv}  {s : St} {Q : Int32 → St → Prop} (hV : V.2.1 = DESC) (h : wX10_steps  s Q) : Ci yX10_steps cX10_steps 2 (some .boolean) (0) l V [rf V 99] s Q := by
  unfold wX10_steps at h
  refine Cz.of mvX10_steps.1 (Nat.le_of_ble_eq_true rfl) (fun X F hR => ?_)
  refine g_lv (lv' := [(_, _)]) rfl ?_
  refine g_aload_n (pc := 0) F dX10_steps_0 rfl 0 rfl ?_
  refine g_getR (pc := 1) F clX10 (sh_99 hV) 9 _ rfl (by decide) uX10_13 dX10_steps_1 ?_
  refine g_iconst (pc := 4) F dX10_steps_4 ic_1 ?_
  obtain ⟨hb_5, h⟩ := h
  refine g_iald (pc := 5) F (sh_101 hV) hb_5 dX10_steps_5 ?_
  refine g_iconst (pc := 6) F dX10_steps_6 ic_1 ?_
  refine g_isub (pc := 7) F dX10_steps_7 ?_
  refine g_istore_n (pc := 8) (lv' := [(_, _), (_, _)]) F dX10_steps_8 rfl (by decide) rfl ?_
  obtain ⟨k_9, h⟩ := h
  refine g_weak [1, 0] rfl (bX10_steps_9 F hR hV (fun x1_36 s_k36 h => ?_) k_9 _ _ h)
  · refine g_iload_n (pc := 36) F dX10_steps_36 rfl 1 rfl ?_
    refine g_if_lt (pc := 37) F 50 dX10_steps_37 (by decide) (fun c => ?_) (fun c => ?_)
    · have h := h.1 c
      exact g_weak [1] rfl (bX10_steps_50 F hR hV h)
    · have h := h.2 c
      refine g_aload_n (pc := 40) F dX10_steps_40 rfl 0 rfl ?_
      refine g_getR (pc := 41) F clX10 (sh_99 hV) 29 _ rfl (by decide) uX10_65 dX10_steps_41 ?_
      refine g_iload_n (pc := 44) F dX10_steps_44 rfl 1 rfl ?_
      refine g_dup2 (pc := 45) F dX10_steps_45 rfl rfl ?_
      obtain ⟨hb_46, h⟩ := h
      refine g_iald (pc := 46) F (sh_118 hV) hb_46 dX10_steps_46 ?_
      refine g_iconst (pc := 47) F dX10_steps_47 ic_1 ?_
      refine g_iadd (pc := 48) F dX10_steps_48 ?_
      obtain ⟨hb_49, h⟩ := h
      have h := h _ rfl
      refine g_iast (pc := 49) F (sh_118 hV) hb_49 dX10_steps_49 ?_
      exact g_weak [1] rfl (bX10_steps_50 F hR hV h)
def wX10_scans_2 (x1 : Int32) (K22 : St → Prop) (Q : St → Prop) : Nat → Int32 → St → Prop
  | 0, _, _ => False
  | n + 1, x2, s =>
  (((16 : Int32) ≤ x2 → K22  s) ∧ (¬ (16 : Int32) ≤ x2 → vp_in x2 16 ∧ ∀ s_15 : St, s_15 = stI s 119 x2.toNatClampNeg (1000000 : Int32) → wX10_scans_2 x1 K22 Q n (x2 + (1 : Int32)) s_15))
set_option maxHeartbeats 4000000 in
set_option maxRecDepth 100000 in
theorem bX10_scans_2 {l : Launch} {V : Wv} {X : Mx} {x1 : Int32} {K22 : St → Prop} {Q : St → Prop} (F : Fx V X cX10_scans RX10 3 3) (hR : RtV l V X 3 cX10_scans Q) (hV : V.2.1 = DESC) (hK22 : ∀  (s : St), K22  s → G l V X 3 22 [(0, rf V 99), (1, .int x1)] [] s) : ∀ (n : Nat) (x2 : Int32) (s : St), wX10_scans_2 x1 K22 Q n x2 s → G l V X 3 2 [(0, rf V 99), (1, .int x1), (2, .int x2)] [] s := by
  intro n
  induction n with
  | zero => intro x2 s h; unfold wX10_scans_2 at h; exact h.elim
  | succ n ih =>
    intro x2 s h
    unfold wX10_scans_2 at h
    refine g_iload_n (pc := 2) F dX10_scans_2 rfl 2 rfl ?_
    refine g_bipush (pc := 3) F dX10_scans_3 bp_16 ?_
    refine g_icmp_ge (pc := 5) F 22 dX10_scans_5 (by decide) (fun c => ?_) (fun c => ?_)
    · have h := h.1 c
      exact g_weak [0, 1] rfl (hK22 _ h)
    · have h := h.2 c
      refine g_aload_n (pc := 8) F dX10_scans_8 rfl 0 rfl ?_
      refine g_getR (pc := 9) F clX10 (sh_99 hV) 30 _ rfl (by decide) uX10_68 dX10_scans_9 ?_
      refine g_iload_n (pc := 12) F dX10_scans_12 rfl 2 rfl ?_
      refine g_ldc (pc := 13) F dX10_scans_13 uX10_167 ?_
      obtain ⟨hb_15, h⟩ := h
      have h := h _ rfl
      refine g_iast (pc := 15) F (sh_119 hV) hb_15 dX10_scans_15 ?_
      refine g_iinc (pc := 16) (lv' := [(_, _), (_, _), (_, _)]) F dX10_scans_16 2 rfl (congrArg _ ic_1) (by decide) rfl ?_
      refine g_goto (pc := 19) F 2 dX10_scans_19 (by decide) ?_
      exact g_weak [1, 2, 0] rfl (ih _ _ h)
def wX10_scans_24 (x1 : Int32) (K44 : St → Prop) (Q : St → Prop) : Nat → Int32 → St → Prop
  | 0, _, _ => False
  | n + 1, x2, s =>
  (((64 : Int32) ≤ x2 → K44  s) ∧ (¬ (64 : Int32) ≤ x2 → vp_in x2 64 ∧ ∀ s_37 : St, s_37 = stI s 121 x2.toNatClampNeg (1000000 : Int32) → wX10_scans_24 x1 K44 Q n (x2 + (1 : Int32)) s_37))
set_option maxHeartbeats 4000000 in
set_option maxRecDepth 100000 in
theorem bX10_scans_24 {l : Launch} {V : Wv} {X : Mx} {x1 : Int32} {K44 : St → Prop} {Q : St → Prop} (F : Fx V X cX10_scans RX10 3 3) (hR : RtV l V X 3 cX10_scans Q) (hV : V.2.1 = DESC) (hK44 : ∀  (s : St), K44  s → G l V X 3 44 [(0, rf V 99), (1, .int x1)] [] s) : ∀ (n : Nat) (x2 : Int32) (s : St), wX10_scans_24 x1 K44 Q n x2 s → G l V X 3 24 [(0, rf V 99), (1, .int x1), (2, .int x2)] [] s := by
  intro n
  induction n with
  | zero => intro x2 s h; unfold wX10_scans_24 at h; exact h.elim
  | succ n ih =>
    intro x2 s h
    unfold wX10_scans_24 at h
    refine g_iload_n (pc := 24) F dX10_scans_24 rfl 2 rfl ?_
    refine g_bipush (pc := 25) F dX10_scans_25 bp_64 ?_
    refine g_icmp_ge (pc := 27) F 44 dX10_scans_27 (by decide) (fun c => ?_) (fun c => ?_)
    · have h := h.1 c
      exact g_weak [0, 1] rfl (hK44 _ h)
    · have h := h.2 c
      refine g_aload_n (pc := 30) F dX10_scans_30 rfl 0 rfl ?_
      refine g_getR (pc := 31) F clX10 (sh_99 hV) 32 _ rfl (by decide) uX10_74 dX10_scans_31 ?_
      refine g_iload_n (pc := 34) F dX10_scans_34 rfl 2 rfl ?_
      refine g_ldc (pc := 35) F dX10_scans_35 uX10_167 ?_
      obtain ⟨hb_37, h⟩ := h
      have h := h _ rfl
      refine g_iast (pc := 37) F (sh_121 hV) hb_37 dX10_scans_37 ?_
      refine g_iinc (pc := 38) (lv' := [(_, _), (_, _), (_, _)]) F dX10_scans_38 2 rfl (congrArg _ ic_1) (by decide) rfl ?_
      refine g_goto (pc := 41) F 24 dX10_scans_41 (by decide) ?_
      exact g_weak [1, 2, 0] rfl (ih _ _ h)
def wX10_scans_46 (x1 : Int32) (K65 : St → Prop) (Q : St → Prop) : Nat → Int32 → St → Prop
  | 0, _, _ => False
  | n + 1, x2, s =>
  (((6 : Int32) ≤ x2 → K65  s) ∧ (¬ (6 : Int32) ≤ x2 → vp_in x2 6 ∧ ∀ s_58 : St, s_58 = stI s 118 x2.toNatClampNeg (1 : Int32) → wX10_scans_46 x1 K65 Q n (x2 + (1 : Int32)) s_58))
set_option maxHeartbeats 4000000 in
set_option maxRecDepth 100000 in
theorem bX10_scans_46 {l : Launch} {V : Wv} {X : Mx} {x1 : Int32} {K65 : St → Prop} {Q : St → Prop} (F : Fx V X cX10_scans RX10 3 3) (hR : RtV l V X 3 cX10_scans Q) (hV : V.2.1 = DESC) (hK65 : ∀  (s : St), K65  s → G l V X 3 65 [(0, rf V 99), (1, .int x1)] [] s) : ∀ (n : Nat) (x2 : Int32) (s : St), wX10_scans_46 x1 K65 Q n x2 s → G l V X 3 46 [(0, rf V 99), (1, .int x1), (2, .int x2)] [] s := by
  intro n
  induction n with
  | zero => intro x2 s h; unfold wX10_scans_46 at h; exact h.elim
  | succ n ih =>
    intro x2 s h
    unfold wX10_scans_46 at h
    refine g_iload_n (pc := 46) F dX10_scans_46 rfl 2 rfl ?_
    refine g_bipush (pc := 47) F dX10_scans_47 bp_6 ?_
    refine g_icmp_ge (pc := 49) F 65 dX10_scans_49 (by decide) (fun c => ?_) (fun c => ?_)
    · have h := h.1 c
      exact g_weak [0, 1] rfl (hK65 _ h)
    · have h := h.2 c
      refine g_aload_n (pc := 52) F dX10_scans_52 rfl 0 rfl ?_
      refine g_getR (pc := 53) F clX10 (sh_99 hV) 29 _ rfl (by decide) uX10_65 dX10_scans_53 ?_
      refine g_iload_n (pc := 56) F dX10_scans_56 rfl 2 rfl ?_
      refine g_iconst (pc := 57) F dX10_scans_57 ic_1 ?_
      obtain ⟨hb_58, h⟩ := h
      have h := h _ rfl
      refine g_iast (pc := 58) F (sh_118 hV) hb_58 dX10_scans_58 ?_
      refine g_iinc (pc := 59) (lv' := [(_, _), (_, _), (_, _)]) F dX10_scans_59 2 rfl (congrArg _ ic_1) (by decide) rfl ?_
      refine g_goto (pc := 62) F 46 dX10_scans_62 (by decide) ?_
      exact g_weak [1, 2, 0] rfl (ih _ _ h)
def wX10_scans_67 (x1 : Int32) (K95 : St → Prop) (Q : St → Prop) : Nat → Int32 → St → Prop
  | 0, _, _ => False
  | n + 1, x2, s =>
  vp_in (6 : Int32) 38 ∧ (((s.1 106 (6 : Int32).toNatClampNeg) ≤ x2 → K95  s) ∧ (¬ (s.1 106 (6 : Int32).toNatClampNeg) ≤ x2 → wX10_mapLanes x2 s (fun r_85 s_85 => vp_in x2 4 ∧ ∀ s_88 : St, s_88 = stI s_85 116 x2.toNatClampNeg r_85 → wX10_scans_67 x1 K95 Q n (x2 + (1 : Int32)) s_88)))
set_option maxHeartbeats 4000000 in
set_option maxRecDepth 100000 in
theorem bX10_scans_67 {l : Launch} {V : Wv} {X : Mx} {x1 : Int32} {K95 : St → Prop} {Q : St → Prop} (F : Fx V X cX10_scans RX10 3 3) (hR : RtV l V X 3 cX10_scans Q) (hV : V.2.1 = DESC) (hK95 : ∀  (s : St), K95  s → G l V X 3 95 [(0, rf V 99), (1, .int x1)] [] s) : ∀ (n : Nat) (x2 : Int32) (s : St), wX10_scans_67 x1 K95 Q n x2 s → G l V X 3 67 [(0, rf V 99), (1, .int x1), (2, .int x2)] [] s := by
  intro n
  induction n with
  | zero => intro x2 s h; unfold wX10_scans_67 at h; exact h.elim
  | succ n ih =>
    intro x2 s h
    unfold wX10_scans_67 at h
    refine g_iload_n (pc := 67) F dX10_scans_67 rfl 2 rfl ?_
    refine g_aload_n (pc := 68) F dX10_scans_68 rfl 0 rfl ?_
    refine g_getR (pc := 69) F clX10 (sh_99 hV) 14 _ rfl (by decide) uX10_28 dX10_scans_69 ?_
    refine g_bipush (pc := 72) F dX10_scans_72 bp_6 ?_
    obtain ⟨hb_74, h⟩ := h
    refine g_iald (pc := 74) F (sh_106 hV) hb_74 dX10_scans_74 ?_
    refine g_icmp_ge (pc := 75) F 95 dX10_scans_75 (by decide) (fun c => ?_) (fun c => ?_)
    · have h := h.1 c
      exact g_weak [0, 1] rfl (hK95 _ h)
    · have h := h.2 c
      refine g_aload_n (pc := 78) F dX10_scans_78 rfl 0 rfl ?_
      refine g_getR (pc := 79) F clX10 (sh_99 hV) 27 _ rfl (by decide) uX10_59 dX10_scans_79 ?_
      refine g_iload_n (pc := 82) F dX10_scans_82 rfl 2 rfl ?_
      refine g_aload_n (pc := 83) F dX10_scans_83 rfl 0 rfl ?_
      refine g_iload_n (pc := 84) F dX10_scans_84 rfl 2 rfl ?_
      refine g_callVi (pc := 85) F (mX10_mapLanes hV h) mvX10_mapLanes uX10_168 (by decide) clX10 (sh_99 hV) rfl rfl (Nat.le_of_ble_eq_true rfl) dX10_scans_85 (fun r_85 s_85 h => ?_)
      obtain ⟨hb_88, h⟩ := h
      have h := h _ rfl
      refine g_iast (pc := 88) F (sh_116 hV) hb_88 dX10_scans_88 ?_
      refine g_iinc (pc := 89) (lv' := [(_, _), (_, _), (_, _)]) F dX10_scans_89 2 rfl (congrArg _ ic_1) (by decide) rfl ?_
      refine g_goto (pc := 92) F 67 dX10_scans_92 (by decide) ?_
      exact g_weak [1, 2, 0] rfl (ih _ _ h)
def wX10_scans_125 (rec : Int32 → St → Prop) (Q : St → Prop) (x1 : Int32) (s : St) : Prop :=
  wX10_steps  s (fun r_126 s_126 => rec r_126 s_126)
set_option maxHeartbeats 4000000 in
set_option maxRecDepth 100000 in
theorem bX10_scans_125 {l : Launch} {V : Wv} {X : Mx} {rec : Int32 → St → Prop} {Q : St → Prop} {x1 : Int32} (F : Fx V X cX10_scans RX10 3 3) (hR : RtV l V X 3 cX10_scans Q) (hV : V.2.1 = DESC) (hrec : ∀ (y2 : Int32) (s : St), rec y2 s → G l V X 3 97 [(0, rf V 99), (1, .int x1), (2, .int y2)] [] s) {s : St} (h : wX10_scans_125 rec Q x1 s) : G l V X 3 125 [(0, rf V 99), (1, .int x1)] [] s := by
  unfold wX10_scans_125 at h
  refine g_aload_n (pc := 125) F dX10_scans_125 rfl 0 rfl ?_
  refine g_callVi (pc := 126) F (mX10_steps hV h) mvX10_steps uX10_220 (by decide) clX10 (sh_99 hV) rfl rfl (Nat.le_of_ble_eq_true rfl) dX10_scans_126 (fun r_126 s_126 h => ?_)
  refine g_istore_n (pc := 129) (lv' := [(_, _), (_, _), (_, _)]) F dX10_scans_129 rfl (by decide) rfl ?_
  refine g_goto (pc := 130) F 97 dX10_scans_130 (by decide) ?_
  exact g_weak [1, 2, 0] rfl (hrec _ _ h)
def wX10_scans_121 (rec : Int32 → St → Prop) (Q : St → Prop) (x1 : Int32) (s : St) : Prop :=
  wX10_scansOne  s (fun s_122 => wX10_scans_125 (rec) Q x1 s_122)
set_option maxHeartbeats 4000000 in
set_option maxRecDepth 100000 in
theorem bX10_scans_121 {l : Launch} {V : Wv} {X : Mx} {rec : Int32 → St → Prop} {Q : St → Prop} {x1 : Int32} (F : Fx V X cX10_scans RX10 3 3) (hR : RtV l V X 3 cX10_scans Q) (hV : V.2.1 = DESC) (hrec : ∀ (y2 : Int32) (s : St), rec y2 s → G l V X 3 97 [(0, rf V 99), (1, .int x1), (2, .int y2)] [] s) {s : St} (h : wX10_scans_121 rec Q x1 s) : G l V X 3 121 [(0, rf V 99), (1, .int x1)] [] s := by
  unfold wX10_scans_121 at h
  refine g_aload_n (pc := 121) F dX10_scans_121 rfl 0 rfl ?_
  refine g_callVv (pc := 122) F (mX10_scansOne hV h) mvX10_scansOne uX10_217 (by decide) clX10 (sh_99 hV) rfl rfl (Nat.le_of_ble_eq_true rfl) dX10_scans_122 (fun s_122 h => ?_)
  exact g_weak [0, 1] rfl (bX10_scans_125 F hR hV hrec h)
def wX10_scans_97 (x1 : Int32) (Q : St → Prop) : Nat → Int32 → St → Prop
  | 0, _, _ => False
  | n + 1, x2, s =>
  ((x2 = 0 → Q s) ∧ (¬ x2 = 0 → wX10_measures 118 6 s (fun s_106 => ((x1 = 0 → wX10_scans_121 (wX10_scans_97 x1 Q n) Q x1 s_106) ∧ (¬ x1 = 0 → wX10_holds x1 s_106 (fun r_115 s_115 => ((r_115 = 0 → wX10_scans_125 (wX10_scans_97 x1 Q n) Q x1 s_115) ∧ (¬ r_115 = 0 → wX10_scans_121 (wX10_scans_97 x1 Q n) Q x1 s_115))))))))
set_option maxHeartbeats 4000000 in
set_option maxRecDepth 100000 in
theorem bX10_scans_97 {l : Launch} {V : Wv} {X : Mx} {x1 : Int32} {Q : St → Prop} (F : Fx V X cX10_scans RX10 3 3) (hR : RtV l V X 3 cX10_scans Q) (hV : V.2.1 = DESC)  : ∀ (n : Nat) (x2 : Int32) (s : St), wX10_scans_97 x1 Q n x2 s → G l V X 3 97 [(0, rf V 99), (1, .int x1), (2, .int x2)] [] s := by
  intro n
  induction n with
  | zero => intro x2 s h; unfold wX10_scans_97 at h; exact h.elim
  | succ n ih =>
    intro x2 s h
    unfold wX10_scans_97 at h
    refine g_iload_n (pc := 97) F dX10_scans_97 rfl 2 rfl ?_
    refine g_if_eq (pc := 98) F 133 dX10_scans_98 (by decide) (fun c => ?_) (fun c => ?_)
    · have h := h.1 c
      exact hR _ _ _ dX10_scans_133 h
    · have h := h.2 c
      refine g_aload_n (pc := 101) F dX10_scans_101 rfl 0 rfl ?_
      refine g_aload_n (pc := 102) F dX10_scans_102 rfl 0 rfl ?_
      refine g_getR (pc := 103) F clX10 (sh_99 hV) 29 _ rfl (by decide) uX10_65 dX10_scans_103 ?_
      refine g_callVv (pc := 106) F (mX10_measures hV (sh_118 hV) h) mvX10_measures uX10_181 (by decide) clX10 (sh_99 hV) rfl rfl (Nat.le_of_ble_eq_true rfl) dX10_scans_106 (fun s_106 h => ?_)
      refine g_iload_n (pc := 109) F dX10_scans_109 rfl 1 rfl ?_
      refine g_if_eq (pc := 110) F 121 dX10_scans_110 (by decide) (fun c => ?_) (fun c => ?_)
      · have h := h.1 c
        exact g_weak [0, 1] rfl (bX10_scans_121 F hR hV ih h)
      · have h := h.2 c
        refine g_aload_n (pc := 113) F dX10_scans_113 rfl 0 rfl ?_
        refine g_iload_n (pc := 114) F dX10_scans_114 rfl 1 rfl ?_
        refine g_callVi (pc := 115) F (mX10_holds hV h) mvX10_holds uX10_185 (by decide) clX10 (sh_99 hV) rfl rfl (Nat.le_of_ble_eq_true rfl) dX10_scans_115 (fun r_115 s_115 h => ?_)
        refine g_if_eq (pc := 118) F 125 dX10_scans_118 (by decide) (fun c => ?_) (fun c => ?_)
        · have h := h.1 c
          exact g_weak [0, 1] rfl (bX10_scans_125 F hR hV ih h)
        · have h := h.2 c
          exact g_weak [0, 1] rfl (bX10_scans_121 F hR hV ih h)
def wX10_scans (x1 : Int32) (s : St) (Q : St → Prop) : Prop :=
  (∃ k_2, wX10_scans_2  x1 (fun  s_k22 => (∃ k_24, wX10_scans_24  x1 (fun  s_k44 => (∃ k_46, wX10_scans_46  x1 (fun  s_k65 => (∃ k_67, wX10_scans_67  x1 (fun  s_k95 => (∃ k_97, wX10_scans_97  x1  Q k_97 (1 : Int32) s_k95)) Q k_67 (0 : Int32) s_k65)) Q k_46 (0 : Int32) s_k44)) Q k_24 (0 : Int32) s_k22)) Q k_2 (0 : Int32) s)
set_option maxHeartbeats 4000000 in
set_option maxRecDepth 100000 in
theorem mX10_scans {l : Launch} {V : Wv} {x1 : Int32} {s : St} {Q : St → Prop} (hV : V.2.1 = DESC) (h : wX10_scans x1 s Q) : Cv yX10_scans cX10_scans 3 (3) l V [rf V 99, .int x1] s Q := by
  unfold wX10_scans at h
  refine Cv.of mvX10_scans.1 (Nat.le_of_ble_eq_true rfl) (fun X F hR => ?_)
  refine g_lv (lv' := [(_, _), (_, _)]) rfl ?_
  refine g_iconst (pc := 0) F dX10_scans_0 ic_0 ?_
  refine g_istore_n (pc := 1) (lv' := [(_, _), (_, _), (_, _)]) F dX10_scans_1 rfl (by decide) rfl ?_
  obtain ⟨k_2, h⟩ := h
  refine g_weak [1, 2, 0] rfl (bX10_scans_2 F hR hV (fun  s_k22 h => ?_) k_2 _ _ h)
  · refine g_iconst (pc := 22) F dX10_scans_22 ic_0 ?_
    refine g_istore_n (pc := 23) (lv' := [(_, _), (_, _), (_, _)]) F dX10_scans_23 rfl (by decide) rfl ?_
    obtain ⟨k_24, h⟩ := h
    refine g_weak [1, 2, 0] rfl (bX10_scans_24 F hR hV (fun  s_k44 h => ?_) k_24 _ _ h)
    · refine g_iconst (pc := 44) F dX10_scans_44 ic_0 ?_
      refine g_istore_n (pc := 45) (lv' := [(_, _), (_, _), (_, _)]) F dX10_scans_45 rfl (by decide) rfl ?_
      obtain ⟨k_46, h⟩ := h
      refine g_weak [1, 2, 0] rfl (bX10_scans_46 F hR hV (fun  s_k65 h => ?_) k_46 _ _ h)
      · refine g_iconst (pc := 65) F dX10_scans_65 ic_0 ?_
        refine g_istore_n (pc := 66) (lv' := [(_, _), (_, _), (_, _)]) F dX10_scans_66 rfl (by decide) rfl ?_
        obtain ⟨k_67, h⟩ := h
        refine g_weak [1, 2, 0] rfl (bX10_scans_67 F hR hV (fun  s_k95 h => ?_) k_67 _ _ h)
        · refine g_iconst (pc := 95) F dX10_scans_95 ic_1 ?_
          refine g_istore_n (pc := 96) (lv' := [(_, _), (_, _), (_, _)]) F dX10_scans_96 rfl (by decide) rfl ?_
          obtain ⟨k_97, h⟩ := h
          refine g_weak [1, 2, 0] rfl (bX10_scans_97 F hR hV k_97 _ _ h)
def wX10_costOf_39 (rec : Int32 → Int32 → St → Prop) (Q : Int32 → St → Prop) (x1 : Int32) (x3 : Int32) (t0 : Int32) (s : St) : Prop :=
  rec t0 (x3 + (1 : Int32)) s
set_option maxHeartbeats 4000000 in
set_option maxRecDepth 100000 in
theorem bX10_costOf_39 {l : Launch} {V : Wv} {X : Mx} {rec : Int32 → Int32 → St → Prop} {Q : Int32 → St → Prop} {x1 : Int32} {x3 : Int32} {t0 : Int32} (F : Fx V X cX10_costOf RX10 4 0) (hR : RtI l V X 4 cX10_costOf Q) (hV : V.2.1 = DESC) (hrec : ∀ (y2 : Int32) (y3 : Int32) (s : St), rec y2 y3 s → G l V X 4 5 [(0, rf V 99), (1, .int x1), (2, .int y2), (3, .int y3)] [] s) {s : St} (h : wX10_costOf_39 rec Q x1 x3 t0 s) : G l V X 4 39 [(0, rf V 99), (1, .int x1), (3, .int x3)] [.int t0] s := by
  unfold wX10_costOf_39 at h
  refine g_istore_n (pc := 39) (lv' := [(_, _), (_, _), (_, _), (_, _)]) F dX10_costOf_39 rfl (by decide) rfl ?_
  refine g_iinc (pc := 40) (lv' := [(_, _), (_, _), (_, _), (_, _)]) F dX10_costOf_40 3 rfl (congrArg _ ic_1) (by decide) rfl ?_
  refine g_goto (pc := 43) F 5 dX10_costOf_43 (by decide) ?_
  exact g_weak [2, 3, 1, 0] rfl (hrec _ _ _ h)
def wX10_costOf_38 (rec : Int32 → Int32 → St → Prop) (Q : Int32 → St → Prop) (x1 : Int32) (x2 : Int32) (x3 : Int32) (s : St) : Prop :=
  wX10_costOf_39 (rec) Q x1 x3 x2 s
set_option maxHeartbeats 4000000 in
set_option maxRecDepth 100000 in
theorem bX10_costOf_38 {l : Launch} {V : Wv} {X : Mx} {rec : Int32 → Int32 → St → Prop} {Q : Int32 → St → Prop} {x1 : Int32} {x2 : Int32} {x3 : Int32} (F : Fx V X cX10_costOf RX10 4 0) (hR : RtI l V X 4 cX10_costOf Q) (hV : V.2.1 = DESC) (hrec : ∀ (y2 : Int32) (y3 : Int32) (s : St), rec y2 y3 s → G l V X 4 5 [(0, rf V 99), (1, .int x1), (2, .int y2), (3, .int y3)] [] s) {s : St} (h : wX10_costOf_38 rec Q x1 x2 x3 s) : G l V X 4 38 [(0, rf V 99), (1, .int x1), (2, .int x2), (3, .int x3)] [] s := by
  unfold wX10_costOf_38 at h
  refine g_iload_n (pc := 38) F dX10_costOf_38 rfl 2 rfl ?_
  exact g_weak [0, 1, 3] rfl (bX10_costOf_39 F hR hV hrec h)
def wX10_costOf_5 (x1 : Int32) (Q : Int32 → St → Prop) : Nat → Int32 → Int32 → St → Prop
  | 0, _, _, _ => False
  | n + 1, x2, x3, s =>
  (((16 : Int32) ≤ x3 → Q x2 s) ∧ (¬ (16 : Int32) ≤ x3 → ((¬ (x1 &&& (x3 ^^^ (-1 : Int32))) = 0 → wX10_costOf_38 (wX10_costOf_5 x1 Q n) Q x1 x2 x3 s) ∧ ((x1 &&& (x3 ^^^ (-1 : Int32))) = 0 → vp_in x3 16 ∧ ((x2 ≤ (s.1 119 x3.toNatClampNeg) → wX10_costOf_38 (wX10_costOf_5 x1 Q n) Q x1 x2 x3 s) ∧ (¬ x2 ≤ (s.1 119 x3.toNatClampNeg) → vp_in x3 16 ∧ wX10_costOf_39 (wX10_costOf_5 x1 Q n) Q x1 x3 (s.1 119 x3.toNatClampNeg) s))))))
set_option maxHeartbeats 4000000 in
set_option maxRecDepth 100000 in
theorem bX10_costOf_5 {l : Launch} {V : Wv} {X : Mx} {x1 : Int32} {Q : Int32 → St → Prop} (F : Fx V X cX10_costOf RX10 4 0) (hR : RtI l V X 4 cX10_costOf Q) (hV : V.2.1 = DESC)  : ∀ (n : Nat) (x2 : Int32) (x3 : Int32) (s : St), wX10_costOf_5 x1 Q n x2 x3 s → G l V X 4 5 [(0, rf V 99), (1, .int x1), (2, .int x2), (3, .int x3)] [] s := by
  intro n
  induction n with
  | zero => intro x2 x3 s h; unfold wX10_costOf_5 at h; exact h.elim
  | succ n ih =>
    intro x2 x3 s h
    unfold wX10_costOf_5 at h
    refine g_iload_n (pc := 5) F dX10_costOf_5 rfl 3 rfl ?_
    refine g_bipush (pc := 6) F dX10_costOf_6 bp_16 ?_
    refine g_icmp_ge (pc := 8) F 46 dX10_costOf_8 (by decide) (fun c => ?_) (fun c => ?_)
    · have h := h.1 c
      refine g_iload_n (pc := 46) F dX10_costOf_46 rfl 2 rfl ?_
      exact hR _ _ _ _ dX10_costOf_47 h
    · have h := h.2 c
      refine g_iload_n (pc := 11) F dX10_costOf_11 rfl 1 rfl ?_
      refine g_iload_n (pc := 12) F dX10_costOf_12 rfl 3 rfl ?_
      refine g_iconst (pc := 13) F dX10_costOf_13 ic_m1 ?_
      refine g_ixor (pc := 14) F dX10_costOf_14 ?_
      refine g_iand (pc := 15) F dX10_costOf_15 ?_
      refine g_if_ne (pc := 16) F 38 dX10_costOf_16 (by decide) (fun c => ?_) (fun c => ?_)
      · have h := h.1 c
        exact g_weak [0, 1, 2, 3] rfl (bX10_costOf_38 F hR hV ih h)
      · have h := h.2 c
        refine g_aload_n (pc := 19) F dX10_costOf_19 rfl 0 rfl ?_
        refine g_getR (pc := 20) F clX10 (sh_99 hV) 30 _ rfl (by decide) uX10_68 dX10_costOf_20 ?_
        refine g_iload_n (pc := 23) F dX10_costOf_23 rfl 3 rfl ?_
        obtain ⟨hb_24, h⟩ := h
        refine g_iald (pc := 24) F (sh_119 hV) hb_24 dX10_costOf_24 ?_
        refine g_iload_n (pc := 25) F dX10_costOf_25 rfl 2 rfl ?_
        refine g_icmp_ge (pc := 26) F 38 dX10_costOf_26 (by decide) (fun c => ?_) (fun c => ?_)
        · have h := h.1 c
          exact g_weak [0, 1, 2, 3] rfl (bX10_costOf_38 F hR hV ih h)
        · have h := h.2 c
          refine g_aload_n (pc := 29) F dX10_costOf_29 rfl 0 rfl ?_
          refine g_getR (pc := 30) F clX10 (sh_99 hV) 30 _ rfl (by decide) uX10_68 dX10_costOf_30 ?_
          refine g_iload_n (pc := 33) F dX10_costOf_33 rfl 3 rfl ?_
          obtain ⟨hb_34, h⟩ := h
          refine g_iald (pc := 34) F (sh_119 hV) hb_34 dX10_costOf_34 ?_
          refine g_goto (pc := 35) F 39 dX10_costOf_35 (by decide) ?_
          exact g_weak [0, 1, 3] rfl (bX10_costOf_39 F hR hV ih h)
def wX10_costOf (x1 : Int32) (s : St) (Q : Int32 → St → Prop) : Prop :=
  (∃ k_5, wX10_costOf_5  x1  Q k_5 (1000000 : Int32) (0 : Int32) s)
set_option maxHeartbeats 4000000 in
set_option maxRecDepth 100000 in
theorem mX10_costOf {l : Launch} {V : Wv} {x1 : Int32} {s : St} {Q : Int32 → St → Prop} (hV : V.2.1 = DESC) (h : wX10_costOf x1 s Q) : Ci yX10_costOf cX10_costOf 4 (some .int) (0) l V [rf V 99, .int x1] s Q := by
  unfold wX10_costOf at h
  refine Ci.of mvX10_costOf.1 (Nat.le_of_ble_eq_true rfl) (fun X F hR => ?_)
  refine g_lv (lv' := [(_, _), (_, _)]) rfl ?_
  refine g_ldc (pc := 0) F dX10_costOf_0 uX10_167 ?_
  refine g_istore_n (pc := 2) (lv' := [(_, _), (_, _), (_, _)]) F dX10_costOf_2 rfl (by decide) rfl ?_
  refine g_iconst (pc := 3) F dX10_costOf_3 ic_0 ?_
  refine g_istore_n (pc := 4) (lv' := [(_, _), (_, _), (_, _), (_, _)]) F dX10_costOf_4 rfl (by decide) rfl ?_
  obtain ⟨k_5, h⟩ := h
  refine g_weak [2, 3, 1, 0] rfl (bX10_costOf_5 F hR hV k_5 _ _ _ h)
def wX10_asks_102 (rec : Int32 → St → Prop) (K109 : St → Prop) (Q : Int32 → St → Prop) (x1 : Int32) (x2 : Int32) (t0 : Int32) (t1 : Int32) (s : St) : Prop :=
  vp_in t1 38 ∧ ∀ s_102 : St, s_102 = stI s 106 t1.toNatClampNeg t0 → rec (x2 + (1 : Int32)) s_102
set_option maxHeartbeats 4000000 in
set_option maxRecDepth 100000 in
theorem bX10_asks_102 {l : Launch} {V : Wv} {X : Mx} {rec : Int32 → St → Prop} {K109 : St → Prop} {Q : Int32 → St → Prop} {x1 : Int32} {x2 : Int32} {t0 : Int32} {t1 : Int32} (F : Fx V X cX10_asks RX10 4 4) (hR : RtI l V X 4 cX10_asks Q) (hV : V.2.1 = DESC) (hrec : ∀ (y2 : Int32) (s : St), rec y2 s → G l V X 4 62 [(0, rf V 99), (1, .int x1), (2, .int y2)] [] s) (hK109 : ∀  (s : St), K109  s → G l V X 4 109 [(0, rf V 99), (1, .int x1)] [] s) {s : St} (h : wX10_asks_102 rec K109 Q x1 x2 t0 t1 s) : G l V X 4 102 [(0, rf V 99), (1, .int x1), (2, .int x2)] [.int t0, .int t1, rf V 106] s := by
  unfold wX10_asks_102 at h
  obtain ⟨hb_102, h⟩ := h
  have h := h _ rfl
  refine g_iast (pc := 102) F (sh_106 hV) hb_102 dX10_asks_102 ?_
  refine g_iinc (pc := 103) (lv' := [(_, _), (_, _), (_, _)]) F dX10_asks_103 2 rfl (congrArg _ ic_1) (by decide) rfl ?_
  refine g_goto (pc := 106) F 62 dX10_asks_106 (by decide) ?_
  exact g_weak [1, 2, 0] rfl (hrec _ _ h)
def wX10_asks_62 (x1 : Int32) (K109 : St → Prop) (Q : Int32 → St → Prop) : Nat → Int32 → St → Prop
  | 0, _, _ => False
  | n + 1, x2, s =>
  (((6 : Int32) ≤ x2 → K109  s) ∧ (¬ (6 : Int32) ≤ x2 → vp_in (1 : Int32) 4 ∧ (((s.1 101 (1 : Int32).toNatClampNeg) ≤ x2 → vp_in ((0 : Int32) + x2) 38 ∧ wX10_asks_102 (wX10_asks_62 x1 K109 Q n) (K109) Q x1 x2 (s.1 106 ((0 : Int32) + x2).toNatClampNeg) ((0 : Int32) + x2) s) ∧ (¬ (s.1 101 (1 : Int32).toNatClampNeg) ≤ x2 → vp_in x2 6 ∧ wX10_asks_102 (wX10_asks_62 x1 K109 Q n) (K109) Q x1 x2 (s.1 120 x2.toNatClampNeg) ((0 : Int32) + x2) s))))
set_option maxHeartbeats 4000000 in
set_option maxRecDepth 100000 in
theorem bX10_asks_62 {l : Launch} {V : Wv} {X : Mx} {x1 : Int32} {K109 : St → Prop} {Q : Int32 → St → Prop} (F : Fx V X cX10_asks RX10 4 4) (hR : RtI l V X 4 cX10_asks Q) (hV : V.2.1 = DESC) (hK109 : ∀  (s : St), K109  s → G l V X 4 109 [(0, rf V 99), (1, .int x1)] [] s) : ∀ (n : Nat) (x2 : Int32) (s : St), wX10_asks_62 x1 K109 Q n x2 s → G l V X 4 62 [(0, rf V 99), (1, .int x1), (2, .int x2)] [] s := by
  intro n
  induction n with
  | zero => intro x2 s h; unfold wX10_asks_62 at h; exact h.elim
  | succ n ih =>
    intro x2 s h
    unfold wX10_asks_62 at h
    refine g_iload_n (pc := 62) F dX10_asks_62 rfl 2 rfl ?_
    refine g_bipush (pc := 63) F dX10_asks_63 bp_6 ?_
    refine g_icmp_ge (pc := 65) F 109 dX10_asks_65 (by decide) (fun c => ?_) (fun c => ?_)
    · have h := h.1 c
      exact g_weak [0, 1] rfl (hK109 _ h)
    · have h := h.2 c
      refine g_aload_n (pc := 68) F dX10_asks_68 rfl 0 rfl ?_
      refine g_getR (pc := 69) F clX10 (sh_99 hV) 14 _ rfl (by decide) uX10_28 dX10_asks_69 ?_
      refine g_iconst (pc := 72) F dX10_asks_72 ic_0 ?_
      refine g_iload_n (pc := 73) F dX10_asks_73 rfl 2 rfl ?_
      refine g_iadd (pc := 74) F dX10_asks_74 ?_
      refine g_iload_n (pc := 75) F dX10_asks_75 rfl 2 rfl ?_
      refine g_aload_n (pc := 76) F dX10_asks_76 rfl 0 rfl ?_
      refine g_getR (pc := 77) F clX10 (sh_99 hV) 9 _ rfl (by decide) uX10_13 dX10_asks_77 ?_
      refine g_iconst (pc := 80) F dX10_asks_80 ic_1 ?_
      obtain ⟨hb_81, h⟩ := h
      refine g_iald (pc := 81) F (sh_101 hV) hb_81 dX10_asks_81 ?_
      refine g_icmp_ge (pc := 82) F 94 dX10_asks_82 (by decide) (fun c => ?_) (fun c => ?_)
      · have h := h.1 c
        refine g_aload_n (pc := 94) F dX10_asks_94 rfl 0 rfl ?_
        refine g_getR (pc := 95) F clX10 (sh_99 hV) 14 _ rfl (by decide) uX10_28 dX10_asks_95 ?_
        refine g_iconst (pc := 98) F dX10_asks_98 ic_0 ?_
        refine g_iload_n (pc := 99) F dX10_asks_99 rfl 2 rfl ?_
        refine g_iadd (pc := 100) F dX10_asks_100 ?_
        obtain ⟨hb_101, h⟩ := h
        refine g_iald (pc := 101) F (sh_106 hV) hb_101 dX10_asks_101 ?_
        exact g_weak [0, 1, 2] rfl (bX10_asks_102 F hR hV ih hK109 h)
      · have h := h.2 c
        refine g_aload_n (pc := 85) F dX10_asks_85 rfl 0 rfl ?_
        refine g_getR (pc := 86) F clX10 (sh_99 hV) 31 _ rfl (by decide) uX10_71 dX10_asks_86 ?_
        refine g_iload_n (pc := 89) F dX10_asks_89 rfl 2 rfl ?_
        obtain ⟨hb_90, h⟩ := h
        refine g_iald (pc := 90) F (sh_120 hV) hb_90 dX10_asks_90 ?_
        refine g_goto (pc := 91) F 102 dX10_asks_91 (by decide) ?_
        exact g_weak [0, 1, 2] rfl (bX10_asks_102 F hR hV ih hK109 h)
def wX10_asks_165 (rec : Int32 → St → Prop) (K182 : St → Prop) (Q : Int32 → St → Prop) (x1 : Int32) (x2 : Int32) (x3 : Int32) (t0 : Int32) (t1 : Int32) (s : St) : Prop :=
  vp_in t1 38 ∧ ∀ s_165 : St, s_165 = stI s 106 t1.toNatClampNeg t0 → vp_in ((31 : Int32) + x3) 38 ∧ ∀ s_175 : St, s_175 = stI s_165 106 ((31 : Int32) + x3).toNatClampNeg (0 : Int32) → rec (x3 + (1 : Int32)) s_175
set_option maxHeartbeats 4000000 in
set_option maxRecDepth 100000 in
theorem bX10_asks_165 {l : Launch} {V : Wv} {X : Mx} {rec : Int32 → St → Prop} {K182 : St → Prop} {Q : Int32 → St → Prop} {x1 : Int32} {x2 : Int32} {x3 : Int32} {t0 : Int32} {t1 : Int32} (F : Fx V X cX10_asks RX10 4 4) (hR : RtI l V X 4 cX10_asks Q) (hV : V.2.1 = DESC) (hrec : ∀ (y3 : Int32) (s : St), rec y3 s → G l V X 4 124 [(0, rf V 99), (1, .int x1), (2, .int x2), (3, .int y3)] [] s) (hK182 : ∀  (s : St), K182  s → G l V X 4 182 [(0, rf V 99), (1, .int x1), (2, .int x2)] [] s) {s : St} (h : wX10_asks_165 rec K182 Q x1 x2 x3 t0 t1 s) : G l V X 4 165 [(0, rf V 99), (1, .int x1), (2, .int x2), (3, .int x3)] [.int t0, .int t1, rf V 106] s := by
  unfold wX10_asks_165 at h
  obtain ⟨hb_165, h⟩ := h
  have h := h _ rfl
  refine g_iast (pc := 165) F (sh_106 hV) hb_165 dX10_asks_165 ?_
  refine g_aload_n (pc := 166) F dX10_asks_166 rfl 0 rfl ?_
  refine g_getR (pc := 167) F clX10 (sh_99 hV) 14 _ rfl (by decide) uX10_28 dX10_asks_167 ?_
  refine g_bipush (pc := 170) F dX10_asks_170 bp_31 ?_
  refine g_iload_n (pc := 172) F dX10_asks_172 rfl 3 rfl ?_
  refine g_iadd (pc := 173) F dX10_asks_173 ?_
  refine g_iconst (pc := 174) F dX10_asks_174 ic_0 ?_
  obtain ⟨hb_175, h⟩ := h
  have h := h _ rfl
  refine g_iast (pc := 175) F (sh_106 hV) hb_175 dX10_asks_175 ?_
  refine g_iinc (pc := 176) (lv' := [(_, _), (_, _), (_, _), (_, _)]) F dX10_asks_176 3 rfl (congrArg _ ic_1) (by decide) rfl ?_
  refine g_goto (pc := 179) F 124 dX10_asks_179 (by decide) ?_
  exact g_weak [1, 2, 3, 0] rfl (hrec _ _ h)
def wX10_asks_124 (x1 : Int32) (x2 : Int32) (K182 : St → Prop) (Q : Int32 → St → Prop) : Nat → Int32 → St → Prop
  | 0, _, _ => False
  | n + 1, x3, s =>
  (((5 : Int32) ≤ x3 → K182  s) ∧ (¬ (5 : Int32) ≤ x3 → vp_in (36 : Int32) 38 ∧ (((s.1 106 (36 : Int32).toNatClampNeg) ≤ x3 → wX10_asks_165 (wX10_asks_124 x1 x2 K182 Q n) (K182) Q x1 x2 x3 (0 : Int32) (((11 : Int32) + ((5 : Int32) * x2)) + x3) s) ∧ (¬ (s.1 106 (36 : Int32).toNatClampNeg) ≤ x3 → vp_in ((31 : Int32) + x3) 38 ∧ wX10_asks_165 (wX10_asks_124 x1 x2 K182 Q n) (K182) Q x1 x2 x3 (s.1 106 ((31 : Int32) + x3).toNatClampNeg) (((11 : Int32) + ((5 : Int32) * x2)) + x3) s))))
set_option maxHeartbeats 4000000 in
set_option maxRecDepth 100000 in
theorem bX10_asks_124 {l : Launch} {V : Wv} {X : Mx} {x1 : Int32} {x2 : Int32} {K182 : St → Prop} {Q : Int32 → St → Prop} (F : Fx V X cX10_asks RX10 4 4) (hR : RtI l V X 4 cX10_asks Q) (hV : V.2.1 = DESC) (hK182 : ∀  (s : St), K182  s → G l V X 4 182 [(0, rf V 99), (1, .int x1), (2, .int x2)] [] s) : ∀ (n : Nat) (x3 : Int32) (s : St), wX10_asks_124 x1 x2 K182 Q n x3 s → G l V X 4 124 [(0, rf V 99), (1, .int x1), (2, .int x2), (3, .int x3)] [] s := by
  intro n
  induction n with
  | zero => intro x3 s h; unfold wX10_asks_124 at h; exact h.elim
  | succ n ih =>
    intro x3 s h
    unfold wX10_asks_124 at h
    refine g_iload_n (pc := 124) F dX10_asks_124 rfl 3 rfl ?_
    refine g_iconst (pc := 125) F dX10_asks_125 ic_5 ?_
    refine g_icmp_ge (pc := 126) F 182 dX10_asks_126 (by decide) (fun c => ?_) (fun c => ?_)
    · have h := h.1 c
      exact g_weak [0, 1, 2] rfl (hK182 _ h)
    · have h := h.2 c
      refine g_aload_n (pc := 129) F dX10_asks_129 rfl 0 rfl ?_
      refine g_getR (pc := 130) F clX10 (sh_99 hV) 14 _ rfl (by decide) uX10_28 dX10_asks_130 ?_
      refine g_bipush (pc := 133) F dX10_asks_133 bp_11 ?_
      refine g_iconst (pc := 135) F dX10_asks_135 ic_5 ?_
      refine g_iload_n (pc := 136) F dX10_asks_136 rfl 2 rfl ?_
      refine g_imul (pc := 137) F dX10_asks_137 ?_
      refine g_iadd (pc := 138) F dX10_asks_138 ?_
      refine g_iload_n (pc := 139) F dX10_asks_139 rfl 3 rfl ?_
      refine g_iadd (pc := 140) F dX10_asks_140 ?_
      refine g_iload_n (pc := 141) F dX10_asks_141 rfl 3 rfl ?_
      refine g_aload_n (pc := 142) F dX10_asks_142 rfl 0 rfl ?_
      refine g_getR (pc := 143) F clX10 (sh_99 hV) 14 _ rfl (by decide) uX10_28 dX10_asks_143 ?_
      refine g_bipush (pc := 146) F dX10_asks_146 bp_36 ?_
      obtain ⟨hb_148, h⟩ := h
      refine g_iald (pc := 148) F (sh_106 hV) hb_148 dX10_asks_148 ?_
      refine g_icmp_ge (pc := 149) F 164 dX10_asks_149 (by decide) (fun c => ?_) (fun c => ?_)
      · have h := h.1 c
        refine g_iconst (pc := 164) F dX10_asks_164 ic_0 ?_
        exact g_weak [0, 1, 2, 3] rfl (bX10_asks_165 F hR hV ih hK182 h)
      · have h := h.2 c
        refine g_aload_n (pc := 152) F dX10_asks_152 rfl 0 rfl ?_
        refine g_getR (pc := 153) F clX10 (sh_99 hV) 14 _ rfl (by decide) uX10_28 dX10_asks_153 ?_
        refine g_bipush (pc := 156) F dX10_asks_156 bp_31 ?_
        refine g_iload_n (pc := 158) F dX10_asks_158 rfl 3 rfl ?_
        refine g_iadd (pc := 159) F dX10_asks_159 ?_
        obtain ⟨hb_160, h⟩ := h
        refine g_iald (pc := 160) F (sh_106 hV) hb_160 dX10_asks_160 ?_
        refine g_goto (pc := 161) F 165 dX10_asks_161 (by decide) ?_
        exact g_weak [0, 1, 2, 3] rfl (bX10_asks_165 F hR hV ih hK182 h)
def wX10_asks  (s : St) (Q : Int32 → St → Prop) : Prop :=
  ∀ s_2 : St, s_2 = stI s 99 0 (0 : Int32) → vp_in (36 : Int32) 38 ∧ (((s_2.1 106 (36 : Int32).toNatClampNeg) < (2 : Int32) → Q (-2 : Int32) s_2) ∧ (¬ (s_2.1 106 (36 : Int32).toNatClampNeg) < (2 : Int32) → vp_in (6 : Int32) 38 ∧ ((¬ (s_2.1 106 (6 : Int32).toNatClampNeg) = (4 : Int32) → wX10_draftLanes  s_2 (fun r_32 s_32 => wX10_scans r_32 s_32 (fun s_35 => wX10_allMaps  s_35 (fun r_40 s_40 => wX10_costOf r_40 s_40 (fun r_43 s_43 => ((¬ r_43 = (1000000 : Int32) → wX10_notes  s_43 (fun s_57 => (∃ k_62, wX10_asks_62  r_43 (fun  s_k109 => wX10_digsFor r_43 s_k109 (fun s_111 => vp_in (6 : Int32) 38 ∧ (∃ k_124, wX10_asks_124  r_43 (s_111.1 106 (6 : Int32).toNatClampNeg) (fun  s_k182 => vp_in (36 : Int32) 38 ∧ vp_in ((7 : Int32) + (s_111.1 106 (6 : Int32).toNatClampNeg)) 38 ∧ ∀ s_197 : St, s_197 = stI s_k182 106 ((7 : Int32) + (s_111.1 106 (6 : Int32).toNatClampNeg)).toNatClampNeg (s_k182.1 106 (36 : Int32).toNatClampNeg) → vp_in (36 : Int32) 38 ∧ ∀ s_205 : St, s_205 = stI s_197 106 (36 : Int32).toNatClampNeg (0 : Int32) → vp_in (6 : Int32) 38 ∧ vp_in (6 : Int32) 38 ∧ ∀ s_216 : St, s_216 = stI s_205 106 (6 : Int32).toNatClampNeg ((s_205.1 106 (6 : Int32).toNatClampNeg) + (1 : Int32)) → Q r_43 s_216) Q k_124 (0 : Int32) s_111))) Q k_62 (0 : Int32) s_57))) ∧ (r_43 = (1000000 : Int32) → Q (-2 : Int32) s_43))))))) ∧ ((s_2.1 106 (6 : Int32).toNatClampNeg) = (4 : Int32) → Q (-2 : Int32) s_2))))
set_option maxHeartbeats 4000000 in
set_option maxRecDepth 100000 in
theorem mX10_asks {l : Launch} {V : Wv}  {s : St} {Q : Int32 → St → Prop} (hV : V.2.1 = DESC) (h : wX10_asks  s Q) : Ci yX10_asks cX10_asks 4 (some .int) (4) l V [rf V 99] s Q := by
  unfold wX10_asks at h
  refine Ci.of mvX10_asks.1 (Nat.le_of_ble_eq_true rfl) (fun X F hR => ?_)
  refine g_lv (lv' := [(_, _)]) rfl ?_
  refine g_aload_n (pc := 0) F dX10_asks_0 rfl 0 rfl ?_
  refine g_iconst (pc := 1) F dX10_asks_1 ic_0 ?_
  have h := h _ rfl
  refine g_putI (pc := 2) F clX10 (sh_99 hV) 0 rfl (by decide) rfl (tyX10_ok 0 (by decide)) uX10_89 dX10_asks_2 ?_
  refine g_aload_n (pc := 5) F dX10_asks_5 rfl 0 rfl ?_
  refine g_getR (pc := 6) F clX10 (sh_99 hV) 14 _ rfl (by decide) uX10_28 dX10_asks_6 ?_
  refine g_bipush (pc := 9) F dX10_asks_9 bp_36 ?_
  obtain ⟨hb_11, h⟩ := h
  refine g_iald (pc := 11) F (sh_106 hV) hb_11 dX10_asks_11 ?_
  refine g_iconst (pc := 12) F dX10_asks_12 ic_2 ?_
  refine g_icmp_lt (pc := 13) F 27 dX10_asks_13 (by decide) (fun c => ?_) (fun c => ?_)
  · have h := h.1 c
    refine g_bipush (pc := 27) F dX10_asks_27 bp_m2 ?_
    exact hR _ _ _ _ dX10_asks_29 h
  · have h := h.2 c
    refine g_aload_n (pc := 16) F dX10_asks_16 rfl 0 rfl ?_
    refine g_getR (pc := 17) F clX10 (sh_99 hV) 14 _ rfl (by decide) uX10_28 dX10_asks_17 ?_
    refine g_bipush (pc := 20) F dX10_asks_20 bp_6 ?_
    obtain ⟨hb_22, h⟩ := h
    refine g_iald (pc := 22) F (sh_106 hV) hb_22 dX10_asks_22 ?_
    refine g_iconst (pc := 23) F dX10_asks_23 ic_4 ?_
    refine g_icmp_ne (pc := 24) F 30 dX10_asks_24 (by decide) (fun c => ?_) (fun c => ?_)
    · have h := h.1 c
      refine g_aload_n (pc := 30) F dX10_asks_30 rfl 0 rfl ?_
      refine g_aload_n (pc := 31) F dX10_asks_31 rfl 0 rfl ?_
      refine g_callVi (pc := 32) F (mX10_draftLanes hV h) mvX10_draftLanes uX10_195 (by decide) clX10 (sh_99 hV) rfl rfl (Nat.le_of_ble_eq_true rfl) dX10_asks_32 (fun r_32 s_32 h => ?_)
      refine g_callVv (pc := 35) F (mX10_scans hV h) mvX10_scans uX10_199 (by decide) clX10 (sh_99 hV) rfl rfl (Nat.le_of_ble_eq_true rfl) dX10_asks_35 (fun s_35 h => ?_)
      refine g_aload_n (pc := 38) F dX10_asks_38 rfl 0 rfl ?_
      refine g_aload_n (pc := 39) F dX10_asks_39 rfl 0 rfl ?_
      refine g_callVi (pc := 40) F (mX10_allMaps hV h) mvX10_allMaps uX10_202 (by decide) clX10 (sh_99 hV) rfl rfl (Nat.le_of_ble_eq_true rfl) dX10_asks_40 (fun r_40 s_40 h => ?_)
      refine g_callVi (pc := 43) F (mX10_costOf hV h) mvX10_costOf uX10_205 (by decide) clX10 (sh_99 hV) rfl rfl (Nat.le_of_ble_eq_true rfl) dX10_asks_43 (fun r_43 s_43 h => ?_)
      refine g_istore_n (pc := 46) (lv' := [(_, _), (_, _)]) F dX10_asks_46 rfl (by decide) rfl ?_
      refine g_iload_n (pc := 47) F dX10_asks_47 rfl 0 rfl ?_
      refine g_ldc (pc := 48) F dX10_asks_48 uX10_167 ?_
      refine g_icmp_ne (pc := 50) F 56 dX10_asks_50 (by decide) (fun c => ?_) (fun c => ?_)
      · have h := h.1 c
        refine g_aload_n (pc := 56) F dX10_asks_56 rfl 1 rfl ?_
        refine g_callVv (pc := 57) F (mX10_notes hV h) mvX10_notes uX10_191 (by decide) clX10 (sh_99 hV) rfl rfl (Nat.le_of_ble_eq_true rfl) dX10_asks_57 (fun s_57 h => ?_)
        refine g_iconst (pc := 60) F dX10_asks_60 ic_0 ?_
        refine g_istore_n (pc := 61) (lv' := [(_, _), (_, _), (_, _)]) F dX10_asks_61 rfl (by decide) rfl ?_
        obtain ⟨k_62, h⟩ := h
        refine g_weak [2, 1, 0] rfl (bX10_asks_62 F hR hV (fun  s_k109 h => ?_) k_62 _ _ h)
        · refine g_aload_n (pc := 109) F dX10_asks_109 rfl 0 rfl ?_
          refine g_iload_n (pc := 110) F dX10_asks_110 rfl 1 rfl ?_
          refine g_callVv (pc := 111) F (mX10_digsFor hV h) mvX10_digsFor uX10_208 (by decide) clX10 (sh_99 hV) rfl rfl (Nat.le_of_ble_eq_true rfl) dX10_asks_111 (fun s_111 h => ?_)
          refine g_aload_n (pc := 114) F dX10_asks_114 rfl 0 rfl ?_
          refine g_getR (pc := 115) F clX10 (sh_99 hV) 14 _ rfl (by decide) uX10_28 dX10_asks_115 ?_
          refine g_bipush (pc := 118) F dX10_asks_118 bp_6 ?_
          obtain ⟨hb_120, h⟩ := h
          refine g_iald (pc := 120) F (sh_106 hV) hb_120 dX10_asks_120 ?_
          refine g_istore_n (pc := 121) (lv' := [(_, _), (_, _), (_, _)]) F dX10_asks_121 rfl (by decide) rfl ?_
          refine g_iconst (pc := 122) F dX10_asks_122 ic_0 ?_
          refine g_istore_n (pc := 123) (lv' := [(_, _), (_, _), (_, _), (_, _)]) F dX10_asks_123 rfl (by decide) rfl ?_
          obtain ⟨k_124, h⟩ := h
          refine g_weak [2, 3, 1, 0] rfl (bX10_asks_124 F hR hV (fun  s_k182 h => ?_) k_124 _ _ h)
          · refine g_aload_n (pc := 182) F dX10_asks_182 rfl 0 rfl ?_
            refine g_getR (pc := 183) F clX10 (sh_99 hV) 14 _ rfl (by decide) uX10_28 dX10_asks_183 ?_
            refine g_bipush (pc := 186) F dX10_asks_186 bp_7 ?_
            refine g_iload_n (pc := 188) F dX10_asks_188 rfl 2 rfl ?_
            refine g_iadd (pc := 189) F dX10_asks_189 ?_
            refine g_aload_n (pc := 190) F dX10_asks_190 rfl 0 rfl ?_
            refine g_getR (pc := 191) F clX10 (sh_99 hV) 14 _ rfl (by decide) uX10_28 dX10_asks_191 ?_
            refine g_bipush (pc := 194) F dX10_asks_194 bp_36 ?_
            obtain ⟨hb_196, h⟩ := h
            refine g_iald (pc := 196) F (sh_106 hV) hb_196 dX10_asks_196 ?_
            obtain ⟨hb_197, h⟩ := h
            have h := h _ rfl
            refine g_iast (pc := 197) F (sh_106 hV) hb_197 dX10_asks_197 ?_
            refine g_aload_n (pc := 198) F dX10_asks_198 rfl 0 rfl ?_
            refine g_getR (pc := 199) F clX10 (sh_99 hV) 14 _ rfl (by decide) uX10_28 dX10_asks_199 ?_
            refine g_bipush (pc := 202) F dX10_asks_202 bp_36 ?_
            refine g_iconst (pc := 204) F dX10_asks_204 ic_0 ?_
            obtain ⟨hb_205, h⟩ := h
            have h := h _ rfl
            refine g_iast (pc := 205) F (sh_106 hV) hb_205 dX10_asks_205 ?_
            refine g_aload_n (pc := 206) F dX10_asks_206 rfl 0 rfl ?_
            refine g_getR (pc := 207) F clX10 (sh_99 hV) 14 _ rfl (by decide) uX10_28 dX10_asks_207 ?_
            refine g_bipush (pc := 210) F dX10_asks_210 bp_6 ?_
            refine g_dup2 (pc := 212) F dX10_asks_212 rfl rfl ?_
            obtain ⟨hb_213, h⟩ := h
            refine g_iald (pc := 213) F (sh_106 hV) hb_213 dX10_asks_213 ?_
            refine g_iconst (pc := 214) F dX10_asks_214 ic_1 ?_
            refine g_iadd (pc := 215) F dX10_asks_215 ?_
            obtain ⟨hb_216, h⟩ := h
            have h := h _ rfl
            refine g_iast (pc := 216) F (sh_106 hV) hb_216 dX10_asks_216 ?_
            refine g_iload_n (pc := 217) F dX10_asks_217 rfl 1 rfl ?_
            exact hR _ _ _ _ dX10_asks_218 h
      · have h := h.2 c
        refine g_bipush (pc := 53) F dX10_asks_53 bp_m2 ?_
        exact hR _ _ _ _ dX10_asks_55 h
    · have h := h.2 c
      refine g_bipush (pc := 27) F dX10_asks_27 bp_m2 ?_
      exact hR _ _ _ _ dX10_asks_29 h
def wX10_digs (x1 : Int32) (x2 : Int32) (s : St) (Q : Int32 → St → Prop) : Prop :=
  ∀ s_2 : St, s_2 = stI s 99 0 (0 : Int32) → wX10_isLane x1 s_2 (fun r_7 s_7 => ((r_7 = 0 → Q (-1 : Int32) s_7) ∧ (¬ r_7 = 0 → wX10_in x2 (1 : Int32) (5 : Int32) s_7 (fun r_16 s_16 => ((¬ r_16 = 0 → vp_in ((0 : Int32) + x1) 38 ∧ ((¬ (s_16.1 106 ((0 : Int32) + x1).toNatClampNeg) = x2 → wX10_notes  s_16 (fun s_42 => vp_in ((0 : Int32) + x1) 38 ∧ ∀ s_53 : St, s_53 = stI s_42 106 ((0 : Int32) + x1).toNatClampNeg x2 → vp_in x1 12 ∧ wX10_apart (s_16.1 106 ((0 : Int32) + x1).toNatClampNeg) x2 s_53 (fun r_63 s_63 => wX10_digsFor ((s_53.1 104 x1.toNatClampNeg) * r_63) s_63 (fun s_67 => Q (s_16.1 106 ((0 : Int32) + x1).toNatClampNeg) s_67)))) ∧ ((s_16.1 106 ((0 : Int32) + x1).toNatClampNeg) = x2 → Q (-2 : Int32) s_16))) ∧ (r_16 = 0 → Q (-1 : Int32) s_16))))))
set_option maxHeartbeats 4000000 in
set_option maxRecDepth 100000 in
theorem mX10_digs {l : Launch} {V : Wv} {x1 : Int32} {x2 : Int32} {s : St} {Q : Int32 → St → Prop} (hV : V.2.1 = DESC) (h : wX10_digs x1 x2 s Q) : Ci yX10_digs cX10_digs 4 (some .int) (2) l V [rf V 99, .int x1, .int x2] s Q := by
  unfold wX10_digs at h
  refine Ci.of mvX10_digs.1 (Nat.le_of_ble_eq_true rfl) (fun X F hR => ?_)
  refine g_lv (lv' := [(_, _), (_, _), (_, _)]) rfl ?_
  refine g_aload_n (pc := 0) F dX10_digs_0 rfl 0 rfl ?_
  refine g_iconst (pc := 1) F dX10_digs_1 ic_0 ?_
  have h := h _ rfl
  refine g_putI (pc := 2) F clX10 (sh_99 hV) 0 rfl (by decide) rfl (tyX10_ok 0 (by decide)) uX10_89 dX10_digs_2 ?_
  refine g_aload_n (pc := 5) F dX10_digs_5 rfl 0 rfl ?_
  refine g_iload_n (pc := 6) F dX10_digs_6 rfl 1 rfl ?_
  refine g_callVi (pc := 7) F (mX10_isLane hV h) mvX10_isLane uX10_171 (by decide) clX10 (sh_99 hV) rfl rfl (Nat.le_of_ble_eq_true rfl) dX10_digs_7 (fun r_7 s_7 h => ?_)
  refine g_if_eq (pc := 10) F 22 dX10_digs_10 (by decide) (fun c => ?_) (fun c => ?_)
  · have h := h.1 c
    refine g_iconst (pc := 22) F dX10_digs_22 ic_m1 ?_
    exact hR _ _ _ _ dX10_digs_23 h
  · have h := h.2 c
    refine g_iload_n (pc := 13) F dX10_digs_13 rfl 2 rfl ?_
    refine g_iconst (pc := 14) F dX10_digs_14 ic_1 ?_
    refine g_iconst (pc := 15) F dX10_digs_15 ic_5 ?_
    refine g_callSi (pc := 16) F (mX10_in hV h) mvX10_in uX10_93 (by decide)  rfl rfl (Nat.le_of_ble_eq_true rfl) dX10_digs_16 (fun r_16 s_16 h => ?_)
    refine g_if_ne (pc := 19) F 24 dX10_digs_19 (by decide) (fun c => ?_) (fun c => ?_)
    · have h := h.1 c
      refine g_aload_n (pc := 24) F dX10_digs_24 rfl 0 rfl ?_
      refine g_getR (pc := 25) F clX10 (sh_99 hV) 14 _ rfl (by decide) uX10_28 dX10_digs_25 ?_
      refine g_iconst (pc := 28) F dX10_digs_28 ic_0 ?_
      refine g_iload_n (pc := 29) F dX10_digs_29 rfl 1 rfl ?_
      refine g_iadd (pc := 30) F dX10_digs_30 ?_
      obtain ⟨hb_31, h⟩ := h
      refine g_iald (pc := 31) F (sh_106 hV) hb_31 dX10_digs_31 ?_
      refine g_istore_n (pc := 32) (lv' := [(_, _), (_, _), (_, _), (_, _)]) F dX10_digs_32 rfl (by decide) rfl ?_
      refine g_iload_n (pc := 33) F dX10_digs_33 rfl 0 rfl ?_
      refine g_iload_n (pc := 34) F dX10_digs_34 rfl 3 rfl ?_
      refine g_icmp_ne (pc := 35) F 41 dX10_digs_35 (by decide) (fun c => ?_) (fun c => ?_)
      · have h := h.1 c
        refine g_aload_n (pc := 41) F dX10_digs_41 rfl 1 rfl ?_
        refine g_callVv (pc := 42) F (mX10_notes hV h) mvX10_notes uX10_191 (by decide) clX10 (sh_99 hV) rfl rfl (Nat.le_of_ble_eq_true rfl) dX10_digs_42 (fun s_42 h => ?_)
        refine g_aload_n (pc := 45) F dX10_digs_45 rfl 1 rfl ?_
        refine g_getR (pc := 46) F clX10 (sh_99 hV) 14 _ rfl (by decide) uX10_28 dX10_digs_46 ?_
        refine g_iconst (pc := 49) F dX10_digs_49 ic_0 ?_
        refine g_iload_n (pc := 50) F dX10_digs_50 rfl 2 rfl ?_
        refine g_iadd (pc := 51) F dX10_digs_51 ?_
        refine g_iload_n (pc := 52) F dX10_digs_52 rfl 3 rfl ?_
        obtain ⟨hb_53, h⟩ := h
        have h := h _ rfl
        refine g_iast (pc := 53) F (sh_106 hV) hb_53 dX10_digs_53 ?_
        refine g_aload_n (pc := 54) F dX10_digs_54 rfl 1 rfl ?_
        refine g_aload_n (pc := 55) F dX10_digs_55 rfl 1 rfl ?_
        refine g_getR (pc := 56) F clX10 (sh_99 hV) 12 _ rfl (by decide) uX10_22 dX10_digs_56 ?_
        refine g_iload_n (pc := 59) F dX10_digs_59 rfl 2 rfl ?_
        obtain ⟨hb_60, h⟩ := h
        refine g_iald (pc := 60) F (sh_104 hV) hb_60 dX10_digs_60 ?_
        refine g_iload_n (pc := 61) F dX10_digs_61 rfl 0 rfl ?_
        refine g_iload_n (pc := 62) F dX10_digs_62 rfl 3 rfl ?_
        refine g_callSi (pc := 63) F (mX10_apart hV h) mvX10_apart uX10_211 (by decide)  rfl rfl (Nat.le_of_ble_eq_true rfl) dX10_digs_63 (fun r_63 s_63 h => ?_)
        refine g_imul (pc := 66) F dX10_digs_66 ?_
        refine g_callVv (pc := 67) F (mX10_digsFor hV h) mvX10_digsFor uX10_208 (by decide) clX10 (sh_99 hV) rfl rfl (Nat.le_of_ble_eq_true rfl) dX10_digs_67 (fun s_67 h => ?_)
        refine g_iload_n (pc := 70) F dX10_digs_70 rfl 0 rfl ?_
        exact hR _ _ _ _ dX10_digs_71 h
      · have h := h.2 c
        refine g_bipush (pc := 38) F dX10_digs_38 bp_m2 ?_
        exact hR _ _ _ _ dX10_digs_40 h
    · have h := h.2 c
      refine g_iconst (pc := 22) F dX10_digs_22 ic_m1 ?_
      exact hR _ _ _ _ dX10_digs_23 h
def wX10_burns_48 (x2 : Int32) (K87 : St → Prop) (Q : Int32 → St → Prop) : Nat → Int32 → St → Prop
  | 0, _, _ => False
  | n + 1, x3, s =>
  (((5 : Int32) ≤ x3 → K87  s) ∧ (¬ (5 : Int32) ≤ x3 → vp_in ((((11 : Int32) + ((5 : Int32) * x2)) + (5 : Int32)) + x3) 38 ∧ vp_in (((11 : Int32) + ((5 : Int32) * x2)) + x3) 38 ∧ ∀ s_80 : St, s_80 = stI s 106 (((11 : Int32) + ((5 : Int32) * x2)) + x3).toNatClampNeg (s.1 106 ((((11 : Int32) + ((5 : Int32) * x2)) + (5 : Int32)) + x3).toNatClampNeg) → wX10_burns_48 x2 K87 Q n (x3 + (1 : Int32)) s_80))
set_option maxHeartbeats 4000000 in
set_option maxRecDepth 100000 in
theorem bX10_burns_48 {l : Launch} {V : Wv} {X : Mx} {x2 : Int32} {K87 : St → Prop} {Q : Int32 → St → Prop} (F : Fx V X cX10_burns RX10 4 2) (hR : RtI l V X 4 cX10_burns Q) (hV : V.2.1 = DESC) (hK87 : ∀  (s : St), K87  s → G l V X 4 87 [(0, rf V 99), (2, .int x2)] [] s) : ∀ (n : Nat) (x3 : Int32) (s : St), wX10_burns_48 x2 K87 Q n x3 s → G l V X 4 48 [(0, rf V 99), (2, .int x2), (3, .int x3)] [] s := by
  intro n
  induction n with
  | zero => intro x3 s h; unfold wX10_burns_48 at h; exact h.elim
  | succ n ih =>
    intro x3 s h
    unfold wX10_burns_48 at h
    refine g_iload_n (pc := 48) F dX10_burns_48 rfl 2 rfl ?_
    refine g_iconst (pc := 49) F dX10_burns_49 ic_5 ?_
    refine g_icmp_ge (pc := 50) F 87 dX10_burns_50 (by decide) (fun c => ?_) (fun c => ?_)
    · have h := h.1 c
      exact g_weak [0, 1] rfl (hK87 _ h)
    · have h := h.2 c
      refine g_aload_n (pc := 53) F dX10_burns_53 rfl 0 rfl ?_
      refine g_getR (pc := 54) F clX10 (sh_99 hV) 14 _ rfl (by decide) uX10_28 dX10_burns_54 ?_
      refine g_bipush (pc := 57) F dX10_burns_57 bp_11 ?_
      refine g_iconst (pc := 59) F dX10_burns_59 ic_5 ?_
      refine g_iload_n (pc := 60) F dX10_burns_60 rfl 1 rfl ?_
      refine g_imul (pc := 61) F dX10_burns_61 ?_
      refine g_iadd (pc := 62) F dX10_burns_62 ?_
      refine g_iload_n (pc := 63) F dX10_burns_63 rfl 2 rfl ?_
      refine g_iadd (pc := 64) F dX10_burns_64 ?_
      refine g_aload_n (pc := 65) F dX10_burns_65 rfl 0 rfl ?_
      refine g_getR (pc := 66) F clX10 (sh_99 hV) 14 _ rfl (by decide) uX10_28 dX10_burns_66 ?_
      refine g_bipush (pc := 69) F dX10_burns_69 bp_11 ?_
      refine g_iconst (pc := 71) F dX10_burns_71 ic_5 ?_
      refine g_iload_n (pc := 72) F dX10_burns_72 rfl 1 rfl ?_
      refine g_imul (pc := 73) F dX10_burns_73 ?_
      refine g_iadd (pc := 74) F dX10_burns_74 ?_
      refine g_iconst (pc := 75) F dX10_burns_75 ic_5 ?_
      refine g_iadd (pc := 76) F dX10_burns_76 ?_
      refine g_iload_n (pc := 77) F dX10_burns_77 rfl 2 rfl ?_
      refine g_iadd (pc := 78) F dX10_burns_78 ?_
      obtain ⟨hb_79, h⟩ := h
      refine g_iald (pc := 79) F (sh_106 hV) hb_79 dX10_burns_79 ?_
      obtain ⟨hb_80, h⟩ := h
      have h := h _ rfl
      refine g_iast (pc := 80) F (sh_106 hV) hb_80 dX10_burns_80 ?_
      refine g_iinc (pc := 81) (lv' := [(_, _), (_, _), (_, _)]) F dX10_burns_81 2 rfl (congrArg _ ic_1) (by decide) rfl ?_
      refine g_goto (pc := 84) F 48 dX10_burns_84 (by decide) ?_
      exact g_weak [1, 2, 0] rfl (ih _ _ h)
def wX10_burns_21 (K93 : St → Prop) (Q : Int32 → St → Prop) : Nat → Int32 → St → Prop
  | 0, _, _ => False
  | n + 1, x2, s =>
  (((3 : Int32) ≤ x2 → K93  s) ∧ (¬ (3 : Int32) ≤ x2 → vp_in (((7 : Int32) + x2) + (1 : Int32)) 38 ∧ vp_in ((7 : Int32) + x2) 38 ∧ ∀ s_45 : St, s_45 = stI s 106 ((7 : Int32) + x2).toNatClampNeg (s.1 106 (((7 : Int32) + x2) + (1 : Int32)).toNatClampNeg) → (∃ k_48, wX10_burns_48  x2 (fun  s_k87 => wX10_burns_21 K93 Q n (x2 + (1 : Int32)) s_k87) Q k_48 (0 : Int32) s_45)))
set_option maxHeartbeats 4000000 in
set_option maxRecDepth 100000 in
theorem bX10_burns_21 {l : Launch} {V : Wv} {X : Mx} {K93 : St → Prop} {Q : Int32 → St → Prop} (F : Fx V X cX10_burns RX10 4 2) (hR : RtI l V X 4 cX10_burns Q) (hV : V.2.1 = DESC) (hK93 : ∀  (s : St), K93  s → G l V X 4 93 [(0, rf V 99)] [] s) : ∀ (n : Nat) (x2 : Int32) (s : St), wX10_burns_21 K93 Q n x2 s → G l V X 4 21 [(0, rf V 99), (2, .int x2)] [] s := by
  intro n
  induction n with
  | zero => intro x2 s h; unfold wX10_burns_21 at h; exact h.elim
  | succ n ih =>
    intro x2 s h
    unfold wX10_burns_21 at h
    refine g_iload_n (pc := 21) F dX10_burns_21 rfl 1 rfl ?_
    refine g_iconst (pc := 22) F dX10_burns_22 ic_3 ?_
    refine g_icmp_ge (pc := 23) F 93 dX10_burns_23 (by decide) (fun c => ?_) (fun c => ?_)
    · have h := h.1 c
      exact g_weak [0] rfl (hK93 _ h)
    · have h := h.2 c
      refine g_aload_n (pc := 26) F dX10_burns_26 rfl 0 rfl ?_
      refine g_getR (pc := 27) F clX10 (sh_99 hV) 14 _ rfl (by decide) uX10_28 dX10_burns_27 ?_
      refine g_bipush (pc := 30) F dX10_burns_30 bp_7 ?_
      refine g_iload_n (pc := 32) F dX10_burns_32 rfl 1 rfl ?_
      refine g_iadd (pc := 33) F dX10_burns_33 ?_
      refine g_aload_n (pc := 34) F dX10_burns_34 rfl 0 rfl ?_
      refine g_getR (pc := 35) F clX10 (sh_99 hV) 14 _ rfl (by decide) uX10_28 dX10_burns_35 ?_
      refine g_bipush (pc := 38) F dX10_burns_38 bp_7 ?_
      refine g_iload_n (pc := 40) F dX10_burns_40 rfl 1 rfl ?_
      refine g_iadd (pc := 41) F dX10_burns_41 ?_
      refine g_iconst (pc := 42) F dX10_burns_42 ic_1 ?_
      refine g_iadd (pc := 43) F dX10_burns_43 ?_
      obtain ⟨hb_44, h⟩ := h
      refine g_iald (pc := 44) F (sh_106 hV) hb_44 dX10_burns_44 ?_
      obtain ⟨hb_45, h⟩ := h
      have h := h _ rfl
      refine g_iast (pc := 45) F (sh_106 hV) hb_45 dX10_burns_45 ?_
      refine g_iconst (pc := 46) F dX10_burns_46 ic_0 ?_
      refine g_istore_n (pc := 47) (lv' := [(_, _), (_, _), (_, _)]) F dX10_burns_47 rfl (by decide) rfl ?_
      obtain ⟨k_48, h⟩ := h
      refine g_weak [1, 2, 0] rfl (bX10_burns_48 F hR hV (fun  s_k87 h => ?_) k_48 _ _ h)
      · refine g_iinc (pc := 87) (lv' := [(_, _), (_, _)]) F dX10_burns_87 1 rfl (congrArg _ ic_1) (by decide) rfl ?_
        refine g_goto (pc := 90) F 21 dX10_burns_90 (by decide) ?_
        exact g_weak [1, 0] rfl (ih _ _ h)
def wX10_burns (x1 : Int32) (s : St) (Q : Int32 → St → Prop) : Prop :=
  ∀ s_2 : St, s_2 = stI s 99 0 (0 : Int32) → wX10_isMap x1 s_2 (fun r_7 s_7 => ((¬ r_7 = 0 → wX10_notes  s_7 (fun s_16 => (∃ k_21, wX10_burns_21   (fun  s_k93 => vp_in (6 : Int32) 38 ∧ vp_in (6 : Int32) 38 ∧ ∀ s_103 : St, s_103 = stI s_k93 106 (6 : Int32).toNatClampNeg ((s_k93.1 106 (6 : Int32).toNatClampNeg) - (1 : Int32)) → vp_in (6 : Int32) 38 ∧ Q (s_103.1 106 (6 : Int32).toNatClampNeg) s_103) Q k_21 x1 s_16))) ∧ (r_7 = 0 → Q (-1 : Int32) s_7)))
set_option maxHeartbeats 4000000 in
set_option maxRecDepth 100000 in
theorem mX10_burns {l : Launch} {V : Wv} {x1 : Int32} {s : St} {Q : Int32 → St → Prop} (hV : V.2.1 = DESC) (h : wX10_burns x1 s Q) : Ci yX10_burns cX10_burns 4 (some .int) (2) l V [rf V 99, .int x1] s Q := by
  unfold wX10_burns at h
  refine Ci.of mvX10_burns.1 (Nat.le_of_ble_eq_true rfl) (fun X F hR => ?_)
  refine g_lv (lv' := [(_, _), (_, _)]) rfl ?_
  refine g_aload_n (pc := 0) F dX10_burns_0 rfl 0 rfl ?_
  refine g_iconst (pc := 1) F dX10_burns_1 ic_0 ?_
  have h := h _ rfl
  refine g_putI (pc := 2) F clX10 (sh_99 hV) 0 rfl (by decide) rfl (tyX10_ok 0 (by decide)) uX10_89 dX10_burns_2 ?_
  refine g_aload_n (pc := 5) F dX10_burns_5 rfl 0 rfl ?_
  refine g_iload_n (pc := 6) F dX10_burns_6 rfl 1 rfl ?_
  refine g_callVi (pc := 7) F (mX10_isMap hV h) mvX10_isMap uX10_178 (by decide) clX10 (sh_99 hV) rfl rfl (Nat.le_of_ble_eq_true rfl) dX10_burns_7 (fun r_7 s_7 h => ?_)
  refine g_if_ne (pc := 10) F 15 dX10_burns_10 (by decide) (fun c => ?_) (fun c => ?_)
  · have h := h.1 c
    refine g_aload_n (pc := 15) F dX10_burns_15 rfl 0 rfl ?_
    refine g_callVv (pc := 16) F (mX10_notes hV h) mvX10_notes uX10_191 (by decide) clX10 (sh_99 hV) rfl rfl (Nat.le_of_ble_eq_true rfl) dX10_burns_16 (fun s_16 h => ?_)
    refine g_iload_n (pc := 19) F dX10_burns_19 rfl 1 rfl ?_
    refine g_istore_n (pc := 20) (lv' := [(_, _), (_, _), (_, _)]) F dX10_burns_20 rfl (by decide) rfl ?_
    obtain ⟨k_21, h⟩ := h
    refine g_weak [1, 0] rfl (bX10_burns_21 F hR hV (fun  s_k93 h => ?_) k_21 _ _ h)
    · refine g_aload_n (pc := 93) F dX10_burns_93 rfl 0 rfl ?_
      refine g_getR (pc := 94) F clX10 (sh_99 hV) 14 _ rfl (by decide) uX10_28 dX10_burns_94 ?_
      refine g_bipush (pc := 97) F dX10_burns_97 bp_6 ?_
      refine g_dup2 (pc := 99) F dX10_burns_99 rfl rfl ?_
      obtain ⟨hb_100, h⟩ := h
      refine g_iald (pc := 100) F (sh_106 hV) hb_100 dX10_burns_100 ?_
      refine g_iconst (pc := 101) F dX10_burns_101 ic_1 ?_
      refine g_isub (pc := 102) F dX10_burns_102 ?_
      obtain ⟨hb_103, h⟩ := h
      have h := h _ rfl
      refine g_iast (pc := 103) F (sh_106 hV) hb_103 dX10_burns_103 ?_
      refine g_aload_n (pc := 104) F dX10_burns_104 rfl 0 rfl ?_
      refine g_getR (pc := 105) F clX10 (sh_99 hV) 14 _ rfl (by decide) uX10_28 dX10_burns_105 ?_
      refine g_bipush (pc := 108) F dX10_burns_108 bp_6 ?_
      obtain ⟨hb_110, h⟩ := h
      refine g_iald (pc := 110) F (sh_106 hV) hb_110 dX10_burns_110 ?_
      exact hR _ _ _ _ dX10_burns_111 h
  · have h := h.2 c
    refine g_iconst (pc := 13) F dX10_burns_13 ic_m1 ?_
    exact hR _ _ _ _ dX10_burns_14 h
def wX10_wipes  (s : St) (Q : Int32 → St → Prop) : Prop :=
  ∀ s_2 : St, s_2 = stI s 99 0 (0 : Int32) → vp_in (36 : Int32) 38 ∧ ((¬ (s_2.1 106 (36 : Int32).toNatClampNeg) = 0 → wX10_notes  s_2 (fun s_19 => vp_in (36 : Int32) 38 ∧ vp_in (36 : Int32) 38 ∧ ∀ s_37 : St, s_37 = stI s_19 106 (36 : Int32).toNatClampNeg (0 : Int32) → Q (s_19.1 106 (36 : Int32).toNatClampNeg) s_37)) ∧ ((s_2.1 106 (36 : Int32).toNatClampNeg) = 0 → Q (-2 : Int32) s_2))
set_option maxHeartbeats 4000000 in
set_option maxRecDepth 100000 in
theorem mX10_wipes {l : Launch} {V : Wv}  {s : St} {Q : Int32 → St → Prop} (hV : V.2.1 = DESC) (h : wX10_wipes  s Q) : Ci yX10_wipes cX10_wipes 2 (some .int) (1) l V [rf V 99] s Q := by
  unfold wX10_wipes at h
  refine Ci.of mvX10_wipes.1 (Nat.le_of_ble_eq_true rfl) (fun X F hR => ?_)
  refine g_lv (lv' := [(_, _)]) rfl ?_
  refine g_aload_n (pc := 0) F dX10_wipes_0 rfl 0 rfl ?_
  refine g_iconst (pc := 1) F dX10_wipes_1 ic_0 ?_
  have h := h _ rfl
  refine g_putI (pc := 2) F clX10 (sh_99 hV) 0 rfl (by decide) rfl (tyX10_ok 0 (by decide)) uX10_89 dX10_wipes_2 ?_
  refine g_aload_n (pc := 5) F dX10_wipes_5 rfl 0 rfl ?_
  refine g_getR (pc := 6) F clX10 (sh_99 hV) 14 _ rfl (by decide) uX10_28 dX10_wipes_6 ?_
  refine g_bipush (pc := 9) F dX10_wipes_9 bp_36 ?_
  obtain ⟨hb_11, h⟩ := h
  refine g_iald (pc := 11) F (sh_106 hV) hb_11 dX10_wipes_11 ?_
  refine g_if_ne (pc := 12) F 18 dX10_wipes_12 (by decide) (fun c => ?_) (fun c => ?_)
  · have h := h.1 c
    refine g_aload_n (pc := 18) F dX10_wipes_18 rfl 0 rfl ?_
    refine g_callVv (pc := 19) F (mX10_notes hV h) mvX10_notes uX10_191 (by decide) clX10 (sh_99 hV) rfl rfl (Nat.le_of_ble_eq_true rfl) dX10_wipes_19 (fun s_19 h => ?_)
    refine g_aload_n (pc := 22) F dX10_wipes_22 rfl 0 rfl ?_
    refine g_getR (pc := 23) F clX10 (sh_99 hV) 14 _ rfl (by decide) uX10_28 dX10_wipes_23 ?_
    refine g_bipush (pc := 26) F dX10_wipes_26 bp_36 ?_
    obtain ⟨hb_28, h⟩ := h
    refine g_iald (pc := 28) F (sh_106 hV) hb_28 dX10_wipes_28 ?_
    refine g_istore_n (pc := 29) (lv' := [(_, _), (_, _)]) F dX10_wipes_29 rfl (by decide) rfl ?_
    refine g_aload_n (pc := 30) F dX10_wipes_30 rfl 1 rfl ?_
    refine g_getR (pc := 31) F clX10 (sh_99 hV) 14 _ rfl (by decide) uX10_28 dX10_wipes_31 ?_
    refine g_bipush (pc := 34) F dX10_wipes_34 bp_36 ?_
    refine g_iconst (pc := 36) F dX10_wipes_36 ic_0 ?_
    obtain ⟨hb_37, h⟩ := h
    have h := h _ rfl
    refine g_iast (pc := 37) F (sh_106 hV) hb_37 dX10_wipes_37 ?_
    refine g_iload_n (pc := 38) F dX10_wipes_38 rfl 0 rfl ?_
    exact hR _ _ _ _ dX10_wipes_39 h
  · have h := h.2 c
    refine g_bipush (pc := 15) F dX10_wipes_15 bp_m2 ?_
    exact hR _ _ _ _ dX10_wipes_17 h
def wX10_undo_27 (Q : Int32 → St → Prop) : Nat → Int32 → St → Prop
  | 0, _, _ => False
  | n + 1, x1, s =>
  (((38 : Int32) ≤ x1 → Q (s.1 99 18) s) ∧ (¬ (38 : Int32) ≤ x1 → vp_in (((38 : Int32) * (s.1 99 18)) + x1) 380 ∧ vp_in x1 38 ∧ ∀ s_52 : St, s_52 = stI s 106 x1.toNatClampNeg (s.1 109 (((38 : Int32) * (s.1 99 18)) + x1).toNatClampNeg) → wX10_undo_27 Q n (x1 + (1 : Int32)) s_52))
set_option maxHeartbeats 4000000 in
set_option maxRecDepth 100000 in
theorem bX10_undo_27 {l : Launch} {V : Wv} {X : Mx} {Q : Int32 → St → Prop} (F : Fx V X cX10_undo RX10 2 0) (hR : RtI l V X 2 cX10_undo Q) (hV : V.2.1 = DESC)  : ∀ (n : Nat) (x1 : Int32) (s : St), wX10_undo_27 Q n x1 s → G l V X 2 27 [(0, rf V 99), (1, .int x1)] [] s := by
  intro n
  induction n with
  | zero => intro x1 s h; unfold wX10_undo_27 at h; exact h.elim
  | succ n ih =>
    intro x1 s h
    unfold wX10_undo_27 at h
    refine g_iload_n (pc := 27) F dX10_undo_27 rfl 1 rfl ?_
    refine g_bipush (pc := 28) F dX10_undo_28 bp_38 ?_
    refine g_icmp_ge (pc := 30) F 59 dX10_undo_30 (by decide) (fun c => ?_) (fun c => ?_)
    · have h := h.1 c
      refine g_aload_n (pc := 59) F dX10_undo_59 rfl 0 rfl ?_
      refine g_getI (pc := 60) F clX10 (sh_99 hV) 18 rfl (by decide) uX10_161 dX10_undo_60 ?_
      exact hR _ _ _ _ dX10_undo_63 h
    · have h := h.2 c
      refine g_aload_n (pc := 33) F dX10_undo_33 rfl 0 rfl ?_
      refine g_getR (pc := 34) F clX10 (sh_99 hV) 14 _ rfl (by decide) uX10_28 dX10_undo_34 ?_
      refine g_iload_n (pc := 37) F dX10_undo_37 rfl 1 rfl ?_
      refine g_aload_n (pc := 38) F dX10_undo_38 rfl 0 rfl ?_
      refine g_getR (pc := 39) F clX10 (sh_99 hV) 17 _ rfl (by decide) uX10_38 dX10_undo_39 ?_
      refine g_bipush (pc := 42) F dX10_undo_42 bp_38 ?_
      refine g_aload_n (pc := 44) F dX10_undo_44 rfl 0 rfl ?_
      refine g_getI (pc := 45) F clX10 (sh_99 hV) 18 rfl (by decide) uX10_161 dX10_undo_45 ?_
      refine g_imul (pc := 48) F dX10_undo_48 ?_
      refine g_iload_n (pc := 49) F dX10_undo_49 rfl 1 rfl ?_
      refine g_iadd (pc := 50) F dX10_undo_50 ?_
      obtain ⟨hb_51, h⟩ := h
      refine g_iald (pc := 51) F (sh_109 hV) hb_51 dX10_undo_51 ?_
      obtain ⟨hb_52, h⟩ := h
      have h := h _ rfl
      refine g_iast (pc := 52) F (sh_106 hV) hb_52 dX10_undo_52 ?_
      refine g_iinc (pc := 53) (lv' := [(_, _), (_, _)]) F dX10_undo_53 1 rfl (congrArg _ ic_1) (by decide) rfl ?_
      refine g_goto (pc := 56) F 27 dX10_undo_56 (by decide) ?_
      exact g_weak [1, 0] rfl (ih _ _ h)
def wX10_undo  (s : St) (Q : Int32 → St → Prop) : Prop :=
  ∀ s_2 : St, s_2 = stI s 99 0 (0 : Int32) → ((¬ (s_2.1 99 18) = 0 → ∀ s_22 : St, s_22 = stI s_2 99 18 ((s_2.1 99 18) - (1 : Int32)) → (∃ k_27, wX10_undo_27    Q k_27 (0 : Int32) s_22)) ∧ ((s_2.1 99 18) = 0 → Q (-2 : Int32) s_2))
set_option maxHeartbeats 4000000 in
set_option maxRecDepth 100000 in
theorem mX10_undo {l : Launch} {V : Wv}  {s : St} {Q : Int32 → St → Prop} (hV : V.2.1 = DESC) (h : wX10_undo  s Q) : Ci yX10_undo cX10_undo 2 (some .int) (0) l V [rf V 99] s Q := by
  unfold wX10_undo at h
  refine Ci.of mvX10_undo.1 (Nat.le_of_ble_eq_true rfl) (fun X F hR => ?_)
  refine g_lv (lv' := [(_, _)]) rfl ?_
  refine g_aload_n (pc := 0) F dX10_undo_0 rfl 0 rfl ?_
  refine g_iconst (pc := 1) F dX10_undo_1 ic_0 ?_
  have h := h _ rfl
  refine g_putI (pc := 2) F clX10 (sh_99 hV) 0 rfl (by decide) rfl (tyX10_ok 0 (by decide)) uX10_89 dX10_undo_2 ?_
  refine g_aload_n (pc := 5) F dX10_undo_5 rfl 0 rfl ?_
  refine g_getI (pc := 6) F clX10 (sh_99 hV) 18 rfl (by decide) uX10_161 dX10_undo_6 ?_
  refine g_if_ne (pc := 9) F 15 dX10_undo_9 (by decide) (fun c => ?_) (fun c => ?_)
  · have h := h.1 c
    refine g_aload_n (pc := 15) F dX10_undo_15 rfl 0 rfl ?_
    refine g_dup (pc := 16) F dX10_undo_16 rfl ?_
    refine g_getI (pc := 17) F clX10 (sh_99 hV) 18 rfl (by decide) uX10_161 dX10_undo_17 ?_
    refine g_iconst (pc := 20) F dX10_undo_20 ic_1 ?_
    refine g_isub (pc := 21) F dX10_undo_21 ?_
    have h := h _ rfl
    refine g_putI (pc := 22) F clX10 (sh_99 hV) 18 rfl (by decide) rfl (tyX10_ok 18 (by decide)) uX10_161 dX10_undo_22 ?_
    refine g_iconst (pc := 25) F dX10_undo_25 ic_0 ?_
    refine g_istore_n (pc := 26) (lv' := [(_, _), (_, _)]) F dX10_undo_26 rfl (by decide) rfl ?_
    obtain ⟨k_27, h⟩ := h
    refine g_weak [1, 0] rfl (bX10_undo_27 F hR hV k_27 _ _ h)
  · have h := h.2 c
    refine g_bipush (pc := 12) F dX10_undo_12 bp_m2 ?_
    exact hR _ _ _ _ dX10_undo_14 h
def wX10_endsBetween (x0 : Int32) (x1 : Int32) (s : St) (Q : Int32 → St → Prop) : Prop :=
  ((x1 ≤ x0 → Q ((((5 : Int32) * x1) + x0) + (1 : Int32)) s) ∧ (¬ x1 ≤ x0 → Q ((((5 : Int32) * x0) + x1) + (1 : Int32)) s))
set_option maxHeartbeats 4000000 in
set_option maxRecDepth 100000 in
theorem mX10_endsBetween {l : Launch} {V : Wv} {x0 : Int32} {x1 : Int32} {s : St} {Q : Int32 → St → Prop} (hV : V.2.1 = DESC) (h : wX10_endsBetween x0 x1 s Q) : Ci yX10_endsBetween cX10_endsBetween 2 (some .int) (0) l V [.int x0, .int x1] s Q := by
  unfold wX10_endsBetween at h
  refine Ci.of mvX10_endsBetween.1 (Nat.le_of_ble_eq_true rfl) (fun X F hR => ?_)
  refine g_lv (lv' := [(_, _), (_, _)]) rfl ?_
  refine g_iload_n (pc := 0) F dX10_endsBetween_0 rfl 0 rfl ?_
  refine g_iload_n (pc := 1) F dX10_endsBetween_1 rfl 1 rfl ?_
  refine g_icmp_ge (pc := 2) F 15 dX10_endsBetween_2 (by decide) (fun c => ?_) (fun c => ?_)
  · have h := h.1 c
    refine g_iconst (pc := 15) F dX10_endsBetween_15 ic_5 ?_
    refine g_iload_n (pc := 16) F dX10_endsBetween_16 rfl 1 rfl ?_
    refine g_imul (pc := 17) F dX10_endsBetween_17 ?_
    refine g_iload_n (pc := 18) F dX10_endsBetween_18 rfl 0 rfl ?_
    refine g_iadd (pc := 19) F dX10_endsBetween_19 ?_
    refine g_iconst (pc := 20) F dX10_endsBetween_20 ic_1 ?_
    refine g_iadd (pc := 21) F dX10_endsBetween_21 ?_
    exact hR _ _ _ _ dX10_endsBetween_22 h
  · have h := h.2 c
    refine g_iconst (pc := 5) F dX10_endsBetween_5 ic_5 ?_
    refine g_iload_n (pc := 6) F dX10_endsBetween_6 rfl 0 rfl ?_
    refine g_imul (pc := 7) F dX10_endsBetween_7 ?_
    refine g_iload_n (pc := 8) F dX10_endsBetween_8 rfl 1 rfl ?_
    refine g_iadd (pc := 9) F dX10_endsBetween_9 ?_
    refine g_iconst (pc := 10) F dX10_endsBetween_10 ic_1 ?_
    refine g_iadd (pc := 11) F dX10_endsBetween_11 ?_
    refine g_goto (pc := 12) F 22 dX10_endsBetween_12 (by decide) ?_
    exact hR _ _ _ _ dX10_endsBetween_22 h
