/-! printed by program: what each method does to the state (w..), and that its code does so (b.., m..) -/
def wX10_readsMap_133 (rec : Int32 → St → Prop) (K136 : Int32 → St → Prop) (Q : St → Prop) (x0 : Nat) (x1 : Int32) (x2 : Int32) (s : St) : Prop :=
  rec x2 s
set_option maxHeartbeats 4000000 in
set_option maxRecDepth 100000 in
theorem bX10_readsMap_133 {l : Launch} {V : Wv} {X : Mx} {rec : Int32 → St → Prop} {K136 : Int32 → St → Prop} {Q : St → Prop} {x0 : Nat} {x1 : Int32} {x2 : Int32} (F : Fx V X cX10_readsMap RX10 5 3) (hR : RtV l V X 5 cX10_readsMap Q) (hx0 : isX10 V x0) (hrec : ∀ (y2 : Int32) (s : St), rec y2 s → G l V X 5 10 [(0, rf V x0), (1, .int x1), (2, .int y2)] [] s) (hK136 : ∀ (y2 : Int32) (s : St), K136 y2 s → G l V X 5 136 [(0, rf V x0), (1, .int x1), (2, .int y2)] [] s) {s : St} (h : wX10_readsMap_133 rec K136 Q x0 x1 x2 s) : G l V X 5 133 [(0, rf V x0), (1, .int x1), (2, .int x2)] [] s := by
  unfold wX10_readsMap_133 at h
  refine g_goto (pc := 133) F 10 dX10_readsMap_133 (by decide) ?_
  exact g_weak [0, 1, 2] rfl (hrec _ _ h)
def wX10_readsMap_103 (rec : Int32 → St → Prop) (K136 : Int32 → St → Prop) (Q : St → Prop) (x0 : Nat) (x1 : Int32) (x2 : Int32) (t0 : Int32) (t1 : Nat) (s : St) : Prop :=
  wX10_takes t1 t0 s (fun r_103 s_103 => wX10_isWell x0 s_103 (fun r_109 s_109 => ((r_109 = 0 → wX10_readsMap_133 (rec) (K136) Q x0 x1 x2 s_109) ∧ (¬ r_109 = 0 → vp_in (((11 : Int32) + ((5 : Int32) * x1)) + x2) 38 ∧ ∀ s_129 : St, s_129 = stI s_109 (x0 + 6) (((11 : Int32) + ((5 : Int32) * x1)) + x2).toNatClampNeg r_103 → wX10_readsMap_133 (rec) (K136) Q x0 x1 (x2 + (1 : Int32)) s_129))))
set_option maxHeartbeats 4000000 in
set_option maxRecDepth 100000 in
theorem bX10_readsMap_103 {l : Launch} {V : Wv} {X : Mx} {rec : Int32 → St → Prop} {K136 : Int32 → St → Prop} {Q : St → Prop} {x0 : Nat} {x1 : Int32} {x2 : Int32} {t0 : Int32} {t1 : Nat} (F : Fx V X cX10_readsMap RX10 5 3) (hR : RtV l V X 5 cX10_readsMap Q) (hx0 : isX10 V x0) (ht1 : isX10 V t1) (hrec : ∀ (y2 : Int32) (s : St), rec y2 s → G l V X 5 10 [(0, rf V x0), (1, .int x1), (2, .int y2)] [] s) (hK136 : ∀ (y2 : Int32) (s : St), K136 y2 s → G l V X 5 136 [(0, rf V x0), (1, .int x1), (2, .int y2)] [] s) {s : St} (h : wX10_readsMap_103 rec K136 Q x0 x1 x2 t0 t1 s) : G l V X 5 103 [(0, rf V x0), (1, .int x1), (2, .int x2)] [.int t0, rf V t1] s := by
  unfold wX10_readsMap_103 at h
  refine g_callVi (pc := 103) F (mX10_takes ht1 h) mvX10_takes uX10_126 (by decide) clX10 ht1.1 rfl rfl (Nat.le_of_ble_eq_true rfl) dX10_readsMap_103 (fun r_103 s_103 h => ?_)
  refine g_istore (pc := 106) (lv' := [(_, _), (_, _), (_, _), (_, _)]) F dX10_readsMap_106 (by decide) rfl ?_
  refine g_aload_n (pc := 108) F dX10_readsMap_108 rfl 1 rfl ?_
  refine g_callVi (pc := 109) F (mX10_isWell hx0 h) mvX10_isWell uX10_119 (by decide) clX10 hx0.1 rfl rfl (Nat.le_of_ble_eq_true rfl) dX10_readsMap_109 (fun r_109 s_109 h => ?_)
  refine g_if_eq (pc := 112) F 133 dX10_readsMap_112 (by decide) (fun c => ?_) (fun c => ?_)
  · have h := h.1 c
    exact g_weak [1, 2, 3] rfl (bX10_readsMap_133 F hR hx0 hrec hK136 h)
  · have h := h.2 c
    refine g_aload_n (pc := 115) F dX10_readsMap_115 rfl 1 rfl ?_
    refine g_getR (pc := 116) F clX10 hx0.1 13 _ rfl (by decide) uX10_25 dX10_readsMap_116 ?_
    refine g_bipush (pc := 119) F dX10_readsMap_119 bp_11 ?_
    refine g_iconst (pc := 121) F dX10_readsMap_121 ic_5 ?_
    refine g_iload_n (pc := 122) F dX10_readsMap_122 rfl 2 rfl ?_
    refine g_imul (pc := 123) F dX10_readsMap_123 ?_
    refine g_iadd (pc := 124) F dX10_readsMap_124 ?_
    refine g_iload_n (pc := 125) F dX10_readsMap_125 rfl 3 rfl ?_
    refine g_iadd (pc := 126) F dX10_readsMap_126 ?_
    refine g_iload (pc := 127) F dX10_readsMap_127 0 rfl ?_
    obtain ⟨hb_129, h⟩ := h
    have h := h _ rfl
    refine g_iast (pc := 129) F hx0.2.2.2.2.2.2.1 hb_129 dX10_readsMap_129 ?_
    refine g_iinc (pc := 130) (lv' := [(_, _), (_, _), (_, _), (_, _)]) F dX10_readsMap_130 3 rfl (congrArg _ ic_1) (by decide) rfl ?_
    exact g_weak [2, 3, 0] rfl (bX10_readsMap_133 F hR hx0 hrec hK136 h)
def wX10_readsMap_102 (rec : Int32 → St → Prop) (K136 : Int32 → St → Prop) (Q : St → Prop) (x0 : Nat) (x1 : Int32) (x2 : Int32) (t0 : Nat) (s : St) : Prop :=
  wX10_readsMap_103 (rec) (K136) Q x0 x1 x2 (0 : Int32) t0 s
set_option maxHeartbeats 4000000 in
set_option maxRecDepth 100000 in
theorem bX10_readsMap_102 {l : Launch} {V : Wv} {X : Mx} {rec : Int32 → St → Prop} {K136 : Int32 → St → Prop} {Q : St → Prop} {x0 : Nat} {x1 : Int32} {x2 : Int32} {t0 : Nat} (F : Fx V X cX10_readsMap RX10 5 3) (hR : RtV l V X 5 cX10_readsMap Q) (hx0 : isX10 V x0) (ht0 : isX10 V t0) (hrec : ∀ (y2 : Int32) (s : St), rec y2 s → G l V X 5 10 [(0, rf V x0), (1, .int x1), (2, .int y2)] [] s) (hK136 : ∀ (y2 : Int32) (s : St), K136 y2 s → G l V X 5 136 [(0, rf V x0), (1, .int x1), (2, .int y2)] [] s) {s : St} (h : wX10_readsMap_102 rec K136 Q x0 x1 x2 t0 s) : G l V X 5 102 [(0, rf V x0), (1, .int x1), (2, .int x2)] [rf V t0] s := by
  unfold wX10_readsMap_102 at h
  refine g_iconst (pc := 102) F dX10_readsMap_102 ic_0 ?_
  exact g_weak [0, 1, 2] rfl (bX10_readsMap_103 F hR hx0 ht0 hrec hK136 h)
def wX10_readsMap_62 (rec : Int32 → St → Prop) (K136 : Int32 → St → Prop) (Q : St → Prop) (x0 : Nat) (x1 : Int32) (x2 : Int32) (t0 : Int32) (s : St) : Prop :=
  ((t0 = 0 → wX10_readsMap_102 (rec) (K136) Q x0 x1 x2 x0 s) ∧ (¬ t0 = 0 → vp_in (3 : Int32) 4 ∧ wX10_canBeNext x0 (x0 + 6) 38 ((11 : Int32) + ((5 : Int32) * x1)) x2 (s.1 x0 7) (6 : Int32) (s.1 (x0 + 2) (3 : Int32).toNatClampNeg) s (fun r_92 s_92 => ((r_92 = 0 → wX10_readsMap_102 (rec) (K136) Q x0 x1 x2 x0 s_92) ∧ (¬ r_92 = 0 → wX10_readsMap_103 (rec) (K136) Q x0 x1 x2 (1 : Int32) x0 s_92)))))
set_option maxHeartbeats 4000000 in
set_option maxRecDepth 100000 in
theorem bX10_readsMap_62 {l : Launch} {V : Wv} {X : Mx} {rec : Int32 → St → Prop} {K136 : Int32 → St → Prop} {Q : St → Prop} {x0 : Nat} {x1 : Int32} {x2 : Int32} {t0 : Int32} (F : Fx V X cX10_readsMap RX10 5 3) (hR : RtV l V X 5 cX10_readsMap Q) (hx0 : isX10 V x0) (hrec : ∀ (y2 : Int32) (s : St), rec y2 s → G l V X 5 10 [(0, rf V x0), (1, .int x1), (2, .int y2)] [] s) (hK136 : ∀ (y2 : Int32) (s : St), K136 y2 s → G l V X 5 136 [(0, rf V x0), (1, .int x1), (2, .int y2)] [] s) {s : St} (h : wX10_readsMap_62 rec K136 Q x0 x1 x2 t0 s) : G l V X 5 62 [(0, rf V x0), (1, .int x1), (2, .int x2)] [.int t0] s := by
  unfold wX10_readsMap_62 at h
  refine g_istore_n (pc := 62) (lv' := [(_, _), (_, _), (_, _), (_, _)]) F dX10_readsMap_62 rfl (by decide) rfl ?_
  refine g_aload_n (pc := 63) F dX10_readsMap_63 rfl 1 rfl ?_
  refine g_iload_n (pc := 64) F dX10_readsMap_64 rfl 0 rfl ?_
  refine g_if_eq (pc := 65) F 102 dX10_readsMap_65 (by decide) (fun c => ?_) (fun c => ?_)
  · have h := h.1 c
    exact g_weak [1, 2, 3] rfl (bX10_readsMap_102 F hR hx0 hx0 hrec hK136 h)
  · have h := h.2 c
    refine g_aload_n (pc := 68) F dX10_readsMap_68 rfl 1 rfl ?_
    refine g_aload_n (pc := 69) F dX10_readsMap_69 rfl 1 rfl ?_
    refine g_getR (pc := 70) F clX10 hx0.1 13 _ rfl (by decide) uX10_25 dX10_readsMap_70 ?_
    refine g_bipush (pc := 73) F dX10_readsMap_73 bp_11 ?_
    refine g_iconst (pc := 75) F dX10_readsMap_75 ic_5 ?_
    refine g_iload_n (pc := 76) F dX10_readsMap_76 rfl 2 rfl ?_
    refine g_imul (pc := 77) F dX10_readsMap_77 ?_
    refine g_iadd (pc := 78) F dX10_readsMap_78 ?_
    refine g_iload_n (pc := 79) F dX10_readsMap_79 rfl 3 rfl ?_
    refine g_aload_n (pc := 80) F dX10_readsMap_80 rfl 1 rfl ?_
    refine g_getI (pc := 81) F clX10 hx0.1 7 rfl (by decide) uX10_113 dX10_readsMap_81 ?_
    refine g_bipush (pc := 84) F dX10_readsMap_84 bp_6 ?_
    refine g_aload_n (pc := 86) F dX10_readsMap_86 rfl 1 rfl ?_
    refine g_getR (pc := 87) F clX10 hx0.1 9 _ rfl (by decide) uX10_13 dX10_readsMap_87 ?_
    refine g_iconst (pc := 90) F dX10_readsMap_90 ic_3 ?_
    obtain ⟨hb_91, h⟩ := h
    refine g_iald (pc := 91) F hx0.2.2.1 hb_91 dX10_readsMap_91 ?_
    refine g_callVi (pc := 92) F (mX10_canBeNext hx0 hx0.2.2.2.2.2.2.1 h) mvX10_canBeNext uX10_138 (by decide) clX10 hx0.1 rfl rfl (Nat.le_of_ble_eq_true rfl) dX10_readsMap_92 (fun r_92 s_92 h => ?_)
    refine g_if_eq (pc := 95) F 102 dX10_readsMap_95 (by decide) (fun c => ?_) (fun c => ?_)
    · have h := h.1 c
      exact g_weak [1, 2, 3] rfl (bX10_readsMap_102 F hR hx0 hx0 hrec hK136 h)
    · have h := h.2 c
      refine g_iconst (pc := 98) F dX10_readsMap_98 ic_1 ?_
      refine g_goto (pc := 99) F 103 dX10_readsMap_99 (by decide) ?_
      exact g_weak [1, 2, 3] rfl (bX10_readsMap_103 F hR hx0 hx0 hrec hK136 h)
def wX10_readsMap_61 (rec : Int32 → St → Prop) (K136 : Int32 → St → Prop) (Q : St → Prop) (x0 : Nat) (x1 : Int32) (x2 : Int32) (s : St) : Prop :=
  wX10_readsMap_62 (rec) (K136) Q x0 x1 x2 (0 : Int32) s
set_option maxHeartbeats 4000000 in
set_option maxRecDepth 100000 in
theorem bX10_readsMap_61 {l : Launch} {V : Wv} {X : Mx} {rec : Int32 → St → Prop} {K136 : Int32 → St → Prop} {Q : St → Prop} {x0 : Nat} {x1 : Int32} {x2 : Int32} (F : Fx V X cX10_readsMap RX10 5 3) (hR : RtV l V X 5 cX10_readsMap Q) (hx0 : isX10 V x0) (hrec : ∀ (y2 : Int32) (s : St), rec y2 s → G l V X 5 10 [(0, rf V x0), (1, .int x1), (2, .int y2)] [] s) (hK136 : ∀ (y2 : Int32) (s : St), K136 y2 s → G l V X 5 136 [(0, rf V x0), (1, .int x1), (2, .int y2)] [] s) {s : St} (h : wX10_readsMap_61 rec K136 Q x0 x1 x2 s) : G l V X 5 61 [(0, rf V x0), (1, .int x1), (2, .int x2)] [] s := by
  unfold wX10_readsMap_61 at h
  refine g_iconst (pc := 61) F dX10_readsMap_61 ic_0 ?_
  exact g_weak [0, 1, 2] rfl (bX10_readsMap_62 F hR hx0 hrec hK136 h)
def wX10_readsMap_30 (rec : Int32 → St → Prop) (K136 : Int32 → St → Prop) (Q : St → Prop) (x0 : Nat) (x1 : Int32) (x2 : Int32) (s : St) : Prop :=
  ((¬ (s.1 x0 5) = (2 : Int32) → wX10_readsMap_61 (rec) (K136) Q x0 x1 x2 s) ∧ ((s.1 x0 5) = (2 : Int32) → vp_in (2 : Int32) 4 ∧ wX10_in (s.1 x0 7) (0 : Int32) ((s.1 (x0 + 2) (2 : Int32).toNatClampNeg) - (1 : Int32)) s (fun r_51 s_51 => ((r_51 = 0 → wX10_readsMap_61 (rec) (K136) Q x0 x1 x2 s_51) ∧ (¬ r_51 = 0 → wX10_readsMap_62 (rec) (K136) Q x0 x1 x2 (1 : Int32) s_51)))))
set_option maxHeartbeats 4000000 in
set_option maxRecDepth 100000 in
theorem bX10_readsMap_30 {l : Launch} {V : Wv} {X : Mx} {rec : Int32 → St → Prop} {K136 : Int32 → St → Prop} {Q : St → Prop} {x0 : Nat} {x1 : Int32} {x2 : Int32} (F : Fx V X cX10_readsMap RX10 5 3) (hR : RtV l V X 5 cX10_readsMap Q) (hx0 : isX10 V x0) (hrec : ∀ (y2 : Int32) (s : St), rec y2 s → G l V X 5 10 [(0, rf V x0), (1, .int x1), (2, .int y2)] [] s) (hK136 : ∀ (y2 : Int32) (s : St), K136 y2 s → G l V X 5 136 [(0, rf V x0), (1, .int x1), (2, .int y2)] [] s) {s : St} (h : wX10_readsMap_30 rec K136 Q x0 x1 x2 s) : G l V X 5 30 [(0, rf V x0), (1, .int x1), (2, .int x2)] [] s := by
  unfold wX10_readsMap_30 at h
  refine g_aload_n (pc := 30) F dX10_readsMap_30 rfl 0 rfl ?_
  refine g_getI (pc := 31) F clX10 hx0.1 5 rfl (by decide) uX10_110 dX10_readsMap_31 ?_
  refine g_iconst (pc := 34) F dX10_readsMap_34 ic_2 ?_
  refine g_icmp_ne (pc := 35) F 61 dX10_readsMap_35 (by decide) (fun c => ?_) (fun c => ?_)
  · have h := h.1 c
    exact g_weak [0, 1, 2] rfl (bX10_readsMap_61 F hR hx0 hrec hK136 h)
  · have h := h.2 c
    refine g_aload_n (pc := 38) F dX10_readsMap_38 rfl 0 rfl ?_
    refine g_getI (pc := 39) F clX10 hx0.1 7 rfl (by decide) uX10_113 dX10_readsMap_39 ?_
    refine g_iconst (pc := 42) F dX10_readsMap_42 ic_0 ?_
    refine g_aload_n (pc := 43) F dX10_readsMap_43 rfl 0 rfl ?_
    refine g_getR (pc := 44) F clX10 hx0.1 9 _ rfl (by decide) uX10_13 dX10_readsMap_44 ?_
    refine g_iconst (pc := 47) F dX10_readsMap_47 ic_2 ?_
    obtain ⟨hb_48, h⟩ := h
    refine g_iald (pc := 48) F hx0.2.2.1 hb_48 dX10_readsMap_48 ?_
    refine g_iconst (pc := 49) F dX10_readsMap_49 ic_1 ?_
    refine g_isub (pc := 50) F dX10_readsMap_50 ?_
    refine g_callSi (pc := 51) F (mX10_in  h) mvX10_in uX10_93 (by decide)  rfl rfl (Nat.le_of_ble_eq_true rfl) dX10_readsMap_51 (fun r_51 s_51 h => ?_)
    refine g_if_eq (pc := 54) F 61 dX10_readsMap_54 (by decide) (fun c => ?_) (fun c => ?_)
    · have h := h.1 c
      exact g_weak [0, 1, 2] rfl (bX10_readsMap_61 F hR hx0 hrec hK136 h)
    · have h := h.2 c
      refine g_iconst (pc := 57) F dX10_readsMap_57 ic_1 ?_
      refine g_goto (pc := 58) F 62 dX10_readsMap_58 (by decide) ?_
      exact g_weak [0, 1, 2] rfl (bX10_readsMap_62 F hR hx0 hrec hK136 h)
def wX10_readsMap_10 (x0 : Nat) (x1 : Int32) (K136 : Int32 → St → Prop) (Q : St → Prop) : Nat → Int32 → St → Prop
  | 0, _, _ => False
  | n + 1, x2, s =>
  wX10_isWell x0 s (fun r_11 s_11 => ((r_11 = 0 → K136 x2 s_11) ∧ (¬ r_11 = 0 → ((x2 < (2 : Int32) → wX10_readsMap_30 (wX10_readsMap_10 x0 x1 K136 Q n) (K136) Q x0 x1 x2 s_11) ∧ (¬ x2 < (2 : Int32) → (((s_11.1 x0 5) = (3 : Int32) → K136 x2 s_11) ∧ (¬ (s_11.1 x0 5) = (3 : Int32) → wX10_readsMap_30 (wX10_readsMap_10 x0 x1 K136 Q n) (K136) Q x0 x1 x2 s_11)))))))
set_option maxHeartbeats 4000000 in
set_option maxRecDepth 100000 in
theorem bX10_readsMap_10 {l : Launch} {V : Wv} {X : Mx} {x0 : Nat} {x1 : Int32} {K136 : Int32 → St → Prop} {Q : St → Prop} (F : Fx V X cX10_readsMap RX10 5 3) (hR : RtV l V X 5 cX10_readsMap Q) (hx0 : isX10 V x0) (hK136 : ∀ (y2 : Int32) (s : St), K136 y2 s → G l V X 5 136 [(0, rf V x0), (1, .int x1), (2, .int y2)] [] s) : ∀ (n : Nat) (x2 : Int32) (s : St), wX10_readsMap_10 x0 x1 K136 Q n x2 s → G l V X 5 10 [(0, rf V x0), (1, .int x1), (2, .int x2)] [] s := by
  intro n
  induction n with
  | zero => intro x2 s h; unfold wX10_readsMap_10 at h; exact h.elim
  | succ n ih =>
    intro x2 s h
    unfold wX10_readsMap_10 at h
    refine g_aload_n (pc := 10) F dX10_readsMap_10 rfl 0 rfl ?_
    refine g_callVi (pc := 11) F (mX10_isWell hx0 h) mvX10_isWell uX10_119 (by decide) clX10 hx0.1 rfl rfl (Nat.le_of_ble_eq_true rfl) dX10_readsMap_11 (fun r_11 s_11 h => ?_)
    refine g_if_eq (pc := 14) F 136 dX10_readsMap_14 (by decide) (fun c => ?_) (fun c => ?_)
    · have h := h.1 c
      exact g_weak [0, 1, 2] rfl (hK136 _ _ h)
    · have h := h.2 c
      refine g_iload_n (pc := 17) F dX10_readsMap_17 rfl 2 rfl ?_
      refine g_iconst (pc := 18) F dX10_readsMap_18 ic_2 ?_
      refine g_icmp_lt (pc := 19) F 30 dX10_readsMap_19 (by decide) (fun c => ?_) (fun c => ?_)
      · have h := h.1 c
        exact g_weak [0, 1, 2] rfl (bX10_readsMap_30 F hR hx0 ih hK136 h)
      · have h := h.2 c
        refine g_aload_n (pc := 22) F dX10_readsMap_22 rfl 0 rfl ?_
        refine g_getI (pc := 23) F clX10 hx0.1 5 rfl (by decide) uX10_110 dX10_readsMap_23 ?_
        refine g_iconst (pc := 26) F dX10_readsMap_26 ic_3 ?_
        refine g_icmp_eq (pc := 27) F 136 dX10_readsMap_27 (by decide) (fun c => ?_) (fun c => ?_)
        · have h := h.1 c
          exact g_weak [0, 1, 2] rfl (hK136 _ _ h)
        · have h := h.2 c
          exact g_weak [0, 1, 2] rfl (bX10_readsMap_30 F hR hx0 ih hK136 h)
def wX10_readsMap (x0 : Nat) (s : St) (Q : St → Prop) : Prop :=
  vp_in (6 : Int32) 38 ∧ (∃ k_10, wX10_readsMap_10  x0 (s.1 (x0 + 6) (6 : Int32).toNatClampNeg) (fun x2_136 s_k136 => vp_in ((7 : Int32) + (s.1 (x0 + 6) (6 : Int32).toNatClampNeg)) 38 ∧ ∀ s_145 : St, s_145 = stI s_k136 (x0 + 6) ((7 : Int32) + (s.1 (x0 + 6) (6 : Int32).toNatClampNeg)).toNatClampNeg x2_136 → vp_in (6 : Int32) 38 ∧ vp_in (6 : Int32) 38 ∧ ∀ s_156 : St, s_156 = stI s_145 (x0 + 6) (6 : Int32).toNatClampNeg ((s_145.1 (x0 + 6) (6 : Int32).toNatClampNeg) + (1 : Int32)) → Q s_156) Q k_10 (0 : Int32) s)
set_option maxHeartbeats 4000000 in
set_option maxRecDepth 100000 in
theorem mX10_readsMap {l : Launch} {V : Wv} {x0 : Nat} {s : St} {Q : St → Prop} (hx0 : isX10 V x0) (h : wX10_readsMap x0 s Q) : Cv yX10_readsMap cX10_readsMap 5 (3) l V [rf V x0] s Q := by
  unfold wX10_readsMap at h
  refine Cv.of mvX10_readsMap.1 (Nat.le_of_ble_eq_true rfl) (fun X F hR => ?_)
  refine g_lv (lv' := [(_, _)]) rfl ?_
  refine g_aload_n (pc := 0) F dX10_readsMap_0 rfl 0 rfl ?_
  refine g_getR (pc := 1) F clX10 hx0.1 13 _ rfl (by decide) uX10_25 dX10_readsMap_1 ?_
  refine g_bipush (pc := 4) F dX10_readsMap_4 bp_6 ?_
  obtain ⟨hb_6, h⟩ := h
  refine g_iald (pc := 6) F hx0.2.2.2.2.2.2.1 hb_6 dX10_readsMap_6 ?_
  refine g_istore_n (pc := 7) (lv' := [(_, _), (_, _)]) F dX10_readsMap_7 rfl (by decide) rfl ?_
  refine g_iconst (pc := 8) F dX10_readsMap_8 ic_0 ?_
  refine g_istore_n (pc := 9) (lv' := [(_, _), (_, _), (_, _)]) F dX10_readsMap_9 rfl (by decide) rfl ?_
  obtain ⟨k_10, h⟩ := h
  refine g_weak [2, 1, 0] rfl (bX10_readsMap_10 F hR hx0 (fun x2_136 s_k136 h => ?_) k_10 _ _ h)
  · refine g_aload_n (pc := 136) F dX10_readsMap_136 rfl 0 rfl ?_
    refine g_getR (pc := 137) F clX10 hx0.1 13 _ rfl (by decide) uX10_25 dX10_readsMap_137 ?_
    refine g_bipush (pc := 140) F dX10_readsMap_140 bp_7 ?_
    refine g_iload_n (pc := 142) F dX10_readsMap_142 rfl 1 rfl ?_
    refine g_iadd (pc := 143) F dX10_readsMap_143 ?_
    refine g_iload_n (pc := 144) F dX10_readsMap_144 rfl 2 rfl ?_
    obtain ⟨hb_145, h⟩ := h
    have h := h _ rfl
    refine g_iast (pc := 145) F hx0.2.2.2.2.2.2.1 hb_145 dX10_readsMap_145 ?_
    refine g_aload_n (pc := 146) F dX10_readsMap_146 rfl 0 rfl ?_
    refine g_getR (pc := 147) F clX10 hx0.1 13 _ rfl (by decide) uX10_25 dX10_readsMap_147 ?_
    refine g_bipush (pc := 150) F dX10_readsMap_150 bp_6 ?_
    refine g_dup2 (pc := 152) F dX10_readsMap_152 rfl rfl ?_
    obtain ⟨hb_153, h⟩ := h
    refine g_iald (pc := 153) F hx0.2.2.2.2.2.2.1 hb_153 dX10_readsMap_153 ?_
    refine g_iconst (pc := 154) F dX10_readsMap_154 ic_1 ?_
    refine g_iadd (pc := 155) F dX10_readsMap_155 ?_
    obtain ⟨hb_156, h⟩ := h
    have h := h _ rfl
    refine g_iast (pc := 156) F hx0.2.2.2.2.2.2.1 hb_156 dX10_readsMap_156 ?_
    exact hR _ _ _ dX10_readsMap_157 h
def wX10_readsItem (x0 : Nat) (x1 : Int32) (s : St) (Q : St → Prop) : Prop :=
  ((¬ x1 = (110 : Int32) → ((¬ x1 = (108 : Int32) → wX10_readsMap x0 s (fun s_35 => Q s_35)) ∧ (x1 = (108 : Int32) → wX10_readsLane x0 s (fun s_28 => Q s_28)))) ∧ (x1 = (110 : Int32) → wX10_number x0 (2 : Int32) (5 : Int32) s (fun r_14 s_14 => vp_in (2 : Int32) 4 ∧ ∀ s_17 : St, s_17 = stI s_14 (x0 + 2) (2 : Int32).toNatClampNeg r_14 → Q s_17)))
set_option maxHeartbeats 4000000 in
set_option maxRecDepth 100000 in
theorem mX10_readsItem {l : Launch} {V : Wv} {x0 : Nat} {x1 : Int32} {s : St} {Q : St → Prop} (hx0 : isX10 V x0) (h : wX10_readsItem x0 x1 s Q) : Cv yX10_readsItem cX10_readsItem 2 (5) l V [rf V x0, .int x1] s Q := by
  unfold wX10_readsItem at h
  refine Cv.of mvX10_readsItem.1 (Nat.le_of_ble_eq_true rfl) (fun X F hR => ?_)
  refine g_lv (lv' := [(_, _), (_, _)]) rfl ?_
  refine g_iload_n (pc := 0) F dX10_readsItem_0 rfl 1 rfl ?_
  refine g_bipush (pc := 1) F dX10_readsItem_1 bp_110 ?_
  refine g_icmp_ne (pc := 3) F 21 dX10_readsItem_3 (by decide) (fun c => ?_) (fun c => ?_)
  · have h := h.1 c
    refine g_iload_n (pc := 21) F dX10_readsItem_21 rfl 1 rfl ?_
    refine g_bipush (pc := 22) F dX10_readsItem_22 bp_108 ?_
    refine g_icmp_ne (pc := 24) F 34 dX10_readsItem_24 (by decide) (fun c => ?_) (fun c => ?_)
    · have h := h.1 c
      refine g_aload_n (pc := 34) F dX10_readsItem_34 rfl 0 rfl ?_
      refine g_callVv (pc := 35) F (mX10_readsMap hx0 h) mvX10_readsMap uX10_145 (by decide) clX10 hx0.1 rfl rfl (Nat.le_of_ble_eq_true rfl) dX10_readsItem_35 (fun s_35 h => ?_)
      exact hR _ _ _ dX10_readsItem_38 h
    · have h := h.2 c
      refine g_aload_n (pc := 27) F dX10_readsItem_27 rfl 0 rfl ?_
      refine g_callVv (pc := 28) F (mX10_readsLane hx0 h) mvX10_readsLane uX10_142 (by decide) clX10 hx0.1 rfl rfl (Nat.le_of_ble_eq_true rfl) dX10_readsItem_28 (fun s_28 h => ?_)
      refine g_goto (pc := 31) F 38 dX10_readsItem_31 (by decide) ?_
      exact hR _ _ _ dX10_readsItem_38 h
  · have h := h.2 c
    refine g_aload_n (pc := 6) F dX10_readsItem_6 rfl 0 rfl ?_
    refine g_getR (pc := 7) F clX10 hx0.1 9 _ rfl (by decide) uX10_13 dX10_readsItem_7 ?_
    refine g_iconst (pc := 10) F dX10_readsItem_10 ic_2 ?_
    refine g_aload_n (pc := 11) F dX10_readsItem_11 rfl 0 rfl ?_
    refine g_iconst (pc := 12) F dX10_readsItem_12 ic_2 ?_
    refine g_iconst (pc := 13) F dX10_readsItem_13 ic_5 ?_
    refine g_callVi (pc := 14) F (mX10_number hx0 h) mvX10_number uX10_130 (by decide) clX10 hx0.1 rfl rfl (Nat.le_of_ble_eq_true rfl) dX10_readsItem_14 (fun r_14 s_14 h => ?_)
    obtain ⟨hb_17, h⟩ := h
    have h := h _ rfl
    refine g_iast (pc := 17) F hx0.2.2.1 hb_17 dX10_readsItem_17 ?_
    refine g_goto (pc := 18) F 38 dX10_readsItem_18 (by decide) ?_
    exact hR _ _ _ dX10_readsItem_38 h
def wX10_endsOf_80 (rec : Int32 → Int32 → St → Prop) (K89 : Int32 → St → Prop) (Q : Int32 → St → Prop) (x0 : Nat) (x1 : Int32) (x2 : Int32) (x3 : Int32) (x4 : Int32) (x5 : Int32) (x7 : Int32) (t0 : Int32) (t1 : Int32) (s : St) : Prop :=
  rec (t1 + t0) (x7 + (1 : Int32)) s
set_option maxHeartbeats 4000000 in
set_option maxRecDepth 100000 in
theorem bX10_endsOf_80 {l : Launch} {V : Wv} {X : Mx} {rec : Int32 → Int32 → St → Prop} {K89 : Int32 → St → Prop} {Q : Int32 → St → Prop} {x0 : Nat} {x1 : Int32} {x2 : Int32} {x3 : Int32} {x4 : Int32} {x5 : Int32} {x7 : Int32} {t0 : Int32} {t1 : Int32} (F : Fx V X cX10_endsOf RX10 10 0) (hR : RtI l V X 10 cX10_endsOf Q) (hx0 : isX10 V x0) (hrec : ∀ (y6 : Int32) (y7 : Int32) (s : St), rec y6 y7 s → G l V X 10 32 [(0, rf V x0), (1, .int x1), (2, .int x2), (3, .int x3), (4, .int x4), (5, .int x5), (6, .int y6), (7, .int y7)] [] s) (hK89 : ∀ (y6 : Int32) (s : St), K89 y6 s → G l V X 10 89 [(0, rf V x0), (1, .int x1), (2, .int x2), (3, .int x3), (4, .int x4), (5, .int x5), (6, .int y6)] [] s) {s : St} (h : wX10_endsOf_80 rec K89 Q x0 x1 x2 x3 x4 x5 x7 t0 t1 s) : G l V X 10 80 [(0, rf V x0), (1, .int x1), (2, .int x2), (3, .int x3), (4, .int x4), (5, .int x5), (7, .int x7)] [.int t0, .int t1] s := by
  unfold wX10_endsOf_80 at h
  refine g_iadd (pc := 80) F dX10_endsOf_80 ?_
  refine g_istore (pc := 81) (lv' := [(_, _), (_, _), (_, _), (_, _), (_, _), (_, _), (_, _), (_, _)]) F dX10_endsOf_81 (by decide) rfl ?_
  refine g_iinc (pc := 83) (lv' := [(_, _), (_, _), (_, _), (_, _), (_, _), (_, _), (_, _), (_, _)]) F dX10_endsOf_83 7 rfl (congrArg _ ic_1) (by decide) rfl ?_
  refine g_goto (pc := 86) F 32 dX10_endsOf_86 (by decide) ?_
  exact g_weak [2, 3, 4, 5, 6, 7, 1, 0] rfl (hrec _ _ _ h)
def wX10_endsOf_79 (rec : Int32 → Int32 → St → Prop) (K89 : Int32 → St → Prop) (Q : Int32 → St → Prop) (x0 : Nat) (x1 : Int32) (x2 : Int32) (x3 : Int32) (x4 : Int32) (x5 : Int32) (x7 : Int32) (t0 : Int32) (s : St) : Prop :=
  wX10_endsOf_80 (rec) (K89) Q x0 x1 x2 x3 x4 x5 x7 (0 : Int32) t0 s
set_option maxHeartbeats 4000000 in
set_option maxRecDepth 100000 in
theorem bX10_endsOf_79 {l : Launch} {V : Wv} {X : Mx} {rec : Int32 → Int32 → St → Prop} {K89 : Int32 → St → Prop} {Q : Int32 → St → Prop} {x0 : Nat} {x1 : Int32} {x2 : Int32} {x3 : Int32} {x4 : Int32} {x5 : Int32} {x7 : Int32} {t0 : Int32} (F : Fx V X cX10_endsOf RX10 10 0) (hR : RtI l V X 10 cX10_endsOf Q) (hx0 : isX10 V x0) (hrec : ∀ (y6 : Int32) (y7 : Int32) (s : St), rec y6 y7 s → G l V X 10 32 [(0, rf V x0), (1, .int x1), (2, .int x2), (3, .int x3), (4, .int x4), (5, .int x5), (6, .int y6), (7, .int y7)] [] s) (hK89 : ∀ (y6 : Int32) (s : St), K89 y6 s → G l V X 10 89 [(0, rf V x0), (1, .int x1), (2, .int x2), (3, .int x3), (4, .int x4), (5, .int x5), (6, .int y6)] [] s) {s : St} (h : wX10_endsOf_79 rec K89 Q x0 x1 x2 x3 x4 x5 x7 t0 s) : G l V X 10 79 [(0, rf V x0), (1, .int x1), (2, .int x2), (3, .int x3), (4, .int x4), (5, .int x5), (7, .int x7)] [.int t0] s := by
  unfold wX10_endsOf_79 at h
  refine g_iconst (pc := 79) F dX10_endsOf_79 ic_0 ?_
  exact g_weak [0, 1, 2, 3, 4, 5, 6] rfl (bX10_endsOf_80 F hR hx0 hrec hK89 h)
def wX10_endsOf_75 (rec : Int32 → Int32 → St → Prop) (K89 : Int32 → St → Prop) (Q : Int32 → St → Prop) (x0 : Nat) (x1 : Int32) (x2 : Int32) (x3 : Int32) (x4 : Int32) (x5 : Int32) (x7 : Int32) (t0 : Int32) (s : St) : Prop :=
  wX10_endsOf_80 (rec) (K89) Q x0 x1 x2 x3 x4 x5 x7 (1 : Int32) t0 s
set_option maxHeartbeats 4000000 in
set_option maxRecDepth 100000 in
theorem bX10_endsOf_75 {l : Launch} {V : Wv} {X : Mx} {rec : Int32 → Int32 → St → Prop} {K89 : Int32 → St → Prop} {Q : Int32 → St → Prop} {x0 : Nat} {x1 : Int32} {x2 : Int32} {x3 : Int32} {x4 : Int32} {x5 : Int32} {x7 : Int32} {t0 : Int32} (F : Fx V X cX10_endsOf RX10 10 0) (hR : RtI l V X 10 cX10_endsOf Q) (hx0 : isX10 V x0) (hrec : ∀ (y6 : Int32) (y7 : Int32) (s : St), rec y6 y7 s → G l V X 10 32 [(0, rf V x0), (1, .int x1), (2, .int x2), (3, .int x3), (4, .int x4), (5, .int x5), (6, .int y6), (7, .int y7)] [] s) (hK89 : ∀ (y6 : Int32) (s : St), K89 y6 s → G l V X 10 89 [(0, rf V x0), (1, .int x1), (2, .int x2), (3, .int x3), (4, .int x4), (5, .int x5), (6, .int y6)] [] s) {s : St} (h : wX10_endsOf_75 rec K89 Q x0 x1 x2 x3 x4 x5 x7 t0 s) : G l V X 10 75 [(0, rf V x0), (1, .int x1), (2, .int x2), (3, .int x3), (4, .int x4), (5, .int x5), (7, .int x7)] [.int t0] s := by
  unfold wX10_endsOf_75 at h
  refine g_iconst (pc := 75) F dX10_endsOf_75 ic_1 ?_
  refine g_goto (pc := 76) F 80 dX10_endsOf_76 (by decide) ?_
  exact g_weak [0, 1, 2, 3, 4, 5, 6] rfl (bX10_endsOf_80 F hR hx0 hrec hK89 h)
def wX10_endsOf_32 (x0 : Nat) (x1 : Int32) (x2 : Int32) (x3 : Int32) (x4 : Int32) (x5 : Int32) (K89 : Int32 → St → Prop) (Q : Int32 → St → Prop) : Nat → Int32 → Int32 → St → Prop
  | 0, _, _, _ => False
  | n + 1, x6, x7, s =>
  (((6 : Int32) ≤ x7 → K89 x6 s) ∧ (¬ (6 : Int32) ≤ x7 → ((¬ ((x1 >>> (x7 &&& 31)) &&& (1 : Int32)) = (1 : Int32) → wX10_endsOf_79 (wX10_endsOf_32 x0 x1 x2 x3 x4 x5 K89 Q n) (K89) Q x0 x1 x2 x3 x4 x5 x7 x6 s) ∧ (((x1 >>> (x7 &&& 31)) &&& (1 : Int32)) = (1 : Int32) → vp_in x7 12 ∧ (((s.1 (x0 + 3) x7.toNatClampNeg) = x5 → wX10_endsOf_75 (wX10_endsOf_32 x0 x1 x2 x3 x4 x5 K89 Q n) (K89) Q x0 x1 x2 x3 x4 x5 x7 x6 s) ∧ (¬ (s.1 (x0 + 3) x7.toNatClampNeg) = x5 → vp_in x7 12 ∧ ((¬ (s.1 (x0 + 4) x7.toNatClampNeg) = x5 → wX10_endsOf_79 (wX10_endsOf_32 x0 x1 x2 x3 x4 x5 K89 Q n) (K89) Q x0 x1 x2 x3 x4 x5 x7 x6 s) ∧ ((s.1 (x0 + 4) x7.toNatClampNeg) = x5 → wX10_endsOf_75 (wX10_endsOf_32 x0 x1 x2 x3 x4 x5 K89 Q n) (K89) Q x0 x1 x2 x3 x4 x5 x7 x6 s))))))))
set_option maxHeartbeats 4000000 in
set_option maxRecDepth 100000 in
theorem bX10_endsOf_32 {l : Launch} {V : Wv} {X : Mx} {x0 : Nat} {x1 : Int32} {x2 : Int32} {x3 : Int32} {x4 : Int32} {x5 : Int32} {K89 : Int32 → St → Prop} {Q : Int32 → St → Prop} (F : Fx V X cX10_endsOf RX10 10 0) (hR : RtI l V X 10 cX10_endsOf Q) (hx0 : isX10 V x0) (hK89 : ∀ (y6 : Int32) (s : St), K89 y6 s → G l V X 10 89 [(0, rf V x0), (1, .int x1), (2, .int x2), (3, .int x3), (4, .int x4), (5, .int x5), (6, .int y6)] [] s) : ∀ (n : Nat) (x6 : Int32) (x7 : Int32) (s : St), wX10_endsOf_32 x0 x1 x2 x3 x4 x5 K89 Q n x6 x7 s → G l V X 10 32 [(0, rf V x0), (1, .int x1), (2, .int x2), (3, .int x3), (4, .int x4), (5, .int x5), (6, .int x6), (7, .int x7)] [] s := by
  intro n
  induction n with
  | zero => intro x6 x7 s h; unfold wX10_endsOf_32 at h; exact h.elim
  | succ n ih =>
    intro x6 x7 s h
    unfold wX10_endsOf_32 at h
    refine g_iload (pc := 32) F dX10_endsOf_32 7 rfl ?_
    refine g_bipush (pc := 34) F dX10_endsOf_34 bp_6 ?_
    refine g_icmp_ge (pc := 36) F 89 dX10_endsOf_36 (by decide) (fun c => ?_) (fun c => ?_)
    · have h := h.1 c
      exact g_weak [0, 1, 2, 3, 4, 5, 6] rfl (hK89 _ _ h)
    · have h := h.2 c
      refine g_iload (pc := 39) F dX10_endsOf_39 6 rfl ?_
      refine g_iload_n (pc := 41) F dX10_endsOf_41 rfl 1 rfl ?_
      refine g_iload (pc := 42) F dX10_endsOf_42 7 rfl ?_
      refine g_ishr (pc := 44) F dX10_endsOf_44 ?_
      refine g_iconst (pc := 45) F dX10_endsOf_45 ic_1 ?_
      refine g_iand (pc := 46) F dX10_endsOf_46 ?_
      refine g_iconst (pc := 47) F dX10_endsOf_47 ic_1 ?_
      refine g_icmp_ne (pc := 48) F 79 dX10_endsOf_48 (by decide) (fun c => ?_) (fun c => ?_)
      · have h := h.1 c
        exact g_weak [0, 1, 2, 3, 4, 5, 7] rfl (bX10_endsOf_79 F hR hx0 ih hK89 h)
      · have h := h.2 c
        refine g_aload_n (pc := 51) F dX10_endsOf_51 rfl 0 rfl ?_
        refine g_getR (pc := 52) F clX10 hx0.1 10 _ rfl (by decide) uX10_16 dX10_endsOf_52 ?_
        refine g_iload (pc := 55) F dX10_endsOf_55 7 rfl ?_
        obtain ⟨hb_57, h⟩ := h
        refine g_iald (pc := 57) F hx0.2.2.2.1 hb_57 dX10_endsOf_57 ?_
        refine g_iload (pc := 58) F dX10_endsOf_58 5 rfl ?_
        refine g_icmp_eq (pc := 60) F 75 dX10_endsOf_60 (by decide) (fun c => ?_) (fun c => ?_)
        · have h := h.1 c
          exact g_weak [0, 1, 2, 3, 4, 5, 7] rfl (bX10_endsOf_75 F hR hx0 ih hK89 h)
        · have h := h.2 c
          refine g_aload_n (pc := 63) F dX10_endsOf_63 rfl 0 rfl ?_
          refine g_getR (pc := 64) F clX10 hx0.1 11 _ rfl (by decide) uX10_19 dX10_endsOf_64 ?_
          refine g_iload (pc := 67) F dX10_endsOf_67 7 rfl ?_
          obtain ⟨hb_69, h⟩ := h
          refine g_iald (pc := 69) F hx0.2.2.2.2.1 hb_69 dX10_endsOf_69 ?_
          refine g_iload (pc := 70) F dX10_endsOf_70 5 rfl ?_
          refine g_icmp_ne (pc := 72) F 79 dX10_endsOf_72 (by decide) (fun c => ?_) (fun c => ?_)
          · have h := h.1 c
            exact g_weak [0, 1, 2, 3, 4, 5, 7] rfl (bX10_endsOf_79 F hR hx0 ih hK89 h)
          · have h := h.2 c
            exact g_weak [0, 1, 2, 3, 4, 5, 7] rfl (bX10_endsOf_75 F hR hx0 ih hK89 h)
def wX10_endsOf_162 (rec : Int32 → Int32 → Int32 → Int32 → St → Prop) (K169 : Int32 → Int32 → Int32 → St → Prop) (Q : Int32 → St → Prop) (x0 : Nat) (x1 : Int32) (x3 : Int32) (x4 : Int32) (x5 : Int32) (t0 : Int32) (s : St) : Prop :=
  rec t0 x3 x4 (x5 + (1 : Int32)) s
set_option maxHeartbeats 4000000 in
set_option maxRecDepth 100000 in
theorem bX10_endsOf_162 {l : Launch} {V : Wv} {X : Mx} {rec : Int32 → Int32 → Int32 → Int32 → St → Prop} {K169 : Int32 → Int32 → Int32 → St → Prop} {Q : Int32 → St → Prop} {x0 : Nat} {x1 : Int32} {x3 : Int32} {x4 : Int32} {x5 : Int32} {t0 : Int32} (F : Fx V X cX10_endsOf RX10 10 0) (hR : RtI l V X 10 cX10_endsOf Q) (hx0 : isX10 V x0) (hrec : ∀ (y2 : Int32) (y3 : Int32) (y4 : Int32) (y5 : Int32) (s : St), rec y2 y3 y4 y5 s → G l V X 10 20 [(0, rf V x0), (1, .int x1), (2, .int y2), (3, .int y3), (4, .int y4), (5, .int y5)] [] s) (hK169 : ∀ (y2 : Int32) (y3 : Int32) (y4 : Int32) (s : St), K169 y2 y3 y4 s → G l V X 10 169 [(0, rf V x0), (1, .int x1), (2, .int y2), (3, .int y3), (4, .int y4)] [] s) {s : St} (h : wX10_endsOf_162 rec K169 Q x0 x1 x3 x4 x5 t0 s) : G l V X 10 162 [(0, rf V x0), (1, .int x1), (3, .int x3), (4, .int x4), (5, .int x5)] [.int t0] s := by
  unfold wX10_endsOf_162 at h
  refine g_istore_n (pc := 162) (lv' := [(_, _), (_, _), (_, _), (_, _), (_, _), (_, _)]) F dX10_endsOf_162 rfl (by decide) rfl ?_
  refine g_iinc (pc := 163) (lv' := [(_, _), (_, _), (_, _), (_, _), (_, _), (_, _)]) F dX10_endsOf_163 5 rfl (congrArg _ ic_1) (by decide) rfl ?_
  refine g_goto (pc := 166) F 20 dX10_endsOf_166 (by decide) ?_
  exact g_weak [2, 3, 1, 4, 5, 0] rfl (hrec _ _ _ _ _ h)
def wX10_endsOf_161 (rec : Int32 → Int32 → Int32 → Int32 → St → Prop) (K169 : Int32 → Int32 → Int32 → St → Prop) (Q : Int32 → St → Prop) (x0 : Nat) (x1 : Int32) (x2 : Int32) (x3 : Int32) (x4 : Int32) (x5 : Int32) (s : St) : Prop :=
  wX10_endsOf_162 (rec) (K169) Q x0 x1 x3 x4 x5 x2 s
set_option maxHeartbeats 4000000 in
set_option maxRecDepth 100000 in
theorem bX10_endsOf_161 {l : Launch} {V : Wv} {X : Mx} {rec : Int32 → Int32 → Int32 → Int32 → St → Prop} {K169 : Int32 → Int32 → Int32 → St → Prop} {Q : Int32 → St → Prop} {x0 : Nat} {x1 : Int32} {x2 : Int32} {x3 : Int32} {x4 : Int32} {x5 : Int32} (F : Fx V X cX10_endsOf RX10 10 0) (hR : RtI l V X 10 cX10_endsOf Q) (hx0 : isX10 V x0) (hrec : ∀ (y2 : Int32) (y3 : Int32) (y4 : Int32) (y5 : Int32) (s : St), rec y2 y3 y4 y5 s → G l V X 10 20 [(0, rf V x0), (1, .int x1), (2, .int y2), (3, .int y3), (4, .int y4), (5, .int y5)] [] s) (hK169 : ∀ (y2 : Int32) (y3 : Int32) (y4 : Int32) (s : St), K169 y2 y3 y4 s → G l V X 10 169 [(0, rf V x0), (1, .int x1), (2, .int y2), (3, .int y3), (4, .int y4)] [] s) {s : St} (h : wX10_endsOf_161 rec K169 Q x0 x1 x2 x3 x4 x5 s) : G l V X 10 161 [(0, rf V x0), (1, .int x1), (2, .int x2), (3, .int x3), (4, .int x4), (5, .int x5)] [] s := by
  unfold wX10_endsOf_161 at h
  refine g_iload_n (pc := 161) F dX10_endsOf_161 rfl 2 rfl ?_
  exact g_weak [0, 1, 3, 4, 5] rfl (bX10_endsOf_162 F hR hx0 hrec hK169 h)
def wX10_endsOf_143 (rec : Int32 → Int32 → Int32 → Int32 → St → Prop) (K169 : Int32 → Int32 → Int32 → St → Prop) (Q : Int32 → St → Prop) (x0 : Nat) (x1 : Int32) (x2 : Int32) (x4 : Int32) (x5 : Int32) (x6 : Int32) (t0 : Int32) (s : St) : Prop :=
  ((¬ x6 = (1 : Int32) → wX10_endsOf_161 (rec) (K169) Q x0 x1 x2 t0 x4 x5 s) ∧ (x6 = (1 : Int32) → ((¬ x2 = (-9 : Int32) → wX10_endsOf_161 (rec) (K169) Q x0 x1 x2 t0 x4 x5 s) ∧ (x2 = (-9 : Int32) → wX10_endsOf_162 (rec) (K169) Q x0 x1 t0 x4 x5 x5 s))))
set_option maxHeartbeats 4000000 in
set_option maxRecDepth 100000 in
theorem bX10_endsOf_143 {l : Launch} {V : Wv} {X : Mx} {rec : Int32 → Int32 → Int32 → Int32 → St → Prop} {K169 : Int32 → Int32 → Int32 → St → Prop} {Q : Int32 → St → Prop} {x0 : Nat} {x1 : Int32} {x2 : Int32} {x4 : Int32} {x5 : Int32} {x6 : Int32} {t0 : Int32} (F : Fx V X cX10_endsOf RX10 10 0) (hR : RtI l V X 10 cX10_endsOf Q) (hx0 : isX10 V x0) (hrec : ∀ (y2 : Int32) (y3 : Int32) (y4 : Int32) (y5 : Int32) (s : St), rec y2 y3 y4 y5 s → G l V X 10 20 [(0, rf V x0), (1, .int x1), (2, .int y2), (3, .int y3), (4, .int y4), (5, .int y5)] [] s) (hK169 : ∀ (y2 : Int32) (y3 : Int32) (y4 : Int32) (s : St), K169 y2 y3 y4 s → G l V X 10 169 [(0, rf V x0), (1, .int x1), (2, .int y2), (3, .int y3), (4, .int y4)] [] s) {s : St} (h : wX10_endsOf_143 rec K169 Q x0 x1 x2 x4 x5 x6 t0 s) : G l V X 10 143 [(0, rf V x0), (1, .int x1), (2, .int x2), (4, .int x4), (5, .int x5), (6, .int x6)] [.int t0] s := by
  unfold wX10_endsOf_143 at h
  refine g_istore_n (pc := 143) (lv' := [(_, _), (_, _), (_, _), (_, _), (_, _), (_, _), (_, _)]) F dX10_endsOf_143 rfl (by decide) rfl ?_
  refine g_iload (pc := 144) F dX10_endsOf_144 6 rfl ?_
  refine g_iconst (pc := 146) F dX10_endsOf_146 ic_1 ?_
  refine g_icmp_ne (pc := 147) F 161 dX10_endsOf_147 (by decide) (fun c => ?_) (fun c => ?_)
  · have h := h.1 c
    exact g_weak [1, 2, 3, 0, 4, 5] rfl (bX10_endsOf_161 F hR hx0 hrec hK169 h)
  · have h := h.2 c
    refine g_iload_n (pc := 150) F dX10_endsOf_150 rfl 3 rfl ?_
    refine g_bipush (pc := 151) F dX10_endsOf_151 bp_m9 ?_
    refine g_icmp_ne (pc := 153) F 161 dX10_endsOf_153 (by decide) (fun c => ?_) (fun c => ?_)
    · have h := h.1 c
      exact g_weak [1, 2, 3, 0, 4, 5] rfl (bX10_endsOf_161 F hR hx0 hrec hK169 h)
    · have h := h.2 c
      refine g_iload (pc := 156) F dX10_endsOf_156 5 rfl ?_
      refine g_goto (pc := 158) F 162 dX10_endsOf_158 (by decide) ?_
      exact g_weak [1, 2, 0, 4, 5] rfl (bX10_endsOf_162 F hR hx0 hrec hK169 h)
def wX10_endsOf_142 (rec : Int32 → Int32 → Int32 → Int32 → St → Prop) (K169 : Int32 → Int32 → Int32 → St → Prop) (Q : Int32 → St → Prop) (x0 : Nat) (x1 : Int32) (x2 : Int32) (x3 : Int32) (x4 : Int32) (x5 : Int32) (x6 : Int32) (s : St) : Prop :=
  wX10_endsOf_143 (rec) (K169) Q x0 x1 x2 x4 x5 x6 x3 s
set_option maxHeartbeats 4000000 in
set_option maxRecDepth 100000 in
theorem bX10_endsOf_142 {l : Launch} {V : Wv} {X : Mx} {rec : Int32 → Int32 → Int32 → Int32 → St → Prop} {K169 : Int32 → Int32 → Int32 → St → Prop} {Q : Int32 → St → Prop} {x0 : Nat} {x1 : Int32} {x2 : Int32} {x3 : Int32} {x4 : Int32} {x5 : Int32} {x6 : Int32} (F : Fx V X cX10_endsOf RX10 10 0) (hR : RtI l V X 10 cX10_endsOf Q) (hx0 : isX10 V x0) (hrec : ∀ (y2 : Int32) (y3 : Int32) (y4 : Int32) (y5 : Int32) (s : St), rec y2 y3 y4 y5 s → G l V X 10 20 [(0, rf V x0), (1, .int x1), (2, .int y2), (3, .int y3), (4, .int y4), (5, .int y5)] [] s) (hK169 : ∀ (y2 : Int32) (y3 : Int32) (y4 : Int32) (s : St), K169 y2 y3 y4 s → G l V X 10 169 [(0, rf V x0), (1, .int x1), (2, .int y2), (3, .int y3), (4, .int y4)] [] s) {s : St} (h : wX10_endsOf_142 rec K169 Q x0 x1 x2 x3 x4 x5 x6 s) : G l V X 10 142 [(0, rf V x0), (1, .int x1), (2, .int x2), (3, .int x3), (4, .int x4), (5, .int x5), (6, .int x6)] [] s := by
  unfold wX10_endsOf_142 at h
  refine g_iload_n (pc := 142) F dX10_endsOf_142 rfl 3 rfl ?_
  exact g_weak [0, 1, 2, 4, 5, 6] rfl (bX10_endsOf_143 F hR hx0 hrec hK169 h)
def wX10_endsOf_117 (rec : Int32 → Int32 → Int32 → Int32 → St → Prop) (K169 : Int32 → Int32 → Int32 → St → Prop) (Q : Int32 → St → Prop) (x0 : Nat) (x1 : Int32) (x2 : Int32) (x3 : Int32) (x5 : Int32) (x6 : Int32) (t0 : Int32) (s : St) : Prop :=
  ((¬ x6 = (1 : Int32) → wX10_endsOf_142 (rec) (K169) Q x0 x1 x2 x3 t0 x5 x6 s) ∧ (x6 = (1 : Int32) → ((x2 = (-9 : Int32) → wX10_endsOf_142 (rec) (K169) Q x0 x1 x2 x3 t0 x5 x6 s) ∧ (¬ x2 = (-9 : Int32) → ((¬ x3 = (-9 : Int32) → wX10_endsOf_142 (rec) (K169) Q x0 x1 x2 x3 t0 x5 x6 s) ∧ (x3 = (-9 : Int32) → wX10_endsOf_143 (rec) (K169) Q x0 x1 x2 t0 x5 x6 x5 s))))))
set_option maxHeartbeats 4000000 in
set_option maxRecDepth 100000 in
theorem bX10_endsOf_117 {l : Launch} {V : Wv} {X : Mx} {rec : Int32 → Int32 → Int32 → Int32 → St → Prop} {K169 : Int32 → Int32 → Int32 → St → Prop} {Q : Int32 → St → Prop} {x0 : Nat} {x1 : Int32} {x2 : Int32} {x3 : Int32} {x5 : Int32} {x6 : Int32} {t0 : Int32} (F : Fx V X cX10_endsOf RX10 10 0) (hR : RtI l V X 10 cX10_endsOf Q) (hx0 : isX10 V x0) (hrec : ∀ (y2 : Int32) (y3 : Int32) (y4 : Int32) (y5 : Int32) (s : St), rec y2 y3 y4 y5 s → G l V X 10 20 [(0, rf V x0), (1, .int x1), (2, .int y2), (3, .int y3), (4, .int y4), (5, .int y5)] [] s) (hK169 : ∀ (y2 : Int32) (y3 : Int32) (y4 : Int32) (s : St), K169 y2 y3 y4 s → G l V X 10 169 [(0, rf V x0), (1, .int x1), (2, .int y2), (3, .int y3), (4, .int y4)] [] s) {s : St} (h : wX10_endsOf_117 rec K169 Q x0 x1 x2 x3 x5 x6 t0 s) : G l V X 10 117 [(0, rf V x0), (1, .int x1), (2, .int x2), (3, .int x3), (5, .int x5), (6, .int x6)] [.int t0] s := by
  unfold wX10_endsOf_117 at h
  refine g_istore (pc := 117) (lv' := [(_, _), (_, _), (_, _), (_, _), (_, _), (_, _), (_, _)]) F dX10_endsOf_117 (by decide) rfl ?_
  refine g_iload (pc := 119) F dX10_endsOf_119 6 rfl ?_
  refine g_iconst (pc := 121) F dX10_endsOf_121 ic_1 ?_
  refine g_icmp_ne (pc := 122) F 142 dX10_endsOf_122 (by decide) (fun c => ?_) (fun c => ?_)
  · have h := h.1 c
    exact g_weak [1, 2, 3, 4, 0, 5, 6] rfl (bX10_endsOf_142 F hR hx0 hrec hK169 h)
  · have h := h.2 c
    refine g_iload_n (pc := 125) F dX10_endsOf_125 rfl 3 rfl ?_
    refine g_bipush (pc := 126) F dX10_endsOf_126 bp_m9 ?_
    refine g_icmp_eq (pc := 128) F 142 dX10_endsOf_128 (by decide) (fun c => ?_) (fun c => ?_)
    · have h := h.1 c
      exact g_weak [1, 2, 3, 4, 0, 5, 6] rfl (bX10_endsOf_142 F hR hx0 hrec hK169 h)
    · have h := h.2 c
      refine g_iload_n (pc := 131) F dX10_endsOf_131 rfl 4 rfl ?_
      refine g_bipush (pc := 132) F dX10_endsOf_132 bp_m9 ?_
      refine g_icmp_ne (pc := 134) F 142 dX10_endsOf_134 (by decide) (fun c => ?_) (fun c => ?_)
      · have h := h.1 c
        exact g_weak [1, 2, 3, 4, 0, 5, 6] rfl (bX10_endsOf_142 F hR hx0 hrec hK169 h)
      · have h := h.2 c
        refine g_iload (pc := 137) F dX10_endsOf_137 5 rfl ?_
        refine g_goto (pc := 139) F 143 dX10_endsOf_139 (by decide) ?_
        exact g_weak [1, 2, 3, 0, 5, 6] rfl (bX10_endsOf_143 F hR hx0 hrec hK169 h)
def wX10_endsOf_116 (rec : Int32 → Int32 → Int32 → Int32 → St → Prop) (K169 : Int32 → Int32 → Int32 → St → Prop) (Q : Int32 → St → Prop) (x0 : Nat) (x1 : Int32) (x2 : Int32) (x3 : Int32) (x5 : Int32) (x6 : Int32) (s : St) : Prop :=
  wX10_endsOf_117 (rec) (K169) Q x0 x1 x2 x3 x5 x6 (0 : Int32) s
set_option maxHeartbeats 4000000 in
set_option maxRecDepth 100000 in
theorem bX10_endsOf_116 {l : Launch} {V : Wv} {X : Mx} {rec : Int32 → Int32 → Int32 → Int32 → St → Prop} {K169 : Int32 → Int32 → Int32 → St → Prop} {Q : Int32 → St → Prop} {x0 : Nat} {x1 : Int32} {x2 : Int32} {x3 : Int32} {x5 : Int32} {x6 : Int32} (F : Fx V X cX10_endsOf RX10 10 0) (hR : RtI l V X 10 cX10_endsOf Q) (hx0 : isX10 V x0) (hrec : ∀ (y2 : Int32) (y3 : Int32) (y4 : Int32) (y5 : Int32) (s : St), rec y2 y3 y4 y5 s → G l V X 10 20 [(0, rf V x0), (1, .int x1), (2, .int y2), (3, .int y3), (4, .int y4), (5, .int y5)] [] s) (hK169 : ∀ (y2 : Int32) (y3 : Int32) (y4 : Int32) (s : St), K169 y2 y3 y4 s → G l V X 10 169 [(0, rf V x0), (1, .int x1), (2, .int y2), (3, .int y3), (4, .int y4)] [] s) {s : St} (h : wX10_endsOf_116 rec K169 Q x0 x1 x2 x3 x5 x6 s) : G l V X 10 116 [(0, rf V x0), (1, .int x1), (2, .int x2), (3, .int x3), (5, .int x5), (6, .int x6)] [] s := by
  unfold wX10_endsOf_116 at h
  refine g_iconst (pc := 116) F dX10_endsOf_116 ic_0 ?_
  exact g_weak [0, 1, 2, 3, 4, 5] rfl (bX10_endsOf_117 F hR hx0 hrec hK169 h)
def wX10_endsOf_112 (rec : Int32 → Int32 → Int32 → Int32 → St → Prop) (K169 : Int32 → Int32 → Int32 → St → Prop) (Q : Int32 → St → Prop) (x0 : Nat) (x1 : Int32) (x2 : Int32) (x3 : Int32) (x5 : Int32) (x6 : Int32) (s : St) : Prop :=
  wX10_endsOf_117 (rec) (K169) Q x0 x1 x2 x3 x5 x6 (1 : Int32) s
set_option maxHeartbeats 4000000 in
set_option maxRecDepth 100000 in
theorem bX10_endsOf_112 {l : Launch} {V : Wv} {X : Mx} {rec : Int32 → Int32 → Int32 → Int32 → St → Prop} {K169 : Int32 → Int32 → Int32 → St → Prop} {Q : Int32 → St → Prop} {x0 : Nat} {x1 : Int32} {x2 : Int32} {x3 : Int32} {x5 : Int32} {x6 : Int32} (F : Fx V X cX10_endsOf RX10 10 0) (hR : RtI l V X 10 cX10_endsOf Q) (hx0 : isX10 V x0) (hrec : ∀ (y2 : Int32) (y3 : Int32) (y4 : Int32) (y5 : Int32) (s : St), rec y2 y3 y4 y5 s → G l V X 10 20 [(0, rf V x0), (1, .int x1), (2, .int y2), (3, .int y3), (4, .int y4), (5, .int y5)] [] s) (hK169 : ∀ (y2 : Int32) (y3 : Int32) (y4 : Int32) (s : St), K169 y2 y3 y4 s → G l V X 10 169 [(0, rf V x0), (1, .int x1), (2, .int y2), (3, .int y3), (4, .int y4)] [] s) {s : St} (h : wX10_endsOf_112 rec K169 Q x0 x1 x2 x3 x5 x6 s) : G l V X 10 112 [(0, rf V x0), (1, .int x1), (2, .int x2), (3, .int x3), (5, .int x5), (6, .int x6)] [] s := by
  unfold wX10_endsOf_112 at h
  refine g_iconst (pc := 112) F dX10_endsOf_112 ic_1 ?_
  refine g_goto (pc := 113) F 117 dX10_endsOf_113 (by decide) ?_
  exact g_weak [0, 1, 2, 3, 4, 5] rfl (bX10_endsOf_117 F hR hx0 hrec hK169 h)
def wX10_endsOf_20 (x0 : Nat) (x1 : Int32) (K169 : Int32 → Int32 → Int32 → St → Prop) (Q : Int32 → St → Prop) : Nat → Int32 → Int32 → Int32 → Int32 → St → Prop
  | 0, _, _, _, _, _ => False
  | n + 1, x2, x3, x4, x5, s =>
  (((5 : Int32) ≤ x5 → K169 x2 x3 x4 s) ∧ (¬ (5 : Int32) ≤ x5 → (∃ k_32, wX10_endsOf_32  x0 x1 x2 x3 x4 x5 (fun x6_89 s_k89 => ((x4 = 0 → wX10_endsOf_116 (wX10_endsOf_20 x0 x1 K169 Q n) (K169) Q x0 x1 x2 x3 x5 x6_89 s_k89) ∧ (¬ x4 = 0 → (((3 : Int32) ≤ x6_89 → wX10_endsOf_116 (wX10_endsOf_20 x0 x1 K169 Q n) (K169) Q x0 x1 x2 x3 x5 x6_89 s_k89) ∧ (¬ (3 : Int32) ≤ x6_89 → ((¬ x6_89 = (1 : Int32) → wX10_endsOf_112 (wX10_endsOf_20 x0 x1 K169 Q n) (K169) Q x0 x1 x2 x3 x5 x6_89 s_k89) ∧ (x6_89 = (1 : Int32) → ((¬ x3 = (-9 : Int32) → wX10_endsOf_116 (wX10_endsOf_20 x0 x1 K169 Q n) (K169) Q x0 x1 x2 x3 x5 x6_89 s_k89) ∧ (x3 = (-9 : Int32) → wX10_endsOf_112 (wX10_endsOf_20 x0 x1 K169 Q n) (K169) Q x0 x1 x2 x3 x5 x6_89 s_k89))))))))) Q k_32 (0 : Int32) (0 : Int32) s)))
set_option maxHeartbeats 4000000 in
set_option maxRecDepth 100000 in
theorem bX10_endsOf_20 {l : Launch} {V : Wv} {X : Mx} {x0 : Nat} {x1 : Int32} {K169 : Int32 → Int32 → Int32 → St → Prop} {Q : Int32 → St → Prop} (F : Fx V X cX10_endsOf RX10 10 0) (hR : RtI l V X 10 cX10_endsOf Q) (hx0 : isX10 V x0) (hK169 : ∀ (y2 : Int32) (y3 : Int32) (y4 : Int32) (s : St), K169 y2 y3 y4 s → G l V X 10 169 [(0, rf V x0), (1, .int x1), (2, .int y2), (3, .int y3), (4, .int y4)] [] s) : ∀ (n : Nat) (x2 : Int32) (x3 : Int32) (x4 : Int32) (x5 : Int32) (s : St), wX10_endsOf_20 x0 x1 K169 Q n x2 x3 x4 x5 s → G l V X 10 20 [(0, rf V x0), (1, .int x1), (2, .int x2), (3, .int x3), (4, .int x4), (5, .int x5)] [] s := by
  intro n
  induction n with
  | zero => intro x2 x3 x4 x5 s h; unfold wX10_endsOf_20 at h; exact h.elim
  | succ n ih =>
    intro x2 x3 x4 x5 s h
    unfold wX10_endsOf_20 at h
    refine g_iload (pc := 20) F dX10_endsOf_20 5 rfl ?_
    refine g_iconst (pc := 22) F dX10_endsOf_22 ic_5 ?_
    refine g_icmp_ge (pc := 23) F 169 dX10_endsOf_23 (by decide) (fun c => ?_) (fun c => ?_)
    · have h := h.1 c
      exact g_weak [0, 1, 2, 3, 4] rfl (hK169 _ _ _ _ h)
    · have h := h.2 c
      refine g_iconst (pc := 26) F dX10_endsOf_26 ic_0 ?_
      refine g_istore (pc := 27) (lv' := [(_, _), (_, _), (_, _), (_, _), (_, _), (_, _), (_, _)]) F dX10_endsOf_27 (by decide) rfl ?_
      refine g_iconst (pc := 29) F dX10_endsOf_29 ic_0 ?_
      refine g_istore (pc := 30) (lv' := [(_, _), (_, _), (_, _), (_, _), (_, _), (_, _), (_, _), (_, _)]) F dX10_endsOf_30 (by decide) rfl ?_
      obtain ⟨k_32, h⟩ := h
      refine g_weak [2, 3, 4, 5, 6, 7, 1, 0] rfl (bX10_endsOf_32 F hR hx0 (fun x6_89 s_k89 h => ?_) k_32 _ _ _ h)
      · refine g_iload (pc := 89) F dX10_endsOf_89 4 rfl ?_
        refine g_if_eq (pc := 91) F 116 dX10_endsOf_91 (by decide) (fun c => ?_) (fun c => ?_)
        · have h := h.1 c
          exact g_weak [0, 1, 2, 3, 5, 6] rfl (bX10_endsOf_116 F hR hx0 ih hK169 h)
        · have h := h.2 c
          refine g_iload (pc := 94) F dX10_endsOf_94 6 rfl ?_
          refine g_iconst (pc := 96) F dX10_endsOf_96 ic_3 ?_
          refine g_icmp_ge (pc := 97) F 116 dX10_endsOf_97 (by decide) (fun c => ?_) (fun c => ?_)
          · have h := h.1 c
            exact g_weak [0, 1, 2, 3, 5, 6] rfl (bX10_endsOf_116 F hR hx0 ih hK169 h)
          · have h := h.2 c
            refine g_iload (pc := 100) F dX10_endsOf_100 6 rfl ?_
            refine g_iconst (pc := 102) F dX10_endsOf_102 ic_1 ?_
            refine g_icmp_ne (pc := 103) F 112 dX10_endsOf_103 (by decide) (fun c => ?_) (fun c => ?_)
            · have h := h.1 c
              exact g_weak [0, 1, 2, 3, 5, 6] rfl (bX10_endsOf_112 F hR hx0 ih hK169 h)
            · have h := h.2 c
              refine g_iload_n (pc := 106) F dX10_endsOf_106 rfl 3 rfl ?_
              refine g_bipush (pc := 107) F dX10_endsOf_107 bp_m9 ?_
              refine g_icmp_ne (pc := 109) F 116 dX10_endsOf_109 (by decide) (fun c => ?_) (fun c => ?_)
              · have h := h.1 c
                exact g_weak [0, 1, 2, 3, 5, 6] rfl (bX10_endsOf_116 F hR hx0 ih hK169 h)
              · have h := h.2 c
                exact g_weak [0, 1, 2, 3, 5, 6] rfl (bX10_endsOf_112 F hR hx0 ih hK169 h)
def wX10_endsOf_254 (rec : Int32 → Int32 → St → Prop) (K262 : Int32 → St → Prop) (Q : Int32 → St → Prop) (x0 : Nat) (x2 : Int32) (x3 : Int32) (x5 : Int32) (x6 : Int32) (x7 : Int32) (x9 : Int32) (t0 : Int32) (s : St) : Prop :=
  rec t0 (x9 + (1 : Int32)) s
set_option maxHeartbeats 4000000 in
set_option maxRecDepth 100000 in
theorem bX10_endsOf_254 {l : Launch} {V : Wv} {X : Mx} {rec : Int32 → Int32 → St → Prop} {K262 : Int32 → St → Prop} {Q : Int32 → St → Prop} {x0 : Nat} {x2 : Int32} {x3 : Int32} {x5 : Int32} {x6 : Int32} {x7 : Int32} {x9 : Int32} {t0 : Int32} (F : Fx V X cX10_endsOf RX10 10 0) (hR : RtI l V X 10 cX10_endsOf Q) (hx0 : isX10 V x0) (hrec : ∀ (y8 : Int32) (y9 : Int32) (s : St), rec y8 y9 s → G l V X 10 205 [(0, rf V x0), (2, .int x2), (3, .int x3), (5, .int x5), (6, .int x6), (7, .int x7), (8, .int y8), (9, .int y9)] [] s) (hK262 : ∀ (y8 : Int32) (s : St), K262 y8 s → G l V X 10 262 [(0, rf V x0), (2, .int x2), (3, .int x3), (5, .int x5), (6, .int x6), (7, .int x7), (8, .int y8)] [] s) {s : St} (h : wX10_endsOf_254 rec K262 Q x0 x2 x3 x5 x6 x7 x9 t0 s) : G l V X 10 254 [(0, rf V x0), (2, .int x2), (3, .int x3), (5, .int x5), (6, .int x6), (7, .int x7), (9, .int x9)] [.int t0] s := by
  unfold wX10_endsOf_254 at h
  refine g_istore (pc := 254) (lv' := [(_, _), (_, _), (_, _), (_, _), (_, _), (_, _), (_, _), (_, _)]) F dX10_endsOf_254 (by decide) rfl ?_
  refine g_iinc (pc := 256) (lv' := [(_, _), (_, _), (_, _), (_, _), (_, _), (_, _), (_, _), (_, _)]) F dX10_endsOf_256 7 rfl (congrArg _ ic_1) (by decide) rfl ?_
  refine g_goto (pc := 259) F 205 dX10_endsOf_259 (by decide) ?_
  exact g_weak [2, 3, 4, 5, 6, 7, 1, 0] rfl (hrec _ _ _ h)
def wX10_endsOf_252 (rec : Int32 → Int32 → St → Prop) (K262 : Int32 → St → Prop) (Q : Int32 → St → Prop) (x0 : Nat) (x2 : Int32) (x3 : Int32) (x5 : Int32) (x6 : Int32) (x7 : Int32) (x8 : Int32) (x9 : Int32) (s : St) : Prop :=
  wX10_endsOf_254 (rec) (K262) Q x0 x2 x3 x5 x6 x7 x9 x8 s
set_option maxHeartbeats 4000000 in
set_option maxRecDepth 100000 in
theorem bX10_endsOf_252 {l : Launch} {V : Wv} {X : Mx} {rec : Int32 → Int32 → St → Prop} {K262 : Int32 → St → Prop} {Q : Int32 → St → Prop} {x0 : Nat} {x2 : Int32} {x3 : Int32} {x5 : Int32} {x6 : Int32} {x7 : Int32} {x8 : Int32} {x9 : Int32} (F : Fx V X cX10_endsOf RX10 10 0) (hR : RtI l V X 10 cX10_endsOf Q) (hx0 : isX10 V x0) (hrec : ∀ (y8 : Int32) (y9 : Int32) (s : St), rec y8 y9 s → G l V X 10 205 [(0, rf V x0), (2, .int x2), (3, .int x3), (5, .int x5), (6, .int x6), (7, .int x7), (8, .int y8), (9, .int y9)] [] s) (hK262 : ∀ (y8 : Int32) (s : St), K262 y8 s → G l V X 10 262 [(0, rf V x0), (2, .int x2), (3, .int x3), (5, .int x5), (6, .int x6), (7, .int x7), (8, .int y8)] [] s) {s : St} (h : wX10_endsOf_252 rec K262 Q x0 x2 x3 x5 x6 x7 x8 x9 s) : G l V X 10 252 [(0, rf V x0), (2, .int x2), (3, .int x3), (5, .int x5), (6, .int x6), (7, .int x7), (8, .int x8), (9, .int x9)] [] s := by
  unfold wX10_endsOf_252 at h
  refine g_iload (pc := 252) F dX10_endsOf_252 6 rfl ?_
  exact g_weak [0, 1, 2, 3, 4, 5, 7] rfl (bX10_endsOf_254 F hR hx0 hrec hK262 h)
def wX10_endsOf_247 (rec : Int32 → Int32 → St → Prop) (K262 : Int32 → St → Prop) (Q : Int32 → St → Prop) (x0 : Nat) (x2 : Int32) (x3 : Int32) (x5 : Int32) (x6 : Int32) (x7 : Int32) (x9 : Int32) (s : St) : Prop :=
  wX10_endsOf_254 (rec) (K262) Q x0 x2 x3 x5 x6 x7 x9 x9 s
set_option maxHeartbeats 4000000 in
set_option maxRecDepth 100000 in
theorem bX10_endsOf_247 {l : Launch} {V : Wv} {X : Mx} {rec : Int32 → Int32 → St → Prop} {K262 : Int32 → St → Prop} {Q : Int32 → St → Prop} {x0 : Nat} {x2 : Int32} {x3 : Int32} {x5 : Int32} {x6 : Int32} {x7 : Int32} {x9 : Int32} (F : Fx V X cX10_endsOf RX10 10 0) (hR : RtI l V X 10 cX10_endsOf Q) (hx0 : isX10 V x0) (hrec : ∀ (y8 : Int32) (y9 : Int32) (s : St), rec y8 y9 s → G l V X 10 205 [(0, rf V x0), (2, .int x2), (3, .int x3), (5, .int x5), (6, .int x6), (7, .int x7), (8, .int y8), (9, .int y9)] [] s) (hK262 : ∀ (y8 : Int32) (s : St), K262 y8 s → G l V X 10 262 [(0, rf V x0), (2, .int x2), (3, .int x3), (5, .int x5), (6, .int x6), (7, .int x7), (8, .int y8)] [] s) {s : St} (h : wX10_endsOf_247 rec K262 Q x0 x2 x3 x5 x6 x7 x9 s) : G l V X 10 247 [(0, rf V x0), (2, .int x2), (3, .int x3), (5, .int x5), (6, .int x6), (7, .int x7), (9, .int x9)] [] s := by
  unfold wX10_endsOf_247 at h
  refine g_iload (pc := 247) F dX10_endsOf_247 6 rfl ?_
  refine g_goto (pc := 249) F 254 dX10_endsOf_249 (by decide) ?_
  exact g_weak [0, 1, 2, 3, 4, 5, 6] rfl (bX10_endsOf_254 F hR hx0 hrec hK262 h)
def wX10_endsOf_205 (x0 : Nat) (x2 : Int32) (x3 : Int32) (x5 : Int32) (x6 : Int32) (x7 : Int32) (K262 : Int32 → St → Prop) (Q : Int32 → St → Prop) : Nat → Int32 → Int32 → St → Prop
  | 0, _, _, _ => False
  | n + 1, x8, x9, s =>
  (((6 : Int32) ≤ x9 → K262 x8 s) ∧ (¬ (6 : Int32) ≤ x9 → ((¬ ((x5 >>> (x9 &&& 31)) &&& (1 : Int32)) = (1 : Int32) → wX10_endsOf_252 (wX10_endsOf_205 x0 x2 x3 x5 x6 x7 K262 Q n) (K262) Q x0 x2 x3 x5 x6 x7 x8 x9 s) ∧ (((x5 >>> (x9 &&& 31)) &&& (1 : Int32)) = (1 : Int32) → vp_in x9 12 ∧ (((s.1 (x0 + 3) x9.toNatClampNeg) = x6 → wX10_endsOf_247 (wX10_endsOf_205 x0 x2 x3 x5 x6 x7 K262 Q n) (K262) Q x0 x2 x3 x5 x6 x7 x9 s) ∧ (¬ (s.1 (x0 + 3) x9.toNatClampNeg) = x6 → vp_in x9 12 ∧ ((¬ (s.1 (x0 + 4) x9.toNatClampNeg) = x6 → wX10_endsOf_252 (wX10_endsOf_205 x0 x2 x3 x5 x6 x7 K262 Q n) (K262) Q x0 x2 x3 x5 x6 x7 x8 x9 s) ∧ ((s.1 (x0 + 4) x9.toNatClampNeg) = x6 → wX10_endsOf_247 (wX10_endsOf_205 x0 x2 x3 x5 x6 x7 K262 Q n) (K262) Q x0 x2 x3 x5 x6 x7 x9 s))))))))
set_option maxHeartbeats 4000000 in
set_option maxRecDepth 100000 in
theorem bX10_endsOf_205 {l : Launch} {V : Wv} {X : Mx} {x0 : Nat} {x2 : Int32} {x3 : Int32} {x5 : Int32} {x6 : Int32} {x7 : Int32} {K262 : Int32 → St → Prop} {Q : Int32 → St → Prop} (F : Fx V X cX10_endsOf RX10 10 0) (hR : RtI l V X 10 cX10_endsOf Q) (hx0 : isX10 V x0) (hK262 : ∀ (y8 : Int32) (s : St), K262 y8 s → G l V X 10 262 [(0, rf V x0), (2, .int x2), (3, .int x3), (5, .int x5), (6, .int x6), (7, .int x7), (8, .int y8)] [] s) : ∀ (n : Nat) (x8 : Int32) (x9 : Int32) (s : St), wX10_endsOf_205 x0 x2 x3 x5 x6 x7 K262 Q n x8 x9 s → G l V X 10 205 [(0, rf V x0), (2, .int x2), (3, .int x3), (5, .int x5), (6, .int x6), (7, .int x7), (8, .int x8), (9, .int x9)] [] s := by
  intro n
  induction n with
  | zero => intro x8 x9 s h; unfold wX10_endsOf_205 at h; exact h.elim
  | succ n ih =>
    intro x8 x9 s h
    unfold wX10_endsOf_205 at h
    refine g_iload (pc := 205) F dX10_endsOf_205 7 rfl ?_
    refine g_bipush (pc := 207) F dX10_endsOf_207 bp_6 ?_
    refine g_icmp_ge (pc := 209) F 262 dX10_endsOf_209 (by decide) (fun c => ?_) (fun c => ?_)
    · have h := h.1 c
      exact g_weak [0, 1, 2, 3, 4, 5, 6] rfl (hK262 _ _ h)
    · have h := h.2 c
      refine g_iload (pc := 212) F dX10_endsOf_212 3 rfl ?_
      refine g_iload (pc := 214) F dX10_endsOf_214 7 rfl ?_
      refine g_ishr (pc := 216) F dX10_endsOf_216 ?_
      refine g_iconst (pc := 217) F dX10_endsOf_217 ic_1 ?_
      refine g_iand (pc := 218) F dX10_endsOf_218 ?_
      refine g_iconst (pc := 219) F dX10_endsOf_219 ic_1 ?_
      refine g_icmp_ne (pc := 220) F 252 dX10_endsOf_220 (by decide) (fun c => ?_) (fun c => ?_)
      · have h := h.1 c
        exact g_weak [0, 1, 2, 3, 4, 5, 6, 7] rfl (bX10_endsOf_252 F hR hx0 ih hK262 h)
      · have h := h.2 c
        refine g_aload_n (pc := 223) F dX10_endsOf_223 rfl 0 rfl ?_
        refine g_getR (pc := 224) F clX10 hx0.1 10 _ rfl (by decide) uX10_16 dX10_endsOf_224 ?_
        refine g_iload (pc := 227) F dX10_endsOf_227 7 rfl ?_
        obtain ⟨hb_229, h⟩ := h
        refine g_iald (pc := 229) F hx0.2.2.2.1 hb_229 dX10_endsOf_229 ?_
        refine g_iload (pc := 230) F dX10_endsOf_230 4 rfl ?_
        refine g_icmp_eq (pc := 232) F 247 dX10_endsOf_232 (by decide) (fun c => ?_) (fun c => ?_)
        · have h := h.1 c
          exact g_weak [0, 1, 2, 3, 4, 5, 7] rfl (bX10_endsOf_247 F hR hx0 ih hK262 h)
        · have h := h.2 c
          refine g_aload_n (pc := 235) F dX10_endsOf_235 rfl 0 rfl ?_
          refine g_getR (pc := 236) F clX10 hx0.1 11 _ rfl (by decide) uX10_19 dX10_endsOf_236 ?_
          refine g_iload (pc := 239) F dX10_endsOf_239 7 rfl ?_
          obtain ⟨hb_241, h⟩ := h
          refine g_iald (pc := 241) F hx0.2.2.2.2.1 hb_241 dX10_endsOf_241 ?_
          refine g_iload (pc := 242) F dX10_endsOf_242 4 rfl ?_
          refine g_icmp_ne (pc := 244) F 252 dX10_endsOf_244 (by decide) (fun c => ?_) (fun c => ?_)
          · have h := h.1 c
            exact g_weak [0, 1, 2, 3, 4, 5, 6, 7] rfl (bX10_endsOf_252 F hR hx0 ih hK262 h)
          · have h := h.2 c
            exact g_weak [0, 1, 2, 3, 4, 5, 7] rfl (bX10_endsOf_247 F hR hx0 ih hK262 h)
def wX10_endsOf_311 (rec : Int32 → Int32 → Int32 → St → Prop) (K317 : Int32 → St → Prop) (Q : Int32 → St → Prop) (x0 : Nat) (x2 : Int32) (x3 : Int32) (x5 : Int32) (x6 : Int32) (x7 : Int32) (s : St) : Prop :=
  rec x5 x6 (x7 + (1 : Int32)) s
set_option maxHeartbeats 4000000 in
set_option maxRecDepth 100000 in
theorem bX10_endsOf_311 {l : Launch} {V : Wv} {X : Mx} {rec : Int32 → Int32 → Int32 → St → Prop} {K317 : Int32 → St → Prop} {Q : Int32 → St → Prop} {x0 : Nat} {x2 : Int32} {x3 : Int32} {x5 : Int32} {x6 : Int32} {x7 : Int32} (F : Fx V X cX10_endsOf RX10 10 0) (hR : RtI l V X 10 cX10_endsOf Q) (hx0 : isX10 V x0) (hrec : ∀ (y5 : Int32) (y6 : Int32) (y7 : Int32) (s : St), rec y5 y6 y7 s → G l V X 10 191 [(0, rf V x0), (2, .int x2), (3, .int x3), (5, .int y5), (6, .int y6), (7, .int y7)] [] s) (hK317 : ∀ (y5 : Int32) (s : St), K317 y5 s → G l V X 10 317 [(2, .int x2), (3, .int x3), (5, .int y5)] [] s) {s : St} (h : wX10_endsOf_311 rec K317 Q x0 x2 x3 x5 x6 x7 s) : G l V X 10 311 [(0, rf V x0), (2, .int x2), (3, .int x3), (5, .int x5), (6, .int x6), (7, .int x7)] [] s := by
  unfold wX10_endsOf_311 at h
  refine g_iinc (pc := 311) (lv' := [(_, _), (_, _), (_, _), (_, _), (_, _), (_, _)]) F dX10_endsOf_311 5 rfl (congrArg _ ic_1) (by decide) rfl ?_
  refine g_goto (pc := 314) F 191 dX10_endsOf_314 (by decide) ?_
  exact g_weak [1, 2, 3, 4, 5, 0] rfl (hrec _ _ _ _ h)
def wX10_endsOf_309 (rec : Int32 → Int32 → Int32 → St → Prop) (K317 : Int32 → St → Prop) (Q : Int32 → St → Prop) (x0 : Nat) (x2 : Int32) (x3 : Int32) (x5 : Int32) (x7 : Int32) (t0 : Int32) (s : St) : Prop :=
  wX10_endsOf_311 (rec) (K317) Q x0 x2 x3 x5 t0 x7 s
set_option maxHeartbeats 4000000 in
set_option maxRecDepth 100000 in
theorem bX10_endsOf_309 {l : Launch} {V : Wv} {X : Mx} {rec : Int32 → Int32 → Int32 → St → Prop} {K317 : Int32 → St → Prop} {Q : Int32 → St → Prop} {x0 : Nat} {x2 : Int32} {x3 : Int32} {x5 : Int32} {x7 : Int32} {t0 : Int32} (F : Fx V X cX10_endsOf RX10 10 0) (hR : RtI l V X 10 cX10_endsOf Q) (hx0 : isX10 V x0) (hrec : ∀ (y5 : Int32) (y6 : Int32) (y7 : Int32) (s : St), rec y5 y6 y7 s → G l V X 10 191 [(0, rf V x0), (2, .int x2), (3, .int x3), (5, .int y5), (6, .int y6), (7, .int y7)] [] s) (hK317 : ∀ (y5 : Int32) (s : St), K317 y5 s → G l V X 10 317 [(2, .int x2), (3, .int x3), (5, .int y5)] [] s) {s : St} (h : wX10_endsOf_309 rec K317 Q x0 x2 x3 x5 x7 t0 s) : G l V X 10 309 [(0, rf V x0), (2, .int x2), (3, .int x3), (5, .int x5), (7, .int x7)] [.int t0] s := by
  unfold wX10_endsOf_309 at h
  refine g_istore (pc := 309) (lv' := [(_, _), (_, _), (_, _), (_, _), (_, _), (_, _)]) F dX10_endsOf_309 (by decide) rfl ?_
  exact g_weak [1, 2, 3, 4, 0, 5] rfl (bX10_endsOf_311 F hR hx0 hrec hK317 h)
def wX10_endsOf_191 (x0 : Nat) (x2 : Int32) (x3 : Int32) (K317 : Int32 → St → Prop) (Q : Int32 → St → Prop) : Nat → Int32 → Int32 → Int32 → St → Prop
  | 0, _, _, _, _ => False
  | n + 1, x5, x6, x7, s =>
  (((6 : Int32) ≤ x7 → K317 x5 s) ∧ (¬ (6 : Int32) ≤ x7 → (∃ k_205, wX10_endsOf_205  x0 x2 x3 x5 x6 x7 (fun x8_262 s_k262 => ((x8_262 = (-9 : Int32) → wX10_endsOf_311 (wX10_endsOf_191 x0 x2 x3 K317 Q n) (K317) Q x0 x2 x3 x5 x6 x7 s_k262) ∧ (¬ x8_262 = (-9 : Int32) → vp_in x8_262 12 ∧ ((¬ (s_k262.1 (x0 + 3) x8_262.toNatClampNeg) = x6 → vp_in x8_262 12 ∧ wX10_endsOf_309 (wX10_endsOf_191 x0 x2 x3 K317 Q n) (K317) Q x0 x2 x3 (x5 &&& (((1 : Int32) <<< (x8_262 &&& 31)) ^^^ (-1 : Int32))) x7 (s_k262.1 (x0 + 3) x8_262.toNatClampNeg) s_k262) ∧ ((s_k262.1 (x0 + 3) x8_262.toNatClampNeg) = x6 → vp_in x8_262 12 ∧ wX10_endsOf_309 (wX10_endsOf_191 x0 x2 x3 K317 Q n) (K317) Q x0 x2 x3 (x5 &&& (((1 : Int32) <<< (x8_262 &&& 31)) ^^^ (-1 : Int32))) x7 (s_k262.1 (x0 + 4) x8_262.toNatClampNeg) s_k262))))) Q k_205 (-9 : Int32) (0 : Int32) s)))
set_option maxHeartbeats 4000000 in
set_option maxRecDepth 100000 in
theorem bX10_endsOf_191 {l : Launch} {V : Wv} {X : Mx} {x0 : Nat} {x2 : Int32} {x3 : Int32} {K317 : Int32 → St → Prop} {Q : Int32 → St → Prop} (F : Fx V X cX10_endsOf RX10 10 0) (hR : RtI l V X 10 cX10_endsOf Q) (hx0 : isX10 V x0) (hK317 : ∀ (y5 : Int32) (s : St), K317 y5 s → G l V X 10 317 [(2, .int x2), (3, .int x3), (5, .int y5)] [] s) : ∀ (n : Nat) (x5 : Int32) (x6 : Int32) (x7 : Int32) (s : St), wX10_endsOf_191 x0 x2 x3 K317 Q n x5 x6 x7 s → G l V X 10 191 [(0, rf V x0), (2, .int x2), (3, .int x3), (5, .int x5), (6, .int x6), (7, .int x7)] [] s := by
  intro n
  induction n with
  | zero => intro x5 x6 x7 s h; unfold wX10_endsOf_191 at h; exact h.elim
  | succ n ih =>
    intro x5 x6 x7 s h
    unfold wX10_endsOf_191 at h
    refine g_iload (pc := 191) F dX10_endsOf_191 5 rfl ?_
    refine g_bipush (pc := 193) F dX10_endsOf_193 bp_6 ?_
    refine g_icmp_ge (pc := 195) F 317 dX10_endsOf_195 (by decide) (fun c => ?_) (fun c => ?_)
    · have h := h.1 c
      exact g_weak [1, 2, 3] rfl (hK317 _ _ h)
    · have h := h.2 c
      refine g_bipush (pc := 198) F dX10_endsOf_198 bp_m9 ?_
      refine g_istore (pc := 200) (lv' := [(_, _), (_, _), (_, _), (_, _), (_, _), (_, _), (_, _)]) F dX10_endsOf_200 (by decide) rfl ?_
      refine g_iconst (pc := 202) F dX10_endsOf_202 ic_0 ?_
      refine g_istore (pc := 203) (lv' := [(_, _), (_, _), (_, _), (_, _), (_, _), (_, _), (_, _), (_, _)]) F dX10_endsOf_203 (by decide) rfl ?_
      obtain ⟨k_205, h⟩ := h
      refine g_weak [2, 3, 4, 5, 6, 7, 1, 0] rfl (bX10_endsOf_205 F hR hx0 (fun x8_262 s_k262 h => ?_) k_205 _ _ _ h)
      · refine g_iload (pc := 262) F dX10_endsOf_262 6 rfl ?_
        refine g_bipush (pc := 264) F dX10_endsOf_264 bp_m9 ?_
        refine g_icmp_eq (pc := 266) F 311 dX10_endsOf_266 (by decide) (fun c => ?_) (fun c => ?_)
        · have h := h.1 c
          exact g_weak [0, 1, 2, 3, 4, 5] rfl (bX10_endsOf_311 F hR hx0 ih hK317 h)
        · have h := h.2 c
          refine g_iload (pc := 269) F dX10_endsOf_269 3 rfl ?_
          refine g_iconst (pc := 271) F dX10_endsOf_271 ic_1 ?_
          refine g_iload (pc := 272) F dX10_endsOf_272 6 rfl ?_
          refine g_ishl (pc := 274) F dX10_endsOf_274 ?_
          refine g_iconst (pc := 275) F dX10_endsOf_275 ic_m1 ?_
          refine g_ixor (pc := 276) F dX10_endsOf_276 ?_
          refine g_iand (pc := 277) F dX10_endsOf_277 ?_
          refine g_istore (pc := 278) (lv' := [(_, _), (_, _), (_, _), (_, _), (_, _), (_, _), (_, _)]) F dX10_endsOf_278 (by decide) rfl ?_
          refine g_aload_n (pc := 280) F dX10_endsOf_280 rfl 1 rfl ?_
          refine g_getR (pc := 281) F clX10 hx0.1 10 _ rfl (by decide) uX10_16 dX10_endsOf_281 ?_
          refine g_iload (pc := 284) F dX10_endsOf_284 6 rfl ?_
          obtain ⟨hb_286, h⟩ := h
          refine g_iald (pc := 286) F hx0.2.2.2.1 hb_286 dX10_endsOf_286 ?_
          refine g_iload (pc := 287) F dX10_endsOf_287 4 rfl ?_
          refine g_icmp_ne (pc := 289) F 302 dX10_endsOf_289 (by decide) (fun c => ?_) (fun c => ?_)
          · have h := h.1 c
            refine g_aload_n (pc := 302) F dX10_endsOf_302 rfl 1 rfl ?_
            refine g_getR (pc := 303) F clX10 hx0.1 10 _ rfl (by decide) uX10_16 dX10_endsOf_303 ?_
            refine g_iload (pc := 306) F dX10_endsOf_306 6 rfl ?_
            obtain ⟨hb_308, h⟩ := h
            refine g_iald (pc := 308) F hx0.2.2.2.1 hb_308 dX10_endsOf_308 ?_
            exact g_weak [1, 2, 3, 0, 5] rfl (bX10_endsOf_309 F hR hx0 ih hK317 h)
          · have h := h.2 c
            refine g_aload_n (pc := 292) F dX10_endsOf_292 rfl 1 rfl ?_
            refine g_getR (pc := 293) F clX10 hx0.1 11 _ rfl (by decide) uX10_19 dX10_endsOf_293 ?_
            refine g_iload (pc := 296) F dX10_endsOf_296 6 rfl ?_
            obtain ⟨hb_298, h⟩ := h
            refine g_iald (pc := 298) F hx0.2.2.2.2.1 hb_298 dX10_endsOf_298 ?_
            refine g_goto (pc := 299) F 309 dX10_endsOf_299 (by decide) ?_
            exact g_weak [1, 2, 3, 0, 5] rfl (bX10_endsOf_309 F hR hx0 ih hK317 h)
def wX10_endsOf_15 (Q : Int32 → St → Prop) (x0 : Nat) (x1 : Int32) (x2 : Int32) (x3 : Int32) (t0 : Int32) (s : St) : Prop :=
  (∃ k_20, wX10_endsOf_20  x0 x1 (fun x2_169 x3_169 x4_169 s_k169 => ((x4_169 = 0 → Q (0 : Int32) s_k169) ∧ (¬ x4_169 = 0 → ((¬ x3_169 = (-9 : Int32) → (∃ k_191, wX10_endsOf_191  x0 x2_169 x3_169 (fun x5_317 s_k317 => ((¬ x5_317 = 0 → Q (0 : Int32) s_k317) ∧ (x5_317 = 0 → Q ((((5 : Int32) * x2_169) + x3_169) + (1 : Int32)) s_k317))) Q k_191 x1 x2_169 (0 : Int32) s_k169)) ∧ (x3_169 = (-9 : Int32) → Q (0 : Int32) s_k169))))) Q k_20 x2 x3 t0 (0 : Int32) s)
set_option maxHeartbeats 4000000 in
set_option maxRecDepth 100000 in
theorem bX10_endsOf_15 {l : Launch} {V : Wv} {X : Mx} {Q : Int32 → St → Prop} {x0 : Nat} {x1 : Int32} {x2 : Int32} {x3 : Int32} {t0 : Int32} (F : Fx V X cX10_endsOf RX10 10 0) (hR : RtI l V X 10 cX10_endsOf Q) (hx0 : isX10 V x0)  {s : St} (h : wX10_endsOf_15 Q x0 x1 x2 x3 t0 s) : G l V X 10 15 [(0, rf V x0), (1, .int x1), (2, .int x2), (3, .int x3)] [.int t0] s := by
  unfold wX10_endsOf_15 at h
  refine g_istore (pc := 15) (lv' := [(_, _), (_, _), (_, _), (_, _), (_, _)]) F dX10_endsOf_15 (by decide) rfl ?_
  refine g_iconst (pc := 17) F dX10_endsOf_17 ic_0 ?_
  refine g_istore (pc := 18) (lv' := [(_, _), (_, _), (_, _), (_, _), (_, _), (_, _)]) F dX10_endsOf_18 (by decide) rfl ?_
  obtain ⟨k_20, h⟩ := h
  refine g_weak [2, 3, 4, 5, 1, 0] rfl (bX10_endsOf_20 F hR hx0 (fun x2_169 x3_169 x4_169 s_k169 h => ?_) k_20 _ _ _ _ _ h)
  · refine g_iload (pc := 169) F dX10_endsOf_169 4 rfl ?_
    refine g_if_eq (pc := 171) F 180 dX10_endsOf_171 (by decide) (fun c => ?_) (fun c => ?_)
    · have h := h.1 c
      refine g_iconst (pc := 180) F dX10_endsOf_180 ic_0 ?_
      exact hR _ _ _ _ dX10_endsOf_181 h
    · have h := h.2 c
      refine g_iload_n (pc := 174) F dX10_endsOf_174 rfl 3 rfl ?_
      refine g_bipush (pc := 175) F dX10_endsOf_175 bp_m9 ?_
      refine g_icmp_ne (pc := 177) F 182 dX10_endsOf_177 (by decide) (fun c => ?_) (fun c => ?_)
      · have h := h.1 c
        refine g_iload_n (pc := 182) F dX10_endsOf_182 rfl 1 rfl ?_
        refine g_istore (pc := 183) (lv' := [(_, _), (_, _), (_, _), (_, _), (_, _), (_, _)]) F dX10_endsOf_183 (by decide) rfl ?_
        refine g_iload_n (pc := 185) F dX10_endsOf_185 rfl 3 rfl ?_
        refine g_istore (pc := 186) (lv' := [(_, _), (_, _), (_, _), (_, _), (_, _), (_, _), (_, _)]) F dX10_endsOf_186 (by decide) rfl ?_
        refine g_iconst (pc := 188) F dX10_endsOf_188 ic_0 ?_
        refine g_istore (pc := 189) (lv' := [(_, _), (_, _), (_, _), (_, _), (_, _), (_, _), (_, _), (_, _)]) F dX10_endsOf_189 (by decide) rfl ?_
        obtain ⟨k_191, h⟩ := h
        refine g_weak [3, 5, 6, 2, 1, 0] rfl (bX10_endsOf_191 F hR hx0 (fun x5_317 s_k317 h => ?_) k_191 _ _ _ _ h)
        · refine g_iload (pc := 317) F dX10_endsOf_317 2 rfl ?_
          refine g_if_ne (pc := 319) F 332 dX10_endsOf_319 (by decide) (fun c => ?_) (fun c => ?_)
          · have h := h.1 c
            refine g_iconst (pc := 332) F dX10_endsOf_332 ic_0 ?_
            exact hR _ _ _ _ dX10_endsOf_333 h
          · have h := h.2 c
            refine g_iconst (pc := 322) F dX10_endsOf_322 ic_5 ?_
            refine g_iload_n (pc := 323) F dX10_endsOf_323 rfl 0 rfl ?_
            refine g_imul (pc := 324) F dX10_endsOf_324 ?_
            refine g_iload_n (pc := 325) F dX10_endsOf_325 rfl 1 rfl ?_
            refine g_iadd (pc := 326) F dX10_endsOf_326 ?_
            refine g_iconst (pc := 327) F dX10_endsOf_327 ic_1 ?_
            refine g_iadd (pc := 328) F dX10_endsOf_328 ?_
            refine g_goto (pc := 329) F 333 dX10_endsOf_329 (by decide) ?_
            exact hR _ _ _ _ dX10_endsOf_333 h
      · have h := h.2 c
        refine g_iconst (pc := 180) F dX10_endsOf_180 ic_0 ?_
        exact hR _ _ _ _ dX10_endsOf_181 h
def wX10_endsOf (x0 : Nat) (x1 : Int32) (s : St) (Q : Int32 → St → Prop) : Prop :=
  ((x1 = 0 → wX10_endsOf_15 Q x0 x1 (-9 : Int32) (-9 : Int32) (0 : Int32) s) ∧ (¬ x1 = 0 → wX10_endsOf_15 Q x0 x1 (-9 : Int32) (-9 : Int32) (1 : Int32) s))
set_option maxHeartbeats 4000000 in
set_option maxRecDepth 100000 in
theorem mX10_endsOf {l : Launch} {V : Wv} {x0 : Nat} {x1 : Int32} {s : St} {Q : Int32 → St → Prop} (hx0 : isX10 V x0) (h : wX10_endsOf x0 x1 s Q) : Ci yX10_endsOf cX10_endsOf 10 (some .int) (0) l V [rf V x0, .int x1] s Q := by
  unfold wX10_endsOf at h
  refine Ci.of mvX10_endsOf.1 (Nat.le_of_ble_eq_true rfl) (fun X F hR => ?_)
  refine g_lv (lv' := [(_, _), (_, _)]) rfl ?_
  refine g_bipush (pc := 0) F dX10_endsOf_0 bp_m9 ?_
  refine g_istore_n (pc := 2) (lv' := [(_, _), (_, _), (_, _)]) F dX10_endsOf_2 rfl (by decide) rfl ?_
  refine g_bipush (pc := 3) F dX10_endsOf_3 bp_m9 ?_
  refine g_istore_n (pc := 5) (lv' := [(_, _), (_, _), (_, _), (_, _)]) F dX10_endsOf_5 rfl (by decide) rfl ?_
  refine g_iload_n (pc := 6) F dX10_endsOf_6 rfl 3 rfl ?_
  refine g_if_eq (pc := 7) F 14 dX10_endsOf_7 (by decide) (fun c => ?_) (fun c => ?_)
  · have h := h.1 c
    refine g_iconst (pc := 14) F dX10_endsOf_14 ic_0 ?_
    exact g_weak [2, 3, 1, 0] rfl (bX10_endsOf_15 F hR hx0 h)
  · have h := h.2 c
    refine g_iconst (pc := 10) F dX10_endsOf_10 ic_1 ?_
    refine g_goto (pc := 11) F 15 dX10_endsOf_11 (by decide) ?_
    exact g_weak [2, 3, 1, 0] rfl (bX10_endsOf_15 F hR hx0 h)
