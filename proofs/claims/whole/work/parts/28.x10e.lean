/-! printed by program: what each method does to the state (w..), and that its code does so (b.., m..) -/
def wX10_scansOne_6 (x0 : Nat) (x2 : Int32) (K49 : Int32 → St → Prop) (Q : St → Prop) : Nat → Int32 → Int32 → St → Prop
  | 0, _, _, _ => False
  | n + 1, x1, x3, s =>
  vp_in (1 : Int32) 4 ∧ (((s.1 (x0 + 2) (1 : Int32).toNatClampNeg) ≤ x3 → K49 x1 s) ∧ (¬ (s.1 (x0 + 2) (1 : Int32).toNatClampNeg) ≤ x3 → vp_in x3 12 ∧ vp_in x3 6 ∧ vp_in ((0 : Int32) + x3) 38 ∧ wX10_apart (s.1 (x0 + 19) x3.toNatClampNeg) (s.1 (x0 + 7) ((0 : Int32) + x3).toNatClampNeg) s (fun r_37 s_37 => wX10_scansOne_6 x0 x2 K49 Q n (x1 + ((s.1 (x0 + 5) x3.toNatClampNeg) * r_37)) (x3 + (1 : Int32)) s_37)))
set_option maxHeartbeats 4000000 in
set_option maxRecDepth 100000 in
theorem bX10_scansOne_6 {l : Launch} {V : Wv} {X : Mx} {x0 : Nat} {x2 : Int32} {K49 : Int32 → St → Prop} {Q : St → Prop} (F : Fx V X cX10_scansOne RX10 4 1) (hR : RtV l V X 4 cX10_scansOne Q) (hx0 : isX10 V x0) (hK49 : ∀ (y1 : Int32) (s : St), K49 y1 s → G l V X 4 49 [(0, rf V x0), (1, .int y1), (2, .int x2)] [] s) : ∀ (n : Nat) (x1 : Int32) (x3 : Int32) (s : St), wX10_scansOne_6 x0 x2 K49 Q n x1 x3 s → G l V X 4 6 [(0, rf V x0), (1, .int x1), (2, .int x2), (3, .int x3)] [] s := by
  intro n
  induction n with
  | zero => intro x1 x3 s h; unfold wX10_scansOne_6 at h; exact h.elim
  | succ n ih =>
    intro x1 x3 s h
    unfold wX10_scansOne_6 at h
    refine g_iload_n (pc := 6) F dX10_scansOne_6 rfl 3 rfl ?_
    refine g_aload_n (pc := 7) F dX10_scansOne_7 rfl 0 rfl ?_
    refine g_getR (pc := 8) F clX10 hx0.1 9 _ rfl (by decide) uX10_13 dX10_scansOne_8 ?_
    refine g_iconst (pc := 11) F dX10_scansOne_11 ic_1 ?_
    obtain ⟨hb_12, h⟩ := h
    refine g_iald (pc := 12) F hx0.2.2.1 hb_12 dX10_scansOne_12 ?_
    refine g_icmp_ge (pc := 13) F 49 dX10_scansOne_13 (by decide) (fun c => ?_) (fun c => ?_)
    · have h := h.1 c
      exact g_weak [0, 1, 2] rfl (hK49 _ _ h)
    · have h := h.2 c
      refine g_iload_n (pc := 16) F dX10_scansOne_16 rfl 1 rfl ?_
      refine g_aload_n (pc := 17) F dX10_scansOne_17 rfl 0 rfl ?_
      refine g_getR (pc := 18) F clX10 hx0.1 12 _ rfl (by decide) uX10_22 dX10_scansOne_18 ?_
      refine g_iload_n (pc := 21) F dX10_scansOne_21 rfl 3 rfl ?_
      obtain ⟨hb_22, h⟩ := h
      refine g_iald (pc := 22) F hx0.2.2.2.2.2.1 hb_22 dX10_scansOne_22 ?_
      refine g_aload_n (pc := 23) F dX10_scansOne_23 rfl 0 rfl ?_
      refine g_getR (pc := 24) F clX10 hx0.1 29 _ rfl (by decide) uX10_65 dX10_scansOne_24 ?_
      refine g_iload_n (pc := 27) F dX10_scansOne_27 rfl 3 rfl ?_
      obtain ⟨hb_28, h⟩ := h
      refine g_iald (pc := 28) F hx0.2.2.2.2.2.2.2.2.2.2.2.2.2.2.2.2.2.2.2.1 hb_28 dX10_scansOne_28 ?_
      refine g_aload_n (pc := 29) F dX10_scansOne_29 rfl 0 rfl ?_
      refine g_getR (pc := 30) F clX10 hx0.1 14 _ rfl (by decide) uX10_28 dX10_scansOne_30 ?_
      refine g_iconst (pc := 33) F dX10_scansOne_33 ic_0 ?_
      refine g_iload_n (pc := 34) F dX10_scansOne_34 rfl 3 rfl ?_
      refine g_iadd (pc := 35) F dX10_scansOne_35 ?_
      obtain ⟨hb_36, h⟩ := h
      refine g_iald (pc := 36) F hx0.2.2.2.2.2.2.2.1 hb_36 dX10_scansOne_36 ?_
      refine g_callSi (pc := 37) F (mX10_apart  h) mvX10_apart uX10_211 (by decide)  rfl rfl (Nat.le_of_ble_eq_true rfl) dX10_scansOne_37 (fun r_37 s_37 h => ?_)
      refine g_imul (pc := 40) F dX10_scansOne_40 ?_
      refine g_iadd (pc := 41) F dX10_scansOne_41 ?_
      refine g_istore_n (pc := 42) (lv' := [(_, _), (_, _), (_, _), (_, _)]) F dX10_scansOne_42 rfl (by decide) rfl ?_
      refine g_iinc (pc := 43) (lv' := [(_, _), (_, _), (_, _), (_, _)]) F dX10_scansOne_43 3 rfl (congrArg _ ic_1) (by decide) rfl ?_
      refine g_goto (pc := 46) F 6 dX10_scansOne_46 (by decide) ?_
      exact g_weak [2, 1, 3, 0] rfl (ih _ _ _ h)
def wX10_scansOne_83 (rec : Int32 → Int32 → St → Prop) (K91 : Int32 → St → Prop) (Q : St → Prop) (x0 : Nat) (x1 : Int32) (x3 : Int32) (t0 : Int32) (t1 : Int32) (s : St) : Prop :=
  rec (t1 ||| t0) (x3 + (1 : Int32)) s
set_option maxHeartbeats 4000000 in
set_option maxRecDepth 100000 in
theorem bX10_scansOne_83 {l : Launch} {V : Wv} {X : Mx} {rec : Int32 → Int32 → St → Prop} {K91 : Int32 → St → Prop} {Q : St → Prop} {x0 : Nat} {x1 : Int32} {x3 : Int32} {t0 : Int32} {t1 : Int32} (F : Fx V X cX10_scansOne RX10 4 1) (hR : RtV l V X 4 cX10_scansOne Q) (hx0 : isX10 V x0) (hrec : ∀ (y2 : Int32) (y3 : Int32) (s : St), rec y2 y3 s → G l V X 4 51 [(0, rf V x0), (1, .int x1), (2, .int y2), (3, .int y3)] [] s) (hK91 : ∀ (y2 : Int32) (s : St), K91 y2 s → G l V X 4 91 [(0, rf V x0), (1, .int x1), (2, .int y2)] [] s) {s : St} (h : wX10_scansOne_83 rec K91 Q x0 x1 x3 t0 t1 s) : G l V X 4 83 [(0, rf V x0), (1, .int x1), (3, .int x3)] [.int t0, .int t1] s := by
  unfold wX10_scansOne_83 at h
  refine g_ior (pc := 83) F dX10_scansOne_83 ?_
  refine g_istore_n (pc := 84) (lv' := [(_, _), (_, _), (_, _), (_, _)]) F dX10_scansOne_84 rfl (by decide) rfl ?_
  refine g_iinc (pc := 85) (lv' := [(_, _), (_, _), (_, _), (_, _)]) F dX10_scansOne_85 3 rfl (congrArg _ ic_1) (by decide) rfl ?_
  refine g_goto (pc := 88) F 51 dX10_scansOne_88 (by decide) ?_
  exact g_weak [2, 3, 1, 0] rfl (hrec _ _ _ h)
def wX10_scansOne_51 (x0 : Nat) (x1 : Int32) (K91 : Int32 → St → Prop) (Q : St → Prop) : Nat → Int32 → Int32 → St → Prop
  | 0, _, _, _ => False
  | n + 1, x2, x3, s =>
  vp_in (6 : Int32) 38 ∧ (((s.1 (x0 + 7) (6 : Int32).toNatClampNeg) ≤ x3 → K91 x2 s) ∧ (¬ (s.1 (x0 + 7) (6 : Int32).toNatClampNeg) ≤ x3 → vp_in x3 4 ∧ wX10_holds x0 (s.1 (x0 + 17) x3.toNatClampNeg) s (fun r_70 s_70 => ((r_70 = 0 → wX10_scansOne_83 (wX10_scansOne_51 x0 x1 K91 Q n) (K91) Q x0 x1 x3 (0 : Int32) x2 s_70) ∧ (¬ r_70 = 0 → wX10_scansOne_83 (wX10_scansOne_51 x0 x1 K91 Q n) (K91) Q x0 x1 x3 ((1 : Int32) <<< (x3 &&& 31)) x2 s_70)))))
set_option maxHeartbeats 4000000 in
set_option maxRecDepth 100000 in
theorem bX10_scansOne_51 {l : Launch} {V : Wv} {X : Mx} {x0 : Nat} {x1 : Int32} {K91 : Int32 → St → Prop} {Q : St → Prop} (F : Fx V X cX10_scansOne RX10 4 1) (hR : RtV l V X 4 cX10_scansOne Q) (hx0 : isX10 V x0) (hK91 : ∀ (y2 : Int32) (s : St), K91 y2 s → G l V X 4 91 [(0, rf V x0), (1, .int x1), (2, .int y2)] [] s) : ∀ (n : Nat) (x2 : Int32) (x3 : Int32) (s : St), wX10_scansOne_51 x0 x1 K91 Q n x2 x3 s → G l V X 4 51 [(0, rf V x0), (1, .int x1), (2, .int x2), (3, .int x3)] [] s := by
  intro n
  induction n with
  | zero => intro x2 x3 s h; unfold wX10_scansOne_51 at h; exact h.elim
  | succ n ih =>
    intro x2 x3 s h
    unfold wX10_scansOne_51 at h
    refine g_iload_n (pc := 51) F dX10_scansOne_51 rfl 3 rfl ?_
    refine g_aload_n (pc := 52) F dX10_scansOne_52 rfl 0 rfl ?_
    refine g_getR (pc := 53) F clX10 hx0.1 14 _ rfl (by decide) uX10_28 dX10_scansOne_53 ?_
    refine g_bipush (pc := 56) F dX10_scansOne_56 bp_6 ?_
    obtain ⟨hb_58, h⟩ := h
    refine g_iald (pc := 58) F hx0.2.2.2.2.2.2.2.1 hb_58 dX10_scansOne_58 ?_
    refine g_icmp_ge (pc := 59) F 91 dX10_scansOne_59 (by decide) (fun c => ?_) (fun c => ?_)
    · have h := h.1 c
      exact g_weak [0, 1, 2] rfl (hK91 _ _ h)
    · have h := h.2 c
      refine g_iload_n (pc := 62) F dX10_scansOne_62 rfl 2 rfl ?_
      refine g_aload_n (pc := 63) F dX10_scansOne_63 rfl 0 rfl ?_
      refine g_aload_n (pc := 64) F dX10_scansOne_64 rfl 0 rfl ?_
      refine g_getR (pc := 65) F clX10 hx0.1 27 _ rfl (by decide) uX10_59 dX10_scansOne_65 ?_
      refine g_iload_n (pc := 68) F dX10_scansOne_68 rfl 3 rfl ?_
      obtain ⟨hb_69, h⟩ := h
      refine g_iald (pc := 69) F hx0.2.2.2.2.2.2.2.2.2.2.2.2.2.2.2.2.2.1 hb_69 dX10_scansOne_69 ?_
      refine g_callVi (pc := 70) F (mX10_holds hx0 h) mvX10_holds uX10_185 (by decide) clX10 hx0.1 rfl rfl (Nat.le_of_ble_eq_true rfl) dX10_scansOne_70 (fun r_70 s_70 h => ?_)
      refine g_if_eq (pc := 73) F 82 dX10_scansOne_73 (by decide) (fun c => ?_) (fun c => ?_)
      · have h := h.1 c
        refine g_iconst (pc := 82) F dX10_scansOne_82 ic_0 ?_
        exact g_weak [0, 1, 3] rfl (bX10_scansOne_83 F hR hx0 ih hK91 h)
      · have h := h.2 c
        refine g_iconst (pc := 76) F dX10_scansOne_76 ic_1 ?_
        refine g_iload_n (pc := 77) F dX10_scansOne_77 rfl 3 rfl ?_
        refine g_ishl (pc := 78) F dX10_scansOne_78 ?_
        refine g_goto (pc := 79) F 83 dX10_scansOne_79 (by decide) ?_
        exact g_weak [0, 1, 3] rfl (bX10_scansOne_83 F hR hx0 ih hK91 h)
def wX10_scansOne_230 (Q : St → Prop) (t0 : Int32) (t1 : Int32) (t2 : Nat) (s : St) : Prop :=
  vp_in t1 16 ∧ ∀ s_230 : St, s_230 = stI s t2 t1.toNatClampNeg t0 → Q s_230
set_option maxHeartbeats 4000000 in
set_option maxRecDepth 100000 in
theorem bX10_scansOne_230 {l : Launch} {V : Wv} {X : Mx} {Q : St → Prop} {t0 : Int32} {t1 : Int32} {t2 : Nat} (F : Fx V X cX10_scansOne RX10 4 1) (hR : RtV l V X 4 cX10_scansOne Q) (ht2 : V.2.1[t2]? = some (11, [16]))  {s : St} (h : wX10_scansOne_230 Q t0 t1 t2 s) : G l V X 4 230 [] [.int t0, .int t1, rf V t2] s := by
  unfold wX10_scansOne_230 at h
  obtain ⟨hb_230, h⟩ := h
  have h := h _ rfl
  refine g_iast (pc := 230) F ht2 hb_230 dX10_scansOne_230 ?_
  exact hR _ _ _ dX10_scansOne_231 h
def wX10_scansOne_205 (Q : St → Prop) (x0 : Nat) (x1 : Int32) (x2 : Int32) (s : St) : Prop :=
  vp_in x2 16 ∧ (((s.1 (x0 + 20) x2.toNatClampNeg) ≤ x1 → vp_in x2 16 ∧ wX10_scansOne_230 Q (s.1 (x0 + 20) x2.toNatClampNeg) x2 (x0 + 20) s) ∧ (¬ (s.1 (x0 + 20) x2.toNatClampNeg) ≤ x1 → wX10_scansOne_230 Q x1 x2 (x0 + 20) s))
set_option maxHeartbeats 4000000 in
set_option maxRecDepth 100000 in
theorem bX10_scansOne_205 {l : Launch} {V : Wv} {X : Mx} {Q : St → Prop} {x0 : Nat} {x1 : Int32} {x2 : Int32} (F : Fx V X cX10_scansOne RX10 4 1) (hR : RtV l V X 4 cX10_scansOne Q) (hx0 : isX10 V x0)  {s : St} (h : wX10_scansOne_205 Q x0 x1 x2 s) : G l V X 4 205 [(0, rf V x0), (1, .int x1), (2, .int x2)] [] s := by
  unfold wX10_scansOne_205 at h
  refine g_aload_n (pc := 205) F dX10_scansOne_205 rfl 0 rfl ?_
  refine g_getR (pc := 206) F clX10 hx0.1 30 _ rfl (by decide) uX10_68 dX10_scansOne_206 ?_
  refine g_iload_n (pc := 209) F dX10_scansOne_209 rfl 2 rfl ?_
  refine g_iload_n (pc := 210) F dX10_scansOne_210 rfl 1 rfl ?_
  refine g_aload_n (pc := 211) F dX10_scansOne_211 rfl 0 rfl ?_
  refine g_getR (pc := 212) F clX10 hx0.1 30 _ rfl (by decide) uX10_68 dX10_scansOne_212 ?_
  refine g_iload_n (pc := 215) F dX10_scansOne_215 rfl 2 rfl ?_
  obtain ⟨hb_216, h⟩ := h
  refine g_iald (pc := 216) F hx0.2.2.2.2.2.2.2.2.2.2.2.2.2.2.2.2.2.2.2.2.1 hb_216 dX10_scansOne_216 ?_
  refine g_icmp_ge (pc := 217) F 224 dX10_scansOne_217 (by decide) (fun c => ?_) (fun c => ?_)
  · have h := h.1 c
    refine g_aload_n (pc := 224) F dX10_scansOne_224 rfl 0 rfl ?_
    refine g_getR (pc := 225) F clX10 hx0.1 30 _ rfl (by decide) uX10_68 dX10_scansOne_225 ?_
    refine g_iload_n (pc := 228) F dX10_scansOne_228 rfl 2 rfl ?_
    obtain ⟨hb_229, h⟩ := h
    refine g_iald (pc := 229) F hx0.2.2.2.2.2.2.2.2.2.2.2.2.2.2.2.2.2.2.2.2.1 hb_229 dX10_scansOne_229 ?_
    exact g_weak [] rfl (bX10_scansOne_230 F hR hx0.2.2.2.2.2.2.2.2.2.2.2.2.2.2.2.2.2.2.2.2.1 h)
  · have h := h.2 c
    refine g_iload_n (pc := 220) F dX10_scansOne_220 rfl 1 rfl ?_
    refine g_goto (pc := 221) F 230 dX10_scansOne_221 (by decide) ?_
    exact g_weak [] rfl (bX10_scansOne_230 F hR hx0.2.2.2.2.2.2.2.2.2.2.2.2.2.2.2.2.2.2.2.2.1 h)
def wX10_scansOne_101 (x0 : Nat) (x1 : Int32) (x2 : Int32) (K135 : St → Prop) (Q : St → Prop) : Nat → Int32 → St → Prop
  | 0, _, _ => False
  | n + 1, x3, s =>
  (((6 : Int32) ≤ x3 → K135  s) ∧ (¬ (6 : Int32) ≤ x3 → vp_in x2 16 ∧ (((s.1 (x0 + 20) x2.toNatClampNeg) ≤ x1 → K135  s) ∧ (¬ (s.1 (x0 + 20) x2.toNatClampNeg) ≤ x1 → vp_in x3 6 ∧ vp_in x3 6 ∧ ∀ s_128 : St, s_128 = stI s (x0 + 21) x3.toNatClampNeg (s.1 (x0 + 19) x3.toNatClampNeg) → wX10_scansOne_101 x0 x1 x2 K135 Q n (x3 + (1 : Int32)) s_128))))
set_option maxHeartbeats 4000000 in
set_option maxRecDepth 100000 in
theorem bX10_scansOne_101 {l : Launch} {V : Wv} {X : Mx} {x0 : Nat} {x1 : Int32} {x2 : Int32} {K135 : St → Prop} {Q : St → Prop} (F : Fx V X cX10_scansOne RX10 4 1) (hR : RtV l V X 4 cX10_scansOne Q) (hx0 : isX10 V x0) (hK135 : ∀  (s : St), K135  s → G l V X 4 135 [(0, rf V x0), (1, .int x1), (2, .int x2)] [] s) : ∀ (n : Nat) (x3 : Int32) (s : St), wX10_scansOne_101 x0 x1 x2 K135 Q n x3 s → G l V X 4 101 [(0, rf V x0), (1, .int x1), (2, .int x2), (3, .int x3)] [] s := by
  intro n
  induction n with
  | zero => intro x3 s h; unfold wX10_scansOne_101 at h; exact h.elim
  | succ n ih =>
    intro x3 s h
    unfold wX10_scansOne_101 at h
    refine g_iload_n (pc := 101) F dX10_scansOne_101 rfl 3 rfl ?_
    refine g_bipush (pc := 102) F dX10_scansOne_102 bp_6 ?_
    refine g_icmp_ge (pc := 104) F 135 dX10_scansOne_104 (by decide) (fun c => ?_) (fun c => ?_)
    · have h := h.1 c
      exact g_weak [0, 1, 2] rfl (hK135 _ h)
    · have h := h.2 c
      refine g_iload_n (pc := 107) F dX10_scansOne_107 rfl 1 rfl ?_
      refine g_aload_n (pc := 108) F dX10_scansOne_108 rfl 0 rfl ?_
      refine g_getR (pc := 109) F clX10 hx0.1 30 _ rfl (by decide) uX10_68 dX10_scansOne_109 ?_
      refine g_iload_n (pc := 112) F dX10_scansOne_112 rfl 2 rfl ?_
      obtain ⟨hb_113, h⟩ := h
      refine g_iald (pc := 113) F hx0.2.2.2.2.2.2.2.2.2.2.2.2.2.2.2.2.2.2.2.2.1 hb_113 dX10_scansOne_113 ?_
      refine g_icmp_ge (pc := 114) F 135 dX10_scansOne_114 (by decide) (fun c => ?_) (fun c => ?_)
      · have h := h.1 c
        exact g_weak [0, 1, 2] rfl (hK135 _ h)
      · have h := h.2 c
        refine g_aload_n (pc := 117) F dX10_scansOne_117 rfl 0 rfl ?_
        refine g_getR (pc := 118) F clX10 hx0.1 31 _ rfl (by decide) uX10_71 dX10_scansOne_118 ?_
        refine g_iload_n (pc := 121) F dX10_scansOne_121 rfl 3 rfl ?_
        refine g_aload_n (pc := 122) F dX10_scansOne_122 rfl 0 rfl ?_
        refine g_getR (pc := 123) F clX10 hx0.1 29 _ rfl (by decide) uX10_65 dX10_scansOne_123 ?_
        refine g_iload_n (pc := 126) F dX10_scansOne_126 rfl 3 rfl ?_
        obtain ⟨hb_127, h⟩ := h
        refine g_iald (pc := 127) F hx0.2.2.2.2.2.2.2.2.2.2.2.2.2.2.2.2.2.2.2.1 hb_127 dX10_scansOne_127 ?_
        obtain ⟨hb_128, h⟩ := h
        have h := h _ rfl
        refine g_iast (pc := 128) F hx0.2.2.2.2.2.2.2.2.2.2.2.2.2.2.2.2.2.2.2.2.2.1 hb_128 dX10_scansOne_128 ?_
        refine g_iinc (pc := 129) (lv' := [(_, _), (_, _), (_, _), (_, _)]) F dX10_scansOne_129 3 rfl (congrArg _ ic_1) (by decide) rfl ?_
        refine g_goto (pc := 132) F 101 dX10_scansOne_132 (by decide) ?_
        exact g_weak [1, 2, 3, 0] rfl (ih _ _ h)
def wX10_scansOne_198 (rec : Int32 → St → Prop) (K205 : St → Prop) (Q : St → Prop) (x0 : Nat) (x1 : Int32) (x2 : Int32) (x3 : Int32) (t0 : Int32) (t1 : Int32) (t2 : Nat) (s : St) : Prop :=
  vp_in t1 64 ∧ ∀ s_198 : St, s_198 = stI s t2 t1.toNatClampNeg t0 → rec (x3 + (1 : Int32)) s_198
set_option maxHeartbeats 4000000 in
set_option maxRecDepth 100000 in
theorem bX10_scansOne_198 {l : Launch} {V : Wv} {X : Mx} {rec : Int32 → St → Prop} {K205 : St → Prop} {Q : St → Prop} {x0 : Nat} {x1 : Int32} {x2 : Int32} {x3 : Int32} {t0 : Int32} {t1 : Int32} {t2 : Nat} (F : Fx V X cX10_scansOne RX10 4 1) (hR : RtV l V X 4 cX10_scansOne Q) (hx0 : isX10 V x0) (ht2 : V.2.1[t2]? = some (11, [64])) (hrec : ∀ (y3 : Int32) (s : St), rec y3 s → G l V X 4 137 [(0, rf V x0), (1, .int x1), (2, .int x2), (3, .int y3)] [] s) (hK205 : ∀  (s : St), K205  s → G l V X 4 205 [(0, rf V x0), (1, .int x1), (2, .int x2)] [] s) {s : St} (h : wX10_scansOne_198 rec K205 Q x0 x1 x2 x3 t0 t1 t2 s) : G l V X 4 198 [(0, rf V x0), (1, .int x1), (2, .int x2), (3, .int x3)] [.int t0, .int t1, rf V t2] s := by
  unfold wX10_scansOne_198 at h
  obtain ⟨hb_198, h⟩ := h
  have h := h _ rfl
  refine g_iast (pc := 198) F ht2 hb_198 dX10_scansOne_198 ?_
  refine g_iinc (pc := 199) (lv' := [(_, _), (_, _), (_, _), (_, _)]) F dX10_scansOne_199 3 rfl (congrArg _ ic_1) (by decide) rfl ?_
  refine g_goto (pc := 202) F 137 dX10_scansOne_202 (by decide) ?_
  exact g_weak [1, 2, 3, 0] rfl (hrec _ _ h)
def wX10_scansOne_187 (rec : Int32 → St → Prop) (K205 : St → Prop) (Q : St → Prop) (x0 : Nat) (x1 : Int32) (x2 : Int32) (x3 : Int32) (t0 : Int32) (t1 : Nat) (s : St) : Prop :=
  vp_in x3 64 ∧ vp_in (s.1 (x0 + 16) x3.toNatClampNeg) 64 ∧ wX10_scansOne_198 (rec) (K205) Q x0 x1 x2 x3 (s.1 (x0 + 22) (s.1 (x0 + 16) x3.toNatClampNeg).toNatClampNeg) t0 t1 s
set_option maxHeartbeats 4000000 in
set_option maxRecDepth 100000 in
theorem bX10_scansOne_187 {l : Launch} {V : Wv} {X : Mx} {rec : Int32 → St → Prop} {K205 : St → Prop} {Q : St → Prop} {x0 : Nat} {x1 : Int32} {x2 : Int32} {x3 : Int32} {t0 : Int32} {t1 : Nat} (F : Fx V X cX10_scansOne RX10 4 1) (hR : RtV l V X 4 cX10_scansOne Q) (hx0 : isX10 V x0) (ht1 : V.2.1[t1]? = some (11, [64])) (hrec : ∀ (y3 : Int32) (s : St), rec y3 s → G l V X 4 137 [(0, rf V x0), (1, .int x1), (2, .int x2), (3, .int y3)] [] s) (hK205 : ∀  (s : St), K205  s → G l V X 4 205 [(0, rf V x0), (1, .int x1), (2, .int x2)] [] s) {s : St} (h : wX10_scansOne_187 rec K205 Q x0 x1 x2 x3 t0 t1 s) : G l V X 4 187 [(0, rf V x0), (1, .int x1), (2, .int x2), (3, .int x3)] [.int t0, rf V t1] s := by
  unfold wX10_scansOne_187 at h
  refine g_aload_n (pc := 187) F dX10_scansOne_187 rfl 0 rfl ?_
  refine g_getR (pc := 188) F clX10 hx0.1 32 _ rfl (by decide) uX10_74 dX10_scansOne_188 ?_
  refine g_aload_n (pc := 191) F dX10_scansOne_191 rfl 0 rfl ?_
  refine g_getR (pc := 192) F clX10 hx0.1 25 _ rfl (by decide) uX10_56 dX10_scansOne_192 ?_
  refine g_iload_n (pc := 195) F dX10_scansOne_195 rfl 3 rfl ?_
  obtain ⟨hb_196, h⟩ := h
  refine g_iald (pc := 196) F hx0.2.2.2.2.2.2.2.2.2.2.2.2.2.2.2.2.1 hb_196 dX10_scansOne_196 ?_
  obtain ⟨hb_197, h⟩ := h
  refine g_iald (pc := 197) F hx0.2.2.2.2.2.2.2.2.2.2.2.2.2.2.2.2.2.2.2.2.2.2.1 hb_197 dX10_scansOne_197 ?_
  exact g_weak [0, 1, 2, 3] rfl (bX10_scansOne_198 F hR hx0 ht1 hrec hK205 h)
def wX10_scansOne_137 (x0 : Nat) (x1 : Int32) (x2 : Int32) (K205 : St → Prop) (Q : St → Prop) : Nat → Int32 → St → Prop
  | 0, _, _ => False
  | n + 1, x3, s =>
  (((s.1 x0 26) ≤ x3 → K205  s) ∧ (¬ (s.1 x0 26) ≤ x3 → vp_in x3 64 ∧ vp_in x3 64 ∧ wX10_holds x0 (s.1 (x0 + 16) x3.toNatClampNeg) s (fun r_162 s_162 => ((r_162 = 0 → wX10_scansOne_187 (wX10_scansOne_137 x0 x1 x2 K205 Q n) (K205) Q x0 x1 x2 x3 (s.1 (x0 + 16) x3.toNatClampNeg) (x0 + 22) s_162) ∧ (¬ r_162 = 0 → vp_in x3 64 ∧ vp_in (s_162.1 (x0 + 16) x3.toNatClampNeg) 64 ∧ (((s_162.1 (x0 + 22) (s_162.1 (x0 + 16) x3.toNatClampNeg).toNatClampNeg) ≤ x1 → wX10_scansOne_187 (wX10_scansOne_137 x0 x1 x2 K205 Q n) (K205) Q x0 x1 x2 x3 (s.1 (x0 + 16) x3.toNatClampNeg) (x0 + 22) s_162) ∧ (¬ (s_162.1 (x0 + 22) (s_162.1 (x0 + 16) x3.toNatClampNeg).toNatClampNeg) ≤ x1 → wX10_scansOne_198 (wX10_scansOne_137 x0 x1 x2 K205 Q n) (K205) Q x0 x1 x2 x3 x1 (s.1 (x0 + 16) x3.toNatClampNeg) (x0 + 22) s_162)))))))
set_option maxHeartbeats 4000000 in
set_option maxRecDepth 100000 in
theorem bX10_scansOne_137 {l : Launch} {V : Wv} {X : Mx} {x0 : Nat} {x1 : Int32} {x2 : Int32} {K205 : St → Prop} {Q : St → Prop} (F : Fx V X cX10_scansOne RX10 4 1) (hR : RtV l V X 4 cX10_scansOne Q) (hx0 : isX10 V x0) (hK205 : ∀  (s : St), K205  s → G l V X 4 205 [(0, rf V x0), (1, .int x1), (2, .int x2)] [] s) : ∀ (n : Nat) (x3 : Int32) (s : St), wX10_scansOne_137 x0 x1 x2 K205 Q n x3 s → G l V X 4 137 [(0, rf V x0), (1, .int x1), (2, .int x2), (3, .int x3)] [] s := by
  intro n
  induction n with
  | zero => intro x3 s h; unfold wX10_scansOne_137 at h; exact h.elim
  | succ n ih =>
    intro x3 s h
    unfold wX10_scansOne_137 at h
    refine g_iload_n (pc := 137) F dX10_scansOne_137 rfl 3 rfl ?_
    refine g_aload_n (pc := 138) F dX10_scansOne_138 rfl 0 rfl ?_
    refine g_getI (pc := 139) F clX10 hx0.1 26 rfl (by decide) uX10_152 dX10_scansOne_139 ?_
    refine g_icmp_ge (pc := 142) F 205 dX10_scansOne_142 (by decide) (fun c => ?_) (fun c => ?_)
    · have h := h.1 c
      exact g_weak [0, 1, 2] rfl (hK205 _ h)
    · have h := h.2 c
      refine g_aload_n (pc := 145) F dX10_scansOne_145 rfl 0 rfl ?_
      refine g_getR (pc := 146) F clX10 hx0.1 32 _ rfl (by decide) uX10_74 dX10_scansOne_146 ?_
      refine g_aload_n (pc := 149) F dX10_scansOne_149 rfl 0 rfl ?_
      refine g_getR (pc := 150) F clX10 hx0.1 25 _ rfl (by decide) uX10_56 dX10_scansOne_150 ?_
      refine g_iload_n (pc := 153) F dX10_scansOne_153 rfl 3 rfl ?_
      obtain ⟨hb_154, h⟩ := h
      refine g_iald (pc := 154) F hx0.2.2.2.2.2.2.2.2.2.2.2.2.2.2.2.2.1 hb_154 dX10_scansOne_154 ?_
      refine g_aload_n (pc := 155) F dX10_scansOne_155 rfl 0 rfl ?_
      refine g_aload_n (pc := 156) F dX10_scansOne_156 rfl 0 rfl ?_
      refine g_getR (pc := 157) F clX10 hx0.1 25 _ rfl (by decide) uX10_56 dX10_scansOne_157 ?_
      refine g_iload_n (pc := 160) F dX10_scansOne_160 rfl 3 rfl ?_
      obtain ⟨hb_161, h⟩ := h
      refine g_iald (pc := 161) F hx0.2.2.2.2.2.2.2.2.2.2.2.2.2.2.2.2.1 hb_161 dX10_scansOne_161 ?_
      refine g_callVi (pc := 162) F (mX10_holds hx0 h) mvX10_holds uX10_185 (by decide) clX10 hx0.1 rfl rfl (Nat.le_of_ble_eq_true rfl) dX10_scansOne_162 (fun r_162 s_162 h => ?_)
      refine g_if_eq (pc := 165) F 187 dX10_scansOne_165 (by decide) (fun c => ?_) (fun c => ?_)
      · have h := h.1 c
        exact g_weak [0, 1, 2, 3] rfl (bX10_scansOne_187 F hR hx0 hx0.2.2.2.2.2.2.2.2.2.2.2.2.2.2.2.2.2.2.2.2.2.2.1 ih hK205 h)
      · have h := h.2 c
        refine g_iload_n (pc := 168) F dX10_scansOne_168 rfl 1 rfl ?_
        refine g_aload_n (pc := 169) F dX10_scansOne_169 rfl 0 rfl ?_
        refine g_getR (pc := 170) F clX10 hx0.1 32 _ rfl (by decide) uX10_74 dX10_scansOne_170 ?_
        refine g_aload_n (pc := 173) F dX10_scansOne_173 rfl 0 rfl ?_
        refine g_getR (pc := 174) F clX10 hx0.1 25 _ rfl (by decide) uX10_56 dX10_scansOne_174 ?_
        refine g_iload_n (pc := 177) F dX10_scansOne_177 rfl 3 rfl ?_
        obtain ⟨hb_178, h⟩ := h
        refine g_iald (pc := 178) F hx0.2.2.2.2.2.2.2.2.2.2.2.2.2.2.2.2.1 hb_178 dX10_scansOne_178 ?_
        obtain ⟨hb_179, h⟩ := h
        refine g_iald (pc := 179) F hx0.2.2.2.2.2.2.2.2.2.2.2.2.2.2.2.2.2.2.2.2.2.2.1 hb_179 dX10_scansOne_179 ?_
        refine g_icmp_ge (pc := 180) F 187 dX10_scansOne_180 (by decide) (fun c => ?_) (fun c => ?_)
        · have h := h.1 c
          exact g_weak [0, 1, 2, 3] rfl (bX10_scansOne_187 F hR hx0 hx0.2.2.2.2.2.2.2.2.2.2.2.2.2.2.2.2.2.2.2.2.2.2.1 ih hK205 h)
        · have h := h.2 c
          refine g_iload_n (pc := 183) F dX10_scansOne_183 rfl 1 rfl ?_
          refine g_goto (pc := 184) F 198 dX10_scansOne_184 (by decide) ?_
          exact g_weak [0, 1, 2, 3] rfl (bX10_scansOne_198 F hR hx0 hx0.2.2.2.2.2.2.2.2.2.2.2.2.2.2.2.2.2.2.2.2.2.2.1 ih hK205 h)
def wX10_scansOne (x0 : Nat) (s : St) (Q : St → Prop) : Prop :=
  (∃ k_6, wX10_scansOne_6  x0 (0 : Int32) (fun x1_49 s_k49 => (∃ k_51, wX10_scansOne_51  x0 x1_49 (fun x2_91 s_k91 => wX10_allMaps x0 s_k91 (fun r_93 s_93 => ((¬ x2_91 = r_93 → wX10_scansOne_205 Q x0 x1_49 x2_91 s_93) ∧ (x2_91 = r_93 → (∃ k_101, wX10_scansOne_101  x0 x1_49 x2_91 (fun  s_k135 => (∃ k_137, wX10_scansOne_137  x0 x1_49 x2_91 (fun  s_k205 => wX10_scansOne_205 Q x0 x1_49 x2_91 s_k205) Q k_137 (0 : Int32) s_k135)) Q k_101 (0 : Int32) s_93))))) Q k_51 (0 : Int32) (0 : Int32) s_k49)) Q k_6 (0 : Int32) (0 : Int32) s)
set_option maxHeartbeats 4000000 in
set_option maxRecDepth 100000 in
theorem mX10_scansOne {l : Launch} {V : Wv} {x0 : Nat} {s : St} {Q : St → Prop} (hx0 : isX10 V x0) (h : wX10_scansOne x0 s Q) : Cv yX10_scansOne cX10_scansOne 4 (1) l V [rf V x0] s Q := by
  unfold wX10_scansOne at h
  refine Cv.of mvX10_scansOne.1 (Nat.le_of_ble_eq_true rfl) (fun X F hR => ?_)
  refine g_lv (lv' := [(_, _)]) rfl ?_
  refine g_iconst (pc := 0) F dX10_scansOne_0 ic_0 ?_
  refine g_istore_n (pc := 1) (lv' := [(_, _), (_, _)]) F dX10_scansOne_1 rfl (by decide) rfl ?_
  refine g_iconst (pc := 2) F dX10_scansOne_2 ic_0 ?_
  refine g_istore_n (pc := 3) (lv' := [(_, _), (_, _), (_, _)]) F dX10_scansOne_3 rfl (by decide) rfl ?_
  refine g_iconst (pc := 4) F dX10_scansOne_4 ic_0 ?_
  refine g_istore_n (pc := 5) (lv' := [(_, _), (_, _), (_, _), (_, _)]) F dX10_scansOne_5 rfl (by decide) rfl ?_
  obtain ⟨k_6, h⟩ := h
  refine g_weak [3, 2, 1, 0] rfl (bX10_scansOne_6 F hR hx0 (fun x1_49 s_k49 h => ?_) k_6 _ _ _ h)
  · refine g_iconst (pc := 49) F dX10_scansOne_49 ic_0 ?_
    refine g_istore_n (pc := 50) (lv' := [(_, _), (_, _), (_, _), (_, _)]) F dX10_scansOne_50 rfl (by decide) rfl ?_
    obtain ⟨k_51, h⟩ := h
    refine g_weak [1, 2, 3, 0] rfl (bX10_scansOne_51 F hR hx0 (fun x2_91 s_k91 h => ?_) k_51 _ _ _ h)
    · refine g_iload_n (pc := 91) F dX10_scansOne_91 rfl 2 rfl ?_
      refine g_aload_n (pc := 92) F dX10_scansOne_92 rfl 0 rfl ?_
      refine g_callVi (pc := 93) F (mX10_allMaps hx0 h) mvX10_allMaps uX10_202 (by decide) clX10 hx0.1 rfl rfl (Nat.le_of_ble_eq_true rfl) dX10_scansOne_93 (fun r_93 s_93 h => ?_)
      refine g_icmp_ne (pc := 96) F 205 dX10_scansOne_96 (by decide) (fun c => ?_) (fun c => ?_)
      · have h := h.1 c
        exact g_weak [0, 1, 2] rfl (bX10_scansOne_205 F hR hx0 h)
      · have h := h.2 c
        refine g_iconst (pc := 99) F dX10_scansOne_99 ic_0 ?_
        refine g_istore_n (pc := 100) (lv' := [(_, _), (_, _), (_, _), (_, _)]) F dX10_scansOne_100 rfl (by decide) rfl ?_
        obtain ⟨k_101, h⟩ := h
        refine g_weak [1, 2, 3, 0] rfl (bX10_scansOne_101 F hR hx0 (fun  s_k135 h => ?_) k_101 _ _ h)
        · refine g_iconst (pc := 135) F dX10_scansOne_135 ic_0 ?_
          refine g_istore_n (pc := 136) (lv' := [(_, _), (_, _), (_, _), (_, _)]) F dX10_scansOne_136 rfl (by decide) rfl ?_
          obtain ⟨k_137, h⟩ := h
          refine g_weak [1, 2, 3, 0] rfl (bX10_scansOne_137 F hR hx0 (fun  s_k205 h => ?_) k_137 _ _ h)
          · exact g_weak [0, 1, 2] rfl (bX10_scansOne_205 F hR hx0 h)
def wX10_steps_9 (x0 : Nat) (K36 : Int32 → St → Prop) (Q : Int32 → St → Prop) : Nat → Int32 → St → Prop
  | 0, _, _ => False
  | n + 1, x1, s =>
  ((x1 < 0 → K36 x1 s) ∧ (¬ x1 < 0 → vp_in x1 6 ∧ ((¬ (s.1 (x0 + 19) x1.toNatClampNeg) = (5 : Int32) → K36 x1 s) ∧ ((s.1 (x0 + 19) x1.toNatClampNeg) = (5 : Int32) → vp_in x1 6 ∧ ∀ s_29 : St, s_29 = stI s (x0 + 19) x1.toNatClampNeg (1 : Int32) → wX10_steps_9 x0 K36 Q n (x1 + (-1 : Int32)) s_29))))
set_option maxHeartbeats 4000000 in
set_option maxRecDepth 100000 in
theorem bX10_steps_9 {l : Launch} {V : Wv} {X : Mx} {x0 : Nat} {K36 : Int32 → St → Prop} {Q : Int32 → St → Prop} (F : Fx V X cX10_steps RX10 2 0) (hR : RtZ l V X 2 cX10_steps Q) (hx0 : isX10 V x0) (hK36 : ∀ (y1 : Int32) (s : St), K36 y1 s → G l V X 2 36 [(0, rf V x0), (1, .int y1)] [] s) : ∀ (n : Nat) (x1 : Int32) (s : St), wX10_steps_9 x0 K36 Q n x1 s → G l V X 2 9 [(0, rf V x0), (1, .int x1)] [] s := by
  intro n
  induction n with
  | zero => intro x1 s h; unfold wX10_steps_9 at h; exact h.elim
  | succ n ih =>
    intro x1 s h
    unfold wX10_steps_9 at h
    refine g_iload_n (pc := 9) F dX10_steps_9 rfl 1 rfl ?_
    refine g_if_lt (pc := 10) F 36 dX10_steps_10 (by decide) (fun c => ?_) (fun c => ?_)
    · have h := h.1 c
      exact g_weak [0, 1] rfl (hK36 _ _ h)
    · have h := h.2 c
      refine g_aload_n (pc := 13) F dX10_steps_13 rfl 0 rfl ?_
      refine g_getR (pc := 14) F clX10 hx0.1 29 _ rfl (by decide) uX10_65 dX10_steps_14 ?_
      refine g_iload_n (pc := 17) F dX10_steps_17 rfl 1 rfl ?_
      obtain ⟨hb_18, h⟩ := h
      refine g_iald (pc := 18) F hx0.2.2.2.2.2.2.2.2.2.2.2.2.2.2.2.2.2.2.2.1 hb_18 dX10_steps_18 ?_
      refine g_iconst (pc := 19) F dX10_steps_19 ic_5 ?_
      refine g_icmp_ne (pc := 20) F 36 dX10_steps_20 (by decide) (fun c => ?_) (fun c => ?_)
      · have h := h.1 c
        exact g_weak [0, 1] rfl (hK36 _ _ h)
      · have h := h.2 c
        refine g_aload_n (pc := 23) F dX10_steps_23 rfl 0 rfl ?_
        refine g_getR (pc := 24) F clX10 hx0.1 29 _ rfl (by decide) uX10_65 dX10_steps_24 ?_
        refine g_iload_n (pc := 27) F dX10_steps_27 rfl 1 rfl ?_
        refine g_iconst (pc := 28) F dX10_steps_28 ic_1 ?_
        obtain ⟨hb_29, h⟩ := h
        have h := h _ rfl
        refine g_iast (pc := 29) F hx0.2.2.2.2.2.2.2.2.2.2.2.2.2.2.2.2.2.2.2.1 hb_29 dX10_steps_29 ?_
        refine g_iinc (pc := 30) (lv' := [(_, _), (_, _)]) F dX10_steps_30 1 rfl (congrArg _ ic_m1) (by decide) rfl ?_
        refine g_goto (pc := 33) F 9 dX10_steps_33 (by decide) ?_
        exact g_weak [1, 0] rfl (ih _ _ h)
def wX10_steps_50 (Q : Int32 → St → Prop) (x1 : Int32) (s : St) : Prop :=
  ((x1 < 0 → Q (0 : Int32) s) ∧ (¬ x1 < 0 → Q (1 : Int32) s))
set_option maxHeartbeats 4000000 in
set_option maxRecDepth 100000 in
theorem bX10_steps_50 {l : Launch} {V : Wv} {X : Mx} {Q : Int32 → St → Prop} {x1 : Int32} (F : Fx V X cX10_steps RX10 2 0) (hR : RtZ l V X 2 cX10_steps Q)   {s : St} (h : wX10_steps_50 Q x1 s) : G l V X 2 50 [(1, .int x1)] [] s := by
  unfold wX10_steps_50 at h
  refine g_iload_n (pc := 50) F dX10_steps_50 rfl 0 rfl ?_
  refine g_if_lt (pc := 51) F 58 dX10_steps_51 (by decide) (fun c => ?_) (fun c => ?_)
  · have h := h.1 c
    refine g_iconst (pc := 58) F dX10_steps_58 ic_0 ?_
    exact hR _ _ _ _ dX10_steps_59 (Or.inl rfl) h
  · have h := h.2 c
    refine g_iconst (pc := 54) F dX10_steps_54 ic_1 ?_
    refine g_goto (pc := 55) F 59 dX10_steps_55 (by decide) ?_
    exact hR _ _ _ _ dX10_steps_59 (Or.inr rfl) h
def wX10_steps (x0 : Nat) (s : St) (Q : Int32 → St → Prop) : Prop :=
  vp_in (1 : Int32) 4 ∧ (∃ k_9, wX10_steps_9  x0 (fun x1_36 s_k36 => ((x1_36 < 0 → wX10_steps_50 Q x1_36 s_k36) ∧ (¬ x1_36 < 0 → vp_in x1_36 6 ∧ vp_in x1_36 6 ∧ ∀ s_49 : St, s_49 = stI s_k36 (x0 + 19) x1_36.toNatClampNeg ((s_k36.1 (x0 + 19) x1_36.toNatClampNeg) + (1 : Int32)) → wX10_steps_50 Q x1_36 s_49))) Q k_9 ((s.1 (x0 + 2) (1 : Int32).toNatClampNeg) - (1 : Int32)) s)
set_option maxHeartbeats 4000000 in
set_option maxRecDepth 100000 in
theorem mX10_steps {l : Launch} {V : Wv} {x0 : Nat} {s : St} {Q : Int32 → St → Prop} (hx0 : isX10 V x0) (h : wX10_steps x0 s Q) : Ci yX10_steps cX10_steps 2 (some .boolean) (0) l V [rf V x0] s Q := by
  unfold wX10_steps at h
  refine Cz.of mvX10_steps.1 (Nat.le_of_ble_eq_true rfl) (fun X F hR => ?_)
  refine g_lv (lv' := [(_, _)]) rfl ?_
  refine g_aload_n (pc := 0) F dX10_steps_0 rfl 0 rfl ?_
  refine g_getR (pc := 1) F clX10 hx0.1 9 _ rfl (by decide) uX10_13 dX10_steps_1 ?_
  refine g_iconst (pc := 4) F dX10_steps_4 ic_1 ?_
  obtain ⟨hb_5, h⟩ := h
  refine g_iald (pc := 5) F hx0.2.2.1 hb_5 dX10_steps_5 ?_
  refine g_iconst (pc := 6) F dX10_steps_6 ic_1 ?_
  refine g_isub (pc := 7) F dX10_steps_7 ?_
  refine g_istore_n (pc := 8) (lv' := [(_, _), (_, _)]) F dX10_steps_8 rfl (by decide) rfl ?_
  obtain ⟨k_9, h⟩ := h
  refine g_weak [1, 0] rfl (bX10_steps_9 F hR hx0 (fun x1_36 s_k36 h => ?_) k_9 _ _ h)
  · refine g_iload_n (pc := 36) F dX10_steps_36 rfl 1 rfl ?_
    refine g_if_lt (pc := 37) F 50 dX10_steps_37 (by decide) (fun c => ?_) (fun c => ?_)
    · have h := h.1 c
      exact g_weak [1] rfl (bX10_steps_50 F hR  h)
    · have h := h.2 c
      refine g_aload_n (pc := 40) F dX10_steps_40 rfl 0 rfl ?_
      refine g_getR (pc := 41) F clX10 hx0.1 29 _ rfl (by decide) uX10_65 dX10_steps_41 ?_
      refine g_iload_n (pc := 44) F dX10_steps_44 rfl 1 rfl ?_
      refine g_dup2 (pc := 45) F dX10_steps_45 rfl rfl ?_
      obtain ⟨hb_46, h⟩ := h
      refine g_iald (pc := 46) F hx0.2.2.2.2.2.2.2.2.2.2.2.2.2.2.2.2.2.2.2.1 hb_46 dX10_steps_46 ?_
      refine g_iconst (pc := 47) F dX10_steps_47 ic_1 ?_
      refine g_iadd (pc := 48) F dX10_steps_48 ?_
      obtain ⟨hb_49, h⟩ := h
      have h := h _ rfl
      refine g_iast (pc := 49) F hx0.2.2.2.2.2.2.2.2.2.2.2.2.2.2.2.2.2.2.2.1 hb_49 dX10_steps_49 ?_
      exact g_weak [1] rfl (bX10_steps_50 F hR  h)
def wX10_scans_2 (x0 : Nat) (x1 : Int32) (K22 : St → Prop) (Q : St → Prop) : Nat → Int32 → St → Prop
  | 0, _, _ => False
  | n + 1, x2, s =>
  (((16 : Int32) ≤ x2 → K22  s) ∧ (¬ (16 : Int32) ≤ x2 → vp_in x2 16 ∧ ∀ s_15 : St, s_15 = stI s (x0 + 20) x2.toNatClampNeg (1000000 : Int32) → wX10_scans_2 x0 x1 K22 Q n (x2 + (1 : Int32)) s_15))
set_option maxHeartbeats 4000000 in
set_option maxRecDepth 100000 in
theorem bX10_scans_2 {l : Launch} {V : Wv} {X : Mx} {x0 : Nat} {x1 : Int32} {K22 : St → Prop} {Q : St → Prop} (F : Fx V X cX10_scans RX10 3 3) (hR : RtV l V X 3 cX10_scans Q) (hx0 : isX10 V x0) (hK22 : ∀  (s : St), K22  s → G l V X 3 22 [(0, rf V x0), (1, .int x1)] [] s) : ∀ (n : Nat) (x2 : Int32) (s : St), wX10_scans_2 x0 x1 K22 Q n x2 s → G l V X 3 2 [(0, rf V x0), (1, .int x1), (2, .int x2)] [] s := by
  intro n
  induction n with
  | zero => intro x2 s h; unfold wX10_scans_2 at h; exact h.elim
  | succ n ih =>
    intro x2 s h
    unfold wX10_scans_2 at h
    refine g_iload_n (pc := 2) F dX10_scans_2 rfl 2 rfl ?_
    refine g_bipush (pc := 3) F dX10_scans_3 bp_16 ?_
    refine g_icmp_ge (pc := 5) F 22 dX10_scans_5 (by decide) (fun c => ?_) (fun c => ?_)
    · have h := h.1 c
      exact g_weak [0, 1] rfl (hK22 _ h)
    · have h := h.2 c
      refine g_aload_n (pc := 8) F dX10_scans_8 rfl 0 rfl ?_
      refine g_getR (pc := 9) F clX10 hx0.1 30 _ rfl (by decide) uX10_68 dX10_scans_9 ?_
      refine g_iload_n (pc := 12) F dX10_scans_12 rfl 2 rfl ?_
      refine g_ldc (pc := 13) F dX10_scans_13 uX10_167 ?_
      obtain ⟨hb_15, h⟩ := h
      have h := h _ rfl
      refine g_iast (pc := 15) F hx0.2.2.2.2.2.2.2.2.2.2.2.2.2.2.2.2.2.2.2.2.1 hb_15 dX10_scans_15 ?_
      refine g_iinc (pc := 16) (lv' := [(_, _), (_, _), (_, _)]) F dX10_scans_16 2 rfl (congrArg _ ic_1) (by decide) rfl ?_
      refine g_goto (pc := 19) F 2 dX10_scans_19 (by decide) ?_
      exact g_weak [1, 2, 0] rfl (ih _ _ h)
def wX10_scans_24 (x0 : Nat) (x1 : Int32) (K44 : St → Prop) (Q : St → Prop) : Nat → Int32 → St → Prop
  | 0, _, _ => False
  | n + 1, x2, s =>
  (((64 : Int32) ≤ x2 → K44  s) ∧ (¬ (64 : Int32) ≤ x2 → vp_in x2 64 ∧ ∀ s_37 : St, s_37 = stI s (x0 + 22) x2.toNatClampNeg (1000000 : Int32) → wX10_scans_24 x0 x1 K44 Q n (x2 + (1 : Int32)) s_37))
set_option maxHeartbeats 4000000 in
set_option maxRecDepth 100000 in
theorem bX10_scans_24 {l : Launch} {V : Wv} {X : Mx} {x0 : Nat} {x1 : Int32} {K44 : St → Prop} {Q : St → Prop} (F : Fx V X cX10_scans RX10 3 3) (hR : RtV l V X 3 cX10_scans Q) (hx0 : isX10 V x0) (hK44 : ∀  (s : St), K44  s → G l V X 3 44 [(0, rf V x0), (1, .int x1)] [] s) : ∀ (n : Nat) (x2 : Int32) (s : St), wX10_scans_24 x0 x1 K44 Q n x2 s → G l V X 3 24 [(0, rf V x0), (1, .int x1), (2, .int x2)] [] s := by
  intro n
  induction n with
  | zero => intro x2 s h; unfold wX10_scans_24 at h; exact h.elim
  | succ n ih =>
    intro x2 s h
    unfold wX10_scans_24 at h
    refine g_iload_n (pc := 24) F dX10_scans_24 rfl 2 rfl ?_
    refine g_bipush (pc := 25) F dX10_scans_25 bp_64 ?_
    refine g_icmp_ge (pc := 27) F 44 dX10_scans_27 (by decide) (fun c => ?_) (fun c => ?_)
    · have h := h.1 c
      exact g_weak [0, 1] rfl (hK44 _ h)
    · have h := h.2 c
      refine g_aload_n (pc := 30) F dX10_scans_30 rfl 0 rfl ?_
      refine g_getR (pc := 31) F clX10 hx0.1 32 _ rfl (by decide) uX10_74 dX10_scans_31 ?_
      refine g_iload_n (pc := 34) F dX10_scans_34 rfl 2 rfl ?_
      refine g_ldc (pc := 35) F dX10_scans_35 uX10_167 ?_
      obtain ⟨hb_37, h⟩ := h
      have h := h _ rfl
      refine g_iast (pc := 37) F hx0.2.2.2.2.2.2.2.2.2.2.2.2.2.2.2.2.2.2.2.2.2.2.1 hb_37 dX10_scans_37 ?_
      refine g_iinc (pc := 38) (lv' := [(_, _), (_, _), (_, _)]) F dX10_scans_38 2 rfl (congrArg _ ic_1) (by decide) rfl ?_
      refine g_goto (pc := 41) F 24 dX10_scans_41 (by decide) ?_
      exact g_weak [1, 2, 0] rfl (ih _ _ h)
def wX10_scans_46 (x0 : Nat) (x1 : Int32) (K65 : St → Prop) (Q : St → Prop) : Nat → Int32 → St → Prop
  | 0, _, _ => False
  | n + 1, x2, s =>
  (((6 : Int32) ≤ x2 → K65  s) ∧ (¬ (6 : Int32) ≤ x2 → vp_in x2 6 ∧ ∀ s_58 : St, s_58 = stI s (x0 + 19) x2.toNatClampNeg (1 : Int32) → wX10_scans_46 x0 x1 K65 Q n (x2 + (1 : Int32)) s_58))
set_option maxHeartbeats 4000000 in
set_option maxRecDepth 100000 in
theorem bX10_scans_46 {l : Launch} {V : Wv} {X : Mx} {x0 : Nat} {x1 : Int32} {K65 : St → Prop} {Q : St → Prop} (F : Fx V X cX10_scans RX10 3 3) (hR : RtV l V X 3 cX10_scans Q) (hx0 : isX10 V x0) (hK65 : ∀  (s : St), K65  s → G l V X 3 65 [(0, rf V x0), (1, .int x1)] [] s) : ∀ (n : Nat) (x2 : Int32) (s : St), wX10_scans_46 x0 x1 K65 Q n x2 s → G l V X 3 46 [(0, rf V x0), (1, .int x1), (2, .int x2)] [] s := by
  intro n
  induction n with
  | zero => intro x2 s h; unfold wX10_scans_46 at h; exact h.elim
  | succ n ih =>
    intro x2 s h
    unfold wX10_scans_46 at h
    refine g_iload_n (pc := 46) F dX10_scans_46 rfl 2 rfl ?_
    refine g_bipush (pc := 47) F dX10_scans_47 bp_6 ?_
    refine g_icmp_ge (pc := 49) F 65 dX10_scans_49 (by decide) (fun c => ?_) (fun c => ?_)
    · have h := h.1 c
      exact g_weak [0, 1] rfl (hK65 _ h)
    · have h := h.2 c
      refine g_aload_n (pc := 52) F dX10_scans_52 rfl 0 rfl ?_
      refine g_getR (pc := 53) F clX10 hx0.1 29 _ rfl (by decide) uX10_65 dX10_scans_53 ?_
      refine g_iload_n (pc := 56) F dX10_scans_56 rfl 2 rfl ?_
      refine g_iconst (pc := 57) F dX10_scans_57 ic_1 ?_
      obtain ⟨hb_58, h⟩ := h
      have h := h _ rfl
      refine g_iast (pc := 58) F hx0.2.2.2.2.2.2.2.2.2.2.2.2.2.2.2.2.2.2.2.1 hb_58 dX10_scans_58 ?_
      refine g_iinc (pc := 59) (lv' := [(_, _), (_, _), (_, _)]) F dX10_scans_59 2 rfl (congrArg _ ic_1) (by decide) rfl ?_
      refine g_goto (pc := 62) F 46 dX10_scans_62 (by decide) ?_
      exact g_weak [1, 2, 0] rfl (ih _ _ h)
def wX10_scans_67 (x0 : Nat) (x1 : Int32) (K95 : St → Prop) (Q : St → Prop) : Nat → Int32 → St → Prop
  | 0, _, _ => False
  | n + 1, x2, s =>
  vp_in (6 : Int32) 38 ∧ (((s.1 (x0 + 7) (6 : Int32).toNatClampNeg) ≤ x2 → K95  s) ∧ (¬ (s.1 (x0 + 7) (6 : Int32).toNatClampNeg) ≤ x2 → wX10_mapLanes x0 x2 s (fun r_85 s_85 => vp_in x2 4 ∧ ∀ s_88 : St, s_88 = stI s_85 (x0 + 17) x2.toNatClampNeg r_85 → wX10_scans_67 x0 x1 K95 Q n (x2 + (1 : Int32)) s_88)))
set_option maxHeartbeats 4000000 in
set_option maxRecDepth 100000 in
theorem bX10_scans_67 {l : Launch} {V : Wv} {X : Mx} {x0 : Nat} {x1 : Int32} {K95 : St → Prop} {Q : St → Prop} (F : Fx V X cX10_scans RX10 3 3) (hR : RtV l V X 3 cX10_scans Q) (hx0 : isX10 V x0) (hK95 : ∀  (s : St), K95  s → G l V X 3 95 [(0, rf V x0), (1, .int x1)] [] s) : ∀ (n : Nat) (x2 : Int32) (s : St), wX10_scans_67 x0 x1 K95 Q n x2 s → G l V X 3 67 [(0, rf V x0), (1, .int x1), (2, .int x2)] [] s := by
  intro n
  induction n with
  | zero => intro x2 s h; unfold wX10_scans_67 at h; exact h.elim
  | succ n ih =>
    intro x2 s h
    unfold wX10_scans_67 at h
    refine g_iload_n (pc := 67) F dX10_scans_67 rfl 2 rfl ?_
    refine g_aload_n (pc := 68) F dX10_scans_68 rfl 0 rfl ?_
    refine g_getR (pc := 69) F clX10 hx0.1 14 _ rfl (by decide) uX10_28 dX10_scans_69 ?_
    refine g_bipush (pc := 72) F dX10_scans_72 bp_6 ?_
    obtain ⟨hb_74, h⟩ := h
    refine g_iald (pc := 74) F hx0.2.2.2.2.2.2.2.1 hb_74 dX10_scans_74 ?_
    refine g_icmp_ge (pc := 75) F 95 dX10_scans_75 (by decide) (fun c => ?_) (fun c => ?_)
    · have h := h.1 c
      exact g_weak [0, 1] rfl (hK95 _ h)
    · have h := h.2 c
      refine g_aload_n (pc := 78) F dX10_scans_78 rfl 0 rfl ?_
      refine g_getR (pc := 79) F clX10 hx0.1 27 _ rfl (by decide) uX10_59 dX10_scans_79 ?_
      refine g_iload_n (pc := 82) F dX10_scans_82 rfl 2 rfl ?_
      refine g_aload_n (pc := 83) F dX10_scans_83 rfl 0 rfl ?_
      refine g_iload_n (pc := 84) F dX10_scans_84 rfl 2 rfl ?_
      refine g_callVi (pc := 85) F (mX10_mapLanes hx0 h) mvX10_mapLanes uX10_168 (by decide) clX10 hx0.1 rfl rfl (Nat.le_of_ble_eq_true rfl) dX10_scans_85 (fun r_85 s_85 h => ?_)
      obtain ⟨hb_88, h⟩ := h
      have h := h _ rfl
      refine g_iast (pc := 88) F hx0.2.2.2.2.2.2.2.2.2.2.2.2.2.2.2.2.2.1 hb_88 dX10_scans_88 ?_
      refine g_iinc (pc := 89) (lv' := [(_, _), (_, _), (_, _)]) F dX10_scans_89 2 rfl (congrArg _ ic_1) (by decide) rfl ?_
      refine g_goto (pc := 92) F 67 dX10_scans_92 (by decide) ?_
      exact g_weak [1, 2, 0] rfl (ih _ _ h)
def wX10_scans_125 (rec : Int32 → St → Prop) (Q : St → Prop) (x0 : Nat) (x1 : Int32) (s : St) : Prop :=
  wX10_steps x0 s (fun r_126 s_126 => rec r_126 s_126)
set_option maxHeartbeats 4000000 in
set_option maxRecDepth 100000 in
theorem bX10_scans_125 {l : Launch} {V : Wv} {X : Mx} {rec : Int32 → St → Prop} {Q : St → Prop} {x0 : Nat} {x1 : Int32} (F : Fx V X cX10_scans RX10 3 3) (hR : RtV l V X 3 cX10_scans Q) (hx0 : isX10 V x0) (hrec : ∀ (y2 : Int32) (s : St), rec y2 s → G l V X 3 97 [(0, rf V x0), (1, .int x1), (2, .int y2)] [] s) {s : St} (h : wX10_scans_125 rec Q x0 x1 s) : G l V X 3 125 [(0, rf V x0), (1, .int x1)] [] s := by
  unfold wX10_scans_125 at h
  refine g_aload_n (pc := 125) F dX10_scans_125 rfl 0 rfl ?_
  refine g_callVi (pc := 126) F (mX10_steps hx0 h) mvX10_steps uX10_220 (by decide) clX10 hx0.1 rfl rfl (Nat.le_of_ble_eq_true rfl) dX10_scans_126 (fun r_126 s_126 h => ?_)
  refine g_istore_n (pc := 129) (lv' := [(_, _), (_, _), (_, _)]) F dX10_scans_129 rfl (by decide) rfl ?_
  refine g_goto (pc := 130) F 97 dX10_scans_130 (by decide) ?_
  exact g_weak [1, 2, 0] rfl (hrec _ _ h)
def wX10_scans_121 (rec : Int32 → St → Prop) (Q : St → Prop) (x0 : Nat) (x1 : Int32) (s : St) : Prop :=
  wX10_scansOne x0 s (fun s_122 => wX10_scans_125 (rec) Q x0 x1 s_122)
set_option maxHeartbeats 4000000 in
set_option maxRecDepth 100000 in
theorem bX10_scans_121 {l : Launch} {V : Wv} {X : Mx} {rec : Int32 → St → Prop} {Q : St → Prop} {x0 : Nat} {x1 : Int32} (F : Fx V X cX10_scans RX10 3 3) (hR : RtV l V X 3 cX10_scans Q) (hx0 : isX10 V x0) (hrec : ∀ (y2 : Int32) (s : St), rec y2 s → G l V X 3 97 [(0, rf V x0), (1, .int x1), (2, .int y2)] [] s) {s : St} (h : wX10_scans_121 rec Q x0 x1 s) : G l V X 3 121 [(0, rf V x0), (1, .int x1)] [] s := by
  unfold wX10_scans_121 at h
  refine g_aload_n (pc := 121) F dX10_scans_121 rfl 0 rfl ?_
  refine g_callVv (pc := 122) F (mX10_scansOne hx0 h) mvX10_scansOne uX10_217 (by decide) clX10 hx0.1 rfl rfl (Nat.le_of_ble_eq_true rfl) dX10_scans_122 (fun s_122 h => ?_)
  exact g_weak [0, 1] rfl (bX10_scans_125 F hR hx0 hrec h)
def wX10_scans_97 (x0 : Nat) (x1 : Int32) (Q : St → Prop) : Nat → Int32 → St → Prop
  | 0, _, _ => False
  | n + 1, x2, s =>
  ((x2 = 0 → Q s) ∧ (¬ x2 = 0 → wX10_measures x0 (x0 + 19) 6 s (fun s_106 => ((x1 = 0 → wX10_scans_121 (wX10_scans_97 x0 x1 Q n) Q x0 x1 s_106) ∧ (¬ x1 = 0 → wX10_holds x0 x1 s_106 (fun r_115 s_115 => ((r_115 = 0 → wX10_scans_125 (wX10_scans_97 x0 x1 Q n) Q x0 x1 s_115) ∧ (¬ r_115 = 0 → wX10_scans_121 (wX10_scans_97 x0 x1 Q n) Q x0 x1 s_115))))))))
set_option maxHeartbeats 4000000 in
set_option maxRecDepth 100000 in
theorem bX10_scans_97 {l : Launch} {V : Wv} {X : Mx} {x0 : Nat} {x1 : Int32} {Q : St → Prop} (F : Fx V X cX10_scans RX10 3 3) (hR : RtV l V X 3 cX10_scans Q) (hx0 : isX10 V x0)  : ∀ (n : Nat) (x2 : Int32) (s : St), wX10_scans_97 x0 x1 Q n x2 s → G l V X 3 97 [(0, rf V x0), (1, .int x1), (2, .int x2)] [] s := by
  intro n
  induction n with
  | zero => intro x2 s h; unfold wX10_scans_97 at h; exact h.elim
  | succ n ih =>
    intro x2 s h
    unfold wX10_scans_97 at h
    refine g_iload_n (pc := 97) F dX10_scans_97 rfl 2 rfl ?_
    refine g_if_eq (pc := 98) F 133 dX10_scans_98 (by decide) (fun c => ?_) (fun c => ?_)
    · have h := h.1 c
      exact hR _ _ _ dX10_scans_133 h
    · have h := h.2 c
      refine g_aload_n (pc := 101) F dX10_scans_101 rfl 0 rfl ?_
      refine g_aload_n (pc := 102) F dX10_scans_102 rfl 0 rfl ?_
      refine g_getR (pc := 103) F clX10 hx0.1 29 _ rfl (by decide) uX10_65 dX10_scans_103 ?_
      refine g_callVv (pc := 106) F (mX10_measures hx0 hx0.2.2.2.2.2.2.2.2.2.2.2.2.2.2.2.2.2.2.2.1 h) mvX10_measures uX10_181 (by decide) clX10 hx0.1 rfl rfl (Nat.le_of_ble_eq_true rfl) dX10_scans_106 (fun s_106 h => ?_)
      refine g_iload_n (pc := 109) F dX10_scans_109 rfl 1 rfl ?_
      refine g_if_eq (pc := 110) F 121 dX10_scans_110 (by decide) (fun c => ?_) (fun c => ?_)
      · have h := h.1 c
        exact g_weak [0, 1] rfl (bX10_scans_121 F hR hx0 ih h)
      · have h := h.2 c
        refine g_aload_n (pc := 113) F dX10_scans_113 rfl 0 rfl ?_
        refine g_iload_n (pc := 114) F dX10_scans_114 rfl 1 rfl ?_
        refine g_callVi (pc := 115) F (mX10_holds hx0 h) mvX10_holds uX10_185 (by decide) clX10 hx0.1 rfl rfl (Nat.le_of_ble_eq_true rfl) dX10_scans_115 (fun r_115 s_115 h => ?_)
        refine g_if_eq (pc := 118) F 125 dX10_scans_118 (by decide) (fun c => ?_) (fun c => ?_)
        · have h := h.1 c
          exact g_weak [0, 1] rfl (bX10_scans_125 F hR hx0 ih h)
        · have h := h.2 c
          exact g_weak [0, 1] rfl (bX10_scans_121 F hR hx0 ih h)
def wX10_scans (x0 : Nat) (x1 : Int32) (s : St) (Q : St → Prop) : Prop :=
  (∃ k_2, wX10_scans_2  x0 x1 (fun  s_k22 => (∃ k_24, wX10_scans_24  x0 x1 (fun  s_k44 => (∃ k_46, wX10_scans_46  x0 x1 (fun  s_k65 => (∃ k_67, wX10_scans_67  x0 x1 (fun  s_k95 => (∃ k_97, wX10_scans_97  x0 x1  Q k_97 (1 : Int32) s_k95)) Q k_67 (0 : Int32) s_k65)) Q k_46 (0 : Int32) s_k44)) Q k_24 (0 : Int32) s_k22)) Q k_2 (0 : Int32) s)
set_option maxHeartbeats 4000000 in
set_option maxRecDepth 100000 in
theorem mX10_scans {l : Launch} {V : Wv} {x0 : Nat} {x1 : Int32} {s : St} {Q : St → Prop} (hx0 : isX10 V x0) (h : wX10_scans x0 x1 s Q) : Cv yX10_scans cX10_scans 3 (3) l V [rf V x0, .int x1] s Q := by
  unfold wX10_scans at h
  refine Cv.of mvX10_scans.1 (Nat.le_of_ble_eq_true rfl) (fun X F hR => ?_)
  refine g_lv (lv' := [(_, _), (_, _)]) rfl ?_
  refine g_iconst (pc := 0) F dX10_scans_0 ic_0 ?_
  refine g_istore_n (pc := 1) (lv' := [(_, _), (_, _), (_, _)]) F dX10_scans_1 rfl (by decide) rfl ?_
  obtain ⟨k_2, h⟩ := h
  refine g_weak [1, 2, 0] rfl (bX10_scans_2 F hR hx0 (fun  s_k22 h => ?_) k_2 _ _ h)
  · refine g_iconst (pc := 22) F dX10_scans_22 ic_0 ?_
    refine g_istore_n (pc := 23) (lv' := [(_, _), (_, _), (_, _)]) F dX10_scans_23 rfl (by decide) rfl ?_
    obtain ⟨k_24, h⟩ := h
    refine g_weak [1, 2, 0] rfl (bX10_scans_24 F hR hx0 (fun  s_k44 h => ?_) k_24 _ _ h)
    · refine g_iconst (pc := 44) F dX10_scans_44 ic_0 ?_
      refine g_istore_n (pc := 45) (lv' := [(_, _), (_, _), (_, _)]) F dX10_scans_45 rfl (by decide) rfl ?_
      obtain ⟨k_46, h⟩ := h
      refine g_weak [1, 2, 0] rfl (bX10_scans_46 F hR hx0 (fun  s_k65 h => ?_) k_46 _ _ h)
      · refine g_iconst (pc := 65) F dX10_scans_65 ic_0 ?_
        refine g_istore_n (pc := 66) (lv' := [(_, _), (_, _), (_, _)]) F dX10_scans_66 rfl (by decide) rfl ?_
        obtain ⟨k_67, h⟩ := h
        refine g_weak [1, 2, 0] rfl (bX10_scans_67 F hR hx0 (fun  s_k95 h => ?_) k_67 _ _ h)
        · refine g_iconst (pc := 95) F dX10_scans_95 ic_1 ?_
          refine g_istore_n (pc := 96) (lv' := [(_, _), (_, _), (_, _)]) F dX10_scans_96 rfl (by decide) rfl ?_
          obtain ⟨k_97, h⟩ := h
          refine g_weak [1, 2, 0] rfl (bX10_scans_97 F hR hx0 k_97 _ _ h)
def wX10_costOf_39 (rec : Int32 → Int32 → St → Prop) (Q : Int32 → St → Prop) (x0 : Nat) (x1 : Int32) (x3 : Int32) (t0 : Int32) (s : St) : Prop :=
  rec t0 (x3 + (1 : Int32)) s
set_option maxHeartbeats 4000000 in
set_option maxRecDepth 100000 in
theorem bX10_costOf_39 {l : Launch} {V : Wv} {X : Mx} {rec : Int32 → Int32 → St → Prop} {Q : Int32 → St → Prop} {x0 : Nat} {x1 : Int32} {x3 : Int32} {t0 : Int32} (F : Fx V X cX10_costOf RX10 4 0) (hR : RtI l V X 4 cX10_costOf Q) (hx0 : isX10 V x0) (hrec : ∀ (y2 : Int32) (y3 : Int32) (s : St), rec y2 y3 s → G l V X 4 5 [(0, rf V x0), (1, .int x1), (2, .int y2), (3, .int y3)] [] s) {s : St} (h : wX10_costOf_39 rec Q x0 x1 x3 t0 s) : G l V X 4 39 [(0, rf V x0), (1, .int x1), (3, .int x3)] [.int t0] s := by
  unfold wX10_costOf_39 at h
  refine g_istore_n (pc := 39) (lv' := [(_, _), (_, _), (_, _), (_, _)]) F dX10_costOf_39 rfl (by decide) rfl ?_
  refine g_iinc (pc := 40) (lv' := [(_, _), (_, _), (_, _), (_, _)]) F dX10_costOf_40 3 rfl (congrArg _ ic_1) (by decide) rfl ?_
  refine g_goto (pc := 43) F 5 dX10_costOf_43 (by decide) ?_
  exact g_weak [2, 3, 1, 0] rfl (hrec _ _ _ h)
def wX10_costOf_38 (rec : Int32 → Int32 → St → Prop) (Q : Int32 → St → Prop) (x0 : Nat) (x1 : Int32) (x2 : Int32) (x3 : Int32) (s : St) : Prop :=
  wX10_costOf_39 (rec) Q x0 x1 x3 x2 s
set_option maxHeartbeats 4000000 in
set_option maxRecDepth 100000 in
theorem bX10_costOf_38 {l : Launch} {V : Wv} {X : Mx} {rec : Int32 → Int32 → St → Prop} {Q : Int32 → St → Prop} {x0 : Nat} {x1 : Int32} {x2 : Int32} {x3 : Int32} (F : Fx V X cX10_costOf RX10 4 0) (hR : RtI l V X 4 cX10_costOf Q) (hx0 : isX10 V x0) (hrec : ∀ (y2 : Int32) (y3 : Int32) (s : St), rec y2 y3 s → G l V X 4 5 [(0, rf V x0), (1, .int x1), (2, .int y2), (3, .int y3)] [] s) {s : St} (h : wX10_costOf_38 rec Q x0 x1 x2 x3 s) : G l V X 4 38 [(0, rf V x0), (1, .int x1), (2, .int x2), (3, .int x3)] [] s := by
  unfold wX10_costOf_38 at h
  refine g_iload_n (pc := 38) F dX10_costOf_38 rfl 2 rfl ?_
  exact g_weak [0, 1, 3] rfl (bX10_costOf_39 F hR hx0 hrec h)
def wX10_costOf_5 (x0 : Nat) (x1 : Int32) (Q : Int32 → St → Prop) : Nat → Int32 → Int32 → St → Prop
  | 0, _, _, _ => False
  | n + 1, x2, x3, s =>
  (((16 : Int32) ≤ x3 → Q x2 s) ∧ (¬ (16 : Int32) ≤ x3 → ((¬ (x1 &&& (x3 ^^^ (-1 : Int32))) = 0 → wX10_costOf_38 (wX10_costOf_5 x0 x1 Q n) Q x0 x1 x2 x3 s) ∧ ((x1 &&& (x3 ^^^ (-1 : Int32))) = 0 → vp_in x3 16 ∧ ((x2 ≤ (s.1 (x0 + 20) x3.toNatClampNeg) → wX10_costOf_38 (wX10_costOf_5 x0 x1 Q n) Q x0 x1 x2 x3 s) ∧ (¬ x2 ≤ (s.1 (x0 + 20) x3.toNatClampNeg) → vp_in x3 16 ∧ wX10_costOf_39 (wX10_costOf_5 x0 x1 Q n) Q x0 x1 x3 (s.1 (x0 + 20) x3.toNatClampNeg) s))))))
set_option maxHeartbeats 4000000 in
set_option maxRecDepth 100000 in
theorem bX10_costOf_5 {l : Launch} {V : Wv} {X : Mx} {x0 : Nat} {x1 : Int32} {Q : Int32 → St → Prop} (F : Fx V X cX10_costOf RX10 4 0) (hR : RtI l V X 4 cX10_costOf Q) (hx0 : isX10 V x0)  : ∀ (n : Nat) (x2 : Int32) (x3 : Int32) (s : St), wX10_costOf_5 x0 x1 Q n x2 x3 s → G l V X 4 5 [(0, rf V x0), (1, .int x1), (2, .int x2), (3, .int x3)] [] s := by
  intro n
  induction n with
  | zero => intro x2 x3 s h; unfold wX10_costOf_5 at h; exact h.elim
  | succ n ih =>
    intro x2 x3 s h
    unfold wX10_costOf_5 at h
    refine g_iload_n (pc := 5) F dX10_costOf_5 rfl 3 rfl ?_
    refine g_bipush (pc := 6) F dX10_costOf_6 bp_16 ?_
    refine g_icmp_ge (pc := 8) F 46 dX10_costOf_8 (by decide) (fun c => ?_) (fun c => ?_)
    · have h := h.1 c
      refine g_iload_n (pc := 46) F dX10_costOf_46 rfl 2 rfl ?_
      exact hR _ _ _ _ dX10_costOf_47 h
    · have h := h.2 c
      refine g_iload_n (pc := 11) F dX10_costOf_11 rfl 1 rfl ?_
      refine g_iload_n (pc := 12) F dX10_costOf_12 rfl 3 rfl ?_
      refine g_iconst (pc := 13) F dX10_costOf_13 ic_m1 ?_
      refine g_ixor (pc := 14) F dX10_costOf_14 ?_
      refine g_iand (pc := 15) F dX10_costOf_15 ?_
      refine g_if_ne (pc := 16) F 38 dX10_costOf_16 (by decide) (fun c => ?_) (fun c => ?_)
      · have h := h.1 c
        exact g_weak [0, 1, 2, 3] rfl (bX10_costOf_38 F hR hx0 ih h)
      · have h := h.2 c
        refine g_aload_n (pc := 19) F dX10_costOf_19 rfl 0 rfl ?_
        refine g_getR (pc := 20) F clX10 hx0.1 30 _ rfl (by decide) uX10_68 dX10_costOf_20 ?_
        refine g_iload_n (pc := 23) F dX10_costOf_23 rfl 3 rfl ?_
        obtain ⟨hb_24, h⟩ := h
        refine g_iald (pc := 24) F hx0.2.2.2.2.2.2.2.2.2.2.2.2.2.2.2.2.2.2.2.2.1 hb_24 dX10_costOf_24 ?_
        refine g_iload_n (pc := 25) F dX10_costOf_25 rfl 2 rfl ?_
        refine g_icmp_ge (pc := 26) F 38 dX10_costOf_26 (by decide) (fun c => ?_) (fun c => ?_)
        · have h := h.1 c
          exact g_weak [0, 1, 2, 3] rfl (bX10_costOf_38 F hR hx0 ih h)
        · have h := h.2 c
          refine g_aload_n (pc := 29) F dX10_costOf_29 rfl 0 rfl ?_
          refine g_getR (pc := 30) F clX10 hx0.1 30 _ rfl (by decide) uX10_68 dX10_costOf_30 ?_
          refine g_iload_n (pc := 33) F dX10_costOf_33 rfl 3 rfl ?_
          obtain ⟨hb_34, h⟩ := h
          refine g_iald (pc := 34) F hx0.2.2.2.2.2.2.2.2.2.2.2.2.2.2.2.2.2.2.2.2.1 hb_34 dX10_costOf_34 ?_
          refine g_goto (pc := 35) F 39 dX10_costOf_35 (by decide) ?_
          exact g_weak [0, 1, 3] rfl (bX10_costOf_39 F hR hx0 ih h)
def wX10_costOf (x0 : Nat) (x1 : Int32) (s : St) (Q : Int32 → St → Prop) : Prop :=
  (∃ k_5, wX10_costOf_5  x0 x1  Q k_5 (1000000 : Int32) (0 : Int32) s)
set_option maxHeartbeats 4000000 in
set_option maxRecDepth 100000 in
theorem mX10_costOf {l : Launch} {V : Wv} {x0 : Nat} {x1 : Int32} {s : St} {Q : Int32 → St → Prop} (hx0 : isX10 V x0) (h : wX10_costOf x0 x1 s Q) : Ci yX10_costOf cX10_costOf 4 (some .int) (0) l V [rf V x0, .int x1] s Q := by
  unfold wX10_costOf at h
  refine Ci.of mvX10_costOf.1 (Nat.le_of_ble_eq_true rfl) (fun X F hR => ?_)
  refine g_lv (lv' := [(_, _), (_, _)]) rfl ?_
  refine g_ldc (pc := 0) F dX10_costOf_0 uX10_167 ?_
  refine g_istore_n (pc := 2) (lv' := [(_, _), (_, _), (_, _)]) F dX10_costOf_2 rfl (by decide) rfl ?_
  refine g_iconst (pc := 3) F dX10_costOf_3 ic_0 ?_
  refine g_istore_n (pc := 4) (lv' := [(_, _), (_, _), (_, _), (_, _)]) F dX10_costOf_4 rfl (by decide) rfl ?_
  obtain ⟨k_5, h⟩ := h
  refine g_weak [2, 3, 1, 0] rfl (bX10_costOf_5 F hR hx0 k_5 _ _ _ h)
def wX10_asks_102 (rec : Int32 → St → Prop) (K109 : St → Prop) (Q : Int32 → St → Prop) (x0 : Nat) (x1 : Int32) (x2 : Int32) (t0 : Int32) (t1 : Int32) (t2 : Nat) (s : St) : Prop :=
  vp_in t1 38 ∧ ∀ s_102 : St, s_102 = stI s t2 t1.toNatClampNeg t0 → rec (x2 + (1 : Int32)) s_102
set_option maxHeartbeats 4000000 in
set_option maxRecDepth 100000 in
theorem bX10_asks_102 {l : Launch} {V : Wv} {X : Mx} {rec : Int32 → St → Prop} {K109 : St → Prop} {Q : Int32 → St → Prop} {x0 : Nat} {x1 : Int32} {x2 : Int32} {t0 : Int32} {t1 : Int32} {t2 : Nat} (F : Fx V X cX10_asks RX10 4 4) (hR : RtI l V X 4 cX10_asks Q) (hx0 : isX10 V x0) (ht2 : V.2.1[t2]? = some (11, [38])) (hrec : ∀ (y2 : Int32) (s : St), rec y2 s → G l V X 4 62 [(0, rf V x0), (1, .int x1), (2, .int y2)] [] s) (hK109 : ∀  (s : St), K109  s → G l V X 4 109 [(0, rf V x0), (1, .int x1)] [] s) {s : St} (h : wX10_asks_102 rec K109 Q x0 x1 x2 t0 t1 t2 s) : G l V X 4 102 [(0, rf V x0), (1, .int x1), (2, .int x2)] [.int t0, .int t1, rf V t2] s := by
  unfold wX10_asks_102 at h
  obtain ⟨hb_102, h⟩ := h
  have h := h _ rfl
  refine g_iast (pc := 102) F ht2 hb_102 dX10_asks_102 ?_
  refine g_iinc (pc := 103) (lv' := [(_, _), (_, _), (_, _)]) F dX10_asks_103 2 rfl (congrArg _ ic_1) (by decide) rfl ?_
  refine g_goto (pc := 106) F 62 dX10_asks_106 (by decide) ?_
  exact g_weak [1, 2, 0] rfl (hrec _ _ h)
def wX10_asks_62 (x0 : Nat) (x1 : Int32) (K109 : St → Prop) (Q : Int32 → St → Prop) : Nat → Int32 → St → Prop
  | 0, _, _ => False
  | n + 1, x2, s =>
  (((6 : Int32) ≤ x2 → K109  s) ∧ (¬ (6 : Int32) ≤ x2 → vp_in (1 : Int32) 4 ∧ (((s.1 (x0 + 2) (1 : Int32).toNatClampNeg) ≤ x2 → vp_in ((0 : Int32) + x2) 38 ∧ wX10_asks_102 (wX10_asks_62 x0 x1 K109 Q n) (K109) Q x0 x1 x2 (s.1 (x0 + 7) ((0 : Int32) + x2).toNatClampNeg) ((0 : Int32) + x2) (x0 + 7) s) ∧ (¬ (s.1 (x0 + 2) (1 : Int32).toNatClampNeg) ≤ x2 → vp_in x2 6 ∧ wX10_asks_102 (wX10_asks_62 x0 x1 K109 Q n) (K109) Q x0 x1 x2 (s.1 (x0 + 21) x2.toNatClampNeg) ((0 : Int32) + x2) (x0 + 7) s))))
set_option maxHeartbeats 4000000 in
set_option maxRecDepth 100000 in
theorem bX10_asks_62 {l : Launch} {V : Wv} {X : Mx} {x0 : Nat} {x1 : Int32} {K109 : St → Prop} {Q : Int32 → St → Prop} (F : Fx V X cX10_asks RX10 4 4) (hR : RtI l V X 4 cX10_asks Q) (hx0 : isX10 V x0) (hK109 : ∀  (s : St), K109  s → G l V X 4 109 [(0, rf V x0), (1, .int x1)] [] s) : ∀ (n : Nat) (x2 : Int32) (s : St), wX10_asks_62 x0 x1 K109 Q n x2 s → G l V X 4 62 [(0, rf V x0), (1, .int x1), (2, .int x2)] [] s := by
  intro n
  induction n with
  | zero => intro x2 s h; unfold wX10_asks_62 at h; exact h.elim
  | succ n ih =>
    intro x2 s h
    unfold wX10_asks_62 at h
    refine g_iload_n (pc := 62) F dX10_asks_62 rfl 2 rfl ?_
    refine g_bipush (pc := 63) F dX10_asks_63 bp_6 ?_
    refine g_icmp_ge (pc := 65) F 109 dX10_asks_65 (by decide) (fun c => ?_) (fun c => ?_)
    · have h := h.1 c
      exact g_weak [0, 1] rfl (hK109 _ h)
    · have h := h.2 c
      refine g_aload_n (pc := 68) F dX10_asks_68 rfl 0 rfl ?_
      refine g_getR (pc := 69) F clX10 hx0.1 14 _ rfl (by decide) uX10_28 dX10_asks_69 ?_
      refine g_iconst (pc := 72) F dX10_asks_72 ic_0 ?_
      refine g_iload_n (pc := 73) F dX10_asks_73 rfl 2 rfl ?_
      refine g_iadd (pc := 74) F dX10_asks_74 ?_
      refine g_iload_n (pc := 75) F dX10_asks_75 rfl 2 rfl ?_
      refine g_aload_n (pc := 76) F dX10_asks_76 rfl 0 rfl ?_
      refine g_getR (pc := 77) F clX10 hx0.1 9 _ rfl (by decide) uX10_13 dX10_asks_77 ?_
      refine g_iconst (pc := 80) F dX10_asks_80 ic_1 ?_
      obtain ⟨hb_81, h⟩ := h
      refine g_iald (pc := 81) F hx0.2.2.1 hb_81 dX10_asks_81 ?_
      refine g_icmp_ge (pc := 82) F 94 dX10_asks_82 (by decide) (fun c => ?_) (fun c => ?_)
      · have h := h.1 c
        refine g_aload_n (pc := 94) F dX10_asks_94 rfl 0 rfl ?_
        refine g_getR (pc := 95) F clX10 hx0.1 14 _ rfl (by decide) uX10_28 dX10_asks_95 ?_
        refine g_iconst (pc := 98) F dX10_asks_98 ic_0 ?_
        refine g_iload_n (pc := 99) F dX10_asks_99 rfl 2 rfl ?_
        refine g_iadd (pc := 100) F dX10_asks_100 ?_
        obtain ⟨hb_101, h⟩ := h
        refine g_iald (pc := 101) F hx0.2.2.2.2.2.2.2.1 hb_101 dX10_asks_101 ?_
        exact g_weak [0, 1, 2] rfl (bX10_asks_102 F hR hx0 hx0.2.2.2.2.2.2.2.1 ih hK109 h)
      · have h := h.2 c
        refine g_aload_n (pc := 85) F dX10_asks_85 rfl 0 rfl ?_
        refine g_getR (pc := 86) F clX10 hx0.1 31 _ rfl (by decide) uX10_71 dX10_asks_86 ?_
        refine g_iload_n (pc := 89) F dX10_asks_89 rfl 2 rfl ?_
        obtain ⟨hb_90, h⟩ := h
        refine g_iald (pc := 90) F hx0.2.2.2.2.2.2.2.2.2.2.2.2.2.2.2.2.2.2.2.2.2.1 hb_90 dX10_asks_90 ?_
        refine g_goto (pc := 91) F 102 dX10_asks_91 (by decide) ?_
        exact g_weak [0, 1, 2] rfl (bX10_asks_102 F hR hx0 hx0.2.2.2.2.2.2.2.1 ih hK109 h)
def wX10_asks_165 (rec : Int32 → St → Prop) (K182 : St → Prop) (Q : Int32 → St → Prop) (x0 : Nat) (x1 : Int32) (x2 : Int32) (x3 : Int32) (t0 : Int32) (t1 : Int32) (t2 : Nat) (s : St) : Prop :=
  vp_in t1 38 ∧ ∀ s_165 : St, s_165 = stI s t2 t1.toNatClampNeg t0 → vp_in ((31 : Int32) + x3) 38 ∧ ∀ s_175 : St, s_175 = stI s_165 (x0 + 7) ((31 : Int32) + x3).toNatClampNeg (0 : Int32) → rec (x3 + (1 : Int32)) s_175
set_option maxHeartbeats 4000000 in
set_option maxRecDepth 100000 in
theorem bX10_asks_165 {l : Launch} {V : Wv} {X : Mx} {rec : Int32 → St → Prop} {K182 : St → Prop} {Q : Int32 → St → Prop} {x0 : Nat} {x1 : Int32} {x2 : Int32} {x3 : Int32} {t0 : Int32} {t1 : Int32} {t2 : Nat} (F : Fx V X cX10_asks RX10 4 4) (hR : RtI l V X 4 cX10_asks Q) (hx0 : isX10 V x0) (ht2 : V.2.1[t2]? = some (11, [38])) (hrec : ∀ (y3 : Int32) (s : St), rec y3 s → G l V X 4 124 [(0, rf V x0), (1, .int x1), (2, .int x2), (3, .int y3)] [] s) (hK182 : ∀  (s : St), K182  s → G l V X 4 182 [(0, rf V x0), (1, .int x1), (2, .int x2)] [] s) {s : St} (h : wX10_asks_165 rec K182 Q x0 x1 x2 x3 t0 t1 t2 s) : G l V X 4 165 [(0, rf V x0), (1, .int x1), (2, .int x2), (3, .int x3)] [.int t0, .int t1, rf V t2] s := by
  unfold wX10_asks_165 at h
  obtain ⟨hb_165, h⟩ := h
  have h := h _ rfl
  refine g_iast (pc := 165) F ht2 hb_165 dX10_asks_165 ?_
  refine g_aload_n (pc := 166) F dX10_asks_166 rfl 0 rfl ?_
  refine g_getR (pc := 167) F clX10 hx0.1 14 _ rfl (by decide) uX10_28 dX10_asks_167 ?_
  refine g_bipush (pc := 170) F dX10_asks_170 bp_31 ?_
  refine g_iload_n (pc := 172) F dX10_asks_172 rfl 3 rfl ?_
  refine g_iadd (pc := 173) F dX10_asks_173 ?_
  refine g_iconst (pc := 174) F dX10_asks_174 ic_0 ?_
  obtain ⟨hb_175, h⟩ := h
  have h := h _ rfl
  refine g_iast (pc := 175) F hx0.2.2.2.2.2.2.2.1 hb_175 dX10_asks_175 ?_
  refine g_iinc (pc := 176) (lv' := [(_, _), (_, _), (_, _), (_, _)]) F dX10_asks_176 3 rfl (congrArg _ ic_1) (by decide) rfl ?_
  refine g_goto (pc := 179) F 124 dX10_asks_179 (by decide) ?_
  exact g_weak [1, 2, 3, 0] rfl (hrec _ _ h)
def wX10_asks_124 (x0 : Nat) (x1 : Int32) (x2 : Int32) (K182 : St → Prop) (Q : Int32 → St → Prop) : Nat → Int32 → St → Prop
  | 0, _, _ => False
  | n + 1, x3, s =>
  (((5 : Int32) ≤ x3 → K182  s) ∧ (¬ (5 : Int32) ≤ x3 → vp_in (36 : Int32) 38 ∧ (((s.1 (x0 + 7) (36 : Int32).toNatClampNeg) ≤ x3 → wX10_asks_165 (wX10_asks_124 x0 x1 x2 K182 Q n) (K182) Q x0 x1 x2 x3 (0 : Int32) (((11 : Int32) + ((5 : Int32) * x2)) + x3) (x0 + 7) s) ∧ (¬ (s.1 (x0 + 7) (36 : Int32).toNatClampNeg) ≤ x3 → vp_in ((31 : Int32) + x3) 38 ∧ wX10_asks_165 (wX10_asks_124 x0 x1 x2 K182 Q n) (K182) Q x0 x1 x2 x3 (s.1 (x0 + 7) ((31 : Int32) + x3).toNatClampNeg) (((11 : Int32) + ((5 : Int32) * x2)) + x3) (x0 + 7) s))))
set_option maxHeartbeats 4000000 in
set_option maxRecDepth 100000 in
theorem bX10_asks_124 {l : Launch} {V : Wv} {X : Mx} {x0 : Nat} {x1 : Int32} {x2 : Int32} {K182 : St → Prop} {Q : Int32 → St → Prop} (F : Fx V X cX10_asks RX10 4 4) (hR : RtI l V X 4 cX10_asks Q) (hx0 : isX10 V x0) (hK182 : ∀  (s : St), K182  s → G l V X 4 182 [(0, rf V x0), (1, .int x1), (2, .int x2)] [] s) : ∀ (n : Nat) (x3 : Int32) (s : St), wX10_asks_124 x0 x1 x2 K182 Q n x3 s → G l V X 4 124 [(0, rf V x0), (1, .int x1), (2, .int x2), (3, .int x3)] [] s := by
  intro n
  induction n with
  | zero => intro x3 s h; unfold wX10_asks_124 at h; exact h.elim
  | succ n ih =>
    intro x3 s h
    unfold wX10_asks_124 at h
    refine g_iload_n (pc := 124) F dX10_asks_124 rfl 3 rfl ?_
    refine g_iconst (pc := 125) F dX10_asks_125 ic_5 ?_
    refine g_icmp_ge (pc := 126) F 182 dX10_asks_126 (by decide) (fun c => ?_) (fun c => ?_)
    · have h := h.1 c
      exact g_weak [0, 1, 2] rfl (hK182 _ h)
    · have h := h.2 c
      refine g_aload_n (pc := 129) F dX10_asks_129 rfl 0 rfl ?_
      refine g_getR (pc := 130) F clX10 hx0.1 14 _ rfl (by decide) uX10_28 dX10_asks_130 ?_
      refine g_bipush (pc := 133) F dX10_asks_133 bp_11 ?_
      refine g_iconst (pc := 135) F dX10_asks_135 ic_5 ?_
      refine g_iload_n (pc := 136) F dX10_asks_136 rfl 2 rfl ?_
      refine g_imul (pc := 137) F dX10_asks_137 ?_
      refine g_iadd (pc := 138) F dX10_asks_138 ?_
      refine g_iload_n (pc := 139) F dX10_asks_139 rfl 3 rfl ?_
      refine g_iadd (pc := 140) F dX10_asks_140 ?_
      refine g_iload_n (pc := 141) F dX10_asks_141 rfl 3 rfl ?_
      refine g_aload_n (pc := 142) F dX10_asks_142 rfl 0 rfl ?_
      refine g_getR (pc := 143) F clX10 hx0.1 14 _ rfl (by decide) uX10_28 dX10_asks_143 ?_
      refine g_bipush (pc := 146) F dX10_asks_146 bp_36 ?_
      obtain ⟨hb_148, h⟩ := h
      refine g_iald (pc := 148) F hx0.2.2.2.2.2.2.2.1 hb_148 dX10_asks_148 ?_
      refine g_icmp_ge (pc := 149) F 164 dX10_asks_149 (by decide) (fun c => ?_) (fun c => ?_)
      · have h := h.1 c
        refine g_iconst (pc := 164) F dX10_asks_164 ic_0 ?_
        exact g_weak [0, 1, 2, 3] rfl (bX10_asks_165 F hR hx0 hx0.2.2.2.2.2.2.2.1 ih hK182 h)
      · have h := h.2 c
        refine g_aload_n (pc := 152) F dX10_asks_152 rfl 0 rfl ?_
        refine g_getR (pc := 153) F clX10 hx0.1 14 _ rfl (by decide) uX10_28 dX10_asks_153 ?_
        refine g_bipush (pc := 156) F dX10_asks_156 bp_31 ?_
        refine g_iload_n (pc := 158) F dX10_asks_158 rfl 3 rfl ?_
        refine g_iadd (pc := 159) F dX10_asks_159 ?_
        obtain ⟨hb_160, h⟩ := h
        refine g_iald (pc := 160) F hx0.2.2.2.2.2.2.2.1 hb_160 dX10_asks_160 ?_
        refine g_goto (pc := 161) F 165 dX10_asks_161 (by decide) ?_
        exact g_weak [0, 1, 2, 3] rfl (bX10_asks_165 F hR hx0 hx0.2.2.2.2.2.2.2.1 ih hK182 h)
def wX10_asks (x0 : Nat) (s : St) (Q : Int32 → St → Prop) : Prop :=
  ∀ s_2 : St, s_2 = stI s x0 0 (0 : Int32) → vp_in (36 : Int32) 38 ∧ (((s_2.1 (x0 + 7) (36 : Int32).toNatClampNeg) < (2 : Int32) → Q (-2 : Int32) s_2) ∧ (¬ (s_2.1 (x0 + 7) (36 : Int32).toNatClampNeg) < (2 : Int32) → vp_in (6 : Int32) 38 ∧ ((¬ (s_2.1 (x0 + 7) (6 : Int32).toNatClampNeg) = (4 : Int32) → wX10_draftLanes x0 s_2 (fun r_32 s_32 => wX10_scans x0 r_32 s_32 (fun s_35 => wX10_allMaps x0 s_35 (fun r_40 s_40 => wX10_costOf x0 r_40 s_40 (fun r_43 s_43 => ((¬ r_43 = (1000000 : Int32) → wX10_notes x0 s_43 (fun s_57 => (∃ k_62, wX10_asks_62  x0 r_43 (fun  s_k109 => wX10_digsFor x0 r_43 s_k109 (fun s_111 => vp_in (6 : Int32) 38 ∧ (∃ k_124, wX10_asks_124  x0 r_43 (s_111.1 (x0 + 7) (6 : Int32).toNatClampNeg) (fun  s_k182 => vp_in (36 : Int32) 38 ∧ vp_in ((7 : Int32) + (s_111.1 (x0 + 7) (6 : Int32).toNatClampNeg)) 38 ∧ ∀ s_197 : St, s_197 = stI s_k182 (x0 + 7) ((7 : Int32) + (s_111.1 (x0 + 7) (6 : Int32).toNatClampNeg)).toNatClampNeg (s_k182.1 (x0 + 7) (36 : Int32).toNatClampNeg) → vp_in (36 : Int32) 38 ∧ ∀ s_205 : St, s_205 = stI s_197 (x0 + 7) (36 : Int32).toNatClampNeg (0 : Int32) → vp_in (6 : Int32) 38 ∧ vp_in (6 : Int32) 38 ∧ ∀ s_216 : St, s_216 = stI s_205 (x0 + 7) (6 : Int32).toNatClampNeg ((s_205.1 (x0 + 7) (6 : Int32).toNatClampNeg) + (1 : Int32)) → Q r_43 s_216) Q k_124 (0 : Int32) s_111))) Q k_62 (0 : Int32) s_57))) ∧ (r_43 = (1000000 : Int32) → Q (-2 : Int32) s_43))))))) ∧ ((s_2.1 (x0 + 7) (6 : Int32).toNatClampNeg) = (4 : Int32) → Q (-2 : Int32) s_2))))
set_option maxHeartbeats 4000000 in
set_option maxRecDepth 100000 in
theorem mX10_asks {l : Launch} {V : Wv} {x0 : Nat} {s : St} {Q : Int32 → St → Prop} (hx0 : isX10 V x0) (h : wX10_asks x0 s Q) : Ci yX10_asks cX10_asks 4 (some .int) (4) l V [rf V x0] s Q := by
  unfold wX10_asks at h
  refine Ci.of mvX10_asks.1 (Nat.le_of_ble_eq_true rfl) (fun X F hR => ?_)
  refine g_lv (lv' := [(_, _)]) rfl ?_
  refine g_aload_n (pc := 0) F dX10_asks_0 rfl 0 rfl ?_
  refine g_iconst (pc := 1) F dX10_asks_1 ic_0 ?_
  have h := h _ rfl
  refine g_putI (pc := 2) F clX10 hx0.1 0 rfl (by decide) rfl (tyX10_ok 0 (by decide)) uX10_89 dX10_asks_2 ?_
  refine g_aload_n (pc := 5) F dX10_asks_5 rfl 0 rfl ?_
  refine g_getR (pc := 6) F clX10 hx0.1 14 _ rfl (by decide) uX10_28 dX10_asks_6 ?_
  refine g_bipush (pc := 9) F dX10_asks_9 bp_36 ?_
  obtain ⟨hb_11, h⟩ := h
  refine g_iald (pc := 11) F hx0.2.2.2.2.2.2.2.1 hb_11 dX10_asks_11 ?_
  refine g_iconst (pc := 12) F dX10_asks_12 ic_2 ?_
  refine g_icmp_lt (pc := 13) F 27 dX10_asks_13 (by decide) (fun c => ?_) (fun c => ?_)
  · have h := h.1 c
    refine g_bipush (pc := 27) F dX10_asks_27 bp_m2 ?_
    exact hR _ _ _ _ dX10_asks_29 h
  · have h := h.2 c
    refine g_aload_n (pc := 16) F dX10_asks_16 rfl 0 rfl ?_
    refine g_getR (pc := 17) F clX10 hx0.1 14 _ rfl (by decide) uX10_28 dX10_asks_17 ?_
    refine g_bipush (pc := 20) F dX10_asks_20 bp_6 ?_
    obtain ⟨hb_22, h⟩ := h
    refine g_iald (pc := 22) F hx0.2.2.2.2.2.2.2.1 hb_22 dX10_asks_22 ?_
    refine g_iconst (pc := 23) F dX10_asks_23 ic_4 ?_
    refine g_icmp_ne (pc := 24) F 30 dX10_asks_24 (by decide) (fun c => ?_) (fun c => ?_)
    · have h := h.1 c
      refine g_aload_n (pc := 30) F dX10_asks_30 rfl 0 rfl ?_
      refine g_aload_n (pc := 31) F dX10_asks_31 rfl 0 rfl ?_
      refine g_callVi (pc := 32) F (mX10_draftLanes hx0 h) mvX10_draftLanes uX10_195 (by decide) clX10 hx0.1 rfl rfl (Nat.le_of_ble_eq_true rfl) dX10_asks_32 (fun r_32 s_32 h => ?_)
      refine g_callVv (pc := 35) F (mX10_scans hx0 h) mvX10_scans uX10_199 (by decide) clX10 hx0.1 rfl rfl (Nat.le_of_ble_eq_true rfl) dX10_asks_35 (fun s_35 h => ?_)
      refine g_aload_n (pc := 38) F dX10_asks_38 rfl 0 rfl ?_
      refine g_aload_n (pc := 39) F dX10_asks_39 rfl 0 rfl ?_
      refine g_callVi (pc := 40) F (mX10_allMaps hx0 h) mvX10_allMaps uX10_202 (by decide) clX10 hx0.1 rfl rfl (Nat.le_of_ble_eq_true rfl) dX10_asks_40 (fun r_40 s_40 h => ?_)
      refine g_callVi (pc := 43) F (mX10_costOf hx0 h) mvX10_costOf uX10_205 (by decide) clX10 hx0.1 rfl rfl (Nat.le_of_ble_eq_true rfl) dX10_asks_43 (fun r_43 s_43 h => ?_)
      refine g_istore_n (pc := 46) (lv' := [(_, _), (_, _)]) F dX10_asks_46 rfl (by decide) rfl ?_
      refine g_iload_n (pc := 47) F dX10_asks_47 rfl 0 rfl ?_
      refine g_ldc (pc := 48) F dX10_asks_48 uX10_167 ?_
      refine g_icmp_ne (pc := 50) F 56 dX10_asks_50 (by decide) (fun c => ?_) (fun c => ?_)
      · have h := h.1 c
        refine g_aload_n (pc := 56) F dX10_asks_56 rfl 1 rfl ?_
        refine g_callVv (pc := 57) F (mX10_notes hx0 h) mvX10_notes uX10_191 (by decide) clX10 hx0.1 rfl rfl (Nat.le_of_ble_eq_true rfl) dX10_asks_57 (fun s_57 h => ?_)
        refine g_iconst (pc := 60) F dX10_asks_60 ic_0 ?_
        refine g_istore_n (pc := 61) (lv' := [(_, _), (_, _), (_, _)]) F dX10_asks_61 rfl (by decide) rfl ?_
        obtain ⟨k_62, h⟩ := h
        refine g_weak [2, 1, 0] rfl (bX10_asks_62 F hR hx0 (fun  s_k109 h => ?_) k_62 _ _ h)
        · refine g_aload_n (pc := 109) F dX10_asks_109 rfl 0 rfl ?_
          refine g_iload_n (pc := 110) F dX10_asks_110 rfl 1 rfl ?_
          refine g_callVv (pc := 111) F (mX10_digsFor hx0 h) mvX10_digsFor uX10_208 (by decide) clX10 hx0.1 rfl rfl (Nat.le_of_ble_eq_true rfl) dX10_asks_111 (fun s_111 h => ?_)
          refine g_aload_n (pc := 114) F dX10_asks_114 rfl 0 rfl ?_
          refine g_getR (pc := 115) F clX10 hx0.1 14 _ rfl (by decide) uX10_28 dX10_asks_115 ?_
          refine g_bipush (pc := 118) F dX10_asks_118 bp_6 ?_
          obtain ⟨hb_120, h⟩ := h
          refine g_iald (pc := 120) F hx0.2.2.2.2.2.2.2.1 hb_120 dX10_asks_120 ?_
          refine g_istore_n (pc := 121) (lv' := [(_, _), (_, _), (_, _)]) F dX10_asks_121 rfl (by decide) rfl ?_
          refine g_iconst (pc := 122) F dX10_asks_122 ic_0 ?_
          refine g_istore_n (pc := 123) (lv' := [(_, _), (_, _), (_, _), (_, _)]) F dX10_asks_123 rfl (by decide) rfl ?_
          obtain ⟨k_124, h⟩ := h
          refine g_weak [2, 3, 1, 0] rfl (bX10_asks_124 F hR hx0 (fun  s_k182 h => ?_) k_124 _ _ h)
          · refine g_aload_n (pc := 182) F dX10_asks_182 rfl 0 rfl ?_
            refine g_getR (pc := 183) F clX10 hx0.1 14 _ rfl (by decide) uX10_28 dX10_asks_183 ?_
            refine g_bipush (pc := 186) F dX10_asks_186 bp_7 ?_
            refine g_iload_n (pc := 188) F dX10_asks_188 rfl 2 rfl ?_
            refine g_iadd (pc := 189) F dX10_asks_189 ?_
            refine g_aload_n (pc := 190) F dX10_asks_190 rfl 0 rfl ?_
            refine g_getR (pc := 191) F clX10 hx0.1 14 _ rfl (by decide) uX10_28 dX10_asks_191 ?_
            refine g_bipush (pc := 194) F dX10_asks_194 bp_36 ?_
            obtain ⟨hb_196, h⟩ := h
            refine g_iald (pc := 196) F hx0.2.2.2.2.2.2.2.1 hb_196 dX10_asks_196 ?_
            obtain ⟨hb_197, h⟩ := h
            have h := h _ rfl
            refine g_iast (pc := 197) F hx0.2.2.2.2.2.2.2.1 hb_197 dX10_asks_197 ?_
            refine g_aload_n (pc := 198) F dX10_asks_198 rfl 0 rfl ?_
            refine g_getR (pc := 199) F clX10 hx0.1 14 _ rfl (by decide) uX10_28 dX10_asks_199 ?_
            refine g_bipush (pc := 202) F dX10_asks_202 bp_36 ?_
            refine g_iconst (pc := 204) F dX10_asks_204 ic_0 ?_
            obtain ⟨hb_205, h⟩ := h
            have h := h _ rfl
            refine g_iast (pc := 205) F hx0.2.2.2.2.2.2.2.1 hb_205 dX10_asks_205 ?_
            refine g_aload_n (pc := 206) F dX10_asks_206 rfl 0 rfl ?_
            refine g_getR (pc := 207) F clX10 hx0.1 14 _ rfl (by decide) uX10_28 dX10_asks_207 ?_
            refine g_bipush (pc := 210) F dX10_asks_210 bp_6 ?_
            refine g_dup2 (pc := 212) F dX10_asks_212 rfl rfl ?_
            obtain ⟨hb_213, h⟩ := h
            refine g_iald (pc := 213) F hx0.2.2.2.2.2.2.2.1 hb_213 dX10_asks_213 ?_
            refine g_iconst (pc := 214) F dX10_asks_214 ic_1 ?_
            refine g_iadd (pc := 215) F dX10_asks_215 ?_
            obtain ⟨hb_216, h⟩ := h
            have h := h _ rfl
            refine g_iast (pc := 216) F hx0.2.2.2.2.2.2.2.1 hb_216 dX10_asks_216 ?_
            refine g_iload_n (pc := 217) F dX10_asks_217 rfl 1 rfl ?_
            exact hR _ _ _ _ dX10_asks_218 h
      · have h := h.2 c
        refine g_bipush (pc := 53) F dX10_asks_53 bp_m2 ?_
        exact hR _ _ _ _ dX10_asks_55 h
    · have h := h.2 c
      refine g_bipush (pc := 27) F dX10_asks_27 bp_m2 ?_
      exact hR _ _ _ _ dX10_asks_29 h
