/-! printed by program: what each method does to the state (w..), and that its code does so (b.., m..) -/
def wX10_spiteSet_164 (rec : Int32 → Int32 → Int32 → St → Prop) (Q : Int32 → St → Prop) (x1 : Int32) (x2 : Int32) (x3 : Int32) (s : St) : Prop :=
  rec x1 x2 (x3 + (1 : Int32)) s
set_option maxHeartbeats 4000000 in
set_option maxRecDepth 100000 in
theorem bX10_spiteSet_164 {l : Launch} {V : Wv} {X : Mx} {rec : Int32 → Int32 → Int32 → St → Prop} {Q : Int32 → St → Prop} {x1 : Int32} {x2 : Int32} {x3 : Int32} (F : Fx V X cX10_spiteSet RX10 7 4) (hR : RtI l V X 7 cX10_spiteSet Q) (hV : V.2.1 = DESC) (hrec : ∀ (y1 : Int32) (y2 : Int32) (y3 : Int32) (s : St), rec y1 y2 y3 s → G l V X 7 11 [(0, rf V 99), (1, .int y1), (2, .int y2), (3, .int y3)] [] s) {s : St} (h : wX10_spiteSet_164 rec Q x1 x2 x3 s) : G l V X 7 164 [(0, rf V 99), (1, .int x1), (2, .int x2), (3, .int x3)] [] s := by
  unfold wX10_spiteSet_164 at h
  refine g_iinc (pc := 164) (lv' := [(_, _), (_, _), (_, _), (_, _)]) F dX10_spiteSet_164 3 rfl (congrArg _ ic_1) (by decide) rfl ?_
  refine g_goto (pc := 167) F 11 dX10_spiteSet_167 (by decide) ?_
  exact g_weak [1, 2, 3, 0] rfl (hrec _ _ _ _ h)
def wX10_spiteSet_134 (rec : Int32 → St → Prop) (K141 : St → Prop) (Q : Int32 → St → Prop) (x1 : Int32) (x2 : Int32) (x3 : Int32) (x4 : Int32) (x5 : Int32) (x6 : Int32) (t0 : Int32) (t1 : Int32) (s : St) : Prop :=
  vp_in t1 5 ∧ ∀ s_134 : St, s_134 = stI s 123 t1.toNatClampNeg t0 → rec (x6 + (1 : Int32)) s_134
set_option maxHeartbeats 4000000 in
set_option maxRecDepth 100000 in
theorem bX10_spiteSet_134 {l : Launch} {V : Wv} {X : Mx} {rec : Int32 → St → Prop} {K141 : St → Prop} {Q : Int32 → St → Prop} {x1 : Int32} {x2 : Int32} {x3 : Int32} {x4 : Int32} {x5 : Int32} {x6 : Int32} {t0 : Int32} {t1 : Int32} (F : Fx V X cX10_spiteSet RX10 7 4) (hR : RtI l V X 7 cX10_spiteSet Q) (hV : V.2.1 = DESC) (hrec : ∀ (y6 : Int32) (s : St), rec y6 s → G l V X 7 98 [(0, rf V 99), (1, .int x1), (2, .int x2), (3, .int x3), (4, .int x4), (5, .int x5), (6, .int y6)] [] s) (hK141 : ∀  (s : St), K141  s → G l V X 7 141 [(0, rf V 99), (1, .int x1), (2, .int x2), (3, .int x3), (4, .int x4), (5, .int x5)] [] s) {s : St} (h : wX10_spiteSet_134 rec K141 Q x1 x2 x3 x4 x5 x6 t0 t1 s) : G l V X 7 134 [(0, rf V 99), (1, .int x1), (2, .int x2), (3, .int x3), (4, .int x4), (5, .int x5), (6, .int x6)] [.int t0, .int t1, rf V 123] s := by
  unfold wX10_spiteSet_134 at h
  obtain ⟨hb_134, h⟩ := h
  have h := h _ rfl
  refine g_iast (pc := 134) F (sh_123 hV) hb_134 dX10_spiteSet_134 ?_
  refine g_iinc (pc := 135) (lv' := [(_, _), (_, _), (_, _), (_, _), (_, _), (_, _), (_, _)]) F dX10_spiteSet_135 6 rfl (congrArg _ ic_1) (by decide) rfl ?_
  refine g_goto (pc := 138) F 98 dX10_spiteSet_138 (by decide) ?_
  exact g_weak [1, 2, 3, 4, 5, 6, 0] rfl (hrec _ _ h)
def wX10_spiteSet_98 (x1 : Int32) (x2 : Int32) (x3 : Int32) (x4 : Int32) (x5 : Int32) (K141 : St → Prop) (Q : Int32 → St → Prop) : Nat → Int32 → St → Prop
  | 0, _, _ => False
  | n + 1, x6, s =>
  (((5 : Int32) ≤ x6 → K141  s) ∧ (¬ (5 : Int32) ≤ x6 → ((x5 = 0 → K141  s) ∧ (¬ x5 = 0 → ((x4 ≤ x6 → wX10_spiteSet_134 (wX10_spiteSet_98 x1 x2 x3 x4 x5 K141 Q n) (K141) Q x1 x2 x3 x4 x5 x6 (-9 : Int32) x6 s) ∧ (¬ x4 ≤ x6 → vp_in x6 5 ∧ wX10_spiteSet_134 (wX10_spiteSet_98 x1 x2 x3 x4 x5 K141 Q n) (K141) Q x1 x2 x3 x4 x5 x6 (s.1 122 x6.toNatClampNeg) x6 s))))))
set_option maxHeartbeats 4000000 in
set_option maxRecDepth 100000 in
theorem bX10_spiteSet_98 {l : Launch} {V : Wv} {X : Mx} {x1 : Int32} {x2 : Int32} {x3 : Int32} {x4 : Int32} {x5 : Int32} {K141 : St → Prop} {Q : Int32 → St → Prop} (F : Fx V X cX10_spiteSet RX10 7 4) (hR : RtI l V X 7 cX10_spiteSet Q) (hV : V.2.1 = DESC) (hK141 : ∀  (s : St), K141  s → G l V X 7 141 [(0, rf V 99), (1, .int x1), (2, .int x2), (3, .int x3), (4, .int x4), (5, .int x5)] [] s) : ∀ (n : Nat) (x6 : Int32) (s : St), wX10_spiteSet_98 x1 x2 x3 x4 x5 K141 Q n x6 s → G l V X 7 98 [(0, rf V 99), (1, .int x1), (2, .int x2), (3, .int x3), (4, .int x4), (5, .int x5), (6, .int x6)] [] s := by
  intro n
  induction n with
  | zero => intro x6 s h; unfold wX10_spiteSet_98 at h; exact h.elim
  | succ n ih =>
    intro x6 s h
    unfold wX10_spiteSet_98 at h
    refine g_iload (pc := 98) F dX10_spiteSet_98 6 rfl ?_
    refine g_iconst (pc := 100) F dX10_spiteSet_100 ic_5 ?_
    refine g_icmp_ge (pc := 101) F 141 dX10_spiteSet_101 (by decide) (fun c => ?_) (fun c => ?_)
    · have h := h.1 c
      exact g_weak [0, 1, 2, 3, 4, 5] rfl (hK141 _ h)
    · have h := h.2 c
      refine g_iload (pc := 104) F dX10_spiteSet_104 5 rfl ?_
      refine g_if_eq (pc := 106) F 141 dX10_spiteSet_106 (by decide) (fun c => ?_) (fun c => ?_)
      · have h := h.1 c
        exact g_weak [0, 1, 2, 3, 4, 5] rfl (hK141 _ h)
      · have h := h.2 c
        refine g_aload_n (pc := 109) F dX10_spiteSet_109 rfl 0 rfl ?_
        refine g_getR (pc := 110) F clX10 (sh_99 hV) 34 _ rfl (by decide) uX10_80 dX10_spiteSet_110 ?_
        refine g_iload (pc := 113) F dX10_spiteSet_113 6 rfl ?_
        refine g_iload (pc := 115) F dX10_spiteSet_115 6 rfl ?_
        refine g_iload (pc := 117) F dX10_spiteSet_117 4 rfl ?_
        refine g_icmp_ge (pc := 119) F 132 dX10_spiteSet_119 (by decide) (fun c => ?_) (fun c => ?_)
        · have h := h.1 c
          refine g_bipush (pc := 132) F dX10_spiteSet_132 bp_m9 ?_
          exact g_weak [0, 1, 2, 3, 4, 5, 6] rfl (bX10_spiteSet_134 F hR hV ih hK141 h)
        · have h := h.2 c
          refine g_aload_n (pc := 122) F dX10_spiteSet_122 rfl 0 rfl ?_
          refine g_getR (pc := 123) F clX10 (sh_99 hV) 33 _ rfl (by decide) uX10_77 dX10_spiteSet_123 ?_
          refine g_iload (pc := 126) F dX10_spiteSet_126 6 rfl ?_
          obtain ⟨hb_128, h⟩ := h
          refine g_iald (pc := 128) F (sh_122 hV) hb_128 dX10_spiteSet_128 ?_
          refine g_goto (pc := 129) F 134 dX10_spiteSet_129 (by decide) ?_
          exact g_weak [0, 1, 2, 3, 4, 5, 6] rfl (bX10_spiteSet_134 F hR hV ih hK141 h)
def wX10_spiteSet_163 (rec : Int32 → Int32 → Int32 → St → Prop) (Q : Int32 → St → Prop) (x2 : Int32) (x3 : Int32) (t0 : Int32) (s : St) : Prop :=
  wX10_spiteSet_164 (rec) Q t0 x2 x3 s
set_option maxHeartbeats 4000000 in
set_option maxRecDepth 100000 in
theorem bX10_spiteSet_163 {l : Launch} {V : Wv} {X : Mx} {rec : Int32 → Int32 → Int32 → St → Prop} {Q : Int32 → St → Prop} {x2 : Int32} {x3 : Int32} {t0 : Int32} (F : Fx V X cX10_spiteSet RX10 7 4) (hR : RtI l V X 7 cX10_spiteSet Q) (hV : V.2.1 = DESC) (hrec : ∀ (y1 : Int32) (y2 : Int32) (y3 : Int32) (s : St), rec y1 y2 y3 s → G l V X 7 11 [(0, rf V 99), (1, .int y1), (2, .int y2), (3, .int y3)] [] s) {s : St} (h : wX10_spiteSet_163 rec Q x2 x3 t0 s) : G l V X 7 163 [(0, rf V 99), (2, .int x2), (3, .int x3)] [.int t0] s := by
  unfold wX10_spiteSet_163 at h
  refine g_istore_n (pc := 163) (lv' := [(_, _), (_, _), (_, _), (_, _)]) F dX10_spiteSet_163 rfl (by decide) rfl ?_
  exact g_weak [1, 0, 2, 3] rfl (bX10_spiteSet_164 F hR hV hrec h)
def wX10_spiteSet_152 (rec : Int32 → Int32 → Int32 → St → Prop) (Q : Int32 → St → Prop) (x1 : Int32) (x3 : Int32) (x5 : Int32) (t0 : Int32) (s : St) : Prop :=
  ((x5 = 0 → wX10_spiteSet_163 (rec) Q t0 x3 x1 s) ∧ (¬ x5 = 0 → wX10_spiteSet_163 (rec) Q t0 x3 x3 s))
set_option maxHeartbeats 4000000 in
set_option maxRecDepth 100000 in
theorem bX10_spiteSet_152 {l : Launch} {V : Wv} {X : Mx} {rec : Int32 → Int32 → Int32 → St → Prop} {Q : Int32 → St → Prop} {x1 : Int32} {x3 : Int32} {x5 : Int32} {t0 : Int32} (F : Fx V X cX10_spiteSet RX10 7 4) (hR : RtI l V X 7 cX10_spiteSet Q) (hV : V.2.1 = DESC) (hrec : ∀ (y1 : Int32) (y2 : Int32) (y3 : Int32) (s : St), rec y1 y2 y3 s → G l V X 7 11 [(0, rf V 99), (1, .int y1), (2, .int y2), (3, .int y3)] [] s) {s : St} (h : wX10_spiteSet_152 rec Q x1 x3 x5 t0 s) : G l V X 7 152 [(0, rf V 99), (1, .int x1), (3, .int x3), (5, .int x5)] [.int t0] s := by
  unfold wX10_spiteSet_152 at h
  refine g_istore_n (pc := 152) (lv' := [(_, _), (_, _), (_, _), (_, _), (_, _)]) F dX10_spiteSet_152 rfl (by decide) rfl ?_
  refine g_iload (pc := 153) F dX10_spiteSet_153 4 rfl ?_
  refine g_if_eq (pc := 155) F 162 dX10_spiteSet_155 (by decide) (fun c => ?_) (fun c => ?_)
  · have h := h.1 c
    refine g_iload_n (pc := 162) F dX10_spiteSet_162 rfl 2 rfl ?_
    exact g_weak [1, 0, 3] rfl (bX10_spiteSet_163 F hR hV hrec h)
  · have h := h.2 c
    refine g_iload_n (pc := 158) F dX10_spiteSet_158 rfl 3 rfl ?_
    refine g_goto (pc := 159) F 163 dX10_spiteSet_159 (by decide) ?_
    exact g_weak [1, 0, 3] rfl (bX10_spiteSet_163 F hR hV hrec h)
def wX10_spiteSet_93 (rec : Int32 → Int32 → Int32 → St → Prop) (Q : Int32 → St → Prop) (x1 : Int32) (x2 : Int32) (x3 : Int32) (x4 : Int32) (t0 : Int32) (s : St) : Prop :=
  (∃ k_98, wX10_spiteSet_98  x1 x2 x3 x4 t0 (fun  s_k141 => ((t0 = 0 → wX10_spiteSet_152 (rec) Q x1 x3 t0 x2 s_k141) ∧ (¬ t0 = 0 → wX10_spiteSet_152 (rec) Q x1 x3 t0 x4 s_k141))) Q k_98 (0 : Int32) s)
set_option maxHeartbeats 4000000 in
set_option maxRecDepth 100000 in
theorem bX10_spiteSet_93 {l : Launch} {V : Wv} {X : Mx} {rec : Int32 → Int32 → Int32 → St → Prop} {Q : Int32 → St → Prop} {x1 : Int32} {x2 : Int32} {x3 : Int32} {x4 : Int32} {t0 : Int32} (F : Fx V X cX10_spiteSet RX10 7 4) (hR : RtI l V X 7 cX10_spiteSet Q) (hV : V.2.1 = DESC) (hrec : ∀ (y1 : Int32) (y2 : Int32) (y3 : Int32) (s : St), rec y1 y2 y3 s → G l V X 7 11 [(0, rf V 99), (1, .int y1), (2, .int y2), (3, .int y3)] [] s) {s : St} (h : wX10_spiteSet_93 rec Q x1 x2 x3 x4 t0 s) : G l V X 7 93 [(0, rf V 99), (1, .int x1), (2, .int x2), (3, .int x3), (4, .int x4)] [.int t0] s := by
  unfold wX10_spiteSet_93 at h
  refine g_istore (pc := 93) (lv' := [(_, _), (_, _), (_, _), (_, _), (_, _), (_, _)]) F dX10_spiteSet_93 (by decide) rfl ?_
  refine g_iconst (pc := 95) F dX10_spiteSet_95 ic_0 ?_
  refine g_istore (pc := 96) (lv' := [(_, _), (_, _), (_, _), (_, _), (_, _), (_, _), (_, _)]) F dX10_spiteSet_96 (by decide) rfl ?_
  obtain ⟨k_98, h⟩ := h
  refine g_weak [2, 3, 4, 5, 6, 1, 0] rfl (bX10_spiteSet_98 F hR hV (fun  s_k141 h => ?_) k_98 _ _ h)
  · refine g_iload (pc := 141) F dX10_spiteSet_141 5 rfl ?_
    refine g_if_eq (pc := 143) F 151 dX10_spiteSet_143 (by decide) (fun c => ?_) (fun c => ?_)
    · have h := h.1 c
      refine g_iload_n (pc := 151) F dX10_spiteSet_151 rfl 2 rfl ?_
      exact g_weak [0, 1, 3, 5] rfl (bX10_spiteSet_152 F hR hV hrec h)
    · have h := h.2 c
      refine g_iload (pc := 146) F dX10_spiteSet_146 4 rfl ?_
      refine g_goto (pc := 148) F 152 dX10_spiteSet_148 (by decide) ?_
      exact g_weak [0, 1, 3, 5] rfl (bX10_spiteSet_152 F hR hV hrec h)
def wX10_spiteSet_88 (rec : Int32 → Int32 → Int32 → St → Prop) (Q : Int32 → St → Prop) (x1 : Int32) (x2 : Int32) (x3 : Int32) (x4 : Int32) (s : St) : Prop :=
  wX10_spiteSet_93 (rec) Q x1 x2 x3 x4 (1 : Int32) s
set_option maxHeartbeats 4000000 in
set_option maxRecDepth 100000 in
theorem bX10_spiteSet_88 {l : Launch} {V : Wv} {X : Mx} {rec : Int32 → Int32 → Int32 → St → Prop} {Q : Int32 → St → Prop} {x1 : Int32} {x2 : Int32} {x3 : Int32} {x4 : Int32} (F : Fx V X cX10_spiteSet RX10 7 4) (hR : RtI l V X 7 cX10_spiteSet Q) (hV : V.2.1 = DESC) (hrec : ∀ (y1 : Int32) (y2 : Int32) (y3 : Int32) (s : St), rec y1 y2 y3 s → G l V X 7 11 [(0, rf V 99), (1, .int y1), (2, .int y2), (3, .int y3)] [] s) {s : St} (h : wX10_spiteSet_88 rec Q x1 x2 x3 x4 s) : G l V X 7 88 [(0, rf V 99), (1, .int x1), (2, .int x2), (3, .int x3), (4, .int x4)] [] s := by
  unfold wX10_spiteSet_88 at h
  refine g_iconst (pc := 88) F dX10_spiteSet_88 ic_1 ?_
  refine g_goto (pc := 89) F 93 dX10_spiteSet_89 (by decide) ?_
  exact g_weak [0, 1, 2, 3, 4] rfl (bX10_spiteSet_93 F hR hV hrec h)
def wX10_spiteSet_92 (rec : Int32 → Int32 → Int32 → St → Prop) (Q : Int32 → St → Prop) (x1 : Int32) (x2 : Int32) (x3 : Int32) (x4 : Int32) (s : St) : Prop :=
  wX10_spiteSet_93 (rec) Q x1 x2 x3 x4 (0 : Int32) s
set_option maxHeartbeats 4000000 in
set_option maxRecDepth 100000 in
theorem bX10_spiteSet_92 {l : Launch} {V : Wv} {X : Mx} {rec : Int32 → Int32 → Int32 → St → Prop} {Q : Int32 → St → Prop} {x1 : Int32} {x2 : Int32} {x3 : Int32} {x4 : Int32} (F : Fx V X cX10_spiteSet RX10 7 4) (hR : RtI l V X 7 cX10_spiteSet Q) (hV : V.2.1 = DESC) (hrec : ∀ (y1 : Int32) (y2 : Int32) (y3 : Int32) (s : St), rec y1 y2 y3 s → G l V X 7 11 [(0, rf V 99), (1, .int y1), (2, .int y2), (3, .int y3)] [] s) {s : St} (h : wX10_spiteSet_92 rec Q x1 x2 x3 x4 s) : G l V X 7 92 [(0, rf V 99), (1, .int x1), (2, .int x2), (3, .int x3), (4, .int x4)] [] s := by
  unfold wX10_spiteSet_92 at h
  refine g_iconst (pc := 92) F dX10_spiteSet_92 ic_0 ?_
  exact g_weak [0, 1, 2, 3, 4] rfl (bX10_spiteSet_93 F hR hV hrec h)
def wX10_spiteSet_11 (Q : Int32 → St → Prop) : Nat → Int32 → Int32 → Int32 → St → Prop
  | 0, _, _, _, _ => False
  | n + 1, x1, x2, x3, s =>
  (((64 : Int32) ≤ x3 → Q x1 s) ∧ (¬ (64 : Int32) ≤ x3 → vp_in x3 64 ∧ (((s.1 112 x3.toNatClampNeg) = 0 → wX10_spiteSet_164 (wX10_spiteSet_11 Q n) Q x1 x2 x3 s) ∧ (¬ (s.1 112 x3.toNatClampNeg) = 0 → vp_in x3 64 ∧ (((s.1 121 x3.toNatClampNeg) = (1000000 : Int32) → wX10_spiteSet_164 (wX10_spiteSet_11 Q n) Q x1 x2 x3 s) ∧ (¬ (s.1 121 x3.toNatClampNeg) = (1000000 : Int32) → wX10_reads x3 s (fun r_39 s_39 => ((x1 = 0 → wX10_spiteSet_88 (wX10_spiteSet_11 Q n) Q x1 x2 x3 r_39 s_39) ∧ (¬ x1 = 0 → vp_in x3 64 ∧ vp_in x1 64 ∧ (((s_39.1 121 x1.toNatClampNeg) < (s_39.1 121 x3.toNatClampNeg) → wX10_spiteSet_88 (wX10_spiteSet_11 Q n) Q x1 x2 x3 r_39 s_39) ∧ (¬ (s_39.1 121 x1.toNatClampNeg) < (s_39.1 121 x3.toNatClampNeg) → vp_in x3 64 ∧ vp_in x1 64 ∧ ((¬ (s_39.1 121 x3.toNatClampNeg) = (s_39.1 121 x1.toNatClampNeg) → wX10_spiteSet_92 (wX10_spiteSet_11 Q n) Q x1 x2 x3 r_39 s_39) ∧ ((s_39.1 121 x3.toNatClampNeg) = (s_39.1 121 x1.toNatClampNeg) → wX10_isAhead r_39 x2 s_39 (fun r_82 s_82 => ((r_82 = 0 → wX10_spiteSet_92 (wX10_spiteSet_11 Q n) Q x1 x2 x3 r_39 s_82) ∧ (¬ r_82 = 0 → wX10_spiteSet_88 (wX10_spiteSet_11 Q n) Q x1 x2 x3 r_39 s_82))))))))))))))))
set_option maxHeartbeats 4000000 in
set_option maxRecDepth 100000 in
theorem bX10_spiteSet_11 {l : Launch} {V : Wv} {X : Mx} {Q : Int32 → St → Prop} (F : Fx V X cX10_spiteSet RX10 7 4) (hR : RtI l V X 7 cX10_spiteSet Q) (hV : V.2.1 = DESC)  : ∀ (n : Nat) (x1 : Int32) (x2 : Int32) (x3 : Int32) (s : St), wX10_spiteSet_11 Q n x1 x2 x3 s → G l V X 7 11 [(0, rf V 99), (1, .int x1), (2, .int x2), (3, .int x3)] [] s := by
  intro n
  induction n with
  | zero => intro x1 x2 x3 s h; unfold wX10_spiteSet_11 at h; exact h.elim
  | succ n ih =>
    intro x1 x2 x3 s h
    unfold wX10_spiteSet_11 at h
    refine g_iload_n (pc := 11) F dX10_spiteSet_11 rfl 3 rfl ?_
    refine g_bipush (pc := 12) F dX10_spiteSet_12 bp_64 ?_
    refine g_icmp_ge (pc := 14) F 170 dX10_spiteSet_14 (by decide) (fun c => ?_) (fun c => ?_)
    · have h := h.1 c
      refine g_iload_n (pc := 170) F dX10_spiteSet_170 rfl 1 rfl ?_
      exact hR _ _ _ _ dX10_spiteSet_171 h
    · have h := h.2 c
      refine g_aload_n (pc := 17) F dX10_spiteSet_17 rfl 0 rfl ?_
      refine g_getR (pc := 18) F clX10 (sh_99 hV) 22 _ rfl (by decide) uX10_47 dX10_spiteSet_18 ?_
      refine g_iload_n (pc := 21) F dX10_spiteSet_21 rfl 3 rfl ?_
      obtain ⟨hb_22, h⟩ := h
      refine g_iald (pc := 22) F (sh_112 hV) hb_22 dX10_spiteSet_22 ?_
      refine g_if_eq (pc := 23) F 164 dX10_spiteSet_23 (by decide) (fun c => ?_) (fun c => ?_)
      · have h := h.1 c
        exact g_weak [0, 1, 2, 3] rfl (bX10_spiteSet_164 F hR hV ih h)
      · have h := h.2 c
        refine g_aload_n (pc := 26) F dX10_spiteSet_26 rfl 0 rfl ?_
        refine g_getR (pc := 27) F clX10 (sh_99 hV) 32 _ rfl (by decide) uX10_74 dX10_spiteSet_27 ?_
        refine g_iload_n (pc := 30) F dX10_spiteSet_30 rfl 3 rfl ?_
        obtain ⟨hb_31, h⟩ := h
        refine g_iald (pc := 31) F (sh_121 hV) hb_31 dX10_spiteSet_31 ?_
        refine g_ldc (pc := 32) F dX10_spiteSet_32 uX10_167 ?_
        refine g_icmp_eq (pc := 34) F 164 dX10_spiteSet_34 (by decide) (fun c => ?_) (fun c => ?_)
        · have h := h.1 c
          exact g_weak [0, 1, 2, 3] rfl (bX10_spiteSet_164 F hR hV ih h)
        · have h := h.2 c
          refine g_aload_n (pc := 37) F dX10_spiteSet_37 rfl 0 rfl ?_
          refine g_iload_n (pc := 38) F dX10_spiteSet_38 rfl 3 rfl ?_
          refine g_callVi (pc := 39) F (mX10_reads hV h) mvX10_reads uX10_226 (by decide) clX10 (sh_99 hV) rfl rfl (Nat.le_of_ble_eq_true rfl) dX10_spiteSet_39 (fun r_39 s_39 h => ?_)
          refine g_istore (pc := 42) (lv' := [(_, _), (_, _), (_, _), (_, _), (_, _)]) F dX10_spiteSet_42 (by decide) rfl ?_
          refine g_iload_n (pc := 44) F dX10_spiteSet_44 rfl 2 rfl ?_
          refine g_if_eq (pc := 45) F 88 dX10_spiteSet_45 (by decide) (fun c => ?_) (fun c => ?_)
          · have h := h.1 c
            exact g_weak [1, 2, 3, 4, 0] rfl (bX10_spiteSet_88 F hR hV ih h)
          · have h := h.2 c
            refine g_aload_n (pc := 48) F dX10_spiteSet_48 rfl 1 rfl ?_
            refine g_getR (pc := 49) F clX10 (sh_99 hV) 32 _ rfl (by decide) uX10_74 dX10_spiteSet_49 ?_
            refine g_iload_n (pc := 52) F dX10_spiteSet_52 rfl 4 rfl ?_
            obtain ⟨hb_53, h⟩ := h
            refine g_iald (pc := 53) F (sh_121 hV) hb_53 dX10_spiteSet_53 ?_
            refine g_aload_n (pc := 54) F dX10_spiteSet_54 rfl 1 rfl ?_
            refine g_getR (pc := 55) F clX10 (sh_99 hV) 32 _ rfl (by decide) uX10_74 dX10_spiteSet_55 ?_
            refine g_iload_n (pc := 58) F dX10_spiteSet_58 rfl 2 rfl ?_
            obtain ⟨hb_59, h⟩ := h
            refine g_iald (pc := 59) F (sh_121 hV) hb_59 dX10_spiteSet_59 ?_
            refine g_icmp_gt (pc := 60) F 88 dX10_spiteSet_60 (by decide) (fun c => ?_) (fun c => ?_)
            · have h := h.1 c
              exact g_weak [1, 2, 3, 4, 0] rfl (bX10_spiteSet_88 F hR hV ih h)
            · have h := h.2 c
              refine g_aload_n (pc := 63) F dX10_spiteSet_63 rfl 1 rfl ?_
              refine g_getR (pc := 64) F clX10 (sh_99 hV) 32 _ rfl (by decide) uX10_74 dX10_spiteSet_64 ?_
              refine g_iload_n (pc := 67) F dX10_spiteSet_67 rfl 4 rfl ?_
              obtain ⟨hb_68, h⟩ := h
              refine g_iald (pc := 68) F (sh_121 hV) hb_68 dX10_spiteSet_68 ?_
              refine g_aload_n (pc := 69) F dX10_spiteSet_69 rfl 1 rfl ?_
              refine g_getR (pc := 70) F clX10 (sh_99 hV) 32 _ rfl (by decide) uX10_74 dX10_spiteSet_70 ?_
              refine g_iload_n (pc := 73) F dX10_spiteSet_73 rfl 2 rfl ?_
              obtain ⟨hb_74, h⟩ := h
              refine g_iald (pc := 74) F (sh_121 hV) hb_74 dX10_spiteSet_74 ?_
              refine g_icmp_ne (pc := 75) F 92 dX10_spiteSet_75 (by decide) (fun c => ?_) (fun c => ?_)
              · have h := h.1 c
                exact g_weak [1, 2, 3, 4, 0] rfl (bX10_spiteSet_92 F hR hV ih h)
              · have h := h.2 c
                refine g_aload_n (pc := 78) F dX10_spiteSet_78 rfl 1 rfl ?_
                refine g_iload (pc := 79) F dX10_spiteSet_79 0 rfl ?_
                refine g_iload_n (pc := 81) F dX10_spiteSet_81 rfl 3 rfl ?_
                refine g_callVi (pc := 82) F (mX10_isAhead hV h) mvX10_isAhead uX10_229 (by decide) clX10 (sh_99 hV) rfl rfl (Nat.le_of_ble_eq_true rfl) dX10_spiteSet_82 (fun r_82 s_82 h => ?_)
                refine g_if_eq (pc := 85) F 92 dX10_spiteSet_85 (by decide) (fun c => ?_) (fun c => ?_)
                · have h := h.1 c
                  exact g_weak [1, 2, 3, 4, 0] rfl (bX10_spiteSet_92 F hR hV ih h)
                · have h := h.2 c
                  exact g_weak [1, 2, 3, 4, 0] rfl (bX10_spiteSet_88 F hR hV ih h)
def wX10_spiteSet  (s : St) (Q : Int32 → St → Prop) : Prop :=
  wX10_scans (0 : Int32) s (fun s_2 => (∃ k_11, wX10_spiteSet_11    Q k_11 (0 : Int32) (0 : Int32) (1 : Int32) s_2))
set_option maxHeartbeats 4000000 in
set_option maxRecDepth 100000 in
theorem mX10_spiteSet {l : Launch} {V : Wv}  {s : St} {Q : Int32 → St → Prop} (hV : V.2.1 = DESC) (h : wX10_spiteSet  s Q) : Ci yX10_spiteSet cX10_spiteSet 7 (some .int) (4) l V [rf V 99] s Q := by
  unfold wX10_spiteSet at h
  refine Ci.of mvX10_spiteSet.1 (Nat.le_of_ble_eq_true rfl) (fun X F hR => ?_)
  refine g_lv (lv' := [(_, _)]) rfl ?_
  refine g_aload_n (pc := 0) F dX10_spiteSet_0 rfl 0 rfl ?_
  refine g_iconst (pc := 1) F dX10_spiteSet_1 ic_0 ?_
  refine g_callVv (pc := 2) F (mX10_scans hV h) mvX10_scans uX10_199 (by decide) clX10 (sh_99 hV) rfl rfl (Nat.le_of_ble_eq_true rfl) dX10_spiteSet_2 (fun s_2 h => ?_)
  refine g_iconst (pc := 5) F dX10_spiteSet_5 ic_0 ?_
  refine g_istore_n (pc := 6) (lv' := [(_, _), (_, _)]) F dX10_spiteSet_6 rfl (by decide) rfl ?_
  refine g_iconst (pc := 7) F dX10_spiteSet_7 ic_0 ?_
  refine g_istore_n (pc := 8) (lv' := [(_, _), (_, _), (_, _)]) F dX10_spiteSet_8 rfl (by decide) rfl ?_
  refine g_iconst (pc := 9) F dX10_spiteSet_9 ic_1 ?_
  refine g_istore_n (pc := 10) (lv' := [(_, _), (_, _), (_, _), (_, _)]) F dX10_spiteSet_10 rfl (by decide) rfl ?_
  obtain ⟨k_11, h⟩ := h
  refine g_weak [3, 2, 1, 0] rfl (bX10_spiteSet_11 F hR hV k_11 _ _ _ _ h)
def wX10_spite_97 (rec : Int32 → Int32 → Int32 → St → Prop) (K105 : Int32 → Int32 → St → Prop) (Q : Int32 → St → Prop) (x1 : Int32) (x2 : Int32) (x4 : Int32) (x5 : Int32) (t0 : Int32) (t1 : Int32) (s : St) : Prop :=
  rec (t1 + t0) x4 (x5 + (1 : Int32)) s
set_option maxHeartbeats 4000000 in
set_option maxRecDepth 100000 in
theorem bX10_spite_97 {l : Launch} {V : Wv} {X : Mx} {rec : Int32 → Int32 → Int32 → St → Prop} {K105 : Int32 → Int32 → St → Prop} {Q : Int32 → St → Prop} {x1 : Int32} {x2 : Int32} {x4 : Int32} {x5 : Int32} {t0 : Int32} {t1 : Int32} (F : Fx V X cX10_spite RX10 6 5) (hR : RtI l V X 6 cX10_spite Q) (hV : V.2.1 = DESC) (hrec : ∀ (y3 : Int32) (y4 : Int32) (y5 : Int32) (s : St), rec y3 y4 y5 s → G l V X 6 42 [(0, rf V 99), (1, .int x1), (2, .int x2), (3, .int y3), (4, .int y4), (5, .int y5)] [] s) (hK105 : ∀ (y3 : Int32) (y4 : Int32) (s : St), K105 y3 y4 s → G l V X 6 105 [(0, rf V 99), (1, .int x1), (2, .int x2), (3, .int y3), (4, .int y4)] [] s) {s : St} (h : wX10_spite_97 rec K105 Q x1 x2 x4 x5 t0 t1 s) : G l V X 6 97 [(0, rf V 99), (1, .int x1), (2, .int x2), (4, .int x4), (5, .int x5)] [.int t0, .int t1] s := by
  unfold wX10_spite_97 at h
  refine g_iadd (pc := 97) F dX10_spite_97 ?_
  refine g_istore_n (pc := 98) (lv' := [(_, _), (_, _), (_, _), (_, _), (_, _), (_, _)]) F dX10_spite_98 rfl (by decide) rfl ?_
  refine g_iinc (pc := 99) (lv' := [(_, _), (_, _), (_, _), (_, _), (_, _), (_, _)]) F dX10_spite_99 5 rfl (congrArg _ ic_1) (by decide) rfl ?_
  refine g_goto (pc := 102) F 42 dX10_spite_102 (by decide) ?_
  exact g_weak [2, 3, 4, 1, 5, 0] rfl (hrec _ _ _ _ h)
def wX10_spite_96 (rec : Int32 → Int32 → Int32 → St → Prop) (K105 : Int32 → Int32 → St → Prop) (Q : Int32 → St → Prop) (x1 : Int32) (x2 : Int32) (x4 : Int32) (x5 : Int32) (t0 : Int32) (s : St) : Prop :=
  wX10_spite_97 (rec) (K105) Q x1 x2 x4 x5 (0 : Int32) t0 s
set_option maxHeartbeats 4000000 in
set_option maxRecDepth 100000 in
theorem bX10_spite_96 {l : Launch} {V : Wv} {X : Mx} {rec : Int32 → Int32 → Int32 → St → Prop} {K105 : Int32 → Int32 → St → Prop} {Q : Int32 → St → Prop} {x1 : Int32} {x2 : Int32} {x4 : Int32} {x5 : Int32} {t0 : Int32} (F : Fx V X cX10_spite RX10 6 5) (hR : RtI l V X 6 cX10_spite Q) (hV : V.2.1 = DESC) (hrec : ∀ (y3 : Int32) (y4 : Int32) (y5 : Int32) (s : St), rec y3 y4 y5 s → G l V X 6 42 [(0, rf V 99), (1, .int x1), (2, .int x2), (3, .int y3), (4, .int y4), (5, .int y5)] [] s) (hK105 : ∀ (y3 : Int32) (y4 : Int32) (s : St), K105 y3 y4 s → G l V X 6 105 [(0, rf V 99), (1, .int x1), (2, .int x2), (3, .int y3), (4, .int y4)] [] s) {s : St} (h : wX10_spite_96 rec K105 Q x1 x2 x4 x5 t0 s) : G l V X 6 96 [(0, rf V 99), (1, .int x1), (2, .int x2), (4, .int x4), (5, .int x5)] [.int t0] s := by
  unfold wX10_spite_96 at h
  refine g_iconst (pc := 96) F dX10_spite_96 ic_0 ?_
  exact g_weak [0, 1, 2, 3, 4] rfl (bX10_spite_97 F hR hV hrec hK105 h)
def wX10_spite_66 (rec : Int32 → Int32 → Int32 → St → Prop) (K105 : Int32 → Int32 → St → Prop) (Q : Int32 → St → Prop) (x1 : Int32) (x2 : Int32) (x3 : Int32) (x5 : Int32) (t0 : Int32) (t1 : Int32) (s : St) : Prop :=
  vp_in x5 64 ∧ (((s.1 112 x5.toNatClampNeg) = 0 → wX10_spite_96 (rec) (K105) Q x1 x2 (t1 + t0) x5 x3 s) ∧ (¬ (s.1 112 x5.toNatClampNeg) = 0 → vp_in x5 64 ∧ ((¬ (s.1 121 x5.toNatClampNeg) = (1000000 : Int32) → wX10_spite_96 (rec) (K105) Q x1 x2 (t1 + t0) x5 x3 s) ∧ ((s.1 121 x5.toNatClampNeg) = (1000000 : Int32) → wX10_spite_97 (rec) (K105) Q x1 x2 (t1 + t0) x5 (1 : Int32) x3 s))))
set_option maxHeartbeats 4000000 in
set_option maxRecDepth 100000 in
theorem bX10_spite_66 {l : Launch} {V : Wv} {X : Mx} {rec : Int32 → Int32 → Int32 → St → Prop} {K105 : Int32 → Int32 → St → Prop} {Q : Int32 → St → Prop} {x1 : Int32} {x2 : Int32} {x3 : Int32} {x5 : Int32} {t0 : Int32} {t1 : Int32} (F : Fx V X cX10_spite RX10 6 5) (hR : RtI l V X 6 cX10_spite Q) (hV : V.2.1 = DESC) (hrec : ∀ (y3 : Int32) (y4 : Int32) (y5 : Int32) (s : St), rec y3 y4 y5 s → G l V X 6 42 [(0, rf V 99), (1, .int x1), (2, .int x2), (3, .int y3), (4, .int y4), (5, .int y5)] [] s) (hK105 : ∀ (y3 : Int32) (y4 : Int32) (s : St), K105 y3 y4 s → G l V X 6 105 [(0, rf V 99), (1, .int x1), (2, .int x2), (3, .int y3), (4, .int y4)] [] s) {s : St} (h : wX10_spite_66 rec K105 Q x1 x2 x3 x5 t0 t1 s) : G l V X 6 66 [(0, rf V 99), (1, .int x1), (2, .int x2), (3, .int x3), (5, .int x5)] [.int t0, .int t1] s := by
  unfold wX10_spite_66 at h
  refine g_iadd (pc := 66) F dX10_spite_66 ?_
  refine g_istore (pc := 67) (lv' := [(_, _), (_, _), (_, _), (_, _), (_, _), (_, _)]) F dX10_spite_67 (by decide) rfl ?_
  refine g_iload_n (pc := 69) F dX10_spite_69 rfl 4 rfl ?_
  refine g_aload_n (pc := 70) F dX10_spite_70 rfl 1 rfl ?_
  refine g_getR (pc := 71) F clX10 (sh_99 hV) 22 _ rfl (by decide) uX10_47 dX10_spite_71 ?_
  refine g_iload (pc := 74) F dX10_spite_74 5 rfl ?_
  obtain ⟨hb_76, h⟩ := h
  refine g_iald (pc := 76) F (sh_112 hV) hb_76 dX10_spite_76 ?_
  refine g_if_eq (pc := 77) F 96 dX10_spite_77 (by decide) (fun c => ?_) (fun c => ?_)
  · have h := h.1 c
    exact g_weak [1, 2, 3, 0, 5] rfl (bX10_spite_96 F hR hV hrec hK105 h)
  · have h := h.2 c
    refine g_aload_n (pc := 80) F dX10_spite_80 rfl 1 rfl ?_
    refine g_getR (pc := 81) F clX10 (sh_99 hV) 32 _ rfl (by decide) uX10_74 dX10_spite_81 ?_
    refine g_iload (pc := 84) F dX10_spite_84 5 rfl ?_
    obtain ⟨hb_86, h⟩ := h
    refine g_iald (pc := 86) F (sh_121 hV) hb_86 dX10_spite_86 ?_
    refine g_ldc (pc := 87) F dX10_spite_87 uX10_167 ?_
    refine g_icmp_ne (pc := 89) F 96 dX10_spite_89 (by decide) (fun c => ?_) (fun c => ?_)
    · have h := h.1 c
      exact g_weak [1, 2, 3, 0, 5] rfl (bX10_spite_96 F hR hV hrec hK105 h)
    · have h := h.2 c
      refine g_iconst (pc := 92) F dX10_spite_92 ic_1 ?_
      refine g_goto (pc := 93) F 97 dX10_spite_93 (by decide) ?_
      exact g_weak [1, 2, 3, 0, 5] rfl (bX10_spite_97 F hR hV hrec hK105 h)
def wX10_spite_42 (x1 : Int32) (x2 : Int32) (K105 : Int32 → Int32 → St → Prop) (Q : Int32 → St → Prop) : Nat → Int32 → Int32 → Int32 → St → Prop
  | 0, _, _, _, _ => False
  | n + 1, x3, x4, x5, s =>
  (((64 : Int32) ≤ x5 → K105 x3 x4 s) ∧ (¬ (64 : Int32) ≤ x5 → vp_in x5 64 ∧ (((s.1 112 x5.toNatClampNeg) = 0 → wX10_spite_66 (wX10_spite_42 x1 x2 K105 Q n) (K105) Q x1 x2 x3 x5 (0 : Int32) x4 s) ∧ (¬ (s.1 112 x5.toNatClampNeg) = 0 → wX10_spite_66 (wX10_spite_42 x1 x2 K105 Q n) (K105) Q x1 x2 x3 x5 (1 : Int32) x4 s))))
set_option maxHeartbeats 4000000 in
set_option maxRecDepth 100000 in
theorem bX10_spite_42 {l : Launch} {V : Wv} {X : Mx} {x1 : Int32} {x2 : Int32} {K105 : Int32 → Int32 → St → Prop} {Q : Int32 → St → Prop} (F : Fx V X cX10_spite RX10 6 5) (hR : RtI l V X 6 cX10_spite Q) (hV : V.2.1 = DESC) (hK105 : ∀ (y3 : Int32) (y4 : Int32) (s : St), K105 y3 y4 s → G l V X 6 105 [(0, rf V 99), (1, .int x1), (2, .int x2), (3, .int y3), (4, .int y4)] [] s) : ∀ (n : Nat) (x3 : Int32) (x4 : Int32) (x5 : Int32) (s : St), wX10_spite_42 x1 x2 K105 Q n x3 x4 x5 s → G l V X 6 42 [(0, rf V 99), (1, .int x1), (2, .int x2), (3, .int x3), (4, .int x4), (5, .int x5)] [] s := by
  intro n
  induction n with
  | zero => intro x3 x4 x5 s h; unfold wX10_spite_42 at h; exact h.elim
  | succ n ih =>
    intro x3 x4 x5 s h
    unfold wX10_spite_42 at h
    refine g_iload (pc := 42) F dX10_spite_42 5 rfl ?_
    refine g_bipush (pc := 44) F dX10_spite_44 bp_64 ?_
    refine g_icmp_ge (pc := 46) F 105 dX10_spite_46 (by decide) (fun c => ?_) (fun c => ?_)
    · have h := h.1 c
      exact g_weak [0, 1, 2, 3, 4] rfl (hK105 _ _ _ h)
    · have h := h.2 c
      refine g_iload (pc := 49) F dX10_spite_49 4 rfl ?_
      refine g_aload_n (pc := 51) F dX10_spite_51 rfl 0 rfl ?_
      refine g_getR (pc := 52) F clX10 (sh_99 hV) 22 _ rfl (by decide) uX10_47 dX10_spite_52 ?_
      refine g_iload (pc := 55) F dX10_spite_55 5 rfl ?_
      obtain ⟨hb_57, h⟩ := h
      refine g_iald (pc := 57) F (sh_112 hV) hb_57 dX10_spite_57 ?_
      refine g_if_eq (pc := 58) F 65 dX10_spite_58 (by decide) (fun c => ?_) (fun c => ?_)
      · have h := h.1 c
        refine g_iconst (pc := 65) F dX10_spite_65 ic_0 ?_
        exact g_weak [0, 1, 2, 3, 5] rfl (bX10_spite_66 F hR hV ih hK105 h)
      · have h := h.2 c
        refine g_iconst (pc := 61) F dX10_spite_61 ic_1 ?_
        refine g_goto (pc := 62) F 66 dX10_spite_62 (by decide) ?_
        exact g_weak [0, 1, 2, 3, 5] rfl (bX10_spite_66 F hR hV ih hK105 h)
def wX10_spite (x1 : Int32) (s : St) (Q : Int32 → St → Prop) : Prop :=
  ∀ s_2 : St, s_2 = stI s 99 0 (0 : Int32) → wX10_in x1 (0 : Int32) (2 : Int32) s_2 (fun r_8 s_8 => ((¬ r_8 = 0 → vp_in (36 : Int32) 38 ∧ (((s_8.1 106 (36 : Int32).toNatClampNeg) ≤ 0 → wX10_spiteSet  s_8 (fun r_30 s_30 => (∃ k_42, wX10_spite_42  x1 r_30 (fun x3_105 x4_105 s_k105 => ((¬ x1 = (1 : Int32) → ((¬ x1 = (2 : Int32) → ((¬ r_30 = 0 → vp_in r_30 64 ∧ Q (s_k105.1 121 r_30.toNatClampNeg) s_k105) ∧ (r_30 = 0 → Q (-9 : Int32) s_k105))) ∧ (x1 = (2 : Int32) → Q x4_105 s_k105))) ∧ (x1 = (1 : Int32) → Q x3_105 s_k105))) Q k_42 (0 : Int32) (0 : Int32) (1 : Int32) s_30))) ∧ (¬ (s_8.1 106 (36 : Int32).toNatClampNeg) ≤ 0 → Q (-2 : Int32) s_8))) ∧ (r_8 = 0 → Q (-1 : Int32) s_8)))
set_option maxHeartbeats 4000000 in
set_option maxRecDepth 100000 in
theorem mX10_spite {l : Launch} {V : Wv} {x1 : Int32} {s : St} {Q : Int32 → St → Prop} (hV : V.2.1 = DESC) (h : wX10_spite x1 s Q) : Ci yX10_spite cX10_spite 6 (some .int) (5) l V [rf V 99, .int x1] s Q := by
  unfold wX10_spite at h
  refine Ci.of mvX10_spite.1 (Nat.le_of_ble_eq_true rfl) (fun X F hR => ?_)
  refine g_lv (lv' := [(_, _), (_, _)]) rfl ?_
  refine g_aload_n (pc := 0) F dX10_spite_0 rfl 0 rfl ?_
  refine g_iconst (pc := 1) F dX10_spite_1 ic_0 ?_
  have h := h _ rfl
  refine g_putI (pc := 2) F clX10 (sh_99 hV) 0 rfl (by decide) rfl (tyX10_ok 0 (by decide)) uX10_89 dX10_spite_2 ?_
  refine g_iload_n (pc := 5) F dX10_spite_5 rfl 1 rfl ?_
  refine g_iconst (pc := 6) F dX10_spite_6 ic_0 ?_
  refine g_iconst (pc := 7) F dX10_spite_7 ic_2 ?_
  refine g_callSi (pc := 8) F (mX10_in hV h) mvX10_in uX10_93 (by decide)  rfl rfl (Nat.le_of_ble_eq_true rfl) dX10_spite_8 (fun r_8 s_8 h => ?_)
  refine g_if_ne (pc := 11) F 16 dX10_spite_11 (by decide) (fun c => ?_) (fun c => ?_)
  · have h := h.1 c
    refine g_aload_n (pc := 16) F dX10_spite_16 rfl 0 rfl ?_
    refine g_getR (pc := 17) F clX10 (sh_99 hV) 14 _ rfl (by decide) uX10_28 dX10_spite_17 ?_
    refine g_bipush (pc := 20) F dX10_spite_20 bp_36 ?_
    obtain ⟨hb_22, h⟩ := h
    refine g_iald (pc := 22) F (sh_106 hV) hb_22 dX10_spite_22 ?_
    refine g_if_le (pc := 23) F 29 dX10_spite_23 (by decide) (fun c => ?_) (fun c => ?_)
    · have h := h.1 c
      refine g_aload_n (pc := 29) F dX10_spite_29 rfl 0 rfl ?_
      refine g_callVi (pc := 30) F (mX10_spiteSet hV h) mvX10_spiteSet uX10_233 (by decide) clX10 (sh_99 hV) rfl rfl (Nat.le_of_ble_eq_true rfl) dX10_spite_30 (fun r_30 s_30 h => ?_)
      refine g_istore_n (pc := 33) (lv' := [(_, _), (_, _), (_, _)]) F dX10_spite_33 rfl (by decide) rfl ?_
      refine g_iconst (pc := 34) F dX10_spite_34 ic_0 ?_
      refine g_istore_n (pc := 35) (lv' := [(_, _), (_, _), (_, _), (_, _)]) F dX10_spite_35 rfl (by decide) rfl ?_
      refine g_iconst (pc := 36) F dX10_spite_36 ic_0 ?_
      refine g_istore (pc := 37) (lv' := [(_, _), (_, _), (_, _), (_, _), (_, _)]) F dX10_spite_37 (by decide) rfl ?_
      refine g_iconst (pc := 39) F dX10_spite_39 ic_1 ?_
      refine g_istore (pc := 40) (lv' := [(_, _), (_, _), (_, _), (_, _), (_, _), (_, _)]) F dX10_spite_40 (by decide) rfl ?_
      obtain ⟨k_42, h⟩ := h
      refine g_weak [4, 5, 3, 2, 1, 0] rfl (bX10_spite_42 F hR hV (fun x3_105 x4_105 s_k105 h => ?_) k_42 _ _ _ _ h)
      · refine g_iload_n (pc := 105) F dX10_spite_105 rfl 1 rfl ?_
        refine g_iconst (pc := 106) F dX10_spite_106 ic_1 ?_
        refine g_icmp_ne (pc := 107) F 114 dX10_spite_107 (by decide) (fun c => ?_) (fun c => ?_)
        · have h := h.1 c
          refine g_iload_n (pc := 114) F dX10_spite_114 rfl 1 rfl ?_
          refine g_iconst (pc := 115) F dX10_spite_115 ic_2 ?_
          refine g_icmp_ne (pc := 116) F 124 dX10_spite_116 (by decide) (fun c => ?_) (fun c => ?_)
          · have h := h.1 c
            refine g_iload_n (pc := 124) F dX10_spite_124 rfl 2 rfl ?_
            refine g_if_ne (pc := 125) F 133 dX10_spite_125 (by decide) (fun c => ?_) (fun c => ?_)
            · have h := h.1 c
              refine g_aload_n (pc := 133) F dX10_spite_133 rfl 0 rfl ?_
              refine g_getR (pc := 134) F clX10 (sh_99 hV) 32 _ rfl (by decide) uX10_74 dX10_spite_134 ?_
              refine g_iload_n (pc := 137) F dX10_spite_137 rfl 2 rfl ?_
              obtain ⟨hb_138, h⟩ := h
              refine g_iald (pc := 138) F (sh_121 hV) hb_138 dX10_spite_138 ?_
              exact hR _ _ _ _ dX10_spite_139 h
            · have h := h.2 c
              refine g_bipush (pc := 128) F dX10_spite_128 bp_m9 ?_
              refine g_goto (pc := 130) F 139 dX10_spite_130 (by decide) ?_
              exact hR _ _ _ _ dX10_spite_139 h
          · have h := h.2 c
            refine g_iload (pc := 119) F dX10_spite_119 4 rfl ?_
            refine g_goto (pc := 121) F 139 dX10_spite_121 (by decide) ?_
            exact hR _ _ _ _ dX10_spite_139 h
        · have h := h.2 c
          refine g_iload_n (pc := 110) F dX10_spite_110 rfl 3 rfl ?_
          refine g_goto (pc := 111) F 139 dX10_spite_111 (by decide) ?_
          exact hR _ _ _ _ dX10_spite_139 h
    · have h := h.2 c
      refine g_bipush (pc := 26) F dX10_spite_26 bp_m2 ?_
      exact hR _ _ _ _ dX10_spite_28 h
  · have h := h.2 c
    refine g_iconst (pc := 14) F dX10_spite_14 ic_m1 ?_
    exact hR _ _ _ _ dX10_spite_15 h
def wX10_spiteful (x1 : Int32) (s : St) (Q : Int32 → St → Prop) : Prop :=
  ∀ s_2 : St, s_2 = stI s 99 0 (0 : Int32) → wX10_in x1 (0 : Int32) (4 : Int32) s_2 (fun r_8 s_8 => ((¬ r_8 = 0 → vp_in (36 : Int32) 38 ∧ (((s_8.1 106 (36 : Int32).toNatClampNeg) ≤ 0 → wX10_spiteSet  s_8 (fun r_30 s_30 => ((¬ r_30 = 0 → vp_in x1 5 ∧ Q (s_30.1 123 x1.toNatClampNeg) s_30) ∧ (r_30 = 0 → Q (-9 : Int32) s_30)))) ∧ (¬ (s_8.1 106 (36 : Int32).toNatClampNeg) ≤ 0 → Q (-2 : Int32) s_8))) ∧ (r_8 = 0 → Q (-1 : Int32) s_8)))
set_option maxHeartbeats 4000000 in
set_option maxRecDepth 100000 in
theorem mX10_spiteful {l : Launch} {V : Wv} {x1 : Int32} {s : St} {Q : Int32 → St → Prop} (hV : V.2.1 = DESC) (h : wX10_spiteful x1 s Q) : Ci yX10_spiteful cX10_spiteful 2 (some .int) (5) l V [rf V 99, .int x1] s Q := by
  unfold wX10_spiteful at h
  refine Ci.of mvX10_spiteful.1 (Nat.le_of_ble_eq_true rfl) (fun X F hR => ?_)
  refine g_lv (lv' := [(_, _), (_, _)]) rfl ?_
  refine g_aload_n (pc := 0) F dX10_spiteful_0 rfl 0 rfl ?_
  refine g_iconst (pc := 1) F dX10_spiteful_1 ic_0 ?_
  have h := h _ rfl
  refine g_putI (pc := 2) F clX10 (sh_99 hV) 0 rfl (by decide) rfl (tyX10_ok 0 (by decide)) uX10_89 dX10_spiteful_2 ?_
  refine g_iload_n (pc := 5) F dX10_spiteful_5 rfl 1 rfl ?_
  refine g_iconst (pc := 6) F dX10_spiteful_6 ic_0 ?_
  refine g_iconst (pc := 7) F dX10_spiteful_7 ic_4 ?_
  refine g_callSi (pc := 8) F (mX10_in hV h) mvX10_in uX10_93 (by decide)  rfl rfl (Nat.le_of_ble_eq_true rfl) dX10_spiteful_8 (fun r_8 s_8 h => ?_)
  refine g_if_ne (pc := 11) F 16 dX10_spiteful_11 (by decide) (fun c => ?_) (fun c => ?_)
  · have h := h.1 c
    refine g_aload_n (pc := 16) F dX10_spiteful_16 rfl 0 rfl ?_
    refine g_getR (pc := 17) F clX10 (sh_99 hV) 14 _ rfl (by decide) uX10_28 dX10_spiteful_17 ?_
    refine g_bipush (pc := 20) F dX10_spiteful_20 bp_36 ?_
    obtain ⟨hb_22, h⟩ := h
    refine g_iald (pc := 22) F (sh_106 hV) hb_22 dX10_spiteful_22 ?_
    refine g_if_le (pc := 23) F 29 dX10_spiteful_23 (by decide) (fun c => ?_) (fun c => ?_)
    · have h := h.1 c
      refine g_aload_n (pc := 29) F dX10_spiteful_29 rfl 0 rfl ?_
      refine g_callVi (pc := 30) F (mX10_spiteSet hV h) mvX10_spiteSet uX10_233 (by decide) clX10 (sh_99 hV) rfl rfl (Nat.le_of_ble_eq_true rfl) dX10_spiteful_30 (fun r_30 s_30 h => ?_)
      refine g_if_ne (pc := 33) F 41 dX10_spiteful_33 (by decide) (fun c => ?_) (fun c => ?_)
      · have h := h.1 c
        refine g_aload_n (pc := 41) F dX10_spiteful_41 rfl 0 rfl ?_
        refine g_getR (pc := 42) F clX10 (sh_99 hV) 34 _ rfl (by decide) uX10_80 dX10_spiteful_42 ?_
        refine g_iload_n (pc := 45) F dX10_spiteful_45 rfl 1 rfl ?_
        obtain ⟨hb_46, h⟩ := h
        refine g_iald (pc := 46) F (sh_123 hV) hb_46 dX10_spiteful_46 ?_
        exact hR _ _ _ _ dX10_spiteful_47 h
      · have h := h.2 c
        refine g_bipush (pc := 36) F dX10_spiteful_36 bp_m9 ?_
        refine g_goto (pc := 38) F 47 dX10_spiteful_38 (by decide) ?_
        exact hR _ _ _ _ dX10_spiteful_47 h
    · have h := h.2 c
      refine g_bipush (pc := 26) F dX10_spiteful_26 bp_m2 ?_
      exact hR _ _ _ _ dX10_spiteful_28 h
  · have h := h.2 c
    refine g_iconst (pc := 14) F dX10_spiteful_14 ic_m1 ?_
    exact hR _ _ _ _ dX10_spiteful_15 h
def wX10_gcd_4 (Q : Int32 → St → Prop) : Nat → Int32 → Int32 → St → Prop
  | 0, _, _, _ => False
  | n + 1, x2, x3, s =>
  ((x3 = 0 → Q x2 s) ∧ (¬ x3 = 0 → ¬ x3 = 0 ∧ wX10_gcd_4 Q n x3 (x2 - x2 / x3 * x3) s))
set_option maxHeartbeats 4000000 in
set_option maxRecDepth 100000 in
theorem bX10_gcd_4 {l : Launch} {V : Wv} {X : Mx} {Q : Int32 → St → Prop} (F : Fx V X cX10_gcd RX10 5 0) (hR : RtI l V X 5 cX10_gcd Q) (hV : V.2.1 = DESC)  : ∀ (n : Nat) (x2 : Int32) (x3 : Int32) (s : St), wX10_gcd_4 Q n x2 x3 s → G l V X 5 4 [(2, .int x2), (3, .int x3)] [] s := by
  intro n
  induction n with
  | zero => intro x2 x3 s h; unfold wX10_gcd_4 at h; exact h.elim
  | succ n ih =>
    intro x2 x3 s h
    unfold wX10_gcd_4 at h
    refine g_iload_n (pc := 4) F dX10_gcd_4 rfl 1 rfl ?_
    refine g_if_eq (pc := 5) F 21 dX10_gcd_5 (by decide) (fun c => ?_) (fun c => ?_)
    · have h := h.1 c
      refine g_iload_n (pc := 21) F dX10_gcd_21 rfl 0 rfl ?_
      exact hR _ _ _ _ dX10_gcd_22 h
    · have h := h.2 c
      refine g_iload_n (pc := 8) F dX10_gcd_8 rfl 0 rfl ?_
      refine g_iload_n (pc := 9) F dX10_gcd_9 rfl 1 rfl ?_
      obtain ⟨hb_10, h⟩ := h
      refine g_irem (pc := 10) F dX10_gcd_10 hb_10 ?_
      refine g_istore (pc := 11) (lv' := [(_, _), (_, _), (_, _)]) F dX10_gcd_11 (by decide) rfl ?_
      refine g_iload_n (pc := 13) F dX10_gcd_13 rfl 2 rfl ?_
      refine g_istore_n (pc := 14) (lv' := [(_, _), (_, _), (_, _)]) F dX10_gcd_14 rfl (by decide) rfl ?_
      refine g_iload (pc := 15) F dX10_gcd_15 1 rfl ?_
      refine g_istore_n (pc := 17) (lv' := [(_, _), (_, _), (_, _)]) F dX10_gcd_17 rfl (by decide) rfl ?_
      refine g_goto (pc := 18) F 4 dX10_gcd_18 (by decide) ?_
      exact g_weak [1, 0] rfl (ih _ _ _ h)
def wX10_gcd (x0 : Int32) (x1 : Int32) (s : St) (Q : Int32 → St → Prop) : Prop :=
  (∃ k_4, wX10_gcd_4    Q k_4 x0 x1 s)
set_option maxHeartbeats 4000000 in
set_option maxRecDepth 100000 in
theorem mX10_gcd {l : Launch} {V : Wv} {x0 : Int32} {x1 : Int32} {s : St} {Q : Int32 → St → Prop} (hV : V.2.1 = DESC) (h : wX10_gcd x0 x1 s Q) : Ci yX10_gcd cX10_gcd 5 (some .int) (0) l V [.int x0, .int x1] s Q := by
  unfold wX10_gcd at h
  refine Ci.of mvX10_gcd.1 (Nat.le_of_ble_eq_true rfl) (fun X F hR => ?_)
  refine g_lv (lv' := [(_, _), (_, _)]) rfl ?_
  refine g_iload_n (pc := 0) F dX10_gcd_0 rfl 0 rfl ?_
  refine g_istore_n (pc := 1) (lv' := [(_, _), (_, _), (_, _)]) F dX10_gcd_1 rfl (by decide) rfl ?_
  refine g_iload_n (pc := 2) F dX10_gcd_2 rfl 2 rfl ?_
  refine g_istore_n (pc := 3) (lv' := [(_, _), (_, _), (_, _), (_, _)]) F dX10_gcd_3 rfl (by decide) rfl ?_
  obtain ⟨k_4, h⟩ := h
  refine g_weak [1, 0] rfl (bX10_gcd_4 F hR hV k_4 _ _ _ h)
def wX10_odds_42 (x1 : Int32) (x2 : Int32) (x3 : Int32) (K67 : Int32 → St → Prop) (Q : Int32 → St → Prop) : Nat → Int32 → Int32 → St → Prop
  | 0, _, _, _ => False
  | n + 1, x4, x5, s =>
  vp_in (6 : Int32) 38 ∧ (((s.1 106 (6 : Int32).toNatClampNeg) ≤ x5 → K67 x4 s) ∧ (¬ (s.1 106 (6 : Int32).toNatClampNeg) ≤ x5 → wX10_odds_42 x1 x2 x3 K67 Q n (x4 * (10 : Int32)) (x5 + (1 : Int32)) s))
set_option maxHeartbeats 4000000 in
set_option maxRecDepth 100000 in
theorem bX10_odds_42 {l : Launch} {V : Wv} {X : Mx} {x1 : Int32} {x2 : Int32} {x3 : Int32} {K67 : Int32 → St → Prop} {Q : Int32 → St → Prop} (F : Fx V X cX10_odds RX10 8 4) (hR : RtI l V X 8 cX10_odds Q) (hV : V.2.1 = DESC) (hK67 : ∀ (y4 : Int32) (s : St), K67 y4 s → G l V X 8 67 [(0, rf V 99), (1, .int x1), (2, .int x2), (3, .int x3), (4, .int y4)] [] s) : ∀ (n : Nat) (x4 : Int32) (x5 : Int32) (s : St), wX10_odds_42 x1 x2 x3 K67 Q n x4 x5 s → G l V X 8 42 [(0, rf V 99), (1, .int x1), (2, .int x2), (3, .int x3), (4, .int x4), (5, .int x5)] [] s := by
  intro n
  induction n with
  | zero => intro x4 x5 s h; unfold wX10_odds_42 at h; exact h.elim
  | succ n ih =>
    intro x4 x5 s h
    unfold wX10_odds_42 at h
    refine g_iload (pc := 42) F dX10_odds_42 5 rfl ?_
    refine g_aload_n (pc := 44) F dX10_odds_44 rfl 0 rfl ?_
    refine g_getR (pc := 45) F clX10 (sh_99 hV) 14 _ rfl (by decide) uX10_28 dX10_odds_45 ?_
    refine g_bipush (pc := 48) F dX10_odds_48 bp_6 ?_
    obtain ⟨hb_50, h⟩ := h
    refine g_iald (pc := 50) F (sh_106 hV) hb_50 dX10_odds_50 ?_
    refine g_icmp_ge (pc := 51) F 67 dX10_odds_51 (by decide) (fun c => ?_) (fun c => ?_)
    · have h := h.1 c
      exact g_weak [0, 1, 2, 3, 4] rfl (hK67 _ _ h)
    · have h := h.2 c
      refine g_iload (pc := 54) F dX10_odds_54 4 rfl ?_
      refine g_bipush (pc := 56) F dX10_odds_56 bp_10 ?_
      refine g_imul (pc := 58) F dX10_odds_58 ?_
      refine g_istore (pc := 59) (lv' := [(_, _), (_, _), (_, _), (_, _), (_, _), (_, _)]) F dX10_odds_59 (by decide) rfl ?_
      refine g_iinc (pc := 61) (lv' := [(_, _), (_, _), (_, _), (_, _), (_, _), (_, _)]) F dX10_odds_61 5 rfl (congrArg _ ic_1) (by decide) rfl ?_
      refine g_goto (pc := 64) F 42 dX10_odds_64 (by decide) ?_
      exact g_weak [2, 3, 4, 5, 1, 0] rfl (ih _ _ _ h)
def wX10_odds_118 (rec : Int32 → Int32 → St → Prop) (K127 : Int32 → St → Prop) (Q : Int32 → St → Prop) (x1 : Int32) (x2 : Int32) (x3 : Int32) (x4 : Int32) (x5 : Int32) (x7 : Int32) (t0 : Int32) (t1 : Int32) (s : St) : Prop :=
  rec (t1 * t0) (x7 + (1 : Int32)) s
set_option maxHeartbeats 4000000 in
set_option maxRecDepth 100000 in
theorem bX10_odds_118 {l : Launch} {V : Wv} {X : Mx} {rec : Int32 → Int32 → St → Prop} {K127 : Int32 → St → Prop} {Q : Int32 → St → Prop} {x1 : Int32} {x2 : Int32} {x3 : Int32} {x4 : Int32} {x5 : Int32} {x7 : Int32} {t0 : Int32} {t1 : Int32} (F : Fx V X cX10_odds RX10 8 4) (hR : RtI l V X 8 cX10_odds Q) (hV : V.2.1 = DESC) (hrec : ∀ (y6 : Int32) (y7 : Int32) (s : St), rec y6 y7 s → G l V X 8 85 [(0, rf V 99), (1, .int x1), (2, .int x2), (3, .int x3), (4, .int x4), (5, .int x5), (6, .int y6), (7, .int y7)] [] s) (hK127 : ∀ (y6 : Int32) (s : St), K127 y6 s → G l V X 8 127 [(0, rf V 99), (1, .int x1), (2, .int x2), (3, .int x3), (4, .int x4), (5, .int x5), (6, .int y6)] [] s) {s : St} (h : wX10_odds_118 rec K127 Q x1 x2 x3 x4 x5 x7 t0 t1 s) : G l V X 8 118 [(0, rf V 99), (1, .int x1), (2, .int x2), (3, .int x3), (4, .int x4), (5, .int x5), (7, .int x7)] [.int t0, .int t1] s := by
  unfold wX10_odds_118 at h
  refine g_imul (pc := 118) F dX10_odds_118 ?_
  refine g_istore (pc := 119) (lv' := [(_, _), (_, _), (_, _), (_, _), (_, _), (_, _), (_, _), (_, _)]) F dX10_odds_119 (by decide) rfl ?_
  refine g_iinc (pc := 121) (lv' := [(_, _), (_, _), (_, _), (_, _), (_, _), (_, _), (_, _), (_, _)]) F dX10_odds_121 7 rfl (congrArg _ ic_1) (by decide) rfl ?_
  refine g_goto (pc := 124) F 85 dX10_odds_124 (by decide) ?_
  exact g_weak [2, 3, 4, 5, 6, 7, 1, 0] rfl (hrec _ _ _ h)
def wX10_odds_85 (x1 : Int32) (x2 : Int32) (x3 : Int32) (x4 : Int32) (x5 : Int32) (K127 : Int32 → St → Prop) (Q : Int32 → St → Prop) : Nat → Int32 → Int32 → St → Prop
  | 0, _, _, _ => False
  | n + 1, x6, x7, s =>
  vp_in (6 : Int32) 38 ∧ (((s.1 106 (6 : Int32).toNatClampNeg) ≤ x7 → K127 x6 s) ∧ (¬ (s.1 106 (6 : Int32).toNatClampNeg) ≤ x7 → ((¬ ((x5 >>> (x7 &&& 31)) &&& (1 : Int32)) = (1 : Int32) → wX10_odds_118 (wX10_odds_85 x1 x2 x3 x4 x5 K127 Q n) (K127) Q x1 x2 x3 x4 x5 x7 x1 x6 s) ∧ (((x5 >>> (x7 &&& 31)) &&& (1 : Int32)) = (1 : Int32) → wX10_odds_118 (wX10_odds_85 x1 x2 x3 x4 x5 K127 Q n) (K127) Q x1 x2 x3 x4 x5 x7 ((10 : Int32) - x1) x6 s))))
set_option maxHeartbeats 4000000 in
set_option maxRecDepth 100000 in
theorem bX10_odds_85 {l : Launch} {V : Wv} {X : Mx} {x1 : Int32} {x2 : Int32} {x3 : Int32} {x4 : Int32} {x5 : Int32} {K127 : Int32 → St → Prop} {Q : Int32 → St → Prop} (F : Fx V X cX10_odds RX10 8 4) (hR : RtI l V X 8 cX10_odds Q) (hV : V.2.1 = DESC) (hK127 : ∀ (y6 : Int32) (s : St), K127 y6 s → G l V X 8 127 [(0, rf V 99), (1, .int x1), (2, .int x2), (3, .int x3), (4, .int x4), (5, .int x5), (6, .int y6)] [] s) : ∀ (n : Nat) (x6 : Int32) (x7 : Int32) (s : St), wX10_odds_85 x1 x2 x3 x4 x5 K127 Q n x6 x7 s → G l V X 8 85 [(0, rf V 99), (1, .int x1), (2, .int x2), (3, .int x3), (4, .int x4), (5, .int x5), (6, .int x6), (7, .int x7)] [] s := by
  intro n
  induction n with
  | zero => intro x6 x7 s h; unfold wX10_odds_85 at h; exact h.elim
  | succ n ih =>
    intro x6 x7 s h
    unfold wX10_odds_85 at h
    refine g_iload (pc := 85) F dX10_odds_85 7 rfl ?_
    refine g_aload_n (pc := 87) F dX10_odds_87 rfl 0 rfl ?_
    refine g_getR (pc := 88) F clX10 (sh_99 hV) 14 _ rfl (by decide) uX10_28 dX10_odds_88 ?_
    refine g_bipush (pc := 91) F dX10_odds_91 bp_6 ?_
    obtain ⟨hb_93, h⟩ := h
    refine g_iald (pc := 93) F (sh_106 hV) hb_93 dX10_odds_93 ?_
    refine g_icmp_ge (pc := 94) F 127 dX10_odds_94 (by decide) (fun c => ?_) (fun c => ?_)
    · have h := h.1 c
      exact g_weak [0, 1, 2, 3, 4, 5, 6] rfl (hK127 _ _ h)
    · have h := h.2 c
      refine g_iload (pc := 97) F dX10_odds_97 6 rfl ?_
      refine g_iload (pc := 99) F dX10_odds_99 5 rfl ?_
      refine g_iload (pc := 101) F dX10_odds_101 7 rfl ?_
      refine g_ishr (pc := 103) F dX10_odds_103 ?_
      refine g_iconst (pc := 104) F dX10_odds_104 ic_1 ?_
      refine g_iand (pc := 105) F dX10_odds_105 ?_
      refine g_iconst (pc := 106) F dX10_odds_106 ic_1 ?_
      refine g_icmp_ne (pc := 107) F 117 dX10_odds_107 (by decide) (fun c => ?_) (fun c => ?_)
      · have h := h.1 c
        refine g_iload_n (pc := 117) F dX10_odds_117 rfl 1 rfl ?_
        exact g_weak [0, 1, 2, 3, 4, 5, 7] rfl (bX10_odds_118 F hR hV ih hK127 h)
      · have h := h.2 c
        refine g_bipush (pc := 110) F dX10_odds_110 bp_10 ?_
        refine g_iload_n (pc := 112) F dX10_odds_112 rfl 1 rfl ?_
        refine g_isub (pc := 113) F dX10_odds_113 ?_
        refine g_goto (pc := 114) F 118 dX10_odds_114 (by decide) ?_
        exact g_weak [0, 1, 2, 3, 4, 5, 7] rfl (bX10_odds_118 F hR hV ih hK127 h)
def wX10_odds_145 (rec : Int32 → Int32 → St → Prop) (K153 : Int32 → St → Prop) (Q : Int32 → St → Prop) (x1 : Int32) (x2 : Int32) (x4 : Int32) (x5 : Int32) (t0 : Int32) (t1 : Int32) (s : St) : Prop :=
  rec (t1 + t0) (x5 + (1 : Int32)) s
set_option maxHeartbeats 4000000 in
set_option maxRecDepth 100000 in
theorem bX10_odds_145 {l : Launch} {V : Wv} {X : Mx} {rec : Int32 → Int32 → St → Prop} {K153 : Int32 → St → Prop} {Q : Int32 → St → Prop} {x1 : Int32} {x2 : Int32} {x4 : Int32} {x5 : Int32} {t0 : Int32} {t1 : Int32} (F : Fx V X cX10_odds RX10 8 4) (hR : RtI l V X 8 cX10_odds Q) (hV : V.2.1 = DESC) (hrec : ∀ (y3 : Int32) (y5 : Int32) (s : St), rec y3 y5 s → G l V X 8 70 [(0, rf V 99), (1, .int x1), (2, .int x2), (3, .int y3), (4, .int x4), (5, .int y5)] [] s) (hK153 : ∀ (y3 : Int32) (s : St), K153 y3 s → G l V X 8 153 [(2, .int x2), (3, .int y3), (4, .int x4)] [] s) {s : St} (h : wX10_odds_145 rec K153 Q x1 x2 x4 x5 t0 t1 s) : G l V X 8 145 [(0, rf V 99), (1, .int x1), (2, .int x2), (4, .int x4), (5, .int x5)] [.int t0, .int t1] s := by
  unfold wX10_odds_145 at h
  refine g_iadd (pc := 145) F dX10_odds_145 ?_
  refine g_istore_n (pc := 146) (lv' := [(_, _), (_, _), (_, _), (_, _), (_, _), (_, _)]) F dX10_odds_146 rfl (by decide) rfl ?_
  refine g_iinc (pc := 147) (lv' := [(_, _), (_, _), (_, _), (_, _), (_, _), (_, _)]) F dX10_odds_147 5 rfl (congrArg _ ic_1) (by decide) rfl ?_
  refine g_goto (pc := 150) F 70 dX10_odds_150 (by decide) ?_
  exact g_weak [2, 3, 4, 1, 5, 0] rfl (hrec _ _ _ h)
def wX10_odds_70 (x1 : Int32) (x2 : Int32) (x4 : Int32) (K153 : Int32 → St → Prop) (Q : Int32 → St → Prop) : Nat → Int32 → Int32 → St → Prop
  | 0, _, _, _ => False
  | n + 1, x3, x5, s =>
  wX10_allMaps  s (fun r_73 s_73 => ((r_73 < x5 → K153 x3 s_73) ∧ (¬ r_73 < x5 → (∃ k_85, wX10_odds_85  x1 x2 x3 x4 x5 (fun x6_127 s_k127 => wX10_costOf x5 s_k127 (fun r_131 s_131 => ((¬ r_131 = (1000000 : Int32) → wX10_odds_145 (wX10_odds_70 x1 x2 x4 K153 Q n) (K153) Q x1 x2 x4 x5 x6_127 x3 s_131) ∧ (r_131 = (1000000 : Int32) → wX10_odds_145 (wX10_odds_70 x1 x2 x4 K153 Q n) (K153) Q x1 x2 x4 x5 (0 : Int32) x3 s_131)))) Q k_85 (1 : Int32) (0 : Int32) s_73))))
set_option maxHeartbeats 4000000 in
set_option maxRecDepth 100000 in
theorem bX10_odds_70 {l : Launch} {V : Wv} {X : Mx} {x1 : Int32} {x2 : Int32} {x4 : Int32} {K153 : Int32 → St → Prop} {Q : Int32 → St → Prop} (F : Fx V X cX10_odds RX10 8 4) (hR : RtI l V X 8 cX10_odds Q) (hV : V.2.1 = DESC) (hK153 : ∀ (y3 : Int32) (s : St), K153 y3 s → G l V X 8 153 [(2, .int x2), (3, .int y3), (4, .int x4)] [] s) : ∀ (n : Nat) (x3 : Int32) (x5 : Int32) (s : St), wX10_odds_70 x1 x2 x4 K153 Q n x3 x5 s → G l V X 8 70 [(0, rf V 99), (1, .int x1), (2, .int x2), (3, .int x3), (4, .int x4), (5, .int x5)] [] s := by
  intro n
  induction n with
  | zero => intro x3 x5 s h; unfold wX10_odds_70 at h; exact h.elim
  | succ n ih =>
    intro x3 x5 s h
    unfold wX10_odds_70 at h
    refine g_iload (pc := 70) F dX10_odds_70 5 rfl ?_
    refine g_aload_n (pc := 72) F dX10_odds_72 rfl 0 rfl ?_
    refine g_callVi (pc := 73) F (mX10_allMaps hV h) mvX10_allMaps uX10_202 (by decide) clX10 (sh_99 hV) rfl rfl (Nat.le_of_ble_eq_true rfl) dX10_odds_73 (fun r_73 s_73 h => ?_)
    refine g_icmp_gt (pc := 76) F 153 dX10_odds_76 (by decide) (fun c => ?_) (fun c => ?_)
    · have h := h.1 c
      exact g_weak [2, 3, 4] rfl (hK153 _ _ h)
    · have h := h.2 c
      refine g_iconst (pc := 79) F dX10_odds_79 ic_1 ?_
      refine g_istore (pc := 80) (lv' := [(_, _), (_, _), (_, _), (_, _), (_, _), (_, _), (_, _)]) F dX10_odds_80 (by decide) rfl ?_
      refine g_iconst (pc := 82) F dX10_odds_82 ic_0 ?_
      refine g_istore (pc := 83) (lv' := [(_, _), (_, _), (_, _), (_, _), (_, _), (_, _), (_, _), (_, _)]) F dX10_odds_83 (by decide) rfl ?_
      obtain ⟨k_85, h⟩ := h
      refine g_weak [2, 3, 4, 5, 6, 7, 1, 0] rfl (bX10_odds_85 F hR hV (fun x6_127 s_k127 h => ?_) k_85 _ _ _ h)
      · refine g_iload_n (pc := 127) F dX10_odds_127 rfl 3 rfl ?_
        refine g_aload_n (pc := 128) F dX10_odds_128 rfl 0 rfl ?_
        refine g_iload (pc := 129) F dX10_odds_129 5 rfl ?_
        refine g_callVi (pc := 131) F (mX10_costOf hV h) mvX10_costOf uX10_205 (by decide) clX10 (sh_99 hV) rfl rfl (Nat.le_of_ble_eq_true rfl) dX10_odds_131 (fun r_131 s_131 h => ?_)
        refine g_ldc (pc := 134) F dX10_odds_134 uX10_167 ?_
        refine g_icmp_ne (pc := 136) F 143 dX10_odds_136 (by decide) (fun c => ?_) (fun c => ?_)
        · have h := h.1 c
          refine g_iload (pc := 143) F dX10_odds_143 6 rfl ?_
          exact g_weak [0, 1, 2, 4, 5] rfl (bX10_odds_145 F hR hV ih hK153 h)
        · have h := h.2 c
          refine g_iconst (pc := 139) F dX10_odds_139 ic_0 ?_
          refine g_goto (pc := 140) F 145 dX10_odds_140 (by decide) ?_
          exact g_weak [0, 1, 2, 4, 5] rfl (bX10_odds_145 F hR hV ih hK153 h)
def wX10_odds (x1 : Int32) (x2 : Int32) (s : St) (Q : Int32 → St → Prop) : Prop :=
  ∀ s_2 : St, s_2 = stI s 99 0 (0 : Int32) → wX10_in x1 (0 : Int32) (10 : Int32) s_2 (fun r_9 s_9 => ((r_9 = 0 → Q (-1 : Int32) s_9) ∧ (¬ r_9 = 0 → wX10_in x2 (0 : Int32) (1 : Int32) s_9 (fun r_18 s_18 => ((¬ r_18 = 0 → wX10_draftLanes  s_18 (fun r_28 s_28 => wX10_scans r_28 s_28 (fun s_31 => (∃ k_42, wX10_odds_42  x1 x2 (0 : Int32) (fun x4_67 s_k67 => (∃ k_70, wX10_odds_70  x1 x2 x4_67 (fun x3_153 s_k153 => wX10_gcd x3_153 x4_67 s_k153 (fun r_156 s_156 => ((¬ x2 = 0 → ¬ r_156 = 0 ∧ Q (x4_67 / r_156) s_156) ∧ (x2 = 0 → ¬ r_156 = 0 ∧ Q (x3_153 / r_156) s_156)))) Q k_70 (0 : Int32) (0 : Int32) s_k67)) Q k_42 (1 : Int32) (0 : Int32) s_31)))) ∧ (r_18 = 0 → Q (-1 : Int32) s_18))))))
set_option maxHeartbeats 4000000 in
set_option maxRecDepth 100000 in
theorem mX10_odds {l : Launch} {V : Wv} {x1 : Int32} {x2 : Int32} {s : St} {Q : Int32 → St → Prop} (hV : V.2.1 = DESC) (h : wX10_odds x1 x2 s Q) : Ci yX10_odds cX10_odds 8 (some .int) (4) l V [rf V 99, .int x1, .int x2] s Q := by
  unfold wX10_odds at h
  refine Ci.of mvX10_odds.1 (Nat.le_of_ble_eq_true rfl) (fun X F hR => ?_)
  refine g_lv (lv' := [(_, _), (_, _), (_, _)]) rfl ?_
  refine g_aload_n (pc := 0) F dX10_odds_0 rfl 0 rfl ?_
  refine g_iconst (pc := 1) F dX10_odds_1 ic_0 ?_
  have h := h _ rfl
  refine g_putI (pc := 2) F clX10 (sh_99 hV) 0 rfl (by decide) rfl (tyX10_ok 0 (by decide)) uX10_89 dX10_odds_2 ?_
  refine g_iload_n (pc := 5) F dX10_odds_5 rfl 1 rfl ?_
  refine g_iconst (pc := 6) F dX10_odds_6 ic_0 ?_
  refine g_bipush (pc := 7) F dX10_odds_7 bp_10 ?_
  refine g_callSi (pc := 9) F (mX10_in hV h) mvX10_in uX10_93 (by decide)  rfl rfl (Nat.le_of_ble_eq_true rfl) dX10_odds_9 (fun r_9 s_9 h => ?_)
  refine g_if_eq (pc := 12) F 24 dX10_odds_12 (by decide) (fun c => ?_) (fun c => ?_)
  · have h := h.1 c
    refine g_iconst (pc := 24) F dX10_odds_24 ic_m1 ?_
    exact hR _ _ _ _ dX10_odds_25 h
  · have h := h.2 c
    refine g_iload_n (pc := 15) F dX10_odds_15 rfl 2 rfl ?_
    refine g_iconst (pc := 16) F dX10_odds_16 ic_0 ?_
    refine g_iconst (pc := 17) F dX10_odds_17 ic_1 ?_
    refine g_callSi (pc := 18) F (mX10_in hV h) mvX10_in uX10_93 (by decide)  rfl rfl (Nat.le_of_ble_eq_true rfl) dX10_odds_18 (fun r_18 s_18 h => ?_)
    refine g_if_ne (pc := 21) F 26 dX10_odds_21 (by decide) (fun c => ?_) (fun c => ?_)
    · have h := h.1 c
      refine g_aload_n (pc := 26) F dX10_odds_26 rfl 0 rfl ?_
      refine g_aload_n (pc := 27) F dX10_odds_27 rfl 0 rfl ?_
      refine g_callVi (pc := 28) F (mX10_draftLanes hV h) mvX10_draftLanes uX10_195 (by decide) clX10 (sh_99 hV) rfl rfl (Nat.le_of_ble_eq_true rfl) dX10_odds_28 (fun r_28 s_28 h => ?_)
      refine g_callVv (pc := 31) F (mX10_scans hV h) mvX10_scans uX10_199 (by decide) clX10 (sh_99 hV) rfl rfl (Nat.le_of_ble_eq_true rfl) dX10_odds_31 (fun s_31 h => ?_)
      refine g_iconst (pc := 34) F dX10_odds_34 ic_0 ?_
      refine g_istore_n (pc := 35) (lv' := [(_, _), (_, _), (_, _), (_, _)]) F dX10_odds_35 rfl (by decide) rfl ?_
      refine g_iconst (pc := 36) F dX10_odds_36 ic_1 ?_
      refine g_istore (pc := 37) (lv' := [(_, _), (_, _), (_, _), (_, _), (_, _)]) F dX10_odds_37 (by decide) rfl ?_
      refine g_iconst (pc := 39) F dX10_odds_39 ic_0 ?_
      refine g_istore (pc := 40) (lv' := [(_, _), (_, _), (_, _), (_, _), (_, _), (_, _)]) F dX10_odds_40 (by decide) rfl ?_
      obtain ⟨k_42, h⟩ := h
      refine g_weak [3, 4, 5, 2, 1, 0] rfl (bX10_odds_42 F hR hV (fun x4_67 s_k67 h => ?_) k_42 _ _ _ h)
      · refine g_iconst (pc := 67) F dX10_odds_67 ic_0 ?_
        refine g_istore (pc := 68) (lv' := [(_, _), (_, _), (_, _), (_, _), (_, _), (_, _)]) F dX10_odds_68 (by decide) rfl ?_
        obtain ⟨k_70, h⟩ := h
        refine g_weak [1, 2, 3, 4, 5, 0] rfl (bX10_odds_70 F hR hV (fun x3_153 s_k153 h => ?_) k_70 _ _ _ h)
        · refine g_iload_n (pc := 153) F dX10_odds_153 rfl 1 rfl ?_
          refine g_iload (pc := 154) F dX10_odds_154 2 rfl ?_
          refine g_callSi (pc := 156) F (mX10_gcd hV h) mvX10_gcd uX10_236 (by decide)  rfl rfl (Nat.le_of_ble_eq_true rfl) dX10_odds_156 (fun r_156 s_156 h => ?_)
          refine g_istore (pc := 159) (lv' := [(_, _), (_, _), (_, _), (_, _)]) F dX10_odds_159 (by decide) rfl ?_
          refine g_iload_n (pc := 161) F dX10_odds_161 rfl 1 rfl ?_
          refine g_if_ne (pc := 162) F 172 dX10_odds_162 (by decide) (fun c => ?_) (fun c => ?_)
          · have h := h.1 c
            refine g_iload (pc := 172) F dX10_odds_172 3 rfl ?_
            refine g_iload (pc := 174) F dX10_odds_174 0 rfl ?_
            obtain ⟨hb_176, h⟩ := h
            refine g_idiv (pc := 176) F dX10_odds_176 hb_176 ?_
            exact hR _ _ _ _ dX10_odds_177 h
          · have h := h.2 c
            refine g_iload_n (pc := 165) F dX10_odds_165 rfl 2 rfl ?_
            refine g_iload (pc := 166) F dX10_odds_166 0 rfl ?_
            obtain ⟨hb_168, h⟩ := h
            refine g_idiv (pc := 168) F dX10_odds_168 hb_168 ?_
            refine g_goto (pc := 169) F 177 dX10_odds_169 (by decide) ?_
            exact hR _ _ _ _ dX10_odds_177 h
    · have h := h.2 c
      refine g_iconst (pc := 24) F dX10_odds_24 ic_m1 ?_
      exact hR _ _ _ _ dX10_odds_25 h
def wX10_took (x1 : Int32) (x2 : Int32) (s : St) (Q : Int32 → St → Prop) : Prop :=
  ∀ s_2 : St, s_2 = stI s 99 0 (0 : Int32) → wX10_isLane x1 s_2 (fun r_7 s_7 => ((r_7 = 0 → Q (-1 : Int32) s_7) ∧ (¬ r_7 = 0 → wX10_in x2 (0 : Int32) (1 : Int32) s_7 (fun r_16 s_16 => ((¬ r_16 = 0 → ((¬ (s_16.1 99 21) = (6 : Int32) → vp_in (s_16.1 99 21) 6 ∧ ∀ s_45 : St, s_45 = stI s_16 110 (s_16.1 99 21).toNatClampNeg x1 → vp_in (s_45.1 99 21) 6 ∧ ∀ s_55 : St, s_55 = stI s_45 111 (s_45.1 99 21).toNatClampNeg x2 → ∀ s_63 : St, s_63 = stI s_55 99 21 ((s_55.1 99 21) + (1 : Int32)) → Q (s_63.1 99 21) s_63) ∧ ((s_16.1 99 21) = (6 : Int32) → Q (-3 : Int32) s_16))) ∧ (r_16 = 0 → Q (-1 : Int32) s_16))))))
set_option maxHeartbeats 4000000 in
set_option maxRecDepth 100000 in
theorem mX10_took {l : Launch} {V : Wv} {x1 : Int32} {x2 : Int32} {s : St} {Q : Int32 → St → Prop} (hV : V.2.1 = DESC) (h : wX10_took x1 x2 s Q) : Ci yX10_took cX10_took 3 (some .int) (2) l V [rf V 99, .int x1, .int x2] s Q := by
  unfold wX10_took at h
  refine Ci.of mvX10_took.1 (Nat.le_of_ble_eq_true rfl) (fun X F hR => ?_)
  refine g_lv (lv' := [(_, _), (_, _), (_, _)]) rfl ?_
  refine g_aload_n (pc := 0) F dX10_took_0 rfl 0 rfl ?_
  refine g_iconst (pc := 1) F dX10_took_1 ic_0 ?_
  have h := h _ rfl
  refine g_putI (pc := 2) F clX10 (sh_99 hV) 0 rfl (by decide) rfl (tyX10_ok 0 (by decide)) uX10_89 dX10_took_2 ?_
  refine g_aload_n (pc := 5) F dX10_took_5 rfl 0 rfl ?_
  refine g_iload_n (pc := 6) F dX10_took_6 rfl 1 rfl ?_
  refine g_callVi (pc := 7) F (mX10_isLane hV h) mvX10_isLane uX10_171 (by decide) clX10 (sh_99 hV) rfl rfl (Nat.le_of_ble_eq_true rfl) dX10_took_7 (fun r_7 s_7 h => ?_)
  refine g_if_eq (pc := 10) F 22 dX10_took_10 (by decide) (fun c => ?_) (fun c => ?_)
  · have h := h.1 c
    refine g_iconst (pc := 22) F dX10_took_22 ic_m1 ?_
    exact hR _ _ _ _ dX10_took_23 h
  · have h := h.2 c
    refine g_iload_n (pc := 13) F dX10_took_13 rfl 2 rfl ?_
    refine g_iconst (pc := 14) F dX10_took_14 ic_0 ?_
    refine g_iconst (pc := 15) F dX10_took_15 ic_1 ?_
    refine g_callSi (pc := 16) F (mX10_in hV h) mvX10_in uX10_93 (by decide)  rfl rfl (Nat.le_of_ble_eq_true rfl) dX10_took_16 (fun r_16 s_16 h => ?_)
    refine g_if_ne (pc := 19) F 24 dX10_took_19 (by decide) (fun c => ?_) (fun c => ?_)
    · have h := h.1 c
      refine g_aload_n (pc := 24) F dX10_took_24 rfl 0 rfl ?_
      refine g_getI (pc := 25) F clX10 (sh_99 hV) 21 rfl (by decide) uX10_158 dX10_took_25 ?_
      refine g_bipush (pc := 28) F dX10_took_28 bp_6 ?_
      refine g_icmp_ne (pc := 30) F 36 dX10_took_30 (by decide) (fun c => ?_) (fun c => ?_)
      · have h := h.1 c
        refine g_aload_n (pc := 36) F dX10_took_36 rfl 0 rfl ?_
        refine g_getR (pc := 37) F clX10 (sh_99 hV) 19 _ rfl (by decide) uX10_41 dX10_took_37 ?_
        refine g_aload_n (pc := 40) F dX10_took_40 rfl 0 rfl ?_
        refine g_getI (pc := 41) F clX10 (sh_99 hV) 21 rfl (by decide) uX10_158 dX10_took_41 ?_
        refine g_iload_n (pc := 44) F dX10_took_44 rfl 1 rfl ?_
        obtain ⟨hb_45, h⟩ := h
        have h := h _ rfl
        refine g_iast (pc := 45) F (sh_110 hV) hb_45 dX10_took_45 ?_
        refine g_aload_n (pc := 46) F dX10_took_46 rfl 0 rfl ?_
        refine g_getR (pc := 47) F clX10 (sh_99 hV) 20 _ rfl (by decide) uX10_44 dX10_took_47 ?_
        refine g_aload_n (pc := 50) F dX10_took_50 rfl 0 rfl ?_
        refine g_getI (pc := 51) F clX10 (sh_99 hV) 21 rfl (by decide) uX10_158 dX10_took_51 ?_
        refine g_iload_n (pc := 54) F dX10_took_54 rfl 2 rfl ?_
        obtain ⟨hb_55, h⟩ := h
        have h := h _ rfl
        refine g_iast (pc := 55) F (sh_111 hV) hb_55 dX10_took_55 ?_
        refine g_aload_n (pc := 56) F dX10_took_56 rfl 0 rfl ?_
        refine g_dup (pc := 57) F dX10_took_57 rfl ?_
        refine g_getI (pc := 58) F clX10 (sh_99 hV) 21 rfl (by decide) uX10_158 dX10_took_58 ?_
        refine g_iconst (pc := 61) F dX10_took_61 ic_1 ?_
        refine g_iadd (pc := 62) F dX10_took_62 ?_
        have h := h _ rfl
        refine g_putI (pc := 63) F clX10 (sh_99 hV) 21 rfl (by decide) rfl (tyX10_ok 21 (by decide)) uX10_158 dX10_took_63 ?_
        refine g_aload_n (pc := 66) F dX10_took_66 rfl 0 rfl ?_
        refine g_getI (pc := 67) F clX10 (sh_99 hV) 21 rfl (by decide) uX10_158 dX10_took_67 ?_
        exact hR _ _ _ _ dX10_took_70 h
      · have h := h.2 c
        refine g_bipush (pc := 33) F dX10_took_33 bp_m3 ?_
        exact hR _ _ _ _ dX10_took_35 h
    · have h := h.2 c
      refine g_iconst (pc := 22) F dX10_took_22 ic_m1 ?_
      exact hR _ _ _ _ dX10_took_23 h
def wX10_forget  (s : St) (Q : Int32 → St → Prop) : Prop :=
  ∀ s_2 : St, s_2 = stI s 99 0 (0 : Int32) → ∀ s_12 : St, s_12 = stI s_2 99 21 (0 : Int32) → Q (s_2.1 99 21) s_12
set_option maxHeartbeats 4000000 in
set_option maxRecDepth 100000 in
theorem mX10_forget {l : Launch} {V : Wv}  {s : St} {Q : Int32 → St → Prop} (hV : V.2.1 = DESC) (h : wX10_forget  s Q) : Ci yX10_forget cX10_forget 2 (some .int) (0) l V [rf V 99] s Q := by
  unfold wX10_forget at h
  refine Ci.of mvX10_forget.1 (Nat.le_of_ble_eq_true rfl) (fun X F hR => ?_)
  refine g_lv (lv' := [(_, _)]) rfl ?_
  refine g_aload_n (pc := 0) F dX10_forget_0 rfl 0 rfl ?_
  refine g_iconst (pc := 1) F dX10_forget_1 ic_0 ?_
  have h := h _ rfl
  refine g_putI (pc := 2) F clX10 (sh_99 hV) 0 rfl (by decide) rfl (tyX10_ok 0 (by decide)) uX10_89 dX10_forget_2 ?_
  refine g_aload_n (pc := 5) F dX10_forget_5 rfl 0 rfl ?_
  refine g_getI (pc := 6) F clX10 (sh_99 hV) 21 rfl (by decide) uX10_158 dX10_forget_6 ?_
  refine g_istore_n (pc := 9) (lv' := [(_, _), (_, _)]) F dX10_forget_9 rfl (by decide) rfl ?_
  refine g_aload_n (pc := 10) F dX10_forget_10 rfl 1 rfl ?_
  refine g_iconst (pc := 11) F dX10_forget_11 ic_0 ?_
  have h := h _ rfl
  refine g_putI (pc := 12) F clX10 (sh_99 hV) 21 rfl (by decide) rfl (tyX10_ok 21 (by decide)) uX10_158 dX10_forget_12 ?_
  refine g_iload_n (pc := 15) F dX10_forget_15 rfl 0 rfl ?_
  exact hR _ _ _ _ dX10_forget_16 h
def wX10_mayBe_61 (rec : Int32 → Int32 → St → Prop) (Q : Int32 → St → Prop) (x1 : Int32) (x3 : Int32) (t0 : Int32) (s : St) : Prop :=
  rec t0 (x3 + (1 : Int32)) s
set_option maxHeartbeats 4000000 in
set_option maxRecDepth 100000 in
theorem bX10_mayBe_61 {l : Launch} {V : Wv} {X : Mx} {rec : Int32 → Int32 → St → Prop} {Q : Int32 → St → Prop} {x1 : Int32} {x3 : Int32} {t0 : Int32} (F : Fx V X cX10_mayBe RX10 4 1) (hR : RtZ l V X 4 cX10_mayBe Q) (hV : V.2.1 = DESC) (hrec : ∀ (y2 : Int32) (y3 : Int32) (s : St), rec y2 y3 s → G l V X 4 25 [(0, rf V 99), (1, .int x1), (2, .int y2), (3, .int y3)] [] s) {s : St} (h : wX10_mayBe_61 rec Q x1 x3 t0 s) : G l V X 4 61 [(0, rf V 99), (1, .int x1), (3, .int x3)] [.int t0] s := by
  unfold wX10_mayBe_61 at h
  refine g_istore_n (pc := 61) (lv' := [(_, _), (_, _), (_, _), (_, _)]) F dX10_mayBe_61 rfl (by decide) rfl ?_
  refine g_iinc (pc := 62) (lv' := [(_, _), (_, _), (_, _), (_, _)]) F dX10_mayBe_62 3 rfl (congrArg _ ic_1) (by decide) rfl ?_
  refine g_goto (pc := 65) F 25 dX10_mayBe_65 (by decide) ?_
  exact g_weak [2, 3, 1, 0] rfl (hrec _ _ _ h)
def wX10_mayBe_60 (rec : Int32 → Int32 → St → Prop) (Q : Int32 → St → Prop) (x1 : Int32) (x3 : Int32) (s : St) : Prop :=
  wX10_mayBe_61 (rec) Q x1 x3 (0 : Int32) s
set_option maxHeartbeats 4000000 in
set_option maxRecDepth 100000 in
theorem bX10_mayBe_60 {l : Launch} {V : Wv} {X : Mx} {rec : Int32 → Int32 → St → Prop} {Q : Int32 → St → Prop} {x1 : Int32} {x3 : Int32} (F : Fx V X cX10_mayBe RX10 4 1) (hR : RtZ l V X 4 cX10_mayBe Q) (hV : V.2.1 = DESC) (hrec : ∀ (y2 : Int32) (y3 : Int32) (s : St), rec y2 y3 s → G l V X 4 25 [(0, rf V 99), (1, .int x1), (2, .int y2), (3, .int y3)] [] s) {s : St} (h : wX10_mayBe_60 rec Q x1 x3 s) : G l V X 4 60 [(0, rf V 99), (1, .int x1), (3, .int x3)] [] s := by
  unfold wX10_mayBe_60 at h
  refine g_iconst (pc := 60) F dX10_mayBe_60 ic_0 ?_
  exact g_weak [0, 1, 2] rfl (bX10_mayBe_61 F hR hV hrec h)
def wX10_mayBe_25 (x1 : Int32) (Q : Int32 → St → Prop) : Nat → Int32 → Int32 → St → Prop
  | 0, _, _, _ => False
  | n + 1, x2, x3, s =>
  (((s.1 99 21) ≤ x3 → (isB x2 ∧ Q x2 s)) ∧ (¬ (s.1 99 21) ≤ x3 → ((x2 = 0 → wX10_mayBe_60 (wX10_mayBe_25 x1 Q n) Q x1 x3 s) ∧ (¬ x2 = 0 → vp_in x3 6 ∧ vp_in x3 6 ∧ ((¬ ((x1 >>> ((s.1 110 x3.toNatClampNeg) &&& 31)) &&& (1 : Int32)) = (s.1 111 x3.toNatClampNeg) → wX10_mayBe_60 (wX10_mayBe_25 x1 Q n) Q x1 x3 s) ∧ (((x1 >>> ((s.1 110 x3.toNatClampNeg) &&& 31)) &&& (1 : Int32)) = (s.1 111 x3.toNatClampNeg) → wX10_mayBe_61 (wX10_mayBe_25 x1 Q n) Q x1 x3 (1 : Int32) s))))))
set_option maxHeartbeats 4000000 in
set_option maxRecDepth 100000 in
theorem bX10_mayBe_25 {l : Launch} {V : Wv} {X : Mx} {x1 : Int32} {Q : Int32 → St → Prop} (F : Fx V X cX10_mayBe RX10 4 1) (hR : RtZ l V X 4 cX10_mayBe Q) (hV : V.2.1 = DESC)  : ∀ (n : Nat) (x2 : Int32) (x3 : Int32) (s : St), wX10_mayBe_25 x1 Q n x2 x3 s → G l V X 4 25 [(0, rf V 99), (1, .int x1), (2, .int x2), (3, .int x3)] [] s := by
  intro n
  induction n with
  | zero => intro x2 x3 s h; unfold wX10_mayBe_25 at h; exact h.elim
  | succ n ih =>
    intro x2 x3 s h
    unfold wX10_mayBe_25 at h
    refine g_iload_n (pc := 25) F dX10_mayBe_25 rfl 3 rfl ?_
    refine g_aload_n (pc := 26) F dX10_mayBe_26 rfl 0 rfl ?_
    refine g_getI (pc := 27) F clX10 (sh_99 hV) 21 rfl (by decide) uX10_158 dX10_mayBe_27 ?_
    refine g_icmp_ge (pc := 30) F 68 dX10_mayBe_30 (by decide) (fun c => ?_) (fun c => ?_)
    · have h := h.1 c
      refine g_iload_n (pc := 68) F dX10_mayBe_68 rfl 2 rfl ?_
      exact hR _ _ _ _ dX10_mayBe_69 h.1 h.2
    · have h := h.2 c
      refine g_iload_n (pc := 33) F dX10_mayBe_33 rfl 2 rfl ?_
      refine g_if_eq (pc := 34) F 60 dX10_mayBe_34 (by decide) (fun c => ?_) (fun c => ?_)
      · have h := h.1 c
        exact g_weak [0, 1, 3] rfl (bX10_mayBe_60 F hR hV ih h)
      · have h := h.2 c
        refine g_iload_n (pc := 37) F dX10_mayBe_37 rfl 1 rfl ?_
        refine g_aload_n (pc := 38) F dX10_mayBe_38 rfl 0 rfl ?_
        refine g_getR (pc := 39) F clX10 (sh_99 hV) 19 _ rfl (by decide) uX10_41 dX10_mayBe_39 ?_
        refine g_iload_n (pc := 42) F dX10_mayBe_42 rfl 3 rfl ?_
        obtain ⟨hb_43, h⟩ := h
        refine g_iald (pc := 43) F (sh_110 hV) hb_43 dX10_mayBe_43 ?_
        refine g_ishr (pc := 44) F dX10_mayBe_44 ?_
        refine g_iconst (pc := 45) F dX10_mayBe_45 ic_1 ?_
        refine g_iand (pc := 46) F dX10_mayBe_46 ?_
        refine g_aload_n (pc := 47) F dX10_mayBe_47 rfl 0 rfl ?_
        refine g_getR (pc := 48) F clX10 (sh_99 hV) 20 _ rfl (by decide) uX10_44 dX10_mayBe_48 ?_
        refine g_iload_n (pc := 51) F dX10_mayBe_51 rfl 3 rfl ?_
        obtain ⟨hb_52, h⟩ := h
        refine g_iald (pc := 52) F (sh_111 hV) hb_52 dX10_mayBe_52 ?_
        refine g_icmp_ne (pc := 53) F 60 dX10_mayBe_53 (by decide) (fun c => ?_) (fun c => ?_)
        · have h := h.1 c
          exact g_weak [0, 1, 3] rfl (bX10_mayBe_60 F hR hV ih h)
        · have h := h.2 c
          refine g_iconst (pc := 56) F dX10_mayBe_56 ic_1 ?_
          refine g_goto (pc := 57) F 61 dX10_mayBe_57 (by decide) ?_
          exact g_weak [0, 1, 3] rfl (bX10_mayBe_61 F hR hV ih h)
def wX10_mayBe_22 (Q : Int32 → St → Prop) (x1 : Int32) (t0 : Int32) (s : St) : Prop :=
  (∃ k_25, wX10_mayBe_25  x1  Q k_25 t0 (0 : Int32) s)
set_option maxHeartbeats 4000000 in
set_option maxRecDepth 100000 in
theorem bX10_mayBe_22 {l : Launch} {V : Wv} {X : Mx} {Q : Int32 → St → Prop} {x1 : Int32} {t0 : Int32} (F : Fx V X cX10_mayBe RX10 4 1) (hR : RtZ l V X 4 cX10_mayBe Q) (hV : V.2.1 = DESC)  {s : St} (h : wX10_mayBe_22 Q x1 t0 s) : G l V X 4 22 [(0, rf V 99), (1, .int x1)] [.int t0] s := by
  unfold wX10_mayBe_22 at h
  refine g_istore_n (pc := 22) (lv' := [(_, _), (_, _), (_, _)]) F dX10_mayBe_22 rfl (by decide) rfl ?_
  refine g_iconst (pc := 23) F dX10_mayBe_23 ic_0 ?_
  refine g_istore_n (pc := 24) (lv' := [(_, _), (_, _), (_, _), (_, _)]) F dX10_mayBe_24 rfl (by decide) rfl ?_
  obtain ⟨k_25, h⟩ := h
  refine g_weak [2, 3, 1, 0] rfl (bX10_mayBe_25 F hR hV k_25 _ _ _ h)
def wX10_mayBe_21 (Q : Int32 → St → Prop) (x1 : Int32) (s : St) : Prop :=
  wX10_mayBe_22 Q x1 (0 : Int32) s
set_option maxHeartbeats 4000000 in
set_option maxRecDepth 100000 in
theorem bX10_mayBe_21 {l : Launch} {V : Wv} {X : Mx} {Q : Int32 → St → Prop} {x1 : Int32} (F : Fx V X cX10_mayBe RX10 4 1) (hR : RtZ l V X 4 cX10_mayBe Q) (hV : V.2.1 = DESC)  {s : St} (h : wX10_mayBe_21 Q x1 s) : G l V X 4 21 [(0, rf V 99), (1, .int x1)] [] s := by
  unfold wX10_mayBe_21 at h
  refine g_iconst (pc := 21) F dX10_mayBe_21 ic_0 ?_
  exact g_weak [0, 1] rfl (bX10_mayBe_22 F hR hV h)
def wX10_mayBe (x1 : Int32) (s : St) (Q : Int32 → St → Prop) : Prop :=
  vp_in x1 64 ∧ (((s.1 112 x1.toNatClampNeg) = 0 → wX10_mayBe_21 Q x1 s) ∧ (¬ (s.1 112 x1.toNatClampNeg) = 0 → wX10_holds x1 s (fun r_11 s_11 => ((r_11 = 0 → wX10_mayBe_21 Q x1 s_11) ∧ (¬ r_11 = 0 → wX10_mayBe_22 Q x1 (1 : Int32) s_11)))))
set_option maxHeartbeats 4000000 in
set_option maxRecDepth 100000 in
theorem mX10_mayBe {l : Launch} {V : Wv} {x1 : Int32} {s : St} {Q : Int32 → St → Prop} (hV : V.2.1 = DESC) (h : wX10_mayBe x1 s Q) : Ci yX10_mayBe cX10_mayBe 4 (some .boolean) (1) l V [rf V 99, .int x1] s Q := by
  unfold wX10_mayBe at h
  refine Cz.of mvX10_mayBe.1 (Nat.le_of_ble_eq_true rfl) (fun X F hR => ?_)
  refine g_lv (lv' := [(_, _), (_, _)]) rfl ?_
  refine g_aload_n (pc := 0) F dX10_mayBe_0 rfl 0 rfl ?_
  refine g_getR (pc := 1) F clX10 (sh_99 hV) 22 _ rfl (by decide) uX10_47 dX10_mayBe_1 ?_
  refine g_iload_n (pc := 4) F dX10_mayBe_4 rfl 1 rfl ?_
  obtain ⟨hb_5, h⟩ := h
  refine g_iald (pc := 5) F (sh_112 hV) hb_5 dX10_mayBe_5 ?_
  refine g_if_eq (pc := 6) F 21 dX10_mayBe_6 (by decide) (fun c => ?_) (fun c => ?_)
  · have h := h.1 c
    exact g_weak [0, 1] rfl (bX10_mayBe_21 F hR hV h)
  · have h := h.2 c
    refine g_aload_n (pc := 9) F dX10_mayBe_9 rfl 0 rfl ?_
    refine g_iload_n (pc := 10) F dX10_mayBe_10 rfl 1 rfl ?_
    refine g_callVi (pc := 11) F (mX10_holds hV h) mvX10_holds uX10_185 (by decide) clX10 (sh_99 hV) rfl rfl (Nat.le_of_ble_eq_true rfl) dX10_mayBe_11 (fun r_11 s_11 h => ?_)
    refine g_if_eq (pc := 14) F 21 dX10_mayBe_14 (by decide) (fun c => ?_) (fun c => ?_)
    · have h := h.1 c
      exact g_weak [0, 1] rfl (bX10_mayBe_21 F hR hV h)
    · have h := h.2 c
      refine g_iconst (pc := 17) F dX10_mayBe_17 ic_1 ?_
      refine g_goto (pc := 18) F 22 dX10_mayBe_18 (by decide) ?_
      exact g_weak [0, 1] rfl (bX10_mayBe_22 F hR hV h)
