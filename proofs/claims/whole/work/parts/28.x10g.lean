/-! printed by program: what each method does to the state (w..), and that its code does so (b.., m..) -/
def wX10_reads_87 (rec : Int32 → Int32 → St → Prop) (K95 : Int32 → St → Prop) (Q : Int32 → St → Prop) (x0 : Nat) (x2 : Int32) (x3 : Int32) (x5 : Int32) (t0 : Int32) (s : St) : Prop :=
  rec t0 (x5 + (1 : Int32)) s
set_option maxHeartbeats 4000000 in
set_option maxRecDepth 100000 in
theorem bX10_reads_87 {l : Launch} {V : Wv} {X : Mx} {rec : Int32 → Int32 → St → Prop} {K95 : Int32 → St → Prop} {Q : Int32 → St → Prop} {x0 : Nat} {x2 : Int32} {x3 : Int32} {x5 : Int32} {t0 : Int32} (F : Fx V X cX10_reads RX10 6 0) (hR : RtI l V X 6 cX10_reads Q) (hx0 : isX10 V x0) (hrec : ∀ (y4 : Int32) (y5 : Int32) (s : St), rec y4 y5 s → G l V X 6 31 [(0, rf V x0), (2, .int x2), (3, .int x3), (4, .int y4), (5, .int y5)] [] s) (hK95 : ∀ (y4 : Int32) (s : St), K95 y4 s → G l V X 6 95 [(0, rf V x0), (2, .int x2), (3, .int x3), (4, .int y4)] [] s) {s : St} (h : wX10_reads_87 rec K95 Q x0 x2 x3 x5 t0 s) : G l V X 6 87 [(0, rf V x0), (2, .int x2), (3, .int x3), (5, .int x5)] [.int t0] s := by
  unfold wX10_reads_87 at h
  refine g_istore (pc := 87) (lv' := [(_, _), (_, _), (_, _), (_, _), (_, _)]) F dX10_reads_87 (by decide) rfl ?_
  refine g_iinc (pc := 89) (lv' := [(_, _), (_, _), (_, _), (_, _), (_, _)]) F dX10_reads_89 4 rfl (congrArg _ ic_1) (by decide) rfl ?_
  refine g_goto (pc := 92) F 31 dX10_reads_92 (by decide) ?_
  exact g_weak [2, 3, 4, 1, 0] rfl (hrec _ _ _ h)
def wX10_reads_85 (rec : Int32 → Int32 → St → Prop) (K95 : Int32 → St → Prop) (Q : Int32 → St → Prop) (x0 : Nat) (x2 : Int32) (x3 : Int32) (x4 : Int32) (x5 : Int32) (s : St) : Prop :=
  wX10_reads_87 (rec) (K95) Q x0 x2 x3 x5 x4 s
set_option maxHeartbeats 4000000 in
set_option maxRecDepth 100000 in
theorem bX10_reads_85 {l : Launch} {V : Wv} {X : Mx} {rec : Int32 → Int32 → St → Prop} {K95 : Int32 → St → Prop} {Q : Int32 → St → Prop} {x0 : Nat} {x2 : Int32} {x3 : Int32} {x4 : Int32} {x5 : Int32} (F : Fx V X cX10_reads RX10 6 0) (hR : RtI l V X 6 cX10_reads Q) (hx0 : isX10 V x0) (hrec : ∀ (y4 : Int32) (y5 : Int32) (s : St), rec y4 y5 s → G l V X 6 31 [(0, rf V x0), (2, .int x2), (3, .int x3), (4, .int y4), (5, .int y5)] [] s) (hK95 : ∀ (y4 : Int32) (s : St), K95 y4 s → G l V X 6 95 [(0, rf V x0), (2, .int x2), (3, .int x3), (4, .int y4)] [] s) {s : St} (h : wX10_reads_85 rec K95 Q x0 x2 x3 x4 x5 s) : G l V X 6 85 [(0, rf V x0), (2, .int x2), (3, .int x3), (4, .int x4), (5, .int x5)] [] s := by
  unfold wX10_reads_85 at h
  refine g_iload (pc := 85) F dX10_reads_85 3 rfl ?_
  exact g_weak [0, 1, 2, 4] rfl (bX10_reads_87 F hR hx0 hrec hK95 h)
def wX10_reads_80 (rec : Int32 → Int32 → St → Prop) (K95 : Int32 → St → Prop) (Q : Int32 → St → Prop) (x0 : Nat) (x2 : Int32) (x3 : Int32) (x5 : Int32) (s : St) : Prop :=
  wX10_reads_87 (rec) (K95) Q x0 x2 x3 x5 x5 s
set_option maxHeartbeats 4000000 in
set_option maxRecDepth 100000 in
theorem bX10_reads_80 {l : Launch} {V : Wv} {X : Mx} {rec : Int32 → Int32 → St → Prop} {K95 : Int32 → St → Prop} {Q : Int32 → St → Prop} {x0 : Nat} {x2 : Int32} {x3 : Int32} {x5 : Int32} (F : Fx V X cX10_reads RX10 6 0) (hR : RtI l V X 6 cX10_reads Q) (hx0 : isX10 V x0) (hrec : ∀ (y4 : Int32) (y5 : Int32) (s : St), rec y4 y5 s → G l V X 6 31 [(0, rf V x0), (2, .int x2), (3, .int x3), (4, .int y4), (5, .int y5)] [] s) (hK95 : ∀ (y4 : Int32) (s : St), K95 y4 s → G l V X 6 95 [(0, rf V x0), (2, .int x2), (3, .int x3), (4, .int y4)] [] s) {s : St} (h : wX10_reads_80 rec K95 Q x0 x2 x3 x5 s) : G l V X 6 80 [(0, rf V x0), (2, .int x2), (3, .int x3), (5, .int x5)] [] s := by
  unfold wX10_reads_80 at h
  refine g_iload (pc := 80) F dX10_reads_80 3 rfl ?_
  refine g_goto (pc := 82) F 87 dX10_reads_82 (by decide) ?_
  exact g_weak [0, 1, 2, 3] rfl (bX10_reads_87 F hR hx0 hrec hK95 h)
def wX10_reads_31 (x0 : Nat) (x2 : Int32) (x3 : Int32) (K95 : Int32 → St → Prop) (Q : Int32 → St → Prop) : Nat → Int32 → Int32 → St → Prop
  | 0, _, _, _ => False
  | n + 1, x4, x5, s =>
  (((6 : Int32) ≤ x5 → K95 x4 s) ∧ (¬ (6 : Int32) ≤ x5 → ((¬ ((x2 >>> (x5 &&& 31)) &&& (1 : Int32)) = (1 : Int32) → wX10_reads_85 (wX10_reads_31 x0 x2 x3 K95 Q n) (K95) Q x0 x2 x3 x4 x5 s) ∧ (((x2 >>> (x5 &&& 31)) &&& (1 : Int32)) = (1 : Int32) → vp_in x5 12 ∧ vp_in x3 5 ∧ (((s.1 (x0 + 3) x5.toNatClampNeg) = (s.1 (x0 + 23) x3.toNatClampNeg) → wX10_reads_80 (wX10_reads_31 x0 x2 x3 K95 Q n) (K95) Q x0 x2 x3 x5 s) ∧ (¬ (s.1 (x0 + 3) x5.toNatClampNeg) = (s.1 (x0 + 23) x3.toNatClampNeg) → vp_in x5 12 ∧ vp_in x3 5 ∧ ((¬ (s.1 (x0 + 4) x5.toNatClampNeg) = (s.1 (x0 + 23) x3.toNatClampNeg) → wX10_reads_85 (wX10_reads_31 x0 x2 x3 K95 Q n) (K95) Q x0 x2 x3 x4 x5 s) ∧ ((s.1 (x0 + 4) x5.toNatClampNeg) = (s.1 (x0 + 23) x3.toNatClampNeg) → wX10_reads_80 (wX10_reads_31 x0 x2 x3 K95 Q n) (K95) Q x0 x2 x3 x5 s))))))))
set_option maxHeartbeats 4000000 in
set_option maxRecDepth 100000 in
theorem bX10_reads_31 {l : Launch} {V : Wv} {X : Mx} {x0 : Nat} {x2 : Int32} {x3 : Int32} {K95 : Int32 → St → Prop} {Q : Int32 → St → Prop} (F : Fx V X cX10_reads RX10 6 0) (hR : RtI l V X 6 cX10_reads Q) (hx0 : isX10 V x0) (hK95 : ∀ (y4 : Int32) (s : St), K95 y4 s → G l V X 6 95 [(0, rf V x0), (2, .int x2), (3, .int x3), (4, .int y4)] [] s) : ∀ (n : Nat) (x4 : Int32) (x5 : Int32) (s : St), wX10_reads_31 x0 x2 x3 K95 Q n x4 x5 s → G l V X 6 31 [(0, rf V x0), (2, .int x2), (3, .int x3), (4, .int x4), (5, .int x5)] [] s := by
  intro n
  induction n with
  | zero => intro x4 x5 s h; unfold wX10_reads_31 at h; exact h.elim
  | succ n ih =>
    intro x4 x5 s h
    unfold wX10_reads_31 at h
    refine g_iload (pc := 31) F dX10_reads_31 4 rfl ?_
    refine g_bipush (pc := 33) F dX10_reads_33 bp_6 ?_
    refine g_icmp_ge (pc := 35) F 95 dX10_reads_35 (by decide) (fun c => ?_) (fun c => ?_)
    · have h := h.1 c
      exact g_weak [0, 1, 2, 3] rfl (hK95 _ _ h)
    · have h := h.2 c
      refine g_iload_n (pc := 38) F dX10_reads_38 rfl 1 rfl ?_
      refine g_iload (pc := 39) F dX10_reads_39 4 rfl ?_
      refine g_ishr (pc := 41) F dX10_reads_41 ?_
      refine g_iconst (pc := 42) F dX10_reads_42 ic_1 ?_
      refine g_iand (pc := 43) F dX10_reads_43 ?_
      refine g_iconst (pc := 44) F dX10_reads_44 ic_1 ?_
      refine g_icmp_ne (pc := 45) F 85 dX10_reads_45 (by decide) (fun c => ?_) (fun c => ?_)
      · have h := h.1 c
        exact g_weak [0, 1, 2, 3, 4] rfl (bX10_reads_85 F hR hx0 ih hK95 h)
      · have h := h.2 c
        refine g_aload_n (pc := 48) F dX10_reads_48 rfl 0 rfl ?_
        refine g_getR (pc := 49) F clX10 hx0.1 10 _ rfl (by decide) uX10_16 dX10_reads_49 ?_
        refine g_iload (pc := 52) F dX10_reads_52 4 rfl ?_
        obtain ⟨hb_54, h⟩ := h
        refine g_iald (pc := 54) F hx0.2.2.2.1 hb_54 dX10_reads_54 ?_
        refine g_aload_n (pc := 55) F dX10_reads_55 rfl 0 rfl ?_
        refine g_getR (pc := 56) F clX10 hx0.1 33 _ rfl (by decide) uX10_77 dX10_reads_56 ?_
        refine g_iload_n (pc := 59) F dX10_reads_59 rfl 2 rfl ?_
        obtain ⟨hb_60, h⟩ := h
        refine g_iald (pc := 60) F hx0.2.2.2.2.2.2.2.2.2.2.2.2.2.2.2.2.2.2.2.2.2.2.2.1 hb_60 dX10_reads_60 ?_
        refine g_icmp_eq (pc := 61) F 80 dX10_reads_61 (by decide) (fun c => ?_) (fun c => ?_)
        · have h := h.1 c
          exact g_weak [0, 1, 2, 4] rfl (bX10_reads_80 F hR hx0 ih hK95 h)
        · have h := h.2 c
          refine g_aload_n (pc := 64) F dX10_reads_64 rfl 0 rfl ?_
          refine g_getR (pc := 65) F clX10 hx0.1 11 _ rfl (by decide) uX10_19 dX10_reads_65 ?_
          refine g_iload (pc := 68) F dX10_reads_68 4 rfl ?_
          obtain ⟨hb_70, h⟩ := h
          refine g_iald (pc := 70) F hx0.2.2.2.2.1 hb_70 dX10_reads_70 ?_
          refine g_aload_n (pc := 71) F dX10_reads_71 rfl 0 rfl ?_
          refine g_getR (pc := 72) F clX10 hx0.1 33 _ rfl (by decide) uX10_77 dX10_reads_72 ?_
          refine g_iload_n (pc := 75) F dX10_reads_75 rfl 2 rfl ?_
          obtain ⟨hb_76, h⟩ := h
          refine g_iald (pc := 76) F hx0.2.2.2.2.2.2.2.2.2.2.2.2.2.2.2.2.2.2.2.2.2.2.2.1 hb_76 dX10_reads_76 ?_
          refine g_icmp_ne (pc := 77) F 85 dX10_reads_77 (by decide) (fun c => ?_) (fun c => ?_)
          · have h := h.1 c
            exact g_weak [0, 1, 2, 3, 4] rfl (bX10_reads_85 F hR hx0 ih hK95 h)
          · have h := h.2 c
            exact g_weak [0, 1, 2, 4] rfl (bX10_reads_80 F hR hx0 ih hK95 h)
def wX10_reads_144 (rec : Int32 → Int32 → St → Prop) (Q : Int32 → St → Prop) (x0 : Nat) (x2 : Int32) (x3 : Int32) (t0 : Int32) (t1 : Int32) (t2 : Nat) (s : St) : Prop :=
  vp_in t1 5 ∧ ∀ s_144 : St, s_144 = stI s t2 t1.toNatClampNeg t0 → rec x2 (x3 + (1 : Int32)) s_144
set_option maxHeartbeats 4000000 in
set_option maxRecDepth 100000 in
theorem bX10_reads_144 {l : Launch} {V : Wv} {X : Mx} {rec : Int32 → Int32 → St → Prop} {Q : Int32 → St → Prop} {x0 : Nat} {x2 : Int32} {x3 : Int32} {t0 : Int32} {t1 : Int32} {t2 : Nat} (F : Fx V X cX10_reads RX10 6 0) (hR : RtI l V X 6 cX10_reads Q) (hx0 : isX10 V x0) (ht2 : V.2.1[t2]? = some (11, [5])) (hrec : ∀ (y2 : Int32) (y3 : Int32) (s : St), rec y2 y3 s → G l V X 6 20 [(0, rf V x0), (2, .int y2), (3, .int y3)] [] s) {s : St} (h : wX10_reads_144 rec Q x0 x2 x3 t0 t1 t2 s) : G l V X 6 144 [(0, rf V x0), (2, .int x2), (3, .int x3)] [.int t0, .int t1, rf V t2] s := by
  unfold wX10_reads_144 at h
  obtain ⟨hb_144, h⟩ := h
  have h := h _ rfl
  refine g_iast (pc := 144) F ht2 hb_144 dX10_reads_144 ?_
  refine g_iinc (pc := 145) (lv' := [(_, _), (_, _), (_, _)]) F dX10_reads_145 2 rfl (congrArg _ ic_1) (by decide) rfl ?_
  refine g_goto (pc := 148) F 20 dX10_reads_148 (by decide) ?_
  exact g_weak [1, 2, 0] rfl (hrec _ _ _ h)
def wX10_reads_20 (x0 : Nat) (Q : Int32 → St → Prop) : Nat → Int32 → Int32 → St → Prop
  | 0, _, _, _ => False
  | n + 1, x2, x3, s =>
  ((x2 = 0 → Q (x3 + (1 : Int32)) s) ∧ (¬ x2 = 0 → (∃ k_31, wX10_reads_31  x0 x2 x3 (fun x4_95 s_k95 => vp_in x4_95 12 ∧ vp_in x3 5 ∧ ((¬ (s_k95.1 (x0 + 3) x4_95.toNatClampNeg) = (s_k95.1 (x0 + 23) x3.toNatClampNeg) → vp_in x4_95 12 ∧ wX10_reads_144 (wX10_reads_20 x0 Q n) Q x0 (x2 &&& (((1 : Int32) <<< (x4_95 &&& 31)) ^^^ (-1 : Int32))) x3 (s_k95.1 (x0 + 3) x4_95.toNatClampNeg) (x3 + (1 : Int32)) (x0 + 23) s_k95) ∧ ((s_k95.1 (x0 + 3) x4_95.toNatClampNeg) = (s_k95.1 (x0 + 23) x3.toNatClampNeg) → vp_in x4_95 12 ∧ wX10_reads_144 (wX10_reads_20 x0 Q n) Q x0 (x2 &&& (((1 : Int32) <<< (x4_95 &&& 31)) ^^^ (-1 : Int32))) x3 (s_k95.1 (x0 + 4) x4_95.toNatClampNeg) (x3 + (1 : Int32)) (x0 + 23) s_k95))) Q k_31 (-9 : Int32) (0 : Int32) s)))
set_option maxHeartbeats 4000000 in
set_option maxRecDepth 100000 in
theorem bX10_reads_20 {l : Launch} {V : Wv} {X : Mx} {x0 : Nat} {Q : Int32 → St → Prop} (F : Fx V X cX10_reads RX10 6 0) (hR : RtI l V X 6 cX10_reads Q) (hx0 : isX10 V x0)  : ∀ (n : Nat) (x2 : Int32) (x3 : Int32) (s : St), wX10_reads_20 x0 Q n x2 x3 s → G l V X 6 20 [(0, rf V x0), (2, .int x2), (3, .int x3)] [] s := by
  intro n
  induction n with
  | zero => intro x2 x3 s h; unfold wX10_reads_20 at h; exact h.elim
  | succ n ih =>
    intro x2 x3 s h
    unfold wX10_reads_20 at h
    refine g_iload_n (pc := 20) F dX10_reads_20 rfl 1 rfl ?_
    refine g_if_eq (pc := 21) F 151 dX10_reads_21 (by decide) (fun c => ?_) (fun c => ?_)
    · have h := h.1 c
      refine g_iload_n (pc := 151) F dX10_reads_151 rfl 2 rfl ?_
      refine g_iconst (pc := 152) F dX10_reads_152 ic_1 ?_
      refine g_iadd (pc := 153) F dX10_reads_153 ?_
      exact hR _ _ _ _ dX10_reads_154 h
    · have h := h.2 c
      refine g_bipush (pc := 24) F dX10_reads_24 bp_m9 ?_
      refine g_istore (pc := 26) (lv' := [(_, _), (_, _), (_, _), (_, _)]) F dX10_reads_26 (by decide) rfl ?_
      refine g_iconst (pc := 28) F dX10_reads_28 ic_0 ?_
      refine g_istore (pc := 29) (lv' := [(_, _), (_, _), (_, _), (_, _), (_, _)]) F dX10_reads_29 (by decide) rfl ?_
      obtain ⟨k_31, h⟩ := h
      refine g_weak [2, 3, 4, 1, 0] rfl (bX10_reads_31 F hR hx0 (fun x4_95 s_k95 h => ?_) k_31 _ _ _ h)
      · refine g_iload_n (pc := 95) F dX10_reads_95 rfl 1 rfl ?_
        refine g_iconst (pc := 96) F dX10_reads_96 ic_1 ?_
        refine g_iload (pc := 97) F dX10_reads_97 3 rfl ?_
        refine g_ishl (pc := 99) F dX10_reads_99 ?_
        refine g_iconst (pc := 100) F dX10_reads_100 ic_m1 ?_
        refine g_ixor (pc := 101) F dX10_reads_101 ?_
        refine g_iand (pc := 102) F dX10_reads_102 ?_
        refine g_istore_n (pc := 103) (lv' := [(_, _), (_, _), (_, _), (_, _)]) F dX10_reads_103 rfl (by decide) rfl ?_
        refine g_aload_n (pc := 104) F dX10_reads_104 rfl 1 rfl ?_
        refine g_getR (pc := 105) F clX10 hx0.1 33 _ rfl (by decide) uX10_77 dX10_reads_105 ?_
        refine g_iload_n (pc := 108) F dX10_reads_108 rfl 2 rfl ?_
        refine g_iconst (pc := 109) F dX10_reads_109 ic_1 ?_
        refine g_iadd (pc := 110) F dX10_reads_110 ?_
        refine g_aload_n (pc := 111) F dX10_reads_111 rfl 1 rfl ?_
        refine g_getR (pc := 112) F clX10 hx0.1 10 _ rfl (by decide) uX10_16 dX10_reads_112 ?_
        refine g_iload (pc := 115) F dX10_reads_115 3 rfl ?_
        obtain ⟨hb_117, h⟩ := h
        refine g_iald (pc := 117) F hx0.2.2.2.1 hb_117 dX10_reads_117 ?_
        refine g_aload_n (pc := 118) F dX10_reads_118 rfl 1 rfl ?_
        refine g_getR (pc := 119) F clX10 hx0.1 33 _ rfl (by decide) uX10_77 dX10_reads_119 ?_
        refine g_iload_n (pc := 122) F dX10_reads_122 rfl 2 rfl ?_
        obtain ⟨hb_123, h⟩ := h
        refine g_iald (pc := 123) F hx0.2.2.2.2.2.2.2.2.2.2.2.2.2.2.2.2.2.2.2.2.2.2.2.1 hb_123 dX10_reads_123 ?_
        refine g_icmp_ne (pc := 124) F 137 dX10_reads_124 (by decide) (fun c => ?_) (fun c => ?_)
        · have h := h.1 c
          refine g_aload_n (pc := 137) F dX10_reads_137 rfl 1 rfl ?_
          refine g_getR (pc := 138) F clX10 hx0.1 10 _ rfl (by decide) uX10_16 dX10_reads_138 ?_
          refine g_iload (pc := 141) F dX10_reads_141 3 rfl ?_
          obtain ⟨hb_143, h⟩ := h
          refine g_iald (pc := 143) F hx0.2.2.2.1 hb_143 dX10_reads_143 ?_
          exact g_weak [1, 0, 2] rfl (bX10_reads_144 F hR hx0 hx0.2.2.2.2.2.2.2.2.2.2.2.2.2.2.2.2.2.2.2.2.2.2.2.1 ih h)
        · have h := h.2 c
          refine g_aload_n (pc := 127) F dX10_reads_127 rfl 1 rfl ?_
          refine g_getR (pc := 128) F clX10 hx0.1 11 _ rfl (by decide) uX10_19 dX10_reads_128 ?_
          refine g_iload (pc := 131) F dX10_reads_131 3 rfl ?_
          obtain ⟨hb_133, h⟩ := h
          refine g_iald (pc := 133) F hx0.2.2.2.2.1 hb_133 dX10_reads_133 ?_
          refine g_goto (pc := 134) F 144 dX10_reads_134 (by decide) ?_
          exact g_weak [1, 0, 2] rfl (bX10_reads_144 F hR hx0 hx0.2.2.2.2.2.2.2.2.2.2.2.2.2.2.2.2.2.2.2.2.2.2.2.1 ih h)
def wX10_reads (x0 : Nat) (x1 : Int32) (s : St) (Q : Int32 → St → Prop) : Prop :=
  vp_in x1 64 ∧ vp_in (0 : Int32) 5 ∧ ∀ s_19 : St, s_19 = stI s (x0 + 23) (0 : Int32).toNatClampNeg (((s.1 (x0 + 13) x1.toNatClampNeg) - (1 : Int32)) / (5 : Int32)) → (∃ k_20, wX10_reads_20  x0  Q k_20 x1 (0 : Int32) s_19)
set_option maxHeartbeats 4000000 in
set_option maxRecDepth 100000 in
theorem mX10_reads {l : Launch} {V : Wv} {x0 : Nat} {x1 : Int32} {s : St} {Q : Int32 → St → Prop} (hx0 : isX10 V x0) (h : wX10_reads x0 x1 s Q) : Ci yX10_reads cX10_reads 6 (some .int) (0) l V [rf V x0, .int x1] s Q := by
  unfold wX10_reads at h
  refine Ci.of mvX10_reads.1 (Nat.le_of_ble_eq_true rfl) (fun X F hR => ?_)
  refine g_lv (lv' := [(_, _), (_, _)]) rfl ?_
  refine g_iload_n (pc := 0) F dX10_reads_0 rfl 1 rfl ?_
  refine g_istore_n (pc := 1) (lv' := [(_, _), (_, _), (_, _)]) F dX10_reads_1 rfl (by decide) rfl ?_
  refine g_iconst (pc := 2) F dX10_reads_2 ic_0 ?_
  refine g_istore_n (pc := 3) (lv' := [(_, _), (_, _), (_, _), (_, _)]) F dX10_reads_3 rfl (by decide) rfl ?_
  refine g_aload_n (pc := 4) F dX10_reads_4 rfl 2 rfl ?_
  refine g_getR (pc := 5) F clX10 hx0.1 33 _ rfl (by decide) uX10_77 dX10_reads_5 ?_
  refine g_iconst (pc := 8) F dX10_reads_8 ic_0 ?_
  refine g_aload_n (pc := 9) F dX10_reads_9 rfl 2 rfl ?_
  refine g_getR (pc := 10) F clX10 hx0.1 22 _ rfl (by decide) uX10_47 dX10_reads_10 ?_
  refine g_iload_n (pc := 13) F dX10_reads_13 rfl 3 rfl ?_
  obtain ⟨hb_14, h⟩ := h
  refine g_iald (pc := 14) F hx0.2.2.2.2.2.2.2.2.2.2.2.2.2.1 hb_14 dX10_reads_14 ?_
  refine g_iconst (pc := 15) F dX10_reads_15 ic_1 ?_
  refine g_isub (pc := 16) F dX10_reads_16 ?_
  refine g_iconst (pc := 17) F dX10_reads_17 ic_5 ?_
  refine g_idiv (pc := 18) F dX10_reads_18 (by decide) ?_
  obtain ⟨hb_19, h⟩ := h
  have h := h _ rfl
  refine g_iast (pc := 19) F hx0.2.2.2.2.2.2.2.2.2.2.2.2.2.2.2.2.2.2.2.2.2.2.2.1 hb_19 dX10_reads_19 ?_
  obtain ⟨k_20, h⟩ := h
  refine g_weak [2, 1, 0] rfl (bX10_reads_20 F hR hx0 k_20 _ _ _ h)
def wX10_isAhead_2 (x0 : Nat) (x1 : Int32) (x2 : Int32) (K27 : Int32 → St → Prop) (K54 : St → Prop) (Q : Int32 → St → Prop) : Nat → Int32 → St → Prop
  | 0, _, _ => False
  | n + 1, x3, s =>
  ((x1 ≤ x3 → K54  s) ∧ (¬ x1 ≤ x3 → ((x2 ≤ x3 → K54  s) ∧ (¬ x2 ≤ x3 → vp_in x3 5 ∧ vp_in x3 5 ∧ (((s.1 (x0 + 23) x3.toNatClampNeg) = (s.1 (x0 + 24) x3.toNatClampNeg) → wX10_isAhead_2 x0 x1 x2 K27 K54 Q n (x3 + (1 : Int32)) s) ∧ (¬ (s.1 (x0 + 23) x3.toNatClampNeg) = (s.1 (x0 + 24) x3.toNatClampNeg) → K27 x3 s))))))
set_option maxHeartbeats 4000000 in
set_option maxRecDepth 100000 in
theorem bX10_isAhead_2 {l : Launch} {V : Wv} {X : Mx} {x0 : Nat} {x1 : Int32} {x2 : Int32} {K27 : Int32 → St → Prop} {K54 : St → Prop} {Q : Int32 → St → Prop} (F : Fx V X cX10_isAhead RX10 4 0) (hR : RtZ l V X 4 cX10_isAhead Q) (hx0 : isX10 V x0) (hK27 : ∀ (y3 : Int32) (s : St), K27 y3 s → G l V X 4 27 [(0, rf V x0), (3, .int y3)] [] s) (hK54 : ∀  (s : St), K54  s → G l V X 4 54 [(1, .int x1), (2, .int x2)] [] s) : ∀ (n : Nat) (x3 : Int32) (s : St), wX10_isAhead_2 x0 x1 x2 K27 K54 Q n x3 s → G l V X 4 2 [(0, rf V x0), (1, .int x1), (2, .int x2), (3, .int x3)] [] s := by
  intro n
  induction n with
  | zero => intro x3 s h; unfold wX10_isAhead_2 at h; exact h.elim
  | succ n ih =>
    intro x3 s h
    unfold wX10_isAhead_2 at h
    refine g_iload_n (pc := 2) F dX10_isAhead_2 rfl 3 rfl ?_
    refine g_iload_n (pc := 3) F dX10_isAhead_3 rfl 1 rfl ?_
    refine g_icmp_ge (pc := 4) F 54 dX10_isAhead_4 (by decide) (fun c => ?_) (fun c => ?_)
    · have h := h.1 c
      exact g_weak [1, 2] rfl (hK54 _ h)
    · have h := h.2 c
      refine g_iload_n (pc := 7) F dX10_isAhead_7 rfl 3 rfl ?_
      refine g_iload_n (pc := 8) F dX10_isAhead_8 rfl 2 rfl ?_
      refine g_icmp_ge (pc := 9) F 54 dX10_isAhead_9 (by decide) (fun c => ?_) (fun c => ?_)
      · have h := h.1 c
        exact g_weak [1, 2] rfl (hK54 _ h)
      · have h := h.2 c
        refine g_aload_n (pc := 12) F dX10_isAhead_12 rfl 0 rfl ?_
        refine g_getR (pc := 13) F clX10 hx0.1 33 _ rfl (by decide) uX10_77 dX10_isAhead_13 ?_
        refine g_iload_n (pc := 16) F dX10_isAhead_16 rfl 3 rfl ?_
        obtain ⟨hb_17, h⟩ := h
        refine g_iald (pc := 17) F hx0.2.2.2.2.2.2.2.2.2.2.2.2.2.2.2.2.2.2.2.2.2.2.2.1 hb_17 dX10_isAhead_17 ?_
        refine g_aload_n (pc := 18) F dX10_isAhead_18 rfl 0 rfl ?_
        refine g_getR (pc := 19) F clX10 hx0.1 34 _ rfl (by decide) uX10_80 dX10_isAhead_19 ?_
        refine g_iload_n (pc := 22) F dX10_isAhead_22 rfl 3 rfl ?_
        obtain ⟨hb_23, h⟩ := h
        refine g_iald (pc := 23) F hx0.2.2.2.2.2.2.2.2.2.2.2.2.2.2.2.2.2.2.2.2.2.2.2.2 hb_23 dX10_isAhead_23 ?_
        refine g_icmp_eq (pc := 24) F 48 dX10_isAhead_24 (by decide) (fun c => ?_) (fun c => ?_)
        · have h := h.1 c
          refine g_iinc (pc := 48) (lv' := [(_, _), (_, _), (_, _), (_, _)]) F dX10_isAhead_48 3 rfl (congrArg _ ic_1) (by decide) rfl ?_
          refine g_goto (pc := 51) F 2 dX10_isAhead_51 (by decide) ?_
          exact g_weak [1, 2, 3, 0] rfl (ih _ _ h)
        · have h := h.2 c
          exact g_weak [0, 3] rfl (hK27 _ _ h)
def wX10_isAhead (x0 : Nat) (x1 : Int32) (x2 : Int32) (s : St) (Q : Int32 → St → Prop) : Prop :=
  (∃ k_2, wX10_isAhead_2  x0 x1 x2 (fun x3_27 s_k27 => vp_in x3_27 5 ∧ vp_in x3_27 5 ∧ (((s_k27.1 (x0 + 24) x3_27.toNatClampNeg) ≤ (s_k27.1 (x0 + 23) x3_27.toNatClampNeg) → Q (0 : Int32) s_k27) ∧ (¬ (s_k27.1 (x0 + 24) x3_27.toNatClampNeg) ≤ (s_k27.1 (x0 + 23) x3_27.toNatClampNeg) → Q (1 : Int32) s_k27))) (fun  s_k54 => ((x2 ≤ x1 → Q (0 : Int32) s_k54) ∧ (¬ x2 ≤ x1 → Q (1 : Int32) s_k54))) Q k_2 (0 : Int32) s)
set_option maxHeartbeats 4000000 in
set_option maxRecDepth 100000 in
theorem mX10_isAhead {l : Launch} {V : Wv} {x0 : Nat} {x1 : Int32} {x2 : Int32} {s : St} {Q : Int32 → St → Prop} (hx0 : isX10 V x0) (h : wX10_isAhead x0 x1 x2 s Q) : Ci yX10_isAhead cX10_isAhead 4 (some .boolean) (0) l V [rf V x0, .int x1, .int x2] s Q := by
  unfold wX10_isAhead at h
  refine Cz.of mvX10_isAhead.1 (Nat.le_of_ble_eq_true rfl) (fun X F hR => ?_)
  refine g_lv (lv' := [(_, _), (_, _), (_, _)]) rfl ?_
  refine g_iconst (pc := 0) F dX10_isAhead_0 ic_0 ?_
  refine g_istore_n (pc := 1) (lv' := [(_, _), (_, _), (_, _), (_, _)]) F dX10_isAhead_1 rfl (by decide) rfl ?_
  obtain ⟨k_2, h⟩ := h
  refine g_weak [1, 2, 3, 0] rfl (bX10_isAhead_2 F hR hx0 (fun x3_27 s_k27 h => ?_) (fun  s_k54 h => ?_) k_2 _ _ h)
  · refine g_aload_n (pc := 27) F dX10_isAhead_27 rfl 0 rfl ?_
    refine g_getR (pc := 28) F clX10 hx0.1 33 _ rfl (by decide) uX10_77 dX10_isAhead_28 ?_
    refine g_iload_n (pc := 31) F dX10_isAhead_31 rfl 1 rfl ?_
    obtain ⟨hb_32, h⟩ := h
    refine g_iald (pc := 32) F hx0.2.2.2.2.2.2.2.2.2.2.2.2.2.2.2.2.2.2.2.2.2.2.2.1 hb_32 dX10_isAhead_32 ?_
    refine g_aload_n (pc := 33) F dX10_isAhead_33 rfl 0 rfl ?_
    refine g_getR (pc := 34) F clX10 hx0.1 34 _ rfl (by decide) uX10_80 dX10_isAhead_34 ?_
    refine g_iload_n (pc := 37) F dX10_isAhead_37 rfl 1 rfl ?_
    obtain ⟨hb_38, h⟩ := h
    refine g_iald (pc := 38) F hx0.2.2.2.2.2.2.2.2.2.2.2.2.2.2.2.2.2.2.2.2.2.2.2.2 hb_38 dX10_isAhead_38 ?_
    refine g_icmp_ge (pc := 39) F 46 dX10_isAhead_39 (by decide) (fun c => ?_) (fun c => ?_)
    · have h := h.1 c
      refine g_iconst (pc := 46) F dX10_isAhead_46 ic_0 ?_
      exact hR _ _ _ _ dX10_isAhead_47 (Or.inl rfl) h
    · have h := h.2 c
      refine g_iconst (pc := 42) F dX10_isAhead_42 ic_1 ?_
      refine g_goto (pc := 43) F 47 dX10_isAhead_43 (by decide) ?_
      exact hR _ _ _ _ dX10_isAhead_47 (Or.inr rfl) h
  · refine g_iload_n (pc := 54) F dX10_isAhead_54 rfl 0 rfl ?_
    refine g_iload_n (pc := 55) F dX10_isAhead_55 rfl 1 rfl ?_
    refine g_icmp_ge (pc := 56) F 63 dX10_isAhead_56 (by decide) (fun c => ?_) (fun c => ?_)
    · have h := h.1 c
      refine g_iconst (pc := 63) F dX10_isAhead_63 ic_0 ?_
      exact hR _ _ _ _ dX10_isAhead_64 (Or.inl rfl) h
    · have h := h.2 c
      refine g_iconst (pc := 59) F dX10_isAhead_59 ic_1 ?_
      refine g_goto (pc := 60) F 64 dX10_isAhead_60 (by decide) ?_
      exact hR _ _ _ _ dX10_isAhead_64 (Or.inr rfl) h
def wX10_spiteSet_164 (rec : Int32 → Int32 → Int32 → St → Prop) (Q : Int32 → St → Prop) (x0 : Nat) (x1 : Int32) (x2 : Int32) (x3 : Int32) (s : St) : Prop :=
  rec x1 x2 (x3 + (1 : Int32)) s
set_option maxHeartbeats 4000000 in
set_option maxRecDepth 100000 in
theorem bX10_spiteSet_164 {l : Launch} {V : Wv} {X : Mx} {rec : Int32 → Int32 → Int32 → St → Prop} {Q : Int32 → St → Prop} {x0 : Nat} {x1 : Int32} {x2 : Int32} {x3 : Int32} (F : Fx V X cX10_spiteSet RX10 7 4) (hR : RtI l V X 7 cX10_spiteSet Q) (hx0 : isX10 V x0) (hrec : ∀ (y1 : Int32) (y2 : Int32) (y3 : Int32) (s : St), rec y1 y2 y3 s → G l V X 7 11 [(0, rf V x0), (1, .int y1), (2, .int y2), (3, .int y3)] [] s) {s : St} (h : wX10_spiteSet_164 rec Q x0 x1 x2 x3 s) : G l V X 7 164 [(0, rf V x0), (1, .int x1), (2, .int x2), (3, .int x3)] [] s := by
  unfold wX10_spiteSet_164 at h
  refine g_iinc (pc := 164) (lv' := [(_, _), (_, _), (_, _), (_, _)]) F dX10_spiteSet_164 3 rfl (congrArg _ ic_1) (by decide) rfl ?_
  refine g_goto (pc := 167) F 11 dX10_spiteSet_167 (by decide) ?_
  exact g_weak [1, 2, 3, 0] rfl (hrec _ _ _ _ h)
def wX10_spiteSet_134 (rec : Int32 → St → Prop) (K141 : St → Prop) (Q : Int32 → St → Prop) (x0 : Nat) (x1 : Int32) (x2 : Int32) (x3 : Int32) (x4 : Int32) (x5 : Int32) (x6 : Int32) (t0 : Int32) (t1 : Int32) (t2 : Nat) (s : St) : Prop :=
  vp_in t1 5 ∧ ∀ s_134 : St, s_134 = stI s t2 t1.toNatClampNeg t0 → rec (x6 + (1 : Int32)) s_134
set_option maxHeartbeats 4000000 in
set_option maxRecDepth 100000 in
theorem bX10_spiteSet_134 {l : Launch} {V : Wv} {X : Mx} {rec : Int32 → St → Prop} {K141 : St → Prop} {Q : Int32 → St → Prop} {x0 : Nat} {x1 : Int32} {x2 : Int32} {x3 : Int32} {x4 : Int32} {x5 : Int32} {x6 : Int32} {t0 : Int32} {t1 : Int32} {t2 : Nat} (F : Fx V X cX10_spiteSet RX10 7 4) (hR : RtI l V X 7 cX10_spiteSet Q) (hx0 : isX10 V x0) (ht2 : V.2.1[t2]? = some (11, [5])) (hrec : ∀ (y6 : Int32) (s : St), rec y6 s → G l V X 7 98 [(0, rf V x0), (1, .int x1), (2, .int x2), (3, .int x3), (4, .int x4), (5, .int x5), (6, .int y6)] [] s) (hK141 : ∀  (s : St), K141  s → G l V X 7 141 [(0, rf V x0), (1, .int x1), (2, .int x2), (3, .int x3), (4, .int x4), (5, .int x5)] [] s) {s : St} (h : wX10_spiteSet_134 rec K141 Q x0 x1 x2 x3 x4 x5 x6 t0 t1 t2 s) : G l V X 7 134 [(0, rf V x0), (1, .int x1), (2, .int x2), (3, .int x3), (4, .int x4), (5, .int x5), (6, .int x6)] [.int t0, .int t1, rf V t2] s := by
  unfold wX10_spiteSet_134 at h
  obtain ⟨hb_134, h⟩ := h
  have h := h _ rfl
  refine g_iast (pc := 134) F ht2 hb_134 dX10_spiteSet_134 ?_
  refine g_iinc (pc := 135) (lv' := [(_, _), (_, _), (_, _), (_, _), (_, _), (_, _), (_, _)]) F dX10_spiteSet_135 6 rfl (congrArg _ ic_1) (by decide) rfl ?_
  refine g_goto (pc := 138) F 98 dX10_spiteSet_138 (by decide) ?_
  exact g_weak [1, 2, 3, 4, 5, 6, 0] rfl (hrec _ _ h)
def wX10_spiteSet_98 (x0 : Nat) (x1 : Int32) (x2 : Int32) (x3 : Int32) (x4 : Int32) (x5 : Int32) (K141 : St → Prop) (Q : Int32 → St → Prop) : Nat → Int32 → St → Prop
  | 0, _, _ => False
  | n + 1, x6, s =>
  (((5 : Int32) ≤ x6 → K141  s) ∧ (¬ (5 : Int32) ≤ x6 → ((x5 = 0 → K141  s) ∧ (¬ x5 = 0 → ((x4 ≤ x6 → wX10_spiteSet_134 (wX10_spiteSet_98 x0 x1 x2 x3 x4 x5 K141 Q n) (K141) Q x0 x1 x2 x3 x4 x5 x6 (-9 : Int32) x6 (x0 + 24) s) ∧ (¬ x4 ≤ x6 → vp_in x6 5 ∧ wX10_spiteSet_134 (wX10_spiteSet_98 x0 x1 x2 x3 x4 x5 K141 Q n) (K141) Q x0 x1 x2 x3 x4 x5 x6 (s.1 (x0 + 23) x6.toNatClampNeg) x6 (x0 + 24) s))))))
set_option maxHeartbeats 4000000 in
set_option maxRecDepth 100000 in
theorem bX10_spiteSet_98 {l : Launch} {V : Wv} {X : Mx} {x0 : Nat} {x1 : Int32} {x2 : Int32} {x3 : Int32} {x4 : Int32} {x5 : Int32} {K141 : St → Prop} {Q : Int32 → St → Prop} (F : Fx V X cX10_spiteSet RX10 7 4) (hR : RtI l V X 7 cX10_spiteSet Q) (hx0 : isX10 V x0) (hK141 : ∀  (s : St), K141  s → G l V X 7 141 [(0, rf V x0), (1, .int x1), (2, .int x2), (3, .int x3), (4, .int x4), (5, .int x5)] [] s) : ∀ (n : Nat) (x6 : Int32) (s : St), wX10_spiteSet_98 x0 x1 x2 x3 x4 x5 K141 Q n x6 s → G l V X 7 98 [(0, rf V x0), (1, .int x1), (2, .int x2), (3, .int x3), (4, .int x4), (5, .int x5), (6, .int x6)] [] s := by
  intro n
  induction n with
  | zero => intro x6 s h; unfold wX10_spiteSet_98 at h; exact h.elim
  | succ n ih =>
    intro x6 s h
    unfold wX10_spiteSet_98 at h
    refine g_iload (pc := 98) F dX10_spiteSet_98 6 rfl ?_
    refine g_iconst (pc := 100) F dX10_spiteSet_100 ic_5 ?_
    refine g_icmp_ge (pc := 101) F 141 dX10_spiteSet_101 (by decide) (fun c => ?_) (fun c => ?_)
    · have h := h.1 c
      exact g_weak [0, 1, 2, 3, 4, 5] rfl (hK141 _ h)
    · have h := h.2 c
      refine g_iload (pc := 104) F dX10_spiteSet_104 5 rfl ?_
      refine g_if_eq (pc := 106) F 141 dX10_spiteSet_106 (by decide) (fun c => ?_) (fun c => ?_)
      · have h := h.1 c
        exact g_weak [0, 1, 2, 3, 4, 5] rfl (hK141 _ h)
      · have h := h.2 c
        refine g_aload_n (pc := 109) F dX10_spiteSet_109 rfl 0 rfl ?_
        refine g_getR (pc := 110) F clX10 hx0.1 34 _ rfl (by decide) uX10_80 dX10_spiteSet_110 ?_
        refine g_iload (pc := 113) F dX10_spiteSet_113 6 rfl ?_
        refine g_iload (pc := 115) F dX10_spiteSet_115 6 rfl ?_
        refine g_iload (pc := 117) F dX10_spiteSet_117 4 rfl ?_
        refine g_icmp_ge (pc := 119) F 132 dX10_spiteSet_119 (by decide) (fun c => ?_) (fun c => ?_)
        · have h := h.1 c
          refine g_bipush (pc := 132) F dX10_spiteSet_132 bp_m9 ?_
          exact g_weak [0, 1, 2, 3, 4, 5, 6] rfl (bX10_spiteSet_134 F hR hx0 hx0.2.2.2.2.2.2.2.2.2.2.2.2.2.2.2.2.2.2.2.2.2.2.2.2 ih hK141 h)
        · have h := h.2 c
          refine g_aload_n (pc := 122) F dX10_spiteSet_122 rfl 0 rfl ?_
          refine g_getR (pc := 123) F clX10 hx0.1 33 _ rfl (by decide) uX10_77 dX10_spiteSet_123 ?_
          refine g_iload (pc := 126) F dX10_spiteSet_126 6 rfl ?_
          obtain ⟨hb_128, h⟩ := h
          refine g_iald (pc := 128) F hx0.2.2.2.2.2.2.2.2.2.2.2.2.2.2.2.2.2.2.2.2.2.2.2.1 hb_128 dX10_spiteSet_128 ?_
          refine g_goto (pc := 129) F 134 dX10_spiteSet_129 (by decide) ?_
          exact g_weak [0, 1, 2, 3, 4, 5, 6] rfl (bX10_spiteSet_134 F hR hx0 hx0.2.2.2.2.2.2.2.2.2.2.2.2.2.2.2.2.2.2.2.2.2.2.2.2 ih hK141 h)
def wX10_spiteSet_163 (rec : Int32 → Int32 → Int32 → St → Prop) (Q : Int32 → St → Prop) (x0 : Nat) (x2 : Int32) (x3 : Int32) (t0 : Int32) (s : St) : Prop :=
  wX10_spiteSet_164 (rec) Q x0 t0 x2 x3 s
set_option maxHeartbeats 4000000 in
set_option maxRecDepth 100000 in
theorem bX10_spiteSet_163 {l : Launch} {V : Wv} {X : Mx} {rec : Int32 → Int32 → Int32 → St → Prop} {Q : Int32 → St → Prop} {x0 : Nat} {x2 : Int32} {x3 : Int32} {t0 : Int32} (F : Fx V X cX10_spiteSet RX10 7 4) (hR : RtI l V X 7 cX10_spiteSet Q) (hx0 : isX10 V x0) (hrec : ∀ (y1 : Int32) (y2 : Int32) (y3 : Int32) (s : St), rec y1 y2 y3 s → G l V X 7 11 [(0, rf V x0), (1, .int y1), (2, .int y2), (3, .int y3)] [] s) {s : St} (h : wX10_spiteSet_163 rec Q x0 x2 x3 t0 s) : G l V X 7 163 [(0, rf V x0), (2, .int x2), (3, .int x3)] [.int t0] s := by
  unfold wX10_spiteSet_163 at h
  refine g_istore_n (pc := 163) (lv' := [(_, _), (_, _), (_, _), (_, _)]) F dX10_spiteSet_163 rfl (by decide) rfl ?_
  exact g_weak [1, 0, 2, 3] rfl (bX10_spiteSet_164 F hR hx0 hrec h)
def wX10_spiteSet_152 (rec : Int32 → Int32 → Int32 → St → Prop) (Q : Int32 → St → Prop) (x0 : Nat) (x1 : Int32) (x3 : Int32) (x5 : Int32) (t0 : Int32) (s : St) : Prop :=
  ((x5 = 0 → wX10_spiteSet_163 (rec) Q x0 t0 x3 x1 s) ∧ (¬ x5 = 0 → wX10_spiteSet_163 (rec) Q x0 t0 x3 x3 s))
set_option maxHeartbeats 4000000 in
set_option maxRecDepth 100000 in
theorem bX10_spiteSet_152 {l : Launch} {V : Wv} {X : Mx} {rec : Int32 → Int32 → Int32 → St → Prop} {Q : Int32 → St → Prop} {x0 : Nat} {x1 : Int32} {x3 : Int32} {x5 : Int32} {t0 : Int32} (F : Fx V X cX10_spiteSet RX10 7 4) (hR : RtI l V X 7 cX10_spiteSet Q) (hx0 : isX10 V x0) (hrec : ∀ (y1 : Int32) (y2 : Int32) (y3 : Int32) (s : St), rec y1 y2 y3 s → G l V X 7 11 [(0, rf V x0), (1, .int y1), (2, .int y2), (3, .int y3)] [] s) {s : St} (h : wX10_spiteSet_152 rec Q x0 x1 x3 x5 t0 s) : G l V X 7 152 [(0, rf V x0), (1, .int x1), (3, .int x3), (5, .int x5)] [.int t0] s := by
  unfold wX10_spiteSet_152 at h
  refine g_istore_n (pc := 152) (lv' := [(_, _), (_, _), (_, _), (_, _), (_, _)]) F dX10_spiteSet_152 rfl (by decide) rfl ?_
  refine g_iload (pc := 153) F dX10_spiteSet_153 4 rfl ?_
  refine g_if_eq (pc := 155) F 162 dX10_spiteSet_155 (by decide) (fun c => ?_) (fun c => ?_)
  · have h := h.1 c
    refine g_iload_n (pc := 162) F dX10_spiteSet_162 rfl 2 rfl ?_
    exact g_weak [1, 0, 3] rfl (bX10_spiteSet_163 F hR hx0 hrec h)
  · have h := h.2 c
    refine g_iload_n (pc := 158) F dX10_spiteSet_158 rfl 3 rfl ?_
    refine g_goto (pc := 159) F 163 dX10_spiteSet_159 (by decide) ?_
    exact g_weak [1, 0, 3] rfl (bX10_spiteSet_163 F hR hx0 hrec h)
def wX10_spiteSet_93 (rec : Int32 → Int32 → Int32 → St → Prop) (Q : Int32 → St → Prop) (x0 : Nat) (x1 : Int32) (x2 : Int32) (x3 : Int32) (x4 : Int32) (t0 : Int32) (s : St) : Prop :=
  (∃ k_98, wX10_spiteSet_98  x0 x1 x2 x3 x4 t0 (fun  s_k141 => ((t0 = 0 → wX10_spiteSet_152 (rec) Q x0 x1 x3 t0 x2 s_k141) ∧ (¬ t0 = 0 → wX10_spiteSet_152 (rec) Q x0 x1 x3 t0 x4 s_k141))) Q k_98 (0 : Int32) s)
set_option maxHeartbeats 4000000 in
set_option maxRecDepth 100000 in
theorem bX10_spiteSet_93 {l : Launch} {V : Wv} {X : Mx} {rec : Int32 → Int32 → Int32 → St → Prop} {Q : Int32 → St → Prop} {x0 : Nat} {x1 : Int32} {x2 : Int32} {x3 : Int32} {x4 : Int32} {t0 : Int32} (F : Fx V X cX10_spiteSet RX10 7 4) (hR : RtI l V X 7 cX10_spiteSet Q) (hx0 : isX10 V x0) (hrec : ∀ (y1 : Int32) (y2 : Int32) (y3 : Int32) (s : St), rec y1 y2 y3 s → G l V X 7 11 [(0, rf V x0), (1, .int y1), (2, .int y2), (3, .int y3)] [] s) {s : St} (h : wX10_spiteSet_93 rec Q x0 x1 x2 x3 x4 t0 s) : G l V X 7 93 [(0, rf V x0), (1, .int x1), (2, .int x2), (3, .int x3), (4, .int x4)] [.int t0] s := by
  unfold wX10_spiteSet_93 at h
  refine g_istore (pc := 93) (lv' := [(_, _), (_, _), (_, _), (_, _), (_, _), (_, _)]) F dX10_spiteSet_93 (by decide) rfl ?_
  refine g_iconst (pc := 95) F dX10_spiteSet_95 ic_0 ?_
  refine g_istore (pc := 96) (lv' := [(_, _), (_, _), (_, _), (_, _), (_, _), (_, _), (_, _)]) F dX10_spiteSet_96 (by decide) rfl ?_
  obtain ⟨k_98, h⟩ := h
  refine g_weak [2, 3, 4, 5, 6, 1, 0] rfl (bX10_spiteSet_98 F hR hx0 (fun  s_k141 h => ?_) k_98 _ _ h)
  · refine g_iload (pc := 141) F dX10_spiteSet_141 5 rfl ?_
    refine g_if_eq (pc := 143) F 151 dX10_spiteSet_143 (by decide) (fun c => ?_) (fun c => ?_)
    · have h := h.1 c
      refine g_iload_n (pc := 151) F dX10_spiteSet_151 rfl 2 rfl ?_
      exact g_weak [0, 1, 3, 5] rfl (bX10_spiteSet_152 F hR hx0 hrec h)
    · have h := h.2 c
      refine g_iload (pc := 146) F dX10_spiteSet_146 4 rfl ?_
      refine g_goto (pc := 148) F 152 dX10_spiteSet_148 (by decide) ?_
      exact g_weak [0, 1, 3, 5] rfl (bX10_spiteSet_152 F hR hx0 hrec h)
def wX10_spiteSet_88 (rec : Int32 → Int32 → Int32 → St → Prop) (Q : Int32 → St → Prop) (x0 : Nat) (x1 : Int32) (x2 : Int32) (x3 : Int32) (x4 : Int32) (s : St) : Prop :=
  wX10_spiteSet_93 (rec) Q x0 x1 x2 x3 x4 (1 : Int32) s
set_option maxHeartbeats 4000000 in
set_option maxRecDepth 100000 in
theorem bX10_spiteSet_88 {l : Launch} {V : Wv} {X : Mx} {rec : Int32 → Int32 → Int32 → St → Prop} {Q : Int32 → St → Prop} {x0 : Nat} {x1 : Int32} {x2 : Int32} {x3 : Int32} {x4 : Int32} (F : Fx V X cX10_spiteSet RX10 7 4) (hR : RtI l V X 7 cX10_spiteSet Q) (hx0 : isX10 V x0) (hrec : ∀ (y1 : Int32) (y2 : Int32) (y3 : Int32) (s : St), rec y1 y2 y3 s → G l V X 7 11 [(0, rf V x0), (1, .int y1), (2, .int y2), (3, .int y3)] [] s) {s : St} (h : wX10_spiteSet_88 rec Q x0 x1 x2 x3 x4 s) : G l V X 7 88 [(0, rf V x0), (1, .int x1), (2, .int x2), (3, .int x3), (4, .int x4)] [] s := by
  unfold wX10_spiteSet_88 at h
  refine g_iconst (pc := 88) F dX10_spiteSet_88 ic_1 ?_
  refine g_goto (pc := 89) F 93 dX10_spiteSet_89 (by decide) ?_
  exact g_weak [0, 1, 2, 3, 4] rfl (bX10_spiteSet_93 F hR hx0 hrec h)
def wX10_spiteSet_92 (rec : Int32 → Int32 → Int32 → St → Prop) (Q : Int32 → St → Prop) (x0 : Nat) (x1 : Int32) (x2 : Int32) (x3 : Int32) (x4 : Int32) (s : St) : Prop :=
  wX10_spiteSet_93 (rec) Q x0 x1 x2 x3 x4 (0 : Int32) s
set_option maxHeartbeats 4000000 in
set_option maxRecDepth 100000 in
theorem bX10_spiteSet_92 {l : Launch} {V : Wv} {X : Mx} {rec : Int32 → Int32 → Int32 → St → Prop} {Q : Int32 → St → Prop} {x0 : Nat} {x1 : Int32} {x2 : Int32} {x3 : Int32} {x4 : Int32} (F : Fx V X cX10_spiteSet RX10 7 4) (hR : RtI l V X 7 cX10_spiteSet Q) (hx0 : isX10 V x0) (hrec : ∀ (y1 : Int32) (y2 : Int32) (y3 : Int32) (s : St), rec y1 y2 y3 s → G l V X 7 11 [(0, rf V x0), (1, .int y1), (2, .int y2), (3, .int y3)] [] s) {s : St} (h : wX10_spiteSet_92 rec Q x0 x1 x2 x3 x4 s) : G l V X 7 92 [(0, rf V x0), (1, .int x1), (2, .int x2), (3, .int x3), (4, .int x4)] [] s := by
  unfold wX10_spiteSet_92 at h
  refine g_iconst (pc := 92) F dX10_spiteSet_92 ic_0 ?_
  exact g_weak [0, 1, 2, 3, 4] rfl (bX10_spiteSet_93 F hR hx0 hrec h)
def wX10_spiteSet_11 (x0 : Nat) (Q : Int32 → St → Prop) : Nat → Int32 → Int32 → Int32 → St → Prop
  | 0, _, _, _, _ => False
  | n + 1, x1, x2, x3, s =>
  (((64 : Int32) ≤ x3 → Q x1 s) ∧ (¬ (64 : Int32) ≤ x3 → vp_in x3 64 ∧ (((s.1 (x0 + 13) x3.toNatClampNeg) = 0 → wX10_spiteSet_164 (wX10_spiteSet_11 x0 Q n) Q x0 x1 x2 x3 s) ∧ (¬ (s.1 (x0 + 13) x3.toNatClampNeg) = 0 → vp_in x3 64 ∧ (((s.1 (x0 + 22) x3.toNatClampNeg) = (1000000 : Int32) → wX10_spiteSet_164 (wX10_spiteSet_11 x0 Q n) Q x0 x1 x2 x3 s) ∧ (¬ (s.1 (x0 + 22) x3.toNatClampNeg) = (1000000 : Int32) → wX10_reads x0 x3 s (fun r_39 s_39 => ((x1 = 0 → wX10_spiteSet_88 (wX10_spiteSet_11 x0 Q n) Q x0 x1 x2 x3 r_39 s_39) ∧ (¬ x1 = 0 → vp_in x3 64 ∧ vp_in x1 64 ∧ (((s_39.1 (x0 + 22) x1.toNatClampNeg) < (s_39.1 (x0 + 22) x3.toNatClampNeg) → wX10_spiteSet_88 (wX10_spiteSet_11 x0 Q n) Q x0 x1 x2 x3 r_39 s_39) ∧ (¬ (s_39.1 (x0 + 22) x1.toNatClampNeg) < (s_39.1 (x0 + 22) x3.toNatClampNeg) → vp_in x3 64 ∧ vp_in x1 64 ∧ ((¬ (s_39.1 (x0 + 22) x3.toNatClampNeg) = (s_39.1 (x0 + 22) x1.toNatClampNeg) → wX10_spiteSet_92 (wX10_spiteSet_11 x0 Q n) Q x0 x1 x2 x3 r_39 s_39) ∧ ((s_39.1 (x0 + 22) x3.toNatClampNeg) = (s_39.1 (x0 + 22) x1.toNatClampNeg) → wX10_isAhead x0 r_39 x2 s_39 (fun r_82 s_82 => ((r_82 = 0 → wX10_spiteSet_92 (wX10_spiteSet_11 x0 Q n) Q x0 x1 x2 x3 r_39 s_82) ∧ (¬ r_82 = 0 → wX10_spiteSet_88 (wX10_spiteSet_11 x0 Q n) Q x0 x1 x2 x3 r_39 s_82))))))))))))))))
set_option maxHeartbeats 4000000 in
set_option maxRecDepth 100000 in
theorem bX10_spiteSet_11 {l : Launch} {V : Wv} {X : Mx} {x0 : Nat} {Q : Int32 → St → Prop} (F : Fx V X cX10_spiteSet RX10 7 4) (hR : RtI l V X 7 cX10_spiteSet Q) (hx0 : isX10 V x0)  : ∀ (n : Nat) (x1 : Int32) (x2 : Int32) (x3 : Int32) (s : St), wX10_spiteSet_11 x0 Q n x1 x2 x3 s → G l V X 7 11 [(0, rf V x0), (1, .int x1), (2, .int x2), (3, .int x3)] [] s := by
  intro n
  induction n with
  | zero => intro x1 x2 x3 s h; unfold wX10_spiteSet_11 at h; exact h.elim
  | succ n ih =>
    intro x1 x2 x3 s h
    unfold wX10_spiteSet_11 at h
    refine g_iload_n (pc := 11) F dX10_spiteSet_11 rfl 3 rfl ?_
    refine g_bipush (pc := 12) F dX10_spiteSet_12 bp_64 ?_
    refine g_icmp_ge (pc := 14) F 170 dX10_spiteSet_14 (by decide) (fun c => ?_) (fun c => ?_)
    · have h := h.1 c
      refine g_iload_n (pc := 170) F dX10_spiteSet_170 rfl 1 rfl ?_
      exact hR _ _ _ _ dX10_spiteSet_171 h
    · have h := h.2 c
      refine g_aload_n (pc := 17) F dX10_spiteSet_17 rfl 0 rfl ?_
      refine g_getR (pc := 18) F clX10 hx0.1 22 _ rfl (by decide) uX10_47 dX10_spiteSet_18 ?_
      refine g_iload_n (pc := 21) F dX10_spiteSet_21 rfl 3 rfl ?_
      obtain ⟨hb_22, h⟩ := h
      refine g_iald (pc := 22) F hx0.2.2.2.2.2.2.2.2.2.2.2.2.2.1 hb_22 dX10_spiteSet_22 ?_
      refine g_if_eq (pc := 23) F 164 dX10_spiteSet_23 (by decide) (fun c => ?_) (fun c => ?_)
      · have h := h.1 c
        exact g_weak [0, 1, 2, 3] rfl (bX10_spiteSet_164 F hR hx0 ih h)
      · have h := h.2 c
        refine g_aload_n (pc := 26) F dX10_spiteSet_26 rfl 0 rfl ?_
        refine g_getR (pc := 27) F clX10 hx0.1 32 _ rfl (by decide) uX10_74 dX10_spiteSet_27 ?_
        refine g_iload_n (pc := 30) F dX10_spiteSet_30 rfl 3 rfl ?_
        obtain ⟨hb_31, h⟩ := h
        refine g_iald (pc := 31) F hx0.2.2.2.2.2.2.2.2.2.2.2.2.2.2.2.2.2.2.2.2.2.2.1 hb_31 dX10_spiteSet_31 ?_
        refine g_ldc (pc := 32) F dX10_spiteSet_32 uX10_167 ?_
        refine g_icmp_eq (pc := 34) F 164 dX10_spiteSet_34 (by decide) (fun c => ?_) (fun c => ?_)
        · have h := h.1 c
          exact g_weak [0, 1, 2, 3] rfl (bX10_spiteSet_164 F hR hx0 ih h)
        · have h := h.2 c
          refine g_aload_n (pc := 37) F dX10_spiteSet_37 rfl 0 rfl ?_
          refine g_iload_n (pc := 38) F dX10_spiteSet_38 rfl 3 rfl ?_
          refine g_callVi (pc := 39) F (mX10_reads hx0 h) mvX10_reads uX10_226 (by decide) clX10 hx0.1 rfl rfl (Nat.le_of_ble_eq_true rfl) dX10_spiteSet_39 (fun r_39 s_39 h => ?_)
          refine g_istore (pc := 42) (lv' := [(_, _), (_, _), (_, _), (_, _), (_, _)]) F dX10_spiteSet_42 (by decide) rfl ?_
          refine g_iload_n (pc := 44) F dX10_spiteSet_44 rfl 2 rfl ?_
          refine g_if_eq (pc := 45) F 88 dX10_spiteSet_45 (by decide) (fun c => ?_) (fun c => ?_)
          · have h := h.1 c
            exact g_weak [1, 2, 3, 4, 0] rfl (bX10_spiteSet_88 F hR hx0 ih h)
          · have h := h.2 c
            refine g_aload_n (pc := 48) F dX10_spiteSet_48 rfl 1 rfl ?_
            refine g_getR (pc := 49) F clX10 hx0.1 32 _ rfl (by decide) uX10_74 dX10_spiteSet_49 ?_
            refine g_iload_n (pc := 52) F dX10_spiteSet_52 rfl 4 rfl ?_
            obtain ⟨hb_53, h⟩ := h
            refine g_iald (pc := 53) F hx0.2.2.2.2.2.2.2.2.2.2.2.2.2.2.2.2.2.2.2.2.2.2.1 hb_53 dX10_spiteSet_53 ?_
            refine g_aload_n (pc := 54) F dX10_spiteSet_54 rfl 1 rfl ?_
            refine g_getR (pc := 55) F clX10 hx0.1 32 _ rfl (by decide) uX10_74 dX10_spiteSet_55 ?_
            refine g_iload_n (pc := 58) F dX10_spiteSet_58 rfl 2 rfl ?_
            obtain ⟨hb_59, h⟩ := h
            refine g_iald (pc := 59) F hx0.2.2.2.2.2.2.2.2.2.2.2.2.2.2.2.2.2.2.2.2.2.2.1 hb_59 dX10_spiteSet_59 ?_
            refine g_icmp_gt (pc := 60) F 88 dX10_spiteSet_60 (by decide) (fun c => ?_) (fun c => ?_)
            · have h := h.1 c
              exact g_weak [1, 2, 3, 4, 0] rfl (bX10_spiteSet_88 F hR hx0 ih h)
            · have h := h.2 c
              refine g_aload_n (pc := 63) F dX10_spiteSet_63 rfl 1 rfl ?_
              refine g_getR (pc := 64) F clX10 hx0.1 32 _ rfl (by decide) uX10_74 dX10_spiteSet_64 ?_
              refine g_iload_n (pc := 67) F dX10_spiteSet_67 rfl 4 rfl ?_
              obtain ⟨hb_68, h⟩ := h
              refine g_iald (pc := 68) F hx0.2.2.2.2.2.2.2.2.2.2.2.2.2.2.2.2.2.2.2.2.2.2.1 hb_68 dX10_spiteSet_68 ?_
              refine g_aload_n (pc := 69) F dX10_spiteSet_69 rfl 1 rfl ?_
              refine g_getR (pc := 70) F clX10 hx0.1 32 _ rfl (by decide) uX10_74 dX10_spiteSet_70 ?_
              refine g_iload_n (pc := 73) F dX10_spiteSet_73 rfl 2 rfl ?_
              obtain ⟨hb_74, h⟩ := h
              refine g_iald (pc := 74) F hx0.2.2.2.2.2.2.2.2.2.2.2.2.2.2.2.2.2.2.2.2.2.2.1 hb_74 dX10_spiteSet_74 ?_
              refine g_icmp_ne (pc := 75) F 92 dX10_spiteSet_75 (by decide) (fun c => ?_) (fun c => ?_)
              · have h := h.1 c
                exact g_weak [1, 2, 3, 4, 0] rfl (bX10_spiteSet_92 F hR hx0 ih h)
              · have h := h.2 c
                refine g_aload_n (pc := 78) F dX10_spiteSet_78 rfl 1 rfl ?_
                refine g_iload (pc := 79) F dX10_spiteSet_79 0 rfl ?_
                refine g_iload_n (pc := 81) F dX10_spiteSet_81 rfl 3 rfl ?_
                refine g_callVi (pc := 82) F (mX10_isAhead hx0 h) mvX10_isAhead uX10_229 (by decide) clX10 hx0.1 rfl rfl (Nat.le_of_ble_eq_true rfl) dX10_spiteSet_82 (fun r_82 s_82 h => ?_)
                refine g_if_eq (pc := 85) F 92 dX10_spiteSet_85 (by decide) (fun c => ?_) (fun c => ?_)
                · have h := h.1 c
                  exact g_weak [1, 2, 3, 4, 0] rfl (bX10_spiteSet_92 F hR hx0 ih h)
                · have h := h.2 c
                  exact g_weak [1, 2, 3, 4, 0] rfl (bX10_spiteSet_88 F hR hx0 ih h)
def wX10_spiteSet (x0 : Nat) (s : St) (Q : Int32 → St → Prop) : Prop :=
  wX10_scans x0 (0 : Int32) s (fun s_2 => (∃ k_11, wX10_spiteSet_11  x0  Q k_11 (0 : Int32) (0 : Int32) (1 : Int32) s_2))
set_option maxHeartbeats 4000000 in
set_option maxRecDepth 100000 in
theorem mX10_spiteSet {l : Launch} {V : Wv} {x0 : Nat} {s : St} {Q : Int32 → St → Prop} (hx0 : isX10 V x0) (h : wX10_spiteSet x0 s Q) : Ci yX10_spiteSet cX10_spiteSet 7 (some .int) (4) l V [rf V x0] s Q := by
  unfold wX10_spiteSet at h
  refine Ci.of mvX10_spiteSet.1 (Nat.le_of_ble_eq_true rfl) (fun X F hR => ?_)
  refine g_lv (lv' := [(_, _)]) rfl ?_
  refine g_aload_n (pc := 0) F dX10_spiteSet_0 rfl 0 rfl ?_
  refine g_iconst (pc := 1) F dX10_spiteSet_1 ic_0 ?_
  refine g_callVv (pc := 2) F (mX10_scans hx0 h) mvX10_scans uX10_199 (by decide) clX10 hx0.1 rfl rfl (Nat.le_of_ble_eq_true rfl) dX10_spiteSet_2 (fun s_2 h => ?_)
  refine g_iconst (pc := 5) F dX10_spiteSet_5 ic_0 ?_
  refine g_istore_n (pc := 6) (lv' := [(_, _), (_, _)]) F dX10_spiteSet_6 rfl (by decide) rfl ?_
  refine g_iconst (pc := 7) F dX10_spiteSet_7 ic_0 ?_
  refine g_istore_n (pc := 8) (lv' := [(_, _), (_, _), (_, _)]) F dX10_spiteSet_8 rfl (by decide) rfl ?_
  refine g_iconst (pc := 9) F dX10_spiteSet_9 ic_1 ?_
  refine g_istore_n (pc := 10) (lv' := [(_, _), (_, _), (_, _), (_, _)]) F dX10_spiteSet_10 rfl (by decide) rfl ?_
  obtain ⟨k_11, h⟩ := h
  refine g_weak [3, 2, 1, 0] rfl (bX10_spiteSet_11 F hR hx0 k_11 _ _ _ _ h)
def wX10_spite_97 (rec : Int32 → Int32 → Int32 → St → Prop) (K105 : Int32 → Int32 → St → Prop) (Q : Int32 → St → Prop) (x0 : Nat) (x1 : Int32) (x2 : Int32) (x4 : Int32) (x5 : Int32) (t0 : Int32) (t1 : Int32) (s : St) : Prop :=
  rec (t1 + t0) x4 (x5 + (1 : Int32)) s
set_option maxHeartbeats 4000000 in
set_option maxRecDepth 100000 in
theorem bX10_spite_97 {l : Launch} {V : Wv} {X : Mx} {rec : Int32 → Int32 → Int32 → St → Prop} {K105 : Int32 → Int32 → St → Prop} {Q : Int32 → St → Prop} {x0 : Nat} {x1 : Int32} {x2 : Int32} {x4 : Int32} {x5 : Int32} {t0 : Int32} {t1 : Int32} (F : Fx V X cX10_spite RX10 6 5) (hR : RtI l V X 6 cX10_spite Q) (hx0 : isX10 V x0) (hrec : ∀ (y3 : Int32) (y4 : Int32) (y5 : Int32) (s : St), rec y3 y4 y5 s → G l V X 6 42 [(0, rf V x0), (1, .int x1), (2, .int x2), (3, .int y3), (4, .int y4), (5, .int y5)] [] s) (hK105 : ∀ (y3 : Int32) (y4 : Int32) (s : St), K105 y3 y4 s → G l V X 6 105 [(0, rf V x0), (1, .int x1), (2, .int x2), (3, .int y3), (4, .int y4)] [] s) {s : St} (h : wX10_spite_97 rec K105 Q x0 x1 x2 x4 x5 t0 t1 s) : G l V X 6 97 [(0, rf V x0), (1, .int x1), (2, .int x2), (4, .int x4), (5, .int x5)] [.int t0, .int t1] s := by
  unfold wX10_spite_97 at h
  refine g_iadd (pc := 97) F dX10_spite_97 ?_
  refine g_istore_n (pc := 98) (lv' := [(_, _), (_, _), (_, _), (_, _), (_, _), (_, _)]) F dX10_spite_98 rfl (by decide) rfl ?_
  refine g_iinc (pc := 99) (lv' := [(_, _), (_, _), (_, _), (_, _), (_, _), (_, _)]) F dX10_spite_99 5 rfl (congrArg _ ic_1) (by decide) rfl ?_
  refine g_goto (pc := 102) F 42 dX10_spite_102 (by decide) ?_
  exact g_weak [2, 3, 4, 1, 5, 0] rfl (hrec _ _ _ _ h)
def wX10_spite_96 (rec : Int32 → Int32 → Int32 → St → Prop) (K105 : Int32 → Int32 → St → Prop) (Q : Int32 → St → Prop) (x0 : Nat) (x1 : Int32) (x2 : Int32) (x4 : Int32) (x5 : Int32) (t0 : Int32) (s : St) : Prop :=
  wX10_spite_97 (rec) (K105) Q x0 x1 x2 x4 x5 (0 : Int32) t0 s
set_option maxHeartbeats 4000000 in
set_option maxRecDepth 100000 in
theorem bX10_spite_96 {l : Launch} {V : Wv} {X : Mx} {rec : Int32 → Int32 → Int32 → St → Prop} {K105 : Int32 → Int32 → St → Prop} {Q : Int32 → St → Prop} {x0 : Nat} {x1 : Int32} {x2 : Int32} {x4 : Int32} {x5 : Int32} {t0 : Int32} (F : Fx V X cX10_spite RX10 6 5) (hR : RtI l V X 6 cX10_spite Q) (hx0 : isX10 V x0) (hrec : ∀ (y3 : Int32) (y4 : Int32) (y5 : Int32) (s : St), rec y3 y4 y5 s → G l V X 6 42 [(0, rf V x0), (1, .int x1), (2, .int x2), (3, .int y3), (4, .int y4), (5, .int y5)] [] s) (hK105 : ∀ (y3 : Int32) (y4 : Int32) (s : St), K105 y3 y4 s → G l V X 6 105 [(0, rf V x0), (1, .int x1), (2, .int x2), (3, .int y3), (4, .int y4)] [] s) {s : St} (h : wX10_spite_96 rec K105 Q x0 x1 x2 x4 x5 t0 s) : G l V X 6 96 [(0, rf V x0), (1, .int x1), (2, .int x2), (4, .int x4), (5, .int x5)] [.int t0] s := by
  unfold wX10_spite_96 at h
  refine g_iconst (pc := 96) F dX10_spite_96 ic_0 ?_
  exact g_weak [0, 1, 2, 3, 4] rfl (bX10_spite_97 F hR hx0 hrec hK105 h)
def wX10_spite_66 (rec : Int32 → Int32 → Int32 → St → Prop) (K105 : Int32 → Int32 → St → Prop) (Q : Int32 → St → Prop) (x0 : Nat) (x1 : Int32) (x2 : Int32) (x3 : Int32) (x5 : Int32) (t0 : Int32) (t1 : Int32) (s : St) : Prop :=
  vp_in x5 64 ∧ (((s.1 (x0 + 13) x5.toNatClampNeg) = 0 → wX10_spite_96 (rec) (K105) Q x0 x1 x2 (t1 + t0) x5 x3 s) ∧ (¬ (s.1 (x0 + 13) x5.toNatClampNeg) = 0 → vp_in x5 64 ∧ ((¬ (s.1 (x0 + 22) x5.toNatClampNeg) = (1000000 : Int32) → wX10_spite_96 (rec) (K105) Q x0 x1 x2 (t1 + t0) x5 x3 s) ∧ ((s.1 (x0 + 22) x5.toNatClampNeg) = (1000000 : Int32) → wX10_spite_97 (rec) (K105) Q x0 x1 x2 (t1 + t0) x5 (1 : Int32) x3 s))))
set_option maxHeartbeats 4000000 in
set_option maxRecDepth 100000 in
theorem bX10_spite_66 {l : Launch} {V : Wv} {X : Mx} {rec : Int32 → Int32 → Int32 → St → Prop} {K105 : Int32 → Int32 → St → Prop} {Q : Int32 → St → Prop} {x0 : Nat} {x1 : Int32} {x2 : Int32} {x3 : Int32} {x5 : Int32} {t0 : Int32} {t1 : Int32} (F : Fx V X cX10_spite RX10 6 5) (hR : RtI l V X 6 cX10_spite Q) (hx0 : isX10 V x0) (hrec : ∀ (y3 : Int32) (y4 : Int32) (y5 : Int32) (s : St), rec y3 y4 y5 s → G l V X 6 42 [(0, rf V x0), (1, .int x1), (2, .int x2), (3, .int y3), (4, .int y4), (5, .int y5)] [] s) (hK105 : ∀ (y3 : Int32) (y4 : Int32) (s : St), K105 y3 y4 s → G l V X 6 105 [(0, rf V x0), (1, .int x1), (2, .int x2), (3, .int y3), (4, .int y4)] [] s) {s : St} (h : wX10_spite_66 rec K105 Q x0 x1 x2 x3 x5 t0 t1 s) : G l V X 6 66 [(0, rf V x0), (1, .int x1), (2, .int x2), (3, .int x3), (5, .int x5)] [.int t0, .int t1] s := by
  unfold wX10_spite_66 at h
  refine g_iadd (pc := 66) F dX10_spite_66 ?_
  refine g_istore (pc := 67) (lv' := [(_, _), (_, _), (_, _), (_, _), (_, _), (_, _)]) F dX10_spite_67 (by decide) rfl ?_
  refine g_iload_n (pc := 69) F dX10_spite_69 rfl 4 rfl ?_
  refine g_aload_n (pc := 70) F dX10_spite_70 rfl 1 rfl ?_
  refine g_getR (pc := 71) F clX10 hx0.1 22 _ rfl (by decide) uX10_47 dX10_spite_71 ?_
  refine g_iload (pc := 74) F dX10_spite_74 5 rfl ?_
  obtain ⟨hb_76, h⟩ := h
  refine g_iald (pc := 76) F hx0.2.2.2.2.2.2.2.2.2.2.2.2.2.1 hb_76 dX10_spite_76 ?_
  refine g_if_eq (pc := 77) F 96 dX10_spite_77 (by decide) (fun c => ?_) (fun c => ?_)
  · have h := h.1 c
    exact g_weak [1, 2, 3, 0, 5] rfl (bX10_spite_96 F hR hx0 hrec hK105 h)
  · have h := h.2 c
    refine g_aload_n (pc := 80) F dX10_spite_80 rfl 1 rfl ?_
    refine g_getR (pc := 81) F clX10 hx0.1 32 _ rfl (by decide) uX10_74 dX10_spite_81 ?_
    refine g_iload (pc := 84) F dX10_spite_84 5 rfl ?_
    obtain ⟨hb_86, h⟩ := h
    refine g_iald (pc := 86) F hx0.2.2.2.2.2.2.2.2.2.2.2.2.2.2.2.2.2.2.2.2.2.2.1 hb_86 dX10_spite_86 ?_
    refine g_ldc (pc := 87) F dX10_spite_87 uX10_167 ?_
    refine g_icmp_ne (pc := 89) F 96 dX10_spite_89 (by decide) (fun c => ?_) (fun c => ?_)
    · have h := h.1 c
      exact g_weak [1, 2, 3, 0, 5] rfl (bX10_spite_96 F hR hx0 hrec hK105 h)
    · have h := h.2 c
      refine g_iconst (pc := 92) F dX10_spite_92 ic_1 ?_
      refine g_goto (pc := 93) F 97 dX10_spite_93 (by decide) ?_
      exact g_weak [1, 2, 3, 0, 5] rfl (bX10_spite_97 F hR hx0 hrec hK105 h)
def wX10_spite_42 (x0 : Nat) (x1 : Int32) (x2 : Int32) (K105 : Int32 → Int32 → St → Prop) (Q : Int32 → St → Prop) : Nat → Int32 → Int32 → Int32 → St → Prop
  | 0, _, _, _, _ => False
  | n + 1, x3, x4, x5, s =>
  (((64 : Int32) ≤ x5 → K105 x3 x4 s) ∧ (¬ (64 : Int32) ≤ x5 → vp_in x5 64 ∧ (((s.1 (x0 + 13) x5.toNatClampNeg) = 0 → wX10_spite_66 (wX10_spite_42 x0 x1 x2 K105 Q n) (K105) Q x0 x1 x2 x3 x5 (0 : Int32) x4 s) ∧ (¬ (s.1 (x0 + 13) x5.toNatClampNeg) = 0 → wX10_spite_66 (wX10_spite_42 x0 x1 x2 K105 Q n) (K105) Q x0 x1 x2 x3 x5 (1 : Int32) x4 s))))
set_option maxHeartbeats 4000000 in
set_option maxRecDepth 100000 in
theorem bX10_spite_42 {l : Launch} {V : Wv} {X : Mx} {x0 : Nat} {x1 : Int32} {x2 : Int32} {K105 : Int32 → Int32 → St → Prop} {Q : Int32 → St → Prop} (F : Fx V X cX10_spite RX10 6 5) (hR : RtI l V X 6 cX10_spite Q) (hx0 : isX10 V x0) (hK105 : ∀ (y3 : Int32) (y4 : Int32) (s : St), K105 y3 y4 s → G l V X 6 105 [(0, rf V x0), (1, .int x1), (2, .int x2), (3, .int y3), (4, .int y4)] [] s) : ∀ (n : Nat) (x3 : Int32) (x4 : Int32) (x5 : Int32) (s : St), wX10_spite_42 x0 x1 x2 K105 Q n x3 x4 x5 s → G l V X 6 42 [(0, rf V x0), (1, .int x1), (2, .int x2), (3, .int x3), (4, .int x4), (5, .int x5)] [] s := by
  intro n
  induction n with
  | zero => intro x3 x4 x5 s h; unfold wX10_spite_42 at h; exact h.elim
  | succ n ih =>
    intro x3 x4 x5 s h
    unfold wX10_spite_42 at h
    refine g_iload (pc := 42) F dX10_spite_42 5 rfl ?_
    refine g_bipush (pc := 44) F dX10_spite_44 bp_64 ?_
    refine g_icmp_ge (pc := 46) F 105 dX10_spite_46 (by decide) (fun c => ?_) (fun c => ?_)
    · have h := h.1 c
      exact g_weak [0, 1, 2, 3, 4] rfl (hK105 _ _ _ h)
    · have h := h.2 c
      refine g_iload (pc := 49) F dX10_spite_49 4 rfl ?_
      refine g_aload_n (pc := 51) F dX10_spite_51 rfl 0 rfl ?_
      refine g_getR (pc := 52) F clX10 hx0.1 22 _ rfl (by decide) uX10_47 dX10_spite_52 ?_
      refine g_iload (pc := 55) F dX10_spite_55 5 rfl ?_
      obtain ⟨hb_57, h⟩ := h
      refine g_iald (pc := 57) F hx0.2.2.2.2.2.2.2.2.2.2.2.2.2.1 hb_57 dX10_spite_57 ?_
      refine g_if_eq (pc := 58) F 65 dX10_spite_58 (by decide) (fun c => ?_) (fun c => ?_)
      · have h := h.1 c
        refine g_iconst (pc := 65) F dX10_spite_65 ic_0 ?_
        exact g_weak [0, 1, 2, 3, 5] rfl (bX10_spite_66 F hR hx0 ih hK105 h)
      · have h := h.2 c
        refine g_iconst (pc := 61) F dX10_spite_61 ic_1 ?_
        refine g_goto (pc := 62) F 66 dX10_spite_62 (by decide) ?_
        exact g_weak [0, 1, 2, 3, 5] rfl (bX10_spite_66 F hR hx0 ih hK105 h)
def wX10_spite (x0 : Nat) (x1 : Int32) (s : St) (Q : Int32 → St → Prop) : Prop :=
  ∀ s_2 : St, s_2 = stI s x0 0 (0 : Int32) → wX10_in x1 (0 : Int32) (2 : Int32) s_2 (fun r_8 s_8 => ((¬ r_8 = 0 → vp_in (36 : Int32) 38 ∧ (((s_8.1 (x0 + 7) (36 : Int32).toNatClampNeg) ≤ 0 → wX10_spiteSet x0 s_8 (fun r_30 s_30 => (∃ k_42, wX10_spite_42  x0 x1 r_30 (fun x3_105 x4_105 s_k105 => ((¬ x1 = (1 : Int32) → ((¬ x1 = (2 : Int32) → ((¬ r_30 = 0 → vp_in r_30 64 ∧ Q (s_k105.1 (x0 + 22) r_30.toNatClampNeg) s_k105) ∧ (r_30 = 0 → Q (-9 : Int32) s_k105))) ∧ (x1 = (2 : Int32) → Q x4_105 s_k105))) ∧ (x1 = (1 : Int32) → Q x3_105 s_k105))) Q k_42 (0 : Int32) (0 : Int32) (1 : Int32) s_30))) ∧ (¬ (s_8.1 (x0 + 7) (36 : Int32).toNatClampNeg) ≤ 0 → Q (-2 : Int32) s_8))) ∧ (r_8 = 0 → Q (-1 : Int32) s_8)))
set_option maxHeartbeats 4000000 in
set_option maxRecDepth 100000 in
theorem mX10_spite {l : Launch} {V : Wv} {x0 : Nat} {x1 : Int32} {s : St} {Q : Int32 → St → Prop} (hx0 : isX10 V x0) (h : wX10_spite x0 x1 s Q) : Ci yX10_spite cX10_spite 6 (some .int) (5) l V [rf V x0, .int x1] s Q := by
  unfold wX10_spite at h
  refine Ci.of mvX10_spite.1 (Nat.le_of_ble_eq_true rfl) (fun X F hR => ?_)
  refine g_lv (lv' := [(_, _), (_, _)]) rfl ?_
  refine g_aload_n (pc := 0) F dX10_spite_0 rfl 0 rfl ?_
  refine g_iconst (pc := 1) F dX10_spite_1 ic_0 ?_
  have h := h _ rfl
  refine g_putI (pc := 2) F clX10 hx0.1 0 rfl (by decide) rfl (tyX10_ok 0 (by decide)) uX10_89 dX10_spite_2 ?_
  refine g_iload_n (pc := 5) F dX10_spite_5 rfl 1 rfl ?_
  refine g_iconst (pc := 6) F dX10_spite_6 ic_0 ?_
  refine g_iconst (pc := 7) F dX10_spite_7 ic_2 ?_
  refine g_callSi (pc := 8) F (mX10_in  h) mvX10_in uX10_93 (by decide)  rfl rfl (Nat.le_of_ble_eq_true rfl) dX10_spite_8 (fun r_8 s_8 h => ?_)
  refine g_if_ne (pc := 11) F 16 dX10_spite_11 (by decide) (fun c => ?_) (fun c => ?_)
  · have h := h.1 c
    refine g_aload_n (pc := 16) F dX10_spite_16 rfl 0 rfl ?_
    refine g_getR (pc := 17) F clX10 hx0.1 14 _ rfl (by decide) uX10_28 dX10_spite_17 ?_
    refine g_bipush (pc := 20) F dX10_spite_20 bp_36 ?_
    obtain ⟨hb_22, h⟩ := h
    refine g_iald (pc := 22) F hx0.2.2.2.2.2.2.2.1 hb_22 dX10_spite_22 ?_
    refine g_if_le (pc := 23) F 29 dX10_spite_23 (by decide) (fun c => ?_) (fun c => ?_)
    · have h := h.1 c
      refine g_aload_n (pc := 29) F dX10_spite_29 rfl 0 rfl ?_
      refine g_callVi (pc := 30) F (mX10_spiteSet hx0 h) mvX10_spiteSet uX10_233 (by decide) clX10 hx0.1 rfl rfl (Nat.le_of_ble_eq_true rfl) dX10_spite_30 (fun r_30 s_30 h => ?_)
      refine g_istore_n (pc := 33) (lv' := [(_, _), (_, _), (_, _)]) F dX10_spite_33 rfl (by decide) rfl ?_
      refine g_iconst (pc := 34) F dX10_spite_34 ic_0 ?_
      refine g_istore_n (pc := 35) (lv' := [(_, _), (_, _), (_, _), (_, _)]) F dX10_spite_35 rfl (by decide) rfl ?_
      refine g_iconst (pc := 36) F dX10_spite_36 ic_0 ?_
      refine g_istore (pc := 37) (lv' := [(_, _), (_, _), (_, _), (_, _), (_, _)]) F dX10_spite_37 (by decide) rfl ?_
      refine g_iconst (pc := 39) F dX10_spite_39 ic_1 ?_
      refine g_istore (pc := 40) (lv' := [(_, _), (_, _), (_, _), (_, _), (_, _), (_, _)]) F dX10_spite_40 (by decide) rfl ?_
      obtain ⟨k_42, h⟩ := h
      refine g_weak [4, 5, 3, 2, 1, 0] rfl (bX10_spite_42 F hR hx0 (fun x3_105 x4_105 s_k105 h => ?_) k_42 _ _ _ _ h)
      · refine g_iload_n (pc := 105) F dX10_spite_105 rfl 1 rfl ?_
        refine g_iconst (pc := 106) F dX10_spite_106 ic_1 ?_
        refine g_icmp_ne (pc := 107) F 114 dX10_spite_107 (by decide) (fun c => ?_) (fun c => ?_)
        · have h := h.1 c
          refine g_iload_n (pc := 114) F dX10_spite_114 rfl 1 rfl ?_
          refine g_iconst (pc := 115) F dX10_spite_115 ic_2 ?_
          refine g_icmp_ne (pc := 116) F 124 dX10_spite_116 (by decide) (fun c => ?_) (fun c => ?_)
          · have h := h.1 c
            refine g_iload_n (pc := 124) F dX10_spite_124 rfl 2 rfl ?_
            refine g_if_ne (pc := 125) F 133 dX10_spite_125 (by decide) (fun c => ?_) (fun c => ?_)
            · have h := h.1 c
              refine g_aload_n (pc := 133) F dX10_spite_133 rfl 0 rfl ?_
              refine g_getR (pc := 134) F clX10 hx0.1 32 _ rfl (by decide) uX10_74 dX10_spite_134 ?_
              refine g_iload_n (pc := 137) F dX10_spite_137 rfl 2 rfl ?_
              obtain ⟨hb_138, h⟩ := h
              refine g_iald (pc := 138) F hx0.2.2.2.2.2.2.2.2.2.2.2.2.2.2.2.2.2.2.2.2.2.2.1 hb_138 dX10_spite_138 ?_
              exact hR _ _ _ _ dX10_spite_139 h
            · have h := h.2 c
              refine g_bipush (pc := 128) F dX10_spite_128 bp_m9 ?_
              refine g_goto (pc := 130) F 139 dX10_spite_130 (by decide) ?_
              exact hR _ _ _ _ dX10_spite_139 h
          · have h := h.2 c
            refine g_iload (pc := 119) F dX10_spite_119 4 rfl ?_
            refine g_goto (pc := 121) F 139 dX10_spite_121 (by decide) ?_
            exact hR _ _ _ _ dX10_spite_139 h
        · have h := h.2 c
          refine g_iload_n (pc := 110) F dX10_spite_110 rfl 3 rfl ?_
          refine g_goto (pc := 111) F 139 dX10_spite_111 (by decide) ?_
          exact hR _ _ _ _ dX10_spite_139 h
    · have h := h.2 c
      refine g_bipush (pc := 26) F dX10_spite_26 bp_m2 ?_
      exact hR _ _ _ _ dX10_spite_28 h
  · have h := h.2 c
    refine g_iconst (pc := 14) F dX10_spite_14 ic_m1 ?_
    exact hR _ _ _ _ dX10_spite_15 h
def wX10_spiteful (x0 : Nat) (x1 : Int32) (s : St) (Q : Int32 → St → Prop) : Prop :=
  ∀ s_2 : St, s_2 = stI s x0 0 (0 : Int32) → wX10_in x1 (0 : Int32) (4 : Int32) s_2 (fun r_8 s_8 => ((¬ r_8 = 0 → vp_in (36 : Int32) 38 ∧ (((s_8.1 (x0 + 7) (36 : Int32).toNatClampNeg) ≤ 0 → wX10_spiteSet x0 s_8 (fun r_30 s_30 => ((¬ r_30 = 0 → vp_in x1 5 ∧ Q (s_30.1 (x0 + 24) x1.toNatClampNeg) s_30) ∧ (r_30 = 0 → Q (-9 : Int32) s_30)))) ∧ (¬ (s_8.1 (x0 + 7) (36 : Int32).toNatClampNeg) ≤ 0 → Q (-2 : Int32) s_8))) ∧ (r_8 = 0 → Q (-1 : Int32) s_8)))
set_option maxHeartbeats 4000000 in
set_option maxRecDepth 100000 in
theorem mX10_spiteful {l : Launch} {V : Wv} {x0 : Nat} {x1 : Int32} {s : St} {Q : Int32 → St → Prop} (hx0 : isX10 V x0) (h : wX10_spiteful x0 x1 s Q) : Ci yX10_spiteful cX10_spiteful 2 (some .int) (5) l V [rf V x0, .int x1] s Q := by
  unfold wX10_spiteful at h
  refine Ci.of mvX10_spiteful.1 (Nat.le_of_ble_eq_true rfl) (fun X F hR => ?_)
  refine g_lv (lv' := [(_, _), (_, _)]) rfl ?_
  refine g_aload_n (pc := 0) F dX10_spiteful_0 rfl 0 rfl ?_
  refine g_iconst (pc := 1) F dX10_spiteful_1 ic_0 ?_
  have h := h _ rfl
  refine g_putI (pc := 2) F clX10 hx0.1 0 rfl (by decide) rfl (tyX10_ok 0 (by decide)) uX10_89 dX10_spiteful_2 ?_
  refine g_iload_n (pc := 5) F dX10_spiteful_5 rfl 1 rfl ?_
  refine g_iconst (pc := 6) F dX10_spiteful_6 ic_0 ?_
  refine g_iconst (pc := 7) F dX10_spiteful_7 ic_4 ?_
  refine g_callSi (pc := 8) F (mX10_in  h) mvX10_in uX10_93 (by decide)  rfl rfl (Nat.le_of_ble_eq_true rfl) dX10_spiteful_8 (fun r_8 s_8 h => ?_)
  refine g_if_ne (pc := 11) F 16 dX10_spiteful_11 (by decide) (fun c => ?_) (fun c => ?_)
  · have h := h.1 c
    refine g_aload_n (pc := 16) F dX10_spiteful_16 rfl 0 rfl ?_
    refine g_getR (pc := 17) F clX10 hx0.1 14 _ rfl (by decide) uX10_28 dX10_spiteful_17 ?_
    refine g_bipush (pc := 20) F dX10_spiteful_20 bp_36 ?_
    obtain ⟨hb_22, h⟩ := h
    refine g_iald (pc := 22) F hx0.2.2.2.2.2.2.2.1 hb_22 dX10_spiteful_22 ?_
    refine g_if_le (pc := 23) F 29 dX10_spiteful_23 (by decide) (fun c => ?_) (fun c => ?_)
    · have h := h.1 c
      refine g_aload_n (pc := 29) F dX10_spiteful_29 rfl 0 rfl ?_
      refine g_callVi (pc := 30) F (mX10_spiteSet hx0 h) mvX10_spiteSet uX10_233 (by decide) clX10 hx0.1 rfl rfl (Nat.le_of_ble_eq_true rfl) dX10_spiteful_30 (fun r_30 s_30 h => ?_)
      refine g_if_ne (pc := 33) F 41 dX10_spiteful_33 (by decide) (fun c => ?_) (fun c => ?_)
      · have h := h.1 c
        refine g_aload_n (pc := 41) F dX10_spiteful_41 rfl 0 rfl ?_
        refine g_getR (pc := 42) F clX10 hx0.1 34 _ rfl (by decide) uX10_80 dX10_spiteful_42 ?_
        refine g_iload_n (pc := 45) F dX10_spiteful_45 rfl 1 rfl ?_
        obtain ⟨hb_46, h⟩ := h
        refine g_iald (pc := 46) F hx0.2.2.2.2.2.2.2.2.2.2.2.2.2.2.2.2.2.2.2.2.2.2.2.2 hb_46 dX10_spiteful_46 ?_
        exact hR _ _ _ _ dX10_spiteful_47 h
      · have h := h.2 c
        refine g_bipush (pc := 36) F dX10_spiteful_36 bp_m9 ?_
        refine g_goto (pc := 38) F 47 dX10_spiteful_38 (by decide) ?_
        exact hR _ _ _ _ dX10_spiteful_47 h
    · have h := h.2 c
      refine g_bipush (pc := 26) F dX10_spiteful_26 bp_m2 ?_
      exact hR _ _ _ _ dX10_spiteful_28 h
  · have h := h.2 c
    refine g_iconst (pc := 14) F dX10_spiteful_14 ic_m1 ?_
    exact hR _ _ _ _ dX10_spiteful_15 h
def wX10_gcd_4 (Q : Int32 → St → Prop) : Nat → Int32 → Int32 → St → Prop
  | 0, _, _, _ => False
  | n + 1, x2, x3, s =>
  ((x3 = 0 → Q x2 s) ∧ (¬ x3 = 0 → ¬ x3 = 0 ∧ wX10_gcd_4 Q n x3 (x2 - x2 / x3 * x3) s))
set_option maxHeartbeats 4000000 in
set_option maxRecDepth 100000 in
theorem bX10_gcd_4 {l : Launch} {V : Wv} {X : Mx} {Q : Int32 → St → Prop} (F : Fx V X cX10_gcd RX10 5 0) (hR : RtI l V X 5 cX10_gcd Q)   : ∀ (n : Nat) (x2 : Int32) (x3 : Int32) (s : St), wX10_gcd_4 Q n x2 x3 s → G l V X 5 4 [(2, .int x2), (3, .int x3)] [] s := by
  intro n
  induction n with
  | zero => intro x2 x3 s h; unfold wX10_gcd_4 at h; exact h.elim
  | succ n ih =>
    intro x2 x3 s h
    unfold wX10_gcd_4 at h
    refine g_iload_n (pc := 4) F dX10_gcd_4 rfl 1 rfl ?_
    refine g_if_eq (pc := 5) F 21 dX10_gcd_5 (by decide) (fun c => ?_) (fun c => ?_)
    · have h := h.1 c
      refine g_iload_n (pc := 21) F dX10_gcd_21 rfl 0 rfl ?_
      exact hR _ _ _ _ dX10_gcd_22 h
    · have h := h.2 c
      refine g_iload_n (pc := 8) F dX10_gcd_8 rfl 0 rfl ?_
      refine g_iload_n (pc := 9) F dX10_gcd_9 rfl 1 rfl ?_
      obtain ⟨hb_10, h⟩ := h
      refine g_irem (pc := 10) F dX10_gcd_10 hb_10 ?_
      refine g_istore (pc := 11) (lv' := [(_, _), (_, _), (_, _)]) F dX10_gcd_11 (by decide) rfl ?_
      refine g_iload_n (pc := 13) F dX10_gcd_13 rfl 2 rfl ?_
      refine g_istore_n (pc := 14) (lv' := [(_, _), (_, _), (_, _)]) F dX10_gcd_14 rfl (by decide) rfl ?_
      refine g_iload (pc := 15) F dX10_gcd_15 1 rfl ?_
      refine g_istore_n (pc := 17) (lv' := [(_, _), (_, _), (_, _)]) F dX10_gcd_17 rfl (by decide) rfl ?_
      refine g_goto (pc := 18) F 4 dX10_gcd_18 (by decide) ?_
      exact g_weak [1, 0] rfl (ih _ _ _ h)
def wX10_gcd (x0 : Int32) (x1 : Int32) (s : St) (Q : Int32 → St → Prop) : Prop :=
  (∃ k_4, wX10_gcd_4    Q k_4 x0 x1 s)
set_option maxHeartbeats 4000000 in
set_option maxRecDepth 100000 in
theorem mX10_gcd {l : Launch} {V : Wv} {x0 : Int32} {x1 : Int32} {s : St} {Q : Int32 → St → Prop}  (h : wX10_gcd x0 x1 s Q) : Ci yX10_gcd cX10_gcd 5 (some .int) (0) l V [.int x0, .int x1] s Q := by
  unfold wX10_gcd at h
  refine Ci.of mvX10_gcd.1 (Nat.le_of_ble_eq_true rfl) (fun X F hR => ?_)
  refine g_lv (lv' := [(_, _), (_, _)]) rfl ?_
  refine g_iload_n (pc := 0) F dX10_gcd_0 rfl 0 rfl ?_
  refine g_istore_n (pc := 1) (lv' := [(_, _), (_, _), (_, _)]) F dX10_gcd_1 rfl (by decide) rfl ?_
  refine g_iload_n (pc := 2) F dX10_gcd_2 rfl 2 rfl ?_
  refine g_istore_n (pc := 3) (lv' := [(_, _), (_, _), (_, _), (_, _)]) F dX10_gcd_3 rfl (by decide) rfl ?_
  obtain ⟨k_4, h⟩ := h
  refine g_weak [1, 0] rfl (bX10_gcd_4 F hR  k_4 _ _ _ h)
