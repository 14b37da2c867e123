/-! printed by program: what each method does to the state (w..), and that its code does so (b.., m..) -/
def wX10_settles_2 (x0 : Nat) (K27 : St → Prop) (Q : St → Prop) : Nat → Int32 → St → Prop
  | 0, _, _ => False
  | n + 1, x1, s =>
  (((2 : Int32) ≤ x1 → K27  s) ∧ (¬ (2 : Int32) ≤ x1 → vp_in ((2 : Int32) + x1) 4 ∧ vp_in x1 4 ∧ ∀ s_20 : St, s_20 = stI s (x0 + 2) x1.toNatClampNeg (s.1 (x0 + 2) ((2 : Int32) + x1).toNatClampNeg) → wX10_settles_2 x0 K27 Q n (x1 + (1 : Int32)) s_20))
set_option maxHeartbeats 4000000 in
set_option maxRecDepth 100000 in
theorem bX10_settles_2 {l : Launch} {V : Wv} {X : Mx} {x0 : Nat} {K27 : St → Prop} {Q : St → Prop} (F : Fx V X cX10_settles RX10 2 1) (hR : RtV l V X 2 cX10_settles Q) (hx0 : isX10 V x0) (hK27 : ∀  (s : St), K27  s → G l V X 2 27 [(0, rf V x0)] [] s) : ∀ (n : Nat) (x1 : Int32) (s : St), wX10_settles_2 x0 K27 Q n x1 s → G l V X 2 2 [(0, rf V x0), (1, .int x1)] [] s := by
  intro n
  induction n with
  | zero => intro x1 s h; unfold wX10_settles_2 at h; exact h.elim
  | succ n ih =>
    intro x1 s h
    unfold wX10_settles_2 at h
    refine g_iload_n (pc := 2) F dX10_settles_2 rfl 1 rfl ?_
    refine g_iconst (pc := 3) F dX10_settles_3 ic_2 ?_
    refine g_icmp_ge (pc := 4) F 27 dX10_settles_4 (by decide) (fun c => ?_) (fun c => ?_)
    · have h := h.1 c
      exact g_weak [0] rfl (hK27 _ h)
    · have h := h.2 c
      refine g_aload_n (pc := 7) F dX10_settles_7 rfl 0 rfl ?_
      refine g_getR (pc := 8) F clX10 hx0.1 9 _ rfl (by decide) uX10_13 dX10_settles_8 ?_
      refine g_iload_n (pc := 11) F dX10_settles_11 rfl 1 rfl ?_
      refine g_aload_n (pc := 12) F dX10_settles_12 rfl 0 rfl ?_
      refine g_getR (pc := 13) F clX10 hx0.1 9 _ rfl (by decide) uX10_13 dX10_settles_13 ?_
      refine g_iconst (pc := 16) F dX10_settles_16 ic_2 ?_
      refine g_iload_n (pc := 17) F dX10_settles_17 rfl 1 rfl ?_
      refine g_iadd (pc := 18) F dX10_settles_18 ?_
      obtain ⟨hb_19, h⟩ := h
      refine g_iald (pc := 19) F hx0.2.2.1 hb_19 dX10_settles_19 ?_
      obtain ⟨hb_20, h⟩ := h
      have h := h _ rfl
      refine g_iast (pc := 20) F hx0.2.2.1 hb_20 dX10_settles_20 ?_
      refine g_iinc (pc := 21) (lv' := [(_, _), (_, _)]) F dX10_settles_21 1 rfl (congrArg _ ic_1) (by decide) rfl ?_
      refine g_goto (pc := 24) F 2 dX10_settles_24 (by decide) ?_
      exact g_weak [1, 0] rfl (ih _ _ h)
def wX10_settles_29 (x0 : Nat) (K86 : St → Prop) (Q : St → Prop) : Nat → Int32 → St → Prop
  | 0, _, _ => False
  | n + 1, x1, s =>
  (((6 : Int32) ≤ x1 → K86  s) ∧ (¬ (6 : Int32) ≤ x1 → vp_in ((6 : Int32) + x1) 12 ∧ vp_in x1 12 ∧ ∀ s_49 : St, s_49 = stI s (x0 + 3) x1.toNatClampNeg (s.1 (x0 + 3) ((6 : Int32) + x1).toNatClampNeg) → vp_in ((6 : Int32) + x1) 12 ∧ vp_in x1 12 ∧ ∀ s_64 : St, s_64 = stI s_49 (x0 + 4) x1.toNatClampNeg (s_49.1 (x0 + 4) ((6 : Int32) + x1).toNatClampNeg) → vp_in ((6 : Int32) + x1) 12 ∧ vp_in x1 12 ∧ ∀ s_79 : St, s_79 = stI s_64 (x0 + 5) x1.toNatClampNeg (s_64.1 (x0 + 5) ((6 : Int32) + x1).toNatClampNeg) → wX10_settles_29 x0 K86 Q n (x1 + (1 : Int32)) s_79))
set_option maxHeartbeats 4000000 in
set_option maxRecDepth 100000 in
theorem bX10_settles_29 {l : Launch} {V : Wv} {X : Mx} {x0 : Nat} {K86 : St → Prop} {Q : St → Prop} (F : Fx V X cX10_settles RX10 2 1) (hR : RtV l V X 2 cX10_settles Q) (hx0 : isX10 V x0) (hK86 : ∀  (s : St), K86  s → G l V X 2 86 [(0, rf V x0)] [] s) : ∀ (n : Nat) (x1 : Int32) (s : St), wX10_settles_29 x0 K86 Q n x1 s → G l V X 2 29 [(0, rf V x0), (1, .int x1)] [] s := by
  intro n
  induction n with
  | zero => intro x1 s h; unfold wX10_settles_29 at h; exact h.elim
  | succ n ih =>
    intro x1 s h
    unfold wX10_settles_29 at h
    refine g_iload_n (pc := 29) F dX10_settles_29 rfl 1 rfl ?_
    refine g_bipush (pc := 30) F dX10_settles_30 bp_6 ?_
    refine g_icmp_ge (pc := 32) F 86 dX10_settles_32 (by decide) (fun c => ?_) (fun c => ?_)
    · have h := h.1 c
      exact g_weak [0] rfl (hK86 _ h)
    · have h := h.2 c
      refine g_aload_n (pc := 35) F dX10_settles_35 rfl 0 rfl ?_
      refine g_getR (pc := 36) F clX10 hx0.1 10 _ rfl (by decide) uX10_16 dX10_settles_36 ?_
      refine g_iload_n (pc := 39) F dX10_settles_39 rfl 1 rfl ?_
      refine g_aload_n (pc := 40) F dX10_settles_40 rfl 0 rfl ?_
      refine g_getR (pc := 41) F clX10 hx0.1 10 _ rfl (by decide) uX10_16 dX10_settles_41 ?_
      refine g_bipush (pc := 44) F dX10_settles_44 bp_6 ?_
      refine g_iload_n (pc := 46) F dX10_settles_46 rfl 1 rfl ?_
      refine g_iadd (pc := 47) F dX10_settles_47 ?_
      obtain ⟨hb_48, h⟩ := h
      refine g_iald (pc := 48) F hx0.2.2.2.1 hb_48 dX10_settles_48 ?_
      obtain ⟨hb_49, h⟩ := h
      have h := h _ rfl
      refine g_iast (pc := 49) F hx0.2.2.2.1 hb_49 dX10_settles_49 ?_
      refine g_aload_n (pc := 50) F dX10_settles_50 rfl 0 rfl ?_
      refine g_getR (pc := 51) F clX10 hx0.1 11 _ rfl (by decide) uX10_19 dX10_settles_51 ?_
      refine g_iload_n (pc := 54) F dX10_settles_54 rfl 1 rfl ?_
      refine g_aload_n (pc := 55) F dX10_settles_55 rfl 0 rfl ?_
      refine g_getR (pc := 56) F clX10 hx0.1 11 _ rfl (by decide) uX10_19 dX10_settles_56 ?_
      refine g_bipush (pc := 59) F dX10_settles_59 bp_6 ?_
      refine g_iload_n (pc := 61) F dX10_settles_61 rfl 1 rfl ?_
      refine g_iadd (pc := 62) F dX10_settles_62 ?_
      obtain ⟨hb_63, h⟩ := h
      refine g_iald (pc := 63) F hx0.2.2.2.2.1 hb_63 dX10_settles_63 ?_
      obtain ⟨hb_64, h⟩ := h
      have h := h _ rfl
      refine g_iast (pc := 64) F hx0.2.2.2.2.1 hb_64 dX10_settles_64 ?_
      refine g_aload_n (pc := 65) F dX10_settles_65 rfl 0 rfl ?_
      refine g_getR (pc := 66) F clX10 hx0.1 12 _ rfl (by decide) uX10_22 dX10_settles_66 ?_
      refine g_iload_n (pc := 69) F dX10_settles_69 rfl 1 rfl ?_
      refine g_aload_n (pc := 70) F dX10_settles_70 rfl 0 rfl ?_
      refine g_getR (pc := 71) F clX10 hx0.1 12 _ rfl (by decide) uX10_22 dX10_settles_71 ?_
      refine g_bipush (pc := 74) F dX10_settles_74 bp_6 ?_
      refine g_iload_n (pc := 76) F dX10_settles_76 rfl 1 rfl ?_
      refine g_iadd (pc := 77) F dX10_settles_77 ?_
      obtain ⟨hb_78, h⟩ := h
      refine g_iald (pc := 78) F hx0.2.2.2.2.2.1 hb_78 dX10_settles_78 ?_
      obtain ⟨hb_79, h⟩ := h
      have h := h _ rfl
      refine g_iast (pc := 79) F hx0.2.2.2.2.2.1 hb_79 dX10_settles_79 ?_
      refine g_iinc (pc := 80) (lv' := [(_, _), (_, _)]) F dX10_settles_80 1 rfl (congrArg _ ic_1) (by decide) rfl ?_
      refine g_goto (pc := 83) F 29 dX10_settles_83 (by decide) ?_
      exact g_weak [1, 0] rfl (ih _ _ h)
def wX10_settles_88 (x0 : Nat) (K112 : St → Prop) (Q : St → Prop) : Nat → Int32 → St → Prop
  | 0, _, _ => False
  | n + 1, x1, s =>
  (((38 : Int32) ≤ x1 → K112  s) ∧ (¬ (38 : Int32) ≤ x1 → vp_in x1 38 ∧ vp_in x1 38 ∧ ∀ s_105 : St, s_105 = stI s (x0 + 7) x1.toNatClampNeg (s.1 (x0 + 6) x1.toNatClampNeg) → wX10_settles_88 x0 K112 Q n (x1 + (1 : Int32)) s_105))
set_option maxHeartbeats 4000000 in
set_option maxRecDepth 100000 in
theorem bX10_settles_88 {l : Launch} {V : Wv} {X : Mx} {x0 : Nat} {K112 : St → Prop} {Q : St → Prop} (F : Fx V X cX10_settles RX10 2 1) (hR : RtV l V X 2 cX10_settles Q) (hx0 : isX10 V x0) (hK112 : ∀  (s : St), K112  s → G l V X 2 112 [(0, rf V x0)] [] s) : ∀ (n : Nat) (x1 : Int32) (s : St), wX10_settles_88 x0 K112 Q n x1 s → G l V X 2 88 [(0, rf V x0), (1, .int x1)] [] s := by
  intro n
  induction n with
  | zero => intro x1 s h; unfold wX10_settles_88 at h; exact h.elim
  | succ n ih =>
    intro x1 s h
    unfold wX10_settles_88 at h
    refine g_iload_n (pc := 88) F dX10_settles_88 rfl 1 rfl ?_
    refine g_bipush (pc := 89) F dX10_settles_89 bp_38 ?_
    refine g_icmp_ge (pc := 91) F 112 dX10_settles_91 (by decide) (fun c => ?_) (fun c => ?_)
    · have h := h.1 c
      exact g_weak [0] rfl (hK112 _ h)
    · have h := h.2 c
      refine g_aload_n (pc := 94) F dX10_settles_94 rfl 0 rfl ?_
      refine g_getR (pc := 95) F clX10 hx0.1 14 _ rfl (by decide) uX10_28 dX10_settles_95 ?_
      refine g_iload_n (pc := 98) F dX10_settles_98 rfl 1 rfl ?_
      refine g_aload_n (pc := 99) F dX10_settles_99 rfl 0 rfl ?_
      refine g_getR (pc := 100) F clX10 hx0.1 13 _ rfl (by decide) uX10_25 dX10_settles_100 ?_
      refine g_iload_n (pc := 103) F dX10_settles_103 rfl 1 rfl ?_
      obtain ⟨hb_104, h⟩ := h
      refine g_iald (pc := 104) F hx0.2.2.2.2.2.2.1 hb_104 dX10_settles_104 ?_
      obtain ⟨hb_105, h⟩ := h
      have h := h _ rfl
      refine g_iast (pc := 105) F hx0.2.2.2.2.2.2.2.1 hb_105 dX10_settles_105 ?_
      refine g_iinc (pc := 106) (lv' := [(_, _), (_, _)]) F dX10_settles_106 1 rfl (congrArg _ ic_1) (by decide) rfl ?_
      refine g_goto (pc := 109) F 88 dX10_settles_109 (by decide) ?_
      exact g_weak [1, 0] rfl (ih _ _ h)
def wX10_settles_208 (rec : Int32 → St → Prop) (K218 : St → Prop) (Q : St → Prop) (x0 : Nat) (x1 : Int32) (t0 : Int32) (t1 : Int32) (t2 : Nat) (s : St) : Prop :=
  ∀ s_209 : St, s_209 = stI s t2 26 (t1 + t0) → rec (x1 + (1 : Int32)) s_209
set_option maxHeartbeats 4000000 in
set_option maxRecDepth 100000 in
theorem bX10_settles_208 {l : Launch} {V : Wv} {X : Mx} {rec : Int32 → St → Prop} {K218 : St → Prop} {Q : St → Prop} {x0 : Nat} {x1 : Int32} {t0 : Int32} {t1 : Int32} {t2 : Nat} (F : Fx V X cX10_settles RX10 2 1) (hR : RtV l V X 2 cX10_settles Q) (hx0 : isX10 V x0) (ht2 : isX10 V t2) (hrec : ∀ (y1 : Int32) (s : St), rec y1 s → G l V X 2 119 [(0, rf V x0), (1, .int y1)] [] s) (hK218 : ∀  (s : St), K218  s → G l V X 2 218 [(0, rf V x0)] [] s) {s : St} (h : wX10_settles_208 rec K218 Q x0 x1 t0 t1 t2 s) : G l V X 2 208 [(0, rf V x0), (1, .int x1)] [.int t0, .int t1, rf V t2] s := by
  unfold wX10_settles_208 at h
  refine g_iadd (pc := 208) F dX10_settles_208 ?_
  have h := h _ rfl
  refine g_putI (pc := 209) F clX10 ht2.1 26 rfl (by decide) rfl (tyX10_ok 26 (by decide)) uX10_152 dX10_settles_209 ?_
  refine g_iinc (pc := 212) (lv' := [(_, _), (_, _)]) F dX10_settles_212 1 rfl (congrArg _ ic_1) (by decide) rfl ?_
  refine g_goto (pc := 215) F 119 dX10_settles_215 (by decide) ?_
  exact g_weak [1, 0] rfl (hrec _ _ h)
def wX10_settles_178 (rec : Int32 → St → Prop) (K218 : St → Prop) (Q : St → Prop) (x0 : Nat) (x1 : Int32) (t0 : Int32) (t1 : Int32) (t2 : Nat) (s : St) : Prop :=
  vp_in t1 64 ∧ ∀ s_178 : St, s_178 = stI s t2 t1.toNatClampNeg t0 → vp_in (s_178.1 x0 26) 64 ∧ ∀ s_188 : St, s_188 = stI s_178 (x0 + 16) (s_178.1 x0 26).toNatClampNeg x1 → vp_in x1 64 ∧ (((s_188.1 (x0 + 13) x1.toNatClampNeg) = 0 → wX10_settles_208 (rec) (K218) Q x0 x1 (0 : Int32) (s_188.1 x0 26) x0 s_188) ∧ (¬ (s_188.1 (x0 + 13) x1.toNatClampNeg) = 0 → wX10_settles_208 (rec) (K218) Q x0 x1 (1 : Int32) (s_188.1 x0 26) x0 s_188))
set_option maxHeartbeats 4000000 in
set_option maxRecDepth 100000 in
theorem bX10_settles_178 {l : Launch} {V : Wv} {X : Mx} {rec : Int32 → St → Prop} {K218 : St → Prop} {Q : St → Prop} {x0 : Nat} {x1 : Int32} {t0 : Int32} {t1 : Int32} {t2 : Nat} (F : Fx V X cX10_settles RX10 2 1) (hR : RtV l V X 2 cX10_settles Q) (hx0 : isX10 V x0) (ht2 : V.2.1[t2]? = some (11, [64])) (hrec : ∀ (y1 : Int32) (s : St), rec y1 s → G l V X 2 119 [(0, rf V x0), (1, .int y1)] [] s) (hK218 : ∀  (s : St), K218  s → G l V X 2 218 [(0, rf V x0)] [] s) {s : St} (h : wX10_settles_178 rec K218 Q x0 x1 t0 t1 t2 s) : G l V X 2 178 [(0, rf V x0), (1, .int x1)] [.int t0, .int t1, rf V t2] s := by
  unfold wX10_settles_178 at h
  obtain ⟨hb_178, h⟩ := h
  have h := h _ rfl
  refine g_iast (pc := 178) F ht2 hb_178 dX10_settles_178 ?_
  refine g_aload_n (pc := 179) F dX10_settles_179 rfl 0 rfl ?_
  refine g_getR (pc := 180) F clX10 hx0.1 25 _ rfl (by decide) uX10_56 dX10_settles_180 ?_
  refine g_aload_n (pc := 183) F dX10_settles_183 rfl 0 rfl ?_
  refine g_getI (pc := 184) F clX10 hx0.1 26 rfl (by decide) uX10_152 dX10_settles_184 ?_
  refine g_iload_n (pc := 187) F dX10_settles_187 rfl 1 rfl ?_
  obtain ⟨hb_188, h⟩ := h
  have h := h _ rfl
  refine g_iast (pc := 188) F hx0.2.2.2.2.2.2.2.2.2.2.2.2.2.2.2.2.1 hb_188 dX10_settles_188 ?_
  refine g_aload_n (pc := 189) F dX10_settles_189 rfl 0 rfl ?_
  refine g_dup (pc := 190) F dX10_settles_190 rfl ?_
  refine g_getI (pc := 191) F clX10 hx0.1 26 rfl (by decide) uX10_152 dX10_settles_191 ?_
  refine g_aload_n (pc := 194) F dX10_settles_194 rfl 0 rfl ?_
  refine g_getR (pc := 195) F clX10 hx0.1 22 _ rfl (by decide) uX10_47 dX10_settles_195 ?_
  refine g_iload_n (pc := 198) F dX10_settles_198 rfl 1 rfl ?_
  obtain ⟨hb_199, h⟩ := h
  refine g_iald (pc := 199) F hx0.2.2.2.2.2.2.2.2.2.2.2.2.2.1 hb_199 dX10_settles_199 ?_
  refine g_if_eq (pc := 200) F 207 dX10_settles_200 (by decide) (fun c => ?_) (fun c => ?_)
  · have h := h.1 c
    refine g_iconst (pc := 207) F dX10_settles_207 ic_0 ?_
    exact g_weak [0, 1] rfl (bX10_settles_208 F hR hx0 hx0 hrec hK218 h)
  · have h := h.2 c
    refine g_iconst (pc := 203) F dX10_settles_203 ic_1 ?_
    refine g_goto (pc := 204) F 208 dX10_settles_204 (by decide) ?_
    exact g_weak [0, 1] rfl (bX10_settles_208 F hR hx0 hx0 hrec hK218 h)
def wX10_settles_151 (rec : Int32 → St → Prop) (K218 : St → Prop) (Q : St → Prop) (x0 : Nat) (x1 : Int32) (t0 : Int32) (t1 : Int32) (t2 : Nat) (s : St) : Prop :=
  vp_in t1 64 ∧ ∀ s_151 : St, s_151 = stI s t2 t1.toNatClampNeg t0 → ((¬ (x1 &&& (1 : Int32)) = (1 : Int32) → vp_in (x1 >>> ((1 : Int32) &&& 31)) 64 ∧ wX10_settles_178 (rec) (K218) Q x0 x1 ((1 : Int32) + (s_151.1 (x0 + 15) (x1 >>> ((1 : Int32) &&& 31)).toNatClampNeg)) x1 (x0 + 15) s_151) ∧ ((x1 &&& (1 : Int32)) = (1 : Int32) → wX10_settles_178 (rec) (K218) Q x0 x1 (0 : Int32) x1 (x0 + 15) s_151))
set_option maxHeartbeats 4000000 in
set_option maxRecDepth 100000 in
theorem bX10_settles_151 {l : Launch} {V : Wv} {X : Mx} {rec : Int32 → St → Prop} {K218 : St → Prop} {Q : St → Prop} {x0 : Nat} {x1 : Int32} {t0 : Int32} {t1 : Int32} {t2 : Nat} (F : Fx V X cX10_settles RX10 2 1) (hR : RtV l V X 2 cX10_settles Q) (hx0 : isX10 V x0) (ht2 : V.2.1[t2]? = some (11, [64])) (hrec : ∀ (y1 : Int32) (s : St), rec y1 s → G l V X 2 119 [(0, rf V x0), (1, .int y1)] [] s) (hK218 : ∀  (s : St), K218  s → G l V X 2 218 [(0, rf V x0)] [] s) {s : St} (h : wX10_settles_151 rec K218 Q x0 x1 t0 t1 t2 s) : G l V X 2 151 [(0, rf V x0), (1, .int x1)] [.int t0, .int t1, rf V t2] s := by
  unfold wX10_settles_151 at h
  obtain ⟨hb_151, h⟩ := h
  have h := h _ rfl
  refine g_iast (pc := 151) F ht2 hb_151 dX10_settles_151 ?_
  refine g_aload_n (pc := 152) F dX10_settles_152 rfl 0 rfl ?_
  refine g_getR (pc := 153) F clX10 hx0.1 24 _ rfl (by decide) uX10_53 dX10_settles_153 ?_
  refine g_iload_n (pc := 156) F dX10_settles_156 rfl 1 rfl ?_
  refine g_iload_n (pc := 157) F dX10_settles_157 rfl 1 rfl ?_
  refine g_iconst (pc := 158) F dX10_settles_158 ic_1 ?_
  refine g_iand (pc := 159) F dX10_settles_159 ?_
  refine g_iconst (pc := 160) F dX10_settles_160 ic_1 ?_
  refine g_icmp_ne (pc := 161) F 168 dX10_settles_161 (by decide) (fun c => ?_) (fun c => ?_)
  · have h := h.1 c
    refine g_iconst (pc := 168) F dX10_settles_168 ic_1 ?_
    refine g_aload_n (pc := 169) F dX10_settles_169 rfl 0 rfl ?_
    refine g_getR (pc := 170) F clX10 hx0.1 24 _ rfl (by decide) uX10_53 dX10_settles_170 ?_
    refine g_iload_n (pc := 173) F dX10_settles_173 rfl 1 rfl ?_
    refine g_iconst (pc := 174) F dX10_settles_174 ic_1 ?_
    refine g_ishr (pc := 175) F dX10_settles_175 ?_
    obtain ⟨hb_176, h⟩ := h
    refine g_iald (pc := 176) F hx0.2.2.2.2.2.2.2.2.2.2.2.2.2.2.2.1 hb_176 dX10_settles_176 ?_
    refine g_iadd (pc := 177) F dX10_settles_177 ?_
    exact g_weak [0, 1] rfl (bX10_settles_178 F hR hx0 hx0.2.2.2.2.2.2.2.2.2.2.2.2.2.2.2.1 hrec hK218 h)
  · have h := h.2 c
    refine g_iconst (pc := 164) F dX10_settles_164 ic_0 ?_
    refine g_goto (pc := 165) F 178 dX10_settles_165 (by decide) ?_
    exact g_weak [0, 1] rfl (bX10_settles_178 F hR hx0 hx0.2.2.2.2.2.2.2.2.2.2.2.2.2.2.2.1 hrec hK218 h)
def wX10_settles_119 (x0 : Nat) (K218 : St → Prop) (Q : St → Prop) : Nat → Int32 → St → Prop
  | 0, _, _ => False
  | n + 1, x1, s =>
  (((64 : Int32) ≤ x1 → K218  s) ∧ (¬ (64 : Int32) ≤ x1 → vp_in (1 : Int32) 4 ∧ ((((1 : Int32) <<< ((s.1 (x0 + 2) (1 : Int32).toNatClampNeg) &&& 31)) ≤ x1 → wX10_settles_151 (wX10_settles_119 x0 K218 Q n) (K218) Q x0 x1 (0 : Int32) x1 (x0 + 13) s) ∧ (¬ ((1 : Int32) <<< ((s.1 (x0 + 2) (1 : Int32).toNatClampNeg) &&& 31)) ≤ x1 → wX10_endsOf x0 x1 s (fun r_144 s_144 => wX10_settles_151 (wX10_settles_119 x0 K218 Q n) (K218) Q x0 x1 r_144 x1 (x0 + 13) s_144)))))
set_option maxHeartbeats 4000000 in
set_option maxRecDepth 100000 in
theorem bX10_settles_119 {l : Launch} {V : Wv} {X : Mx} {x0 : Nat} {K218 : St → Prop} {Q : St → Prop} (F : Fx V X cX10_settles RX10 2 1) (hR : RtV l V X 2 cX10_settles Q) (hx0 : isX10 V x0) (hK218 : ∀  (s : St), K218  s → G l V X 2 218 [(0, rf V x0)] [] s) : ∀ (n : Nat) (x1 : Int32) (s : St), wX10_settles_119 x0 K218 Q n x1 s → G l V X 2 119 [(0, rf V x0), (1, .int x1)] [] s := by
  intro n
  induction n with
  | zero => intro x1 s h; unfold wX10_settles_119 at h; exact h.elim
  | succ n ih =>
    intro x1 s h
    unfold wX10_settles_119 at h
    refine g_iload_n (pc := 119) F dX10_settles_119 rfl 1 rfl ?_
    refine g_bipush (pc := 120) F dX10_settles_120 bp_64 ?_
    refine g_icmp_ge (pc := 122) F 218 dX10_settles_122 (by decide) (fun c => ?_) (fun c => ?_)
    · have h := h.1 c
      exact g_weak [0] rfl (hK218 _ h)
    · have h := h.2 c
      refine g_aload_n (pc := 125) F dX10_settles_125 rfl 0 rfl ?_
      refine g_getR (pc := 126) F clX10 hx0.1 22 _ rfl (by decide) uX10_47 dX10_settles_126 ?_
      refine g_iload_n (pc := 129) F dX10_settles_129 rfl 1 rfl ?_
      refine g_iload_n (pc := 130) F dX10_settles_130 rfl 1 rfl ?_
      refine g_iconst (pc := 131) F dX10_settles_131 ic_1 ?_
      refine g_aload_n (pc := 132) F dX10_settles_132 rfl 0 rfl ?_
      refine g_getR (pc := 133) F clX10 hx0.1 9 _ rfl (by decide) uX10_13 dX10_settles_133 ?_
      refine g_iconst (pc := 136) F dX10_settles_136 ic_1 ?_
      obtain ⟨hb_137, h⟩ := h
      refine g_iald (pc := 137) F hx0.2.2.1 hb_137 dX10_settles_137 ?_
      refine g_ishl (pc := 138) F dX10_settles_138 ?_
      refine g_icmp_ge (pc := 139) F 150 dX10_settles_139 (by decide) (fun c => ?_) (fun c => ?_)
      · have h := h.1 c
        refine g_iconst (pc := 150) F dX10_settles_150 ic_0 ?_
        exact g_weak [0, 1] rfl (bX10_settles_151 F hR hx0 hx0.2.2.2.2.2.2.2.2.2.2.2.2.2.1 ih hK218 h)
      · have h := h.2 c
        refine g_aload_n (pc := 142) F dX10_settles_142 rfl 0 rfl ?_
        refine g_iload_n (pc := 143) F dX10_settles_143 rfl 1 rfl ?_
        refine g_callVi (pc := 144) F (mX10_endsOf hx0 h) mvX10_endsOf uX10_155 (by decide) clX10 hx0.1 rfl rfl (Nat.le_of_ble_eq_true rfl) dX10_settles_144 (fun r_144 s_144 h => ?_)
        refine g_goto (pc := 147) F 151 dX10_settles_147 (by decide) ?_
        exact g_weak [0, 1] rfl (bX10_settles_151 F hR hx0 hx0.2.2.2.2.2.2.2.2.2.2.2.2.2.1 ih hK218 h)
def wX10_settles (x0 : Nat) (s : St) (Q : St → Prop) : Prop :=
  (∃ k_2, wX10_settles_2  x0 (fun  s_k27 => (∃ k_29, wX10_settles_29  x0 (fun  s_k86 => (∃ k_88, wX10_settles_88  x0 (fun  s_k112 => ∀ s_114 : St, s_114 = stI s_k112 x0 26 (0 : Int32) → (∃ k_119, wX10_settles_119  x0 (fun  s_k218 => ∀ s_220 : St, s_220 = stI s_k218 x0 3 (0 : Int32) → ∀ s_225 : St, s_225 = stI s_220 x0 21 (0 : Int32) → ∀ s_230 : St, s_230 = stI s_225 x0 18 (0 : Int32) → vp_in (0 : Int32) 2 ∧ ∀ s_239 : St, s_239 = stI s_230 (x0 + 9) (0 : Int32).toNatClampNeg (0 : Int32) → vp_in (1 : Int32) 2 ∧ ∀ s_246 : St, s_246 = stI s_239 (x0 + 9) (1 : Int32).toNatClampNeg (0 : Int32) → Q s_246) Q k_119 (1 : Int32) s_114)) Q k_88 (0 : Int32) s_k86)) Q k_29 (0 : Int32) s_k27)) Q k_2 (0 : Int32) s)
set_option maxHeartbeats 4000000 in
set_option maxRecDepth 100000 in
theorem mX10_settles {l : Launch} {V : Wv} {x0 : Nat} {s : St} {Q : St → Prop} (hx0 : isX10 V x0) (h : wX10_settles x0 s Q) : Cv yX10_settles cX10_settles 2 (1) l V [rf V x0] s Q := by
  unfold wX10_settles at h
  refine Cv.of mvX10_settles.1 (Nat.le_of_ble_eq_true rfl) (fun X F hR => ?_)
  refine g_lv (lv' := [(_, _)]) rfl ?_
  refine g_iconst (pc := 0) F dX10_settles_0 ic_0 ?_
  refine g_istore_n (pc := 1) (lv' := [(_, _), (_, _)]) F dX10_settles_1 rfl (by decide) rfl ?_
  obtain ⟨k_2, h⟩ := h
  refine g_weak [1, 0] rfl (bX10_settles_2 F hR hx0 (fun  s_k27 h => ?_) k_2 _ _ h)
  · refine g_iconst (pc := 27) F dX10_settles_27 ic_0 ?_
    refine g_istore_n (pc := 28) (lv' := [(_, _), (_, _)]) F dX10_settles_28 rfl (by decide) rfl ?_
    obtain ⟨k_29, h⟩ := h
    refine g_weak [1, 0] rfl (bX10_settles_29 F hR hx0 (fun  s_k86 h => ?_) k_29 _ _ h)
    · refine g_iconst (pc := 86) F dX10_settles_86 ic_0 ?_
      refine g_istore_n (pc := 87) (lv' := [(_, _), (_, _)]) F dX10_settles_87 rfl (by decide) rfl ?_
      obtain ⟨k_88, h⟩ := h
      refine g_weak [1, 0] rfl (bX10_settles_88 F hR hx0 (fun  s_k112 h => ?_) k_88 _ _ h)
      · refine g_aload_n (pc := 112) F dX10_settles_112 rfl 0 rfl ?_
        refine g_iconst (pc := 113) F dX10_settles_113 ic_0 ?_
        have h := h _ rfl
        refine g_putI (pc := 114) F clX10 hx0.1 26 rfl (by decide) rfl (tyX10_ok 26 (by decide)) uX10_152 dX10_settles_114 ?_
        refine g_iconst (pc := 117) F dX10_settles_117 ic_1 ?_
        refine g_istore_n (pc := 118) (lv' := [(_, _), (_, _)]) F dX10_settles_118 rfl (by decide) rfl ?_
        obtain ⟨k_119, h⟩ := h
        refine g_weak [1, 0] rfl (bX10_settles_119 F hR hx0 (fun  s_k218 h => ?_) k_119 _ _ h)
        · refine g_aload_n (pc := 218) F dX10_settles_218 rfl 0 rfl ?_
          refine g_iconst (pc := 219) F dX10_settles_219 ic_0 ?_
          have h := h _ rfl
          refine g_putI (pc := 220) F clX10 hx0.1 3 rfl (by decide) rfl (tyX10_ok 3 (by decide)) uX10_97 dX10_settles_220 ?_
          refine g_aload_n (pc := 223) F dX10_settles_223 rfl 0 rfl ?_
          refine g_iconst (pc := 224) F dX10_settles_224 ic_0 ?_
          have h := h _ rfl
          refine g_putI (pc := 225) F clX10 hx0.1 21 rfl (by decide) rfl (tyX10_ok 21 (by decide)) uX10_158 dX10_settles_225 ?_
          refine g_aload_n (pc := 228) F dX10_settles_228 rfl 0 rfl ?_
          refine g_iconst (pc := 229) F dX10_settles_229 ic_0 ?_
          have h := h _ rfl
          refine g_putI (pc := 230) F clX10 hx0.1 18 rfl (by decide) rfl (tyX10_ok 18 (by decide)) uX10_161 dX10_settles_230 ?_
          refine g_aload_n (pc := 233) F dX10_settles_233 rfl 0 rfl ?_
          refine g_getR (pc := 234) F clX10 hx0.1 16 _ rfl (by decide) uX10_34 dX10_settles_234 ?_
          refine g_iconst (pc := 237) F dX10_settles_237 ic_0 ?_
          refine g_iconst (pc := 238) F dX10_settles_238 ic_0 ?_
          obtain ⟨hb_239, h⟩ := h
          have h := h _ rfl
          refine g_zast (pc := 239) F hx0.2.2.2.2.2.2.2.2.2.1 hb_239 (by decide) dX10_settles_239 ?_
          refine g_aload_n (pc := 240) F dX10_settles_240 rfl 0 rfl ?_
          refine g_getR (pc := 241) F clX10 hx0.1 16 _ rfl (by decide) uX10_34 dX10_settles_241 ?_
          refine g_iconst (pc := 244) F dX10_settles_244 ic_1 ?_
          refine g_iconst (pc := 245) F dX10_settles_245 ic_0 ?_
          obtain ⟨hb_246, h⟩ := h
          have h := h _ rfl
          refine g_zast (pc := 246) F hx0.2.2.2.2.2.2.2.2.2.1 hb_246 (by decide) dX10_settles_246 ?_
          exact hR _ _ _ dX10_settles_247 h
def wX10_land_153 (rec : Int32 → St → Prop) (K163 : Int32 → St → Prop) (Q : Int32 → St → Prop) (x0 : Nat) (x1 : Int32) (t0 : Int32) (t1 : Nat) (s : St) : Prop :=
  wX10_takes t1 t0 s (fun r_153 s_153 => rec (x1 + (1 : Int32)) s_153)
set_option maxHeartbeats 4000000 in
set_option maxRecDepth 100000 in
theorem bX10_land_153 {l : Launch} {V : Wv} {X : Mx} {rec : Int32 → St → Prop} {K163 : Int32 → St → Prop} {Q : Int32 → St → Prop} {x0 : Nat} {x1 : Int32} {t0 : Int32} {t1 : Nat} (F : Fx V X cX10_land RX10 4 6) (hR : RtI l V X 4 cX10_land Q) (hx0 : isX10 V x0) (ht1 : isX10 V t1) (hrec : ∀ (y1 : Int32) (s : St), rec y1 s → G l V X 4 25 [(0, rf V x0), (1, .int y1)] [] s) (hK163 : ∀ (y1 : Int32) (s : St), K163 y1 s → G l V X 4 163 [(0, rf V x0), (1, .int y1)] [] s) {s : St} (h : wX10_land_153 rec K163 Q x0 x1 t0 t1 s) : G l V X 4 153 [(0, rf V x0), (1, .int x1)] [.int t0, rf V t1] s := by
  unfold wX10_land_153 at h
  refine g_callVi (pc := 153) F (mX10_takes ht1 h) mvX10_takes uX10_126 (by decide) clX10 ht1.1 rfl rfl (Nat.le_of_ble_eq_true rfl) dX10_land_153 (fun r_153 s_153 h => ?_)
  refine g_pop (pc := 156) F dX10_land_156 rfl ?_
  refine g_iinc (pc := 157) (lv' := [(_, _), (_, _)]) F dX10_land_157 1 rfl (congrArg _ ic_1) (by decide) rfl ?_
  refine g_goto (pc := 160) F 25 dX10_land_160 (by decide) ?_
  exact g_weak [1, 0] rfl (hrec _ _ h)
def wX10_land_139 (rec : Int32 → St → Prop) (K163 : Int32 → St → Prop) (Q : Int32 → St → Prop) (x0 : Nat) (x1 : Int32) (s : St) : Prop :=
  ((¬ (s.1 x0 5) = (3 : Int32) → wX10_land_153 (rec) (K163) Q x0 x1 (0 : Int32) x0 s) ∧ ((s.1 x0 5) = (3 : Int32) → wX10_land_153 (rec) (K163) Q x0 x1 (1 : Int32) x0 s))
set_option maxHeartbeats 4000000 in
set_option maxRecDepth 100000 in
theorem bX10_land_139 {l : Launch} {V : Wv} {X : Mx} {rec : Int32 → St → Prop} {K163 : Int32 → St → Prop} {Q : Int32 → St → Prop} {x0 : Nat} {x1 : Int32} (F : Fx V X cX10_land RX10 4 6) (hR : RtI l V X 4 cX10_land Q) (hx0 : isX10 V x0) (hrec : ∀ (y1 : Int32) (s : St), rec y1 s → G l V X 4 25 [(0, rf V x0), (1, .int y1)] [] s) (hK163 : ∀ (y1 : Int32) (s : St), K163 y1 s → G l V X 4 163 [(0, rf V x0), (1, .int y1)] [] s) {s : St} (h : wX10_land_139 rec K163 Q x0 x1 s) : G l V X 4 139 [(0, rf V x0), (1, .int x1)] [] s := by
  unfold wX10_land_139 at h
  refine g_aload_n (pc := 139) F dX10_land_139 rfl 0 rfl ?_
  refine g_aload_n (pc := 140) F dX10_land_140 rfl 0 rfl ?_
  refine g_getI (pc := 141) F clX10 hx0.1 5 rfl (by decide) uX10_110 dX10_land_141 ?_
  refine g_iconst (pc := 144) F dX10_land_144 ic_3 ?_
  refine g_icmp_ne (pc := 145) F 152 dX10_land_145 (by decide) (fun c => ?_) (fun c => ?_)
  · have h := h.1 c
    refine g_iconst (pc := 152) F dX10_land_152 ic_0 ?_
    exact g_weak [0, 1] rfl (bX10_land_153 F hR hx0 hx0 hrec hK163 h)
  · have h := h.2 c
    refine g_iconst (pc := 148) F dX10_land_148 ic_1 ?_
    refine g_goto (pc := 149) F 153 dX10_land_149 (by decide) ?_
    exact g_weak [0, 1] rfl (bX10_land_153 F hR hx0 hx0 hrec hK163 h)
def wX10_land_123 (rec : Int32 → St → Prop) (K163 : Int32 → St → Prop) (Q : Int32 → St → Prop) (x0 : Nat) (x1 : Int32) (t0 : Int32) (t1 : Nat) (s : St) : Prop :=
  wX10_takes t1 t0 s (fun r_123 s_123 => wX10_isWell x0 s_123 (fun r_128 s_128 => ((r_128 = 0 → wX10_land_139 (rec) (K163) Q x0 x1 s_128) ∧ (¬ r_128 = 0 → wX10_readsItem x0 r_123 s_128 (fun s_136 => wX10_land_139 (rec) (K163) Q x0 x1 s_136)))))
set_option maxHeartbeats 4000000 in
set_option maxRecDepth 100000 in
theorem bX10_land_123 {l : Launch} {V : Wv} {X : Mx} {rec : Int32 → St → Prop} {K163 : Int32 → St → Prop} {Q : Int32 → St → Prop} {x0 : Nat} {x1 : Int32} {t0 : Int32} {t1 : Nat} (F : Fx V X cX10_land RX10 4 6) (hR : RtI l V X 4 cX10_land Q) (hx0 : isX10 V x0) (ht1 : isX10 V t1) (hrec : ∀ (y1 : Int32) (s : St), rec y1 s → G l V X 4 25 [(0, rf V x0), (1, .int y1)] [] s) (hK163 : ∀ (y1 : Int32) (s : St), K163 y1 s → G l V X 4 163 [(0, rf V x0), (1, .int y1)] [] s) {s : St} (h : wX10_land_123 rec K163 Q x0 x1 t0 t1 s) : G l V X 4 123 [(0, rf V x0), (1, .int x1)] [.int t0, rf V t1] s := by
  unfold wX10_land_123 at h
  refine g_callVi (pc := 123) F (mX10_takes ht1 h) mvX10_takes uX10_126 (by decide) clX10 ht1.1 rfl rfl (Nat.le_of_ble_eq_true rfl) dX10_land_123 (fun r_123 s_123 h => ?_)
  refine g_istore_n (pc := 126) (lv' := [(_, _), (_, _), (_, _)]) F dX10_land_126 rfl (by decide) rfl ?_
  refine g_aload_n (pc := 127) F dX10_land_127 rfl 1 rfl ?_
  refine g_callVi (pc := 128) F (mX10_isWell hx0 h) mvX10_isWell uX10_119 (by decide) clX10 hx0.1 rfl rfl (Nat.le_of_ble_eq_true rfl) dX10_land_128 (fun r_128 s_128 h => ?_)
  refine g_if_eq (pc := 131) F 139 dX10_land_131 (by decide) (fun c => ?_) (fun c => ?_)
  · have h := h.1 c
    exact g_weak [1, 2] rfl (bX10_land_139 F hR hx0 hrec hK163 h)
  · have h := h.2 c
    refine g_aload_n (pc := 134) F dX10_land_134 rfl 1 rfl ?_
    refine g_iload_n (pc := 135) F dX10_land_135 rfl 0 rfl ?_
    refine g_callVv (pc := 136) F (mX10_readsItem hx0 h) mvX10_readsItem uX10_148 (by decide) clX10 hx0.1 rfl rfl (Nat.le_of_ble_eq_true rfl) dX10_land_136 (fun s_136 h => ?_)
    exact g_weak [1, 2] rfl (bX10_land_139 F hR hx0 hrec hK163 h)
def wX10_land_122 (rec : Int32 → St → Prop) (K163 : Int32 → St → Prop) (Q : Int32 → St → Prop) (x0 : Nat) (x1 : Int32) (t0 : Nat) (s : St) : Prop :=
  wX10_land_123 (rec) (K163) Q x0 x1 (0 : Int32) t0 s
set_option maxHeartbeats 4000000 in
set_option maxRecDepth 100000 in
theorem bX10_land_122 {l : Launch} {V : Wv} {X : Mx} {rec : Int32 → St → Prop} {K163 : Int32 → St → Prop} {Q : Int32 → St → Prop} {x0 : Nat} {x1 : Int32} {t0 : Nat} (F : Fx V X cX10_land RX10 4 6) (hR : RtI l V X 4 cX10_land Q) (hx0 : isX10 V x0) (ht0 : isX10 V t0) (hrec : ∀ (y1 : Int32) (s : St), rec y1 s → G l V X 4 25 [(0, rf V x0), (1, .int y1)] [] s) (hK163 : ∀ (y1 : Int32) (s : St), K163 y1 s → G l V X 4 163 [(0, rf V x0), (1, .int y1)] [] s) {s : St} (h : wX10_land_122 rec K163 Q x0 x1 t0 s) : G l V X 4 122 [(0, rf V x0), (1, .int x1)] [rf V t0] s := by
  unfold wX10_land_122 at h
  refine g_iconst (pc := 122) F dX10_land_122 ic_0 ?_
  exact g_weak [0, 1] rfl (bX10_land_123 F hR hx0 ht0 hrec hK163 h)
def wX10_land_104 (rec : Int32 → St → Prop) (K163 : Int32 → St → Prop) (Q : Int32 → St → Prop) (x0 : Nat) (x1 : Int32) (t0 : Int32) (s : St) : Prop :=
  ((¬ (s.1 x0 5) = (1 : Int32) → wX10_land_122 (rec) (K163) Q x0 x1 x0 s) ∧ ((s.1 x0 5) = (1 : Int32) → ((t0 = 0 → wX10_land_122 (rec) (K163) Q x0 x1 x0 s) ∧ (¬ t0 = 0 → wX10_land_123 (rec) (K163) Q x0 x1 (1 : Int32) x0 s))))
set_option maxHeartbeats 4000000 in
set_option maxRecDepth 100000 in
theorem bX10_land_104 {l : Launch} {V : Wv} {X : Mx} {rec : Int32 → St → Prop} {K163 : Int32 → St → Prop} {Q : Int32 → St → Prop} {x0 : Nat} {x1 : Int32} {t0 : Int32} (F : Fx V X cX10_land RX10 4 6) (hR : RtI l V X 4 cX10_land Q) (hx0 : isX10 V x0) (hrec : ∀ (y1 : Int32) (s : St), rec y1 s → G l V X 4 25 [(0, rf V x0), (1, .int y1)] [] s) (hK163 : ∀ (y1 : Int32) (s : St), K163 y1 s → G l V X 4 163 [(0, rf V x0), (1, .int y1)] [] s) {s : St} (h : wX10_land_104 rec K163 Q x0 x1 t0 s) : G l V X 4 104 [(0, rf V x0), (1, .int x1)] [.int t0] s := by
  unfold wX10_land_104 at h
  refine g_istore_n (pc := 104) (lv' := [(_, _), (_, _), (_, _)]) F dX10_land_104 rfl (by decide) rfl ?_
  refine g_aload_n (pc := 105) F dX10_land_105 rfl 1 rfl ?_
  refine g_aload_n (pc := 106) F dX10_land_106 rfl 1 rfl ?_
  refine g_getI (pc := 107) F clX10 hx0.1 5 rfl (by decide) uX10_110 dX10_land_107 ?_
  refine g_iconst (pc := 110) F dX10_land_110 ic_1 ?_
  refine g_icmp_ne (pc := 111) F 122 dX10_land_111 (by decide) (fun c => ?_) (fun c => ?_)
  · have h := h.1 c
    exact g_weak [1, 2] rfl (bX10_land_122 F hR hx0 hx0 hrec hK163 h)
  · have h := h.2 c
    refine g_iload_n (pc := 114) F dX10_land_114 rfl 0 rfl ?_
    refine g_if_eq (pc := 115) F 122 dX10_land_115 (by decide) (fun c => ?_) (fun c => ?_)
    · have h := h.1 c
      exact g_weak [1, 2] rfl (bX10_land_122 F hR hx0 hx0 hrec hK163 h)
    · have h := h.2 c
      refine g_iconst (pc := 118) F dX10_land_118 ic_1 ?_
      refine g_goto (pc := 119) F 123 dX10_land_119 (by decide) ?_
      exact g_weak [1, 2] rfl (bX10_land_123 F hR hx0 hx0 hrec hK163 h)
def wX10_land_25 (x0 : Nat) (K163 : Int32 → St → Prop) (Q : Int32 → St → Prop) : Nat → Int32 → St → Prop
  | 0, _, _ => False
  | n + 1, x1, s =>
  wX10_isWell x0 s (fun r_26 s_26 => ((r_26 = 0 → K163 x1 s_26) ∧ (¬ r_26 = 0 → (((s_26.1 x0 5) = 0 → K163 x1 s_26) ∧ (¬ (s_26.1 x0 5) = 0 → ((¬ (s_26.1 x0 7) = (110 : Int32) → ((¬ (s_26.1 x0 7) = (108 : Int32) → vp_in (6 : Int32) 38 ∧ (((4 : Int32) ≤ (s_26.1 (x0 + 6) (6 : Int32).toNatClampNeg) → wX10_land_104 (wX10_land_25 x0 K163 Q n) (K163) Q x0 x1 (0 : Int32) s_26) ∧ (¬ (4 : Int32) ≤ (s_26.1 (x0 + 6) (6 : Int32).toNatClampNeg) → wX10_land_104 (wX10_land_25 x0 K163 Q n) (K163) Q x0 x1 (1 : Int32) s_26))) ∧ ((s_26.1 x0 7) = (108 : Int32) → vp_in (3 : Int32) 4 ∧ (((6 : Int32) ≤ (s_26.1 (x0 + 2) (3 : Int32).toNatClampNeg) → wX10_land_104 (wX10_land_25 x0 K163 Q n) (K163) Q x0 x1 (0 : Int32) s_26) ∧ (¬ (6 : Int32) ≤ (s_26.1 (x0 + 2) (3 : Int32).toNatClampNeg) → wX10_land_104 (wX10_land_25 x0 K163 Q n) (K163) Q x0 x1 (1 : Int32) s_26))))) ∧ ((s_26.1 x0 7) = (110 : Int32) → ((¬ x1 = 0 → wX10_land_104 (wX10_land_25 x0 K163 Q n) (K163) Q x0 x1 (0 : Int32) s_26) ∧ (x1 = 0 → wX10_land_104 (wX10_land_25 x0 K163 Q n) (K163) Q x0 x1 (1 : Int32) s_26)))))))))
set_option maxHeartbeats 4000000 in
set_option maxRecDepth 100000 in
theorem bX10_land_25 {l : Launch} {V : Wv} {X : Mx} {x0 : Nat} {K163 : Int32 → St → Prop} {Q : Int32 → St → Prop} (F : Fx V X cX10_land RX10 4 6) (hR : RtI l V X 4 cX10_land Q) (hx0 : isX10 V x0) (hK163 : ∀ (y1 : Int32) (s : St), K163 y1 s → G l V X 4 163 [(0, rf V x0), (1, .int y1)] [] s) : ∀ (n : Nat) (x1 : Int32) (s : St), wX10_land_25 x0 K163 Q n x1 s → G l V X 4 25 [(0, rf V x0), (1, .int x1)] [] s := by
  intro n
  induction n with
  | zero => intro x1 s h; unfold wX10_land_25 at h; exact h.elim
  | succ n ih =>
    intro x1 s h
    unfold wX10_land_25 at h
    refine g_aload_n (pc := 25) F dX10_land_25 rfl 0 rfl ?_
    refine g_callVi (pc := 26) F (mX10_isWell hx0 h) mvX10_isWell uX10_119 (by decide) clX10 hx0.1 rfl rfl (Nat.le_of_ble_eq_true rfl) dX10_land_26 (fun r_26 s_26 h => ?_)
    refine g_if_eq (pc := 29) F 163 dX10_land_29 (by decide) (fun c => ?_) (fun c => ?_)
    · have h := h.1 c
      exact g_weak [0, 1] rfl (hK163 _ _ h)
    · have h := h.2 c
      refine g_aload_n (pc := 32) F dX10_land_32 rfl 0 rfl ?_
      refine g_getI (pc := 33) F clX10 hx0.1 5 rfl (by decide) uX10_110 dX10_land_33 ?_
      refine g_if_eq (pc := 36) F 163 dX10_land_36 (by decide) (fun c => ?_) (fun c => ?_)
      · have h := h.1 c
        exact g_weak [0, 1] rfl (hK163 _ _ h)
      · have h := h.2 c
        refine g_aload_n (pc := 39) F dX10_land_39 rfl 0 rfl ?_
        refine g_getI (pc := 40) F clX10 hx0.1 7 rfl (by decide) uX10_113 dX10_land_40 ?_
        refine g_bipush (pc := 43) F dX10_land_43 bp_110 ?_
        refine g_icmp_ne (pc := 45) F 60 dX10_land_45 (by decide) (fun c => ?_) (fun c => ?_)
        · have h := h.1 c
          refine g_aload_n (pc := 60) F dX10_land_60 rfl 0 rfl ?_
          refine g_getI (pc := 61) F clX10 hx0.1 7 rfl (by decide) uX10_113 dX10_land_61 ?_
          refine g_bipush (pc := 64) F dX10_land_64 bp_108 ?_
          refine g_icmp_ne (pc := 66) F 88 dX10_land_66 (by decide) (fun c => ?_) (fun c => ?_)
          · have h := h.1 c
            refine g_aload_n (pc := 88) F dX10_land_88 rfl 0 rfl ?_
            refine g_getR (pc := 89) F clX10 hx0.1 13 _ rfl (by decide) uX10_25 dX10_land_89 ?_
            refine g_bipush (pc := 92) F dX10_land_92 bp_6 ?_
            obtain ⟨hb_94, h⟩ := h
            refine g_iald (pc := 94) F hx0.2.2.2.2.2.2.1 hb_94 dX10_land_94 ?_
            refine g_iconst (pc := 95) F dX10_land_95 ic_4 ?_
            refine g_icmp_ge (pc := 96) F 103 dX10_land_96 (by decide) (fun c => ?_) (fun c => ?_)
            · have h := h.1 c
              refine g_iconst (pc := 103) F dX10_land_103 ic_0 ?_
              exact g_weak [0, 1] rfl (bX10_land_104 F hR hx0 ih hK163 h)
            · have h := h.2 c
              refine g_iconst (pc := 99) F dX10_land_99 ic_1 ?_
              refine g_goto (pc := 100) F 104 dX10_land_100 (by decide) ?_
              exact g_weak [0, 1] rfl (bX10_land_104 F hR hx0 ih hK163 h)
          · have h := h.2 c
            refine g_aload_n (pc := 69) F dX10_land_69 rfl 0 rfl ?_
            refine g_getR (pc := 70) F clX10 hx0.1 9 _ rfl (by decide) uX10_13 dX10_land_70 ?_
            refine g_iconst (pc := 73) F dX10_land_73 ic_3 ?_
            obtain ⟨hb_74, h⟩ := h
            refine g_iald (pc := 74) F hx0.2.2.1 hb_74 dX10_land_74 ?_
            refine g_bipush (pc := 75) F dX10_land_75 bp_6 ?_
            refine g_icmp_ge (pc := 77) F 84 dX10_land_77 (by decide) (fun c => ?_) (fun c => ?_)
            · have h := h.1 c
              refine g_iconst (pc := 84) F dX10_land_84 ic_0 ?_
              refine g_goto (pc := 85) F 104 dX10_land_85 (by decide) ?_
              exact g_weak [0, 1] rfl (bX10_land_104 F hR hx0 ih hK163 h)
            · have h := h.2 c
              refine g_iconst (pc := 80) F dX10_land_80 ic_1 ?_
              refine g_goto (pc := 81) F 104 dX10_land_81 (by decide) ?_
              exact g_weak [0, 1] rfl (bX10_land_104 F hR hx0 ih hK163 h)
        · have h := h.2 c
          refine g_iload_n (pc := 48) F dX10_land_48 rfl 1 rfl ?_
          refine g_if_ne (pc := 49) F 56 dX10_land_49 (by decide) (fun c => ?_) (fun c => ?_)
          · have h := h.1 c
            refine g_iconst (pc := 56) F dX10_land_56 ic_0 ?_
            refine g_goto (pc := 57) F 104 dX10_land_57 (by decide) ?_
            exact g_weak [0, 1] rfl (bX10_land_104 F hR hx0 ih hK163 h)
          · have h := h.2 c
            refine g_iconst (pc := 52) F dX10_land_52 ic_1 ?_
            refine g_goto (pc := 53) F 104 dX10_land_53 (by decide) ?_
            exact g_weak [0, 1] rfl (bX10_land_104 F hR hx0 ih hK163 h)
def wX10_land (x0 : Nat) (s : St) (Q : Int32 → St → Prop) : Prop :=
  ∀ s_2 : St, s_2 = stI s x0 0 (0 : Int32) → ∀ s_7 : St, s_7 = stI s_2 x0 8 (-1 : Int32) → ∀ s_12 : St, s_12 = stI s_7 x0 4 (0 : Int32) → wX10_begins x0 s_12 (fun s_16 => wX10_advances x0 s_16 (fun s_22 => (∃ k_25, wX10_land_25  x0 (fun x1_163 s_k163 => wX10_isWell x0 s_k163 (fun r_164 s_164 => ((¬ r_164 = 0 → wX10_settles x0 s_164 (fun s_179 => Q x1_163 s_179)) ∧ (r_164 = 0 → Q ((-10 : Int32) - (s_164.1 x0 8)) s_164)))) Q k_25 (0 : Int32) s_22)))
set_option maxHeartbeats 4000000 in
set_option maxRecDepth 100000 in
theorem mX10_land {l : Launch} {V : Wv} {x0 : Nat} {s : St} {Q : Int32 → St → Prop} (hx0 : isX10 V x0) (h : wX10_land x0 s Q) : Ci yX10_land cX10_land 4 (some .int) (6) l V [rf V x0] s Q := by
  unfold wX10_land at h
  refine Ci.of mvX10_land.1 (Nat.le_of_ble_eq_true rfl) (fun X F hR => ?_)
  refine g_lv (lv' := [(_, _)]) rfl ?_
  refine g_aload_n (pc := 0) F dX10_land_0 rfl 0 rfl ?_
  refine g_iconst (pc := 1) F dX10_land_1 ic_0 ?_
  have h := h _ rfl
  refine g_putI (pc := 2) F clX10 hx0.1 0 rfl (by decide) rfl (tyX10_ok 0 (by decide)) uX10_89 dX10_land_2 ?_
  refine g_aload_n (pc := 5) F dX10_land_5 rfl 0 rfl ?_
  refine g_iconst (pc := 6) F dX10_land_6 ic_m1 ?_
  have h := h _ rfl
  refine g_putI (pc := 7) F clX10 hx0.1 8 rfl (by decide) rfl (tyX10_ok 8 (by decide)) uX10_116 dX10_land_7 ?_
  refine g_aload_n (pc := 10) F dX10_land_10 rfl 0 rfl ?_
  refine g_iconst (pc := 11) F dX10_land_11 ic_0 ?_
  have h := h _ rfl
  refine g_putI (pc := 12) F clX10 hx0.1 4 rfl (by decide) rfl (tyX10_ok 4 (by decide)) uX10_100 dX10_land_12 ?_
  refine g_aload_n (pc := 15) F dX10_land_15 rfl 0 rfl ?_
  refine g_callVv (pc := 16) F (mX10_begins hx0 h) mvX10_begins uX10_83 (by decide) clX10 hx0.1 rfl rfl (Nat.le_of_ble_eq_true rfl) dX10_land_16 (fun s_16 h => ?_)
  refine g_iconst (pc := 19) F dX10_land_19 ic_0 ?_
  refine g_istore_n (pc := 20) (lv' := [(_, _), (_, _)]) F dX10_land_20 rfl (by decide) rfl ?_
  refine g_aload_n (pc := 21) F dX10_land_21 rfl 1 rfl ?_
  refine g_callVv (pc := 22) F (mX10_advances hx0 h) mvX10_advances uX10_123 (by decide) clX10 hx0.1 rfl rfl (Nat.le_of_ble_eq_true rfl) dX10_land_22 (fun s_22 h => ?_)
  obtain ⟨k_25, h⟩ := h
  refine g_weak [1, 0] rfl (bX10_land_25 F hR hx0 (fun x1_163 s_k163 h => ?_) k_25 _ _ h)
  · refine g_aload_n (pc := 163) F dX10_land_163 rfl 0 rfl ?_
    refine g_callVi (pc := 164) F (mX10_isWell hx0 h) mvX10_isWell uX10_119 (by decide) clX10 hx0.1 rfl rfl (Nat.le_of_ble_eq_true rfl) dX10_land_164 (fun r_164 s_164 h => ?_)
    refine g_if_ne (pc := 167) F 178 dX10_land_167 (by decide) (fun c => ?_) (fun c => ?_)
    · have h := h.1 c
      refine g_aload_n (pc := 178) F dX10_land_178 rfl 0 rfl ?_
      refine g_callVv (pc := 179) F (mX10_settles hx0 h) mvX10_settles uX10_86 (by decide) clX10 hx0.1 rfl rfl (Nat.le_of_ble_eq_true rfl) dX10_land_179 (fun s_179 h => ?_)
      refine g_iload_n (pc := 182) F dX10_land_182 rfl 1 rfl ?_
      exact hR _ _ _ _ dX10_land_183 h
    · have h := h.2 c
      refine g_bipush (pc := 170) F dX10_land_170 bp_m10 ?_
      refine g_aload_n (pc := 172) F dX10_land_172 rfl 0 rfl ?_
      refine g_getI (pc := 173) F clX10 hx0.1 8 rfl (by decide) uX10_116 dX10_land_173 ?_
      refine g_isub (pc := 176) F dX10_land_176 ?_
      exact hR _ _ _ _ dX10_land_177 h
def wX10_isLane (x0 : Nat) (x1 : Int32) (s : St) (Q : Int32 → St → Prop) : Prop :=
  vp_in (1 : Int32) 4 ∧ wX10_in x1 (0 : Int32) ((s.1 (x0 + 2) (1 : Int32).toNatClampNeg) - (1 : Int32)) s (fun r_10 s_10 => (isB r_10 ∧ Q r_10 s_10))
set_option maxHeartbeats 4000000 in
set_option maxRecDepth 100000 in
theorem mX10_isLane {l : Launch} {V : Wv} {x0 : Nat} {x1 : Int32} {s : St} {Q : Int32 → St → Prop} (hx0 : isX10 V x0) (h : wX10_isLane x0 x1 s Q) : Ci yX10_isLane cX10_isLane 2 (some .boolean) (1) l V [rf V x0, .int x1] s Q := by
  unfold wX10_isLane at h
  refine Cz.of mvX10_isLane.1 (Nat.le_of_ble_eq_true rfl) (fun X F hR => ?_)
  refine g_lv (lv' := [(_, _), (_, _)]) rfl ?_
  refine g_iload_n (pc := 0) F dX10_isLane_0 rfl 1 rfl ?_
  refine g_iconst (pc := 1) F dX10_isLane_1 ic_0 ?_
  refine g_aload_n (pc := 2) F dX10_isLane_2 rfl 0 rfl ?_
  refine g_getR (pc := 3) F clX10 hx0.1 9 _ rfl (by decide) uX10_13 dX10_isLane_3 ?_
  refine g_iconst (pc := 6) F dX10_isLane_6 ic_1 ?_
  obtain ⟨hb_7, h⟩ := h
  refine g_iald (pc := 7) F hx0.2.2.1 hb_7 dX10_isLane_7 ?_
  refine g_iconst (pc := 8) F dX10_isLane_8 ic_1 ?_
  refine g_isub (pc := 9) F dX10_isLane_9 ?_
  refine g_callSi (pc := 10) F (mX10_in  h) mvX10_in uX10_93 (by decide)  rfl rfl (Nat.le_of_ble_eq_true rfl) dX10_isLane_10 (fun r_10 s_10 h => ?_)
  exact hR _ _ _ _ dX10_isLane_13 h.1 h.2
def wX10_isMap (x0 : Nat) (x1 : Int32) (s : St) (Q : Int32 → St → Prop) : Prop :=
  vp_in (6 : Int32) 38 ∧ wX10_in x1 (0 : Int32) ((s.1 (x0 + 7) (6 : Int32).toNatClampNeg) - (1 : Int32)) s (fun r_11 s_11 => (isB r_11 ∧ Q r_11 s_11))
set_option maxHeartbeats 4000000 in
set_option maxRecDepth 100000 in
theorem mX10_isMap {l : Launch} {V : Wv} {x0 : Nat} {x1 : Int32} {s : St} {Q : Int32 → St → Prop} (hx0 : isX10 V x0) (h : wX10_isMap x0 x1 s Q) : Ci yX10_isMap cX10_isMap 2 (some .boolean) (1) l V [rf V x0, .int x1] s Q := by
  unfold wX10_isMap at h
  refine Cz.of mvX10_isMap.1 (Nat.le_of_ble_eq_true rfl) (fun X F hR => ?_)
  refine g_lv (lv' := [(_, _), (_, _)]) rfl ?_
  refine g_iload_n (pc := 0) F dX10_isMap_0 rfl 1 rfl ?_
  refine g_iconst (pc := 1) F dX10_isMap_1 ic_0 ?_
  refine g_aload_n (pc := 2) F dX10_isMap_2 rfl 0 rfl ?_
  refine g_getR (pc := 3) F clX10 hx0.1 14 _ rfl (by decide) uX10_28 dX10_isMap_3 ?_
  refine g_bipush (pc := 6) F dX10_isMap_6 bp_6 ?_
  obtain ⟨hb_8, h⟩ := h
  refine g_iald (pc := 8) F hx0.2.2.2.2.2.2.2.1 hb_8 dX10_isMap_8 ?_
  refine g_iconst (pc := 9) F dX10_isMap_9 ic_1 ?_
  refine g_isub (pc := 10) F dX10_isMap_10 ?_
  refine g_callSi (pc := 11) F (mX10_in  h) mvX10_in uX10_93 (by decide)  rfl rfl (Nat.le_of_ble_eq_true rfl) dX10_isMap_11 (fun r_11 s_11 h => ?_)
  exact hR _ _ _ _ dX10_isMap_14 h.1 h.2
def wX10_isPlace (x0 : Nat) (x1 : Int32) (s : St) (Q : Int32 → St → Prop) : Prop :=
  vp_in (0 : Int32) 4 ∧ wX10_in x1 (0 : Int32) ((s.1 (x0 + 2) (0 : Int32).toNatClampNeg) - (1 : Int32)) s (fun r_10 s_10 => (isB r_10 ∧ Q r_10 s_10))
set_option maxHeartbeats 4000000 in
set_option maxRecDepth 100000 in
theorem mX10_isPlace {l : Launch} {V : Wv} {x0 : Nat} {x1 : Int32} {s : St} {Q : Int32 → St → Prop} (hx0 : isX10 V x0) (h : wX10_isPlace x0 x1 s Q) : Ci yX10_isPlace cX10_isPlace 2 (some .boolean) (1) l V [rf V x0, .int x1] s Q := by
  unfold wX10_isPlace at h
  refine Cz.of mvX10_isPlace.1 (Nat.le_of_ble_eq_true rfl) (fun X F hR => ?_)
  refine g_lv (lv' := [(_, _), (_, _)]) rfl ?_
  refine g_iload_n (pc := 0) F dX10_isPlace_0 rfl 1 rfl ?_
  refine g_iconst (pc := 1) F dX10_isPlace_1 ic_0 ?_
  refine g_aload_n (pc := 2) F dX10_isPlace_2 rfl 0 rfl ?_
  refine g_getR (pc := 3) F clX10 hx0.1 9 _ rfl (by decide) uX10_13 dX10_isPlace_3 ?_
  refine g_iconst (pc := 6) F dX10_isPlace_6 ic_0 ?_
  obtain ⟨hb_7, h⟩ := h
  refine g_iald (pc := 7) F hx0.2.2.1 hb_7 dX10_isPlace_7 ?_
  refine g_iconst (pc := 8) F dX10_isPlace_8 ic_1 ?_
  refine g_isub (pc := 9) F dX10_isPlace_9 ?_
  refine g_callSi (pc := 10) F (mX10_in  h) mvX10_in uX10_93 (by decide)  rfl rfl (Nat.le_of_ble_eq_true rfl) dX10_isPlace_10 (fun r_10 s_10 h => ?_)
  exact hR _ _ _ _ dX10_isPlace_13 h.1 h.2
def wX10_lanesOf_5 (x0 : Nat) (x1 : Int32) (x2 : Int32) (Q : Int32 → St → Prop) : Nat → Int32 → Int32 → St → Prop
  | 0, _, _, _ => False
  | n + 1, x3, x4, s =>
  ((x2 ≤ x4 → Q x3 s) ∧ (¬ x2 ≤ x4 → vp_in (1 : Int32) 4 ∧ vp_in ((x1 + x4) - (1 : Int32)) 38 ∧ vp_in (x1 + x4) 38 ∧ wX10_laneOf x0 (0 : Int32) (s.1 (x0 + 2) (1 : Int32).toNatClampNeg) (s.1 (x0 + 7) ((x1 + x4) - (1 : Int32)).toNatClampNeg) (s.1 (x0 + 7) (x1 + x4).toNatClampNeg) s (fun r_41 s_41 => wX10_lanesOf_5 x0 x1 x2 Q n (x3 ||| ((1 : Int32) <<< (r_41 &&& 31))) (x4 + (1 : Int32)) s_41)))
set_option maxHeartbeats 4000000 in
set_option maxRecDepth 100000 in
theorem bX10_lanesOf_5 {l : Launch} {V : Wv} {X : Mx} {x0 : Nat} {x1 : Int32} {x2 : Int32} {Q : Int32 → St → Prop} (F : Fx V X cX10_lanesOf RX10 5 1) (hR : RtI l V X 5 cX10_lanesOf Q) (hx0 : isX10 V x0)  : ∀ (n : Nat) (x3 : Int32) (x4 : Int32) (s : St), wX10_lanesOf_5 x0 x1 x2 Q n x3 x4 s → G l V X 5 5 [(0, rf V x0), (1, .int x1), (2, .int x2), (3, .int x3), (4, .int x4)] [] s := by
  intro n
  induction n with
  | zero => intro x3 x4 s h; unfold wX10_lanesOf_5 at h; exact h.elim
  | succ n ih =>
    intro x3 x4 s h
    unfold wX10_lanesOf_5 at h
    refine g_iload (pc := 5) F dX10_lanesOf_5 4 rfl ?_
    refine g_iload_n (pc := 7) F dX10_lanesOf_7 rfl 2 rfl ?_
    refine g_icmp_ge (pc := 8) F 53 dX10_lanesOf_8 (by decide) (fun c => ?_) (fun c => ?_)
    · have h := h.1 c
      refine g_iload_n (pc := 53) F dX10_lanesOf_53 rfl 3 rfl ?_
      exact hR _ _ _ _ dX10_lanesOf_54 h
    · have h := h.2 c
      refine g_iload_n (pc := 11) F dX10_lanesOf_11 rfl 3 rfl ?_
      refine g_iconst (pc := 12) F dX10_lanesOf_12 ic_1 ?_
      refine g_aload_n (pc := 13) F dX10_lanesOf_13 rfl 0 rfl ?_
      refine g_iconst (pc := 14) F dX10_lanesOf_14 ic_0 ?_
      refine g_aload_n (pc := 15) F dX10_lanesOf_15 rfl 0 rfl ?_
      refine g_getR (pc := 16) F clX10 hx0.1 9 _ rfl (by decide) uX10_13 dX10_lanesOf_16 ?_
      refine g_iconst (pc := 19) F dX10_lanesOf_19 ic_1 ?_
      obtain ⟨hb_20, h⟩ := h
      refine g_iald (pc := 20) F hx0.2.2.1 hb_20 dX10_lanesOf_20 ?_
      refine g_aload_n (pc := 21) F dX10_lanesOf_21 rfl 0 rfl ?_
      refine g_getR (pc := 22) F clX10 hx0.1 14 _ rfl (by decide) uX10_28 dX10_lanesOf_22 ?_
      refine g_iload_n (pc := 25) F dX10_lanesOf_25 rfl 1 rfl ?_
      refine g_iload (pc := 26) F dX10_lanesOf_26 4 rfl ?_
      refine g_iadd (pc := 28) F dX10_lanesOf_28 ?_
      refine g_iconst (pc := 29) F dX10_lanesOf_29 ic_1 ?_
      refine g_isub (pc := 30) F dX10_lanesOf_30 ?_
      obtain ⟨hb_31, h⟩ := h
      refine g_iald (pc := 31) F hx0.2.2.2.2.2.2.2.1 hb_31 dX10_lanesOf_31 ?_
      refine g_aload_n (pc := 32) F dX10_lanesOf_32 rfl 0 rfl ?_
      refine g_getR (pc := 33) F clX10 hx0.1 14 _ rfl (by decide) uX10_28 dX10_lanesOf_33 ?_
      refine g_iload_n (pc := 36) F dX10_lanesOf_36 rfl 1 rfl ?_
      refine g_iload (pc := 37) F dX10_lanesOf_37 4 rfl ?_
      refine g_iadd (pc := 39) F dX10_lanesOf_39 ?_
      obtain ⟨hb_40, h⟩ := h
      refine g_iald (pc := 40) F hx0.2.2.2.2.2.2.2.1 hb_40 dX10_lanesOf_40 ?_
      refine g_callVi (pc := 41) F (mX10_laneOf hx0 h) mvX10_laneOf uX10_134 (by decide) clX10 hx0.1 rfl rfl (Nat.le_of_ble_eq_true rfl) dX10_lanesOf_41 (fun r_41 s_41 h => ?_)
      refine g_ishl (pc := 44) F dX10_lanesOf_44 ?_
      refine g_ior (pc := 45) F dX10_lanesOf_45 ?_
      refine g_istore_n (pc := 46) (lv' := [(_, _), (_, _), (_, _), (_, _), (_, _)]) F dX10_lanesOf_46 rfl (by decide) rfl ?_
      refine g_iinc (pc := 47) (lv' := [(_, _), (_, _), (_, _), (_, _), (_, _)]) F dX10_lanesOf_47 4 rfl (congrArg _ ic_1) (by decide) rfl ?_
      refine g_goto (pc := 50) F 5 dX10_lanesOf_50 (by decide) ?_
      exact g_weak [2, 3, 4, 1, 0] rfl (ih _ _ _ h)
def wX10_lanesOf (x0 : Nat) (x1 : Int32) (x2 : Int32) (s : St) (Q : Int32 → St → Prop) : Prop :=
  (∃ k_5, wX10_lanesOf_5  x0 x1 x2  Q k_5 (0 : Int32) (1 : Int32) s)
set_option maxHeartbeats 4000000 in
set_option maxRecDepth 100000 in
theorem mX10_lanesOf {l : Launch} {V : Wv} {x0 : Nat} {x1 : Int32} {x2 : Int32} {s : St} {Q : Int32 → St → Prop} (hx0 : isX10 V x0) (h : wX10_lanesOf x0 x1 x2 s Q) : Ci yX10_lanesOf cX10_lanesOf 5 (some .int) (1) l V [rf V x0, .int x1, .int x2] s Q := by
  unfold wX10_lanesOf at h
  refine Ci.of mvX10_lanesOf.1 (Nat.le_of_ble_eq_true rfl) (fun X F hR => ?_)
  refine g_lv (lv' := [(_, _), (_, _), (_, _)]) rfl ?_
  refine g_iconst (pc := 0) F dX10_lanesOf_0 ic_0 ?_
  refine g_istore_n (pc := 1) (lv' := [(_, _), (_, _), (_, _), (_, _)]) F dX10_lanesOf_1 rfl (by decide) rfl ?_
  refine g_iconst (pc := 2) F dX10_lanesOf_2 ic_1 ?_
  refine g_istore (pc := 3) (lv' := [(_, _), (_, _), (_, _), (_, _), (_, _)]) F dX10_lanesOf_3 (by decide) rfl ?_
  obtain ⟨k_5, h⟩ := h
  refine g_weak [2, 3, 4, 1, 0] rfl (bX10_lanesOf_5 F hR hx0 k_5 _ _ _ h)
def wX10_mapLanes (x0 : Nat) (x1 : Int32) (s : St) (Q : Int32 → St → Prop) : Prop :=
  vp_in ((7 : Int32) + x1) 38 ∧ wX10_lanesOf x0 ((11 : Int32) + ((5 : Int32) * x1)) (s.1 (x0 + 7) ((7 : Int32) + x1).toNatClampNeg) s (fun r_16 s_16 => Q r_16 s_16)
set_option maxHeartbeats 4000000 in
set_option maxRecDepth 100000 in
theorem mX10_mapLanes {l : Launch} {V : Wv} {x0 : Nat} {x1 : Int32} {s : St} {Q : Int32 → St → Prop} (hx0 : isX10 V x0) (h : wX10_mapLanes x0 x1 s Q) : Ci yX10_mapLanes cX10_mapLanes 2 (some .int) (2) l V [rf V x0, .int x1] s Q := by
  unfold wX10_mapLanes at h
  refine Ci.of mvX10_mapLanes.1 (Nat.le_of_ble_eq_true rfl) (fun X F hR => ?_)
  refine g_lv (lv' := [(_, _), (_, _)]) rfl ?_
  refine g_aload_n (pc := 0) F dX10_mapLanes_0 rfl 0 rfl ?_
  refine g_bipush (pc := 1) F dX10_mapLanes_1 bp_11 ?_
  refine g_iconst (pc := 3) F dX10_mapLanes_3 ic_5 ?_
  refine g_iload_n (pc := 4) F dX10_mapLanes_4 rfl 1 rfl ?_
  refine g_imul (pc := 5) F dX10_mapLanes_5 ?_
  refine g_iadd (pc := 6) F dX10_mapLanes_6 ?_
  refine g_aload_n (pc := 7) F dX10_mapLanes_7 rfl 0 rfl ?_
  refine g_getR (pc := 8) F clX10 hx0.1 14 _ rfl (by decide) uX10_28 dX10_mapLanes_8 ?_
  refine g_bipush (pc := 11) F dX10_mapLanes_11 bp_7 ?_
  refine g_iload_n (pc := 13) F dX10_mapLanes_13 rfl 1 rfl ?_
  refine g_iadd (pc := 14) F dX10_mapLanes_14 ?_
  obtain ⟨hb_15, h⟩ := h
  refine g_iald (pc := 15) F hx0.2.2.2.2.2.2.2.1 hb_15 dX10_mapLanes_15 ?_
  refine g_callVi (pc := 16) F (mX10_lanesOf hx0 h) mvX10_lanesOf uX10_164 (by decide) clX10 hx0.1 rfl rfl (Nat.le_of_ble_eq_true rfl) dX10_mapLanes_16 (fun r_16 s_16 h => ?_)
  exact hR _ _ _ _ dX10_mapLanes_19 h
def wX10_measures_2 (x0 : Nat) (x1 : Nat) (n1 : Nat) (K22 : St → Prop) (Q : St → Prop) : Nat → Int32 → St → Prop
  | 0, _, _ => False
  | n + 1, x2, s =>
  (((26 : Int32) ≤ x2 → K22  s) ∧ (¬ (26 : Int32) ≤ x2 → vp_in x2 26 ∧ ∀ s_15 : St, s_15 = stI s (x0 + 18) x2.toNatClampNeg (1000000 : Int32) → wX10_measures_2 x0 x1 n1 K22 Q n (x2 + (1 : Int32)) s_15))
set_option maxHeartbeats 4000000 in
set_option maxRecDepth 100000 in
theorem bX10_measures_2 {l : Launch} {V : Wv} {X : Mx} {x0 : Nat} {x1 : Nat} {n1 : Nat} {K22 : St → Prop} {Q : St → Prop} (F : Fx V X cX10_measures RX10 4 0) (hR : RtV l V X 4 cX10_measures Q) (hx0 : isX10 V x0) (hx1 : V.2.1[x1]? = some (11, [n1])) (hK22 : ∀  (s : St), K22  s → G l V X 4 22 [(0, rf V x0), (1, rf V x1)] [] s) : ∀ (n : Nat) (x2 : Int32) (s : St), wX10_measures_2 x0 x1 n1 K22 Q n x2 s → G l V X 4 2 [(0, rf V x0), (1, rf V x1), (2, .int x2)] [] s := by
  intro n
  induction n with
  | zero => intro x2 s h; unfold wX10_measures_2 at h; exact h.elim
  | succ n ih =>
    intro x2 s h
    unfold wX10_measures_2 at h
    refine g_iload_n (pc := 2) F dX10_measures_2 rfl 2 rfl ?_
    refine g_bipush (pc := 3) F dX10_measures_3 bp_26 ?_
    refine g_icmp_ge (pc := 5) F 22 dX10_measures_5 (by decide) (fun c => ?_) (fun c => ?_)
    · have h := h.1 c
      exact g_weak [0, 1] rfl (hK22 _ h)
    · have h := h.2 c
      refine g_aload_n (pc := 8) F dX10_measures_8 rfl 0 rfl ?_
      refine g_getR (pc := 9) F clX10 hx0.1 28 _ rfl (by decide) uX10_62 dX10_measures_9 ?_
      refine g_iload_n (pc := 12) F dX10_measures_12 rfl 2 rfl ?_
      refine g_ldc (pc := 13) F dX10_measures_13 uX10_167 ?_
      obtain ⟨hb_15, h⟩ := h
      have h := h _ rfl
      refine g_iast (pc := 15) F hx0.2.2.2.2.2.2.2.2.2.2.2.2.2.2.2.2.2.2.1 hb_15 dX10_measures_15 ?_
      refine g_iinc (pc := 16) (lv' := [(_, _), (_, _), (_, _)]) F dX10_measures_16 2 rfl (congrArg _ ic_1) (by decide) rfl ?_
      refine g_goto (pc := 19) F 2 dX10_measures_19 (by decide) ?_
      exact g_weak [1, 2, 0] rfl (ih _ _ h)
def wX10_measures_24 (x0 : Nat) (x1 : Nat) (n1 : Nat) (K67 : St → Prop) (Q : St → Prop) : Nat → Int32 → St → Prop
  | 0, _, _ => False
  | n + 1, x2, s =>
  vp_in (1 : Int32) 4 ∧ ((((1 : Int32) <<< ((s.1 (x0 + 2) (1 : Int32).toNatClampNeg) &&& 31)) ≤ x2 → K67  s) ∧ (¬ ((1 : Int32) <<< ((s.1 (x0 + 2) (1 : Int32).toNatClampNeg) &&& 31)) ≤ x2 → vp_in (x2 &&& (x2 - (1 : Int32))) 64 ∧ vp_in x2 64 ∧ vp_in (s.1 (x0 + 15) x2.toNatClampNeg) n1 ∧ vp_in x2 64 ∧ ∀ s_60 : St, s_60 = stI s (x0 + 14) x2.toNatClampNeg ((s.1 (x0 + 14) (x2 &&& (x2 - (1 : Int32))).toNatClampNeg) + (s.1 x1 (s.1 (x0 + 15) x2.toNatClampNeg).toNatClampNeg)) → wX10_measures_24 x0 x1 n1 K67 Q n (x2 + (1 : Int32)) s_60))
set_option maxHeartbeats 4000000 in
set_option maxRecDepth 100000 in
theorem bX10_measures_24 {l : Launch} {V : Wv} {X : Mx} {x0 : Nat} {x1 : Nat} {n1 : Nat} {K67 : St → Prop} {Q : St → Prop} (F : Fx V X cX10_measures RX10 4 0) (hR : RtV l V X 4 cX10_measures Q) (hx0 : isX10 V x0) (hx1 : V.2.1[x1]? = some (11, [n1])) (hK67 : ∀  (s : St), K67  s → G l V X 4 67 [(0, rf V x0)] [] s) : ∀ (n : Nat) (x2 : Int32) (s : St), wX10_measures_24 x0 x1 n1 K67 Q n x2 s → G l V X 4 24 [(0, rf V x0), (1, rf V x1), (2, .int x2)] [] s := by
  intro n
  induction n with
  | zero => intro x2 s h; unfold wX10_measures_24 at h; exact h.elim
  | succ n ih =>
    intro x2 s h
    unfold wX10_measures_24 at h
    refine g_iload_n (pc := 24) F dX10_measures_24 rfl 2 rfl ?_
    refine g_iconst (pc := 25) F dX10_measures_25 ic_1 ?_
    refine g_aload_n (pc := 26) F dX10_measures_26 rfl 0 rfl ?_
    refine g_getR (pc := 27) F clX10 hx0.1 9 _ rfl (by decide) uX10_13 dX10_measures_27 ?_
    refine g_iconst (pc := 30) F dX10_measures_30 ic_1 ?_
    obtain ⟨hb_31, h⟩ := h
    refine g_iald (pc := 31) F hx0.2.2.1 hb_31 dX10_measures_31 ?_
    refine g_ishl (pc := 32) F dX10_measures_32 ?_
    refine g_icmp_ge (pc := 33) F 67 dX10_measures_33 (by decide) (fun c => ?_) (fun c => ?_)
    · have h := h.1 c
      exact g_weak [0] rfl (hK67 _ h)
    · have h := h.2 c
      refine g_aload_n (pc := 36) F dX10_measures_36 rfl 0 rfl ?_
      refine g_getR (pc := 37) F clX10 hx0.1 23 _ rfl (by decide) uX10_50 dX10_measures_37 ?_
      refine g_iload_n (pc := 40) F dX10_measures_40 rfl 2 rfl ?_
      refine g_aload_n (pc := 41) F dX10_measures_41 rfl 0 rfl ?_
      refine g_getR (pc := 42) F clX10 hx0.1 23 _ rfl (by decide) uX10_50 dX10_measures_42 ?_
      refine g_iload_n (pc := 45) F dX10_measures_45 rfl 2 rfl ?_
      refine g_iload_n (pc := 46) F dX10_measures_46 rfl 2 rfl ?_
      refine g_iconst (pc := 47) F dX10_measures_47 ic_1 ?_
      refine g_isub (pc := 48) F dX10_measures_48 ?_
      refine g_iand (pc := 49) F dX10_measures_49 ?_
      obtain ⟨hb_50, h⟩ := h
      refine g_iald (pc := 50) F hx0.2.2.2.2.2.2.2.2.2.2.2.2.2.2.1 hb_50 dX10_measures_50 ?_
      refine g_aload_n (pc := 51) F dX10_measures_51 rfl 1 rfl ?_
      refine g_aload_n (pc := 52) F dX10_measures_52 rfl 0 rfl ?_
      refine g_getR (pc := 53) F clX10 hx0.1 24 _ rfl (by decide) uX10_53 dX10_measures_53 ?_
      refine g_iload_n (pc := 56) F dX10_measures_56 rfl 2 rfl ?_
      obtain ⟨hb_57, h⟩ := h
      refine g_iald (pc := 57) F hx0.2.2.2.2.2.2.2.2.2.2.2.2.2.2.2.1 hb_57 dX10_measures_57 ?_
      obtain ⟨hb_58, h⟩ := h
      refine g_iald (pc := 58) F hx1 hb_58 dX10_measures_58 ?_
      refine g_iadd (pc := 59) F dX10_measures_59 ?_
      obtain ⟨hb_60, h⟩ := h
      have h := h _ rfl
      refine g_iast (pc := 60) F hx0.2.2.2.2.2.2.2.2.2.2.2.2.2.2.1 hb_60 dX10_measures_60 ?_
      refine g_iinc (pc := 61) (lv' := [(_, _), (_, _), (_, _)]) F dX10_measures_61 2 rfl (congrArg _ ic_1) (by decide) rfl ?_
      refine g_goto (pc := 64) F 24 dX10_measures_64 (by decide) ?_
      exact g_weak [1, 2, 0] rfl (ih _ _ h)
def wX10_measures_134 (rec : Int32 → St → Prop) (Q : St → Prop) (x0 : Nat) (x2 : Int32) (t0 : Int32) (t1 : Int32) (t2 : Nat) (s : St) : Prop :=
  vp_in t1 26 ∧ ∀ s_134 : St, s_134 = stI s t2 t1.toNatClampNeg t0 → rec (x2 + (1 : Int32)) s_134
set_option maxHeartbeats 4000000 in
set_option maxRecDepth 100000 in
theorem bX10_measures_134 {l : Launch} {V : Wv} {X : Mx} {rec : Int32 → St → Prop} {Q : St → Prop} {x0 : Nat} {x2 : Int32} {t0 : Int32} {t1 : Int32} {t2 : Nat} (F : Fx V X cX10_measures RX10 4 0) (hR : RtV l V X 4 cX10_measures Q) (hx0 : isX10 V x0) (ht2 : V.2.1[t2]? = some (11, [26])) (hrec : ∀ (y2 : Int32) (s : St), rec y2 s → G l V X 4 69 [(0, rf V x0), (2, .int y2)] [] s) {s : St} (h : wX10_measures_134 rec Q x0 x2 t0 t1 t2 s) : G l V X 4 134 [(0, rf V x0), (2, .int x2)] [.int t0, .int t1, rf V t2] s := by
  unfold wX10_measures_134 at h
  obtain ⟨hb_134, h⟩ := h
  have h := h _ rfl
  refine g_iast (pc := 134) F ht2 hb_134 dX10_measures_134 ?_
  refine g_iinc (pc := 135) (lv' := [(_, _), (_, _)]) F dX10_measures_135 1 rfl (congrArg _ ic_1) (by decide) rfl ?_
  refine g_goto (pc := 138) F 69 dX10_measures_138 (by decide) ?_
  exact g_weak [1, 0] rfl (hrec _ _ h)
def wX10_measures_69 (x0 : Nat) (Q : St → Prop) : Nat → Int32 → St → Prop
  | 0, _, _ => False
  | n + 1, x2, s =>
  (((s.1 x0 26) ≤ x2 → Q s) ∧ (¬ (s.1 x0 26) ≤ x2 → vp_in x2 64 ∧ vp_in (s.1 (x0 + 16) x2.toNatClampNeg) 64 ∧ vp_in (s.1 (x0 + 16) x2.toNatClampNeg) 64 ∧ vp_in (s.1 (x0 + 16) x2.toNatClampNeg) 64 ∧ vp_in (s.1 (x0 + 13) (s.1 (x0 + 16) x2.toNatClampNeg).toNatClampNeg) 26 ∧ (((s.1 (x0 + 18) (s.1 (x0 + 13) (s.1 (x0 + 16) x2.toNatClampNeg).toNatClampNeg).toNatClampNeg) ≤ (s.1 (x0 + 14) (s.1 (x0 + 16) x2.toNatClampNeg).toNatClampNeg) → vp_in (s.1 (x0 + 16) x2.toNatClampNeg) 64 ∧ vp_in (s.1 (x0 + 13) (s.1 (x0 + 16) x2.toNatClampNeg).toNatClampNeg) 26 ∧ wX10_measures_134 (wX10_measures_69 x0 Q n) Q x0 x2 (s.1 (x0 + 18) (s.1 (x0 + 13) (s.1 (x0 + 16) x2.toNatClampNeg).toNatClampNeg).toNatClampNeg) (s.1 (x0 + 13) (s.1 (x0 + 16) x2.toNatClampNeg).toNatClampNeg) (x0 + 18) s) ∧ (¬ (s.1 (x0 + 18) (s.1 (x0 + 13) (s.1 (x0 + 16) x2.toNatClampNeg).toNatClampNeg).toNatClampNeg) ≤ (s.1 (x0 + 14) (s.1 (x0 + 16) x2.toNatClampNeg).toNatClampNeg) → vp_in (s.1 (x0 + 16) x2.toNatClampNeg) 64 ∧ wX10_measures_134 (wX10_measures_69 x0 Q n) Q x0 x2 (s.1 (x0 + 14) (s.1 (x0 + 16) x2.toNatClampNeg).toNatClampNeg) (s.1 (x0 + 13) (s.1 (x0 + 16) x2.toNatClampNeg).toNatClampNeg) (x0 + 18) s))))
set_option maxHeartbeats 4000000 in
set_option maxRecDepth 100000 in
theorem bX10_measures_69 {l : Launch} {V : Wv} {X : Mx} {x0 : Nat} {Q : St → Prop} (F : Fx V X cX10_measures RX10 4 0) (hR : RtV l V X 4 cX10_measures Q) (hx0 : isX10 V x0)  : ∀ (n : Nat) (x2 : Int32) (s : St), wX10_measures_69 x0 Q n x2 s → G l V X 4 69 [(0, rf V x0), (2, .int x2)] [] s := by
  intro n
  induction n with
  | zero => intro x2 s h; unfold wX10_measures_69 at h; exact h.elim
  | succ n ih =>
    intro x2 s h
    unfold wX10_measures_69 at h
    refine g_iload_n (pc := 69) F dX10_measures_69 rfl 1 rfl ?_
    refine g_aload_n (pc := 70) F dX10_measures_70 rfl 0 rfl ?_
    refine g_getI (pc := 71) F clX10 hx0.1 26 rfl (by decide) uX10_152 dX10_measures_71 ?_
    refine g_icmp_ge (pc := 74) F 141 dX10_measures_74 (by decide) (fun c => ?_) (fun c => ?_)
    · have h := h.1 c
      exact hR _ _ _ dX10_measures_141 h
    · have h := h.2 c
      refine g_aload_n (pc := 77) F dX10_measures_77 rfl 0 rfl ?_
      refine g_getR (pc := 78) F clX10 hx0.1 25 _ rfl (by decide) uX10_56 dX10_measures_78 ?_
      refine g_iload_n (pc := 81) F dX10_measures_81 rfl 1 rfl ?_
      obtain ⟨hb_82, h⟩ := h
      refine g_iald (pc := 82) F hx0.2.2.2.2.2.2.2.2.2.2.2.2.2.2.2.2.1 hb_82 dX10_measures_82 ?_
      refine g_istore_n (pc := 83) (lv' := [(_, _), (_, _), (_, _)]) F dX10_measures_83 rfl (by decide) rfl ?_
      refine g_aload_n (pc := 84) F dX10_measures_84 rfl 1 rfl ?_
      refine g_getR (pc := 85) F clX10 hx0.1 28 _ rfl (by decide) uX10_62 dX10_measures_85 ?_
      refine g_aload_n (pc := 88) F dX10_measures_88 rfl 1 rfl ?_
      refine g_getR (pc := 89) F clX10 hx0.1 22 _ rfl (by decide) uX10_47 dX10_measures_89 ?_
      refine g_iload_n (pc := 92) F dX10_measures_92 rfl 0 rfl ?_
      obtain ⟨hb_93, h⟩ := h
      refine g_iald (pc := 93) F hx0.2.2.2.2.2.2.2.2.2.2.2.2.2.1 hb_93 dX10_measures_93 ?_
      refine g_aload_n (pc := 94) F dX10_measures_94 rfl 1 rfl ?_
      refine g_getR (pc := 95) F clX10 hx0.1 23 _ rfl (by decide) uX10_50 dX10_measures_95 ?_
      refine g_iload_n (pc := 98) F dX10_measures_98 rfl 0 rfl ?_
      obtain ⟨hb_99, h⟩ := h
      refine g_iald (pc := 99) F hx0.2.2.2.2.2.2.2.2.2.2.2.2.2.2.1 hb_99 dX10_measures_99 ?_
      refine g_aload_n (pc := 100) F dX10_measures_100 rfl 1 rfl ?_
      refine g_getR (pc := 101) F clX10 hx0.1 28 _ rfl (by decide) uX10_62 dX10_measures_101 ?_
      refine g_aload_n (pc := 104) F dX10_measures_104 rfl 1 rfl ?_
      refine g_getR (pc := 105) F clX10 hx0.1 22 _ rfl (by decide) uX10_47 dX10_measures_105 ?_
      refine g_iload_n (pc := 108) F dX10_measures_108 rfl 0 rfl ?_
      obtain ⟨hb_109, h⟩ := h
      refine g_iald (pc := 109) F hx0.2.2.2.2.2.2.2.2.2.2.2.2.2.1 hb_109 dX10_measures_109 ?_
      obtain ⟨hb_110, h⟩ := h
      refine g_iald (pc := 110) F hx0.2.2.2.2.2.2.2.2.2.2.2.2.2.2.2.2.2.2.1 hb_110 dX10_measures_110 ?_
      refine g_icmp_ge (pc := 111) F 123 dX10_measures_111 (by decide) (fun c => ?_) (fun c => ?_)
      · have h := h.1 c
        refine g_aload_n (pc := 123) F dX10_measures_123 rfl 1 rfl ?_
        refine g_getR (pc := 124) F clX10 hx0.1 28 _ rfl (by decide) uX10_62 dX10_measures_124 ?_
        refine g_aload_n (pc := 127) F dX10_measures_127 rfl 1 rfl ?_
        refine g_getR (pc := 128) F clX10 hx0.1 22 _ rfl (by decide) uX10_47 dX10_measures_128 ?_
        refine g_iload_n (pc := 131) F dX10_measures_131 rfl 0 rfl ?_
        obtain ⟨hb_132, h⟩ := h
        refine g_iald (pc := 132) F hx0.2.2.2.2.2.2.2.2.2.2.2.2.2.1 hb_132 dX10_measures_132 ?_
        obtain ⟨hb_133, h⟩ := h
        refine g_iald (pc := 133) F hx0.2.2.2.2.2.2.2.2.2.2.2.2.2.2.2.2.2.2.1 hb_133 dX10_measures_133 ?_
        exact g_weak [1, 2] rfl (bX10_measures_134 F hR hx0 hx0.2.2.2.2.2.2.2.2.2.2.2.2.2.2.2.2.2.2.1 ih h)
      · have h := h.2 c
        refine g_aload_n (pc := 114) F dX10_measures_114 rfl 1 rfl ?_
        refine g_getR (pc := 115) F clX10 hx0.1 23 _ rfl (by decide) uX10_50 dX10_measures_115 ?_
        refine g_iload_n (pc := 118) F dX10_measures_118 rfl 0 rfl ?_
        obtain ⟨hb_119, h⟩ := h
        refine g_iald (pc := 119) F hx0.2.2.2.2.2.2.2.2.2.2.2.2.2.2.1 hb_119 dX10_measures_119 ?_
        refine g_goto (pc := 120) F 134 dX10_measures_120 (by decide) ?_
        exact g_weak [1, 2] rfl (bX10_measures_134 F hR hx0 hx0.2.2.2.2.2.2.2.2.2.2.2.2.2.2.2.2.2.2.1 ih h)
def wX10_measures (x0 : Nat) (x1 : Nat) (n1 : Nat) (s : St) (Q : St → Prop) : Prop :=
  (∃ k_2, wX10_measures_2  x0 x1 n1 (fun  s_k22 => (∃ k_24, wX10_measures_24  x0 x1 n1 (fun  s_k67 => (∃ k_69, wX10_measures_69  x0  Q k_69 (0 : Int32) s_k67)) Q k_24 (1 : Int32) s_k22)) Q k_2 (0 : Int32) s)
set_option maxHeartbeats 4000000 in
set_option maxRecDepth 100000 in
theorem mX10_measures {l : Launch} {V : Wv} {x0 : Nat} {x1 : Nat} {n1 : Nat} {s : St} {Q : St → Prop} (hx0 : isX10 V x0) (hx1 : V.2.1[x1]? = some (11, [n1])) (h : wX10_measures x0 x1 n1 s Q) : Cv yX10_measures cX10_measures 4 (0) l V [rf V x0, rf V x1] s Q := by
  unfold wX10_measures at h
  refine Cv.of mvX10_measures.1 (Nat.le_of_ble_eq_true rfl) (fun X F hR => ?_)
  refine g_lv (lv' := [(_, _), (_, _)]) rfl ?_
  refine g_iconst (pc := 0) F dX10_measures_0 ic_0 ?_
  refine g_istore_n (pc := 1) (lv' := [(_, _), (_, _), (_, _)]) F dX10_measures_1 rfl (by decide) rfl ?_
  obtain ⟨k_2, h⟩ := h
  refine g_weak [1, 2, 0] rfl (bX10_measures_2 F hR hx0 hx1 (fun  s_k22 h => ?_) k_2 _ _ h)
  · refine g_iconst (pc := 22) F dX10_measures_22 ic_1 ?_
    refine g_istore_n (pc := 23) (lv' := [(_, _), (_, _), (_, _)]) F dX10_measures_23 rfl (by decide) rfl ?_
    obtain ⟨k_24, h⟩ := h
    refine g_weak [1, 2, 0] rfl (bX10_measures_24 F hR hx0 hx1 (fun  s_k67 h => ?_) k_24 _ _ h)
    · refine g_iconst (pc := 67) F dX10_measures_67 ic_0 ?_
      refine g_istore_n (pc := 68) (lv' := [(_, _), (_, _)]) F dX10_measures_68 rfl (by decide) rfl ?_
      obtain ⟨k_69, h⟩ := h
      refine g_weak [1, 0] rfl (bX10_measures_69 F hR hx0 k_69 _ _ h)
def wX10_holds (x0 : Nat) (x1 : Int32) (s : St) (Q : Int32 → St → Prop) : Prop :=
  vp_in x1 64 ∧ vp_in x1 64 ∧ vp_in (s.1 (x0 + 13) x1.toNatClampNeg) 26 ∧ ((¬ (s.1 (x0 + 14) x1.toNatClampNeg) = (s.1 (x0 + 18) (s.1 (x0 + 13) x1.toNatClampNeg).toNatClampNeg) → Q (0 : Int32) s) ∧ ((s.1 (x0 + 14) x1.toNatClampNeg) = (s.1 (x0 + 18) (s.1 (x0 + 13) x1.toNatClampNeg).toNatClampNeg) → Q (1 : Int32) s))
set_option maxHeartbeats 4000000 in
set_option maxRecDepth 100000 in
theorem mX10_holds {l : Launch} {V : Wv} {x0 : Nat} {x1 : Int32} {s : St} {Q : Int32 → St → Prop} (hx0 : isX10 V x0) (h : wX10_holds x0 x1 s Q) : Ci yX10_holds cX10_holds 2 (some .boolean) (0) l V [rf V x0, .int x1] s Q := by
  unfold wX10_holds at h
  refine Cz.of mvX10_holds.1 (Nat.le_of_ble_eq_true rfl) (fun X F hR => ?_)
  refine g_lv (lv' := [(_, _), (_, _)]) rfl ?_
  refine g_aload_n (pc := 0) F dX10_holds_0 rfl 0 rfl ?_
  refine g_getR (pc := 1) F clX10 hx0.1 23 _ rfl (by decide) uX10_50 dX10_holds_1 ?_
  refine g_iload_n (pc := 4) F dX10_holds_4 rfl 1 rfl ?_
  obtain ⟨hb_5, h⟩ := h
  refine g_iald (pc := 5) F hx0.2.2.2.2.2.2.2.2.2.2.2.2.2.2.1 hb_5 dX10_holds_5 ?_
  refine g_aload_n (pc := 6) F dX10_holds_6 rfl 0 rfl ?_
  refine g_getR (pc := 7) F clX10 hx0.1 28 _ rfl (by decide) uX10_62 dX10_holds_7 ?_
  refine g_aload_n (pc := 10) F dX10_holds_10 rfl 0 rfl ?_
  refine g_getR (pc := 11) F clX10 hx0.1 22 _ rfl (by decide) uX10_47 dX10_holds_11 ?_
  refine g_iload_n (pc := 14) F dX10_holds_14 rfl 1 rfl ?_
  obtain ⟨hb_15, h⟩ := h
  refine g_iald (pc := 15) F hx0.2.2.2.2.2.2.2.2.2.2.2.2.2.1 hb_15 dX10_holds_15 ?_
  obtain ⟨hb_16, h⟩ := h
  refine g_iald (pc := 16) F hx0.2.2.2.2.2.2.2.2.2.2.2.2.2.2.2.2.2.2.1 hb_16 dX10_holds_16 ?_
  refine g_icmp_ne (pc := 17) F 24 dX10_holds_17 (by decide) (fun c => ?_) (fun c => ?_)
  · have h := h.1 c
    refine g_iconst (pc := 24) F dX10_holds_24 ic_0 ?_
    exact hR _ _ _ _ dX10_holds_25 (Or.inl rfl) h
  · have h := h.2 c
    refine g_iconst (pc := 20) F dX10_holds_20 ic_1 ?_
    refine g_goto (pc := 21) F 25 dX10_holds_21 (by decide) ?_
    exact hR _ _ _ _ dX10_holds_25 (Or.inr rfl) h
def wX10_mapsBy_4 (x0 : Nat) (x1 : Int32) (Q : Int32 → St → Prop) : Nat → Int32 → Int32 → St → Prop
  | 0, _, _, _ => False
  | n + 1, x2, x3, s =>
  vp_in (6 : Int32) 38 ∧ (((s.1 (x0 + 7) (6 : Int32).toNatClampNeg) ≤ x3 → Q x2 s) ∧ (¬ (s.1 (x0 + 7) (6 : Int32).toNatClampNeg) ≤ x3 → wX10_mapLanes x0 x3 s (fun r_18 s_18 => wX10_mapsBy_4 x0 x1 Q n (x2 + ((r_18 >>> (x1 &&& 31)) &&& (1 : Int32))) (x3 + (1 : Int32)) s_18)))
set_option maxHeartbeats 4000000 in
set_option maxRecDepth 100000 in
theorem bX10_mapsBy_4 {l : Launch} {V : Wv} {X : Mx} {x0 : Nat} {x1 : Int32} {Q : Int32 → St → Prop} (F : Fx V X cX10_mapsBy RX10 4 3) (hR : RtI l V X 4 cX10_mapsBy Q) (hx0 : isX10 V x0)  : ∀ (n : Nat) (x2 : Int32) (x3 : Int32) (s : St), wX10_mapsBy_4 x0 x1 Q n x2 x3 s → G l V X 4 4 [(0, rf V x0), (1, .int x1), (2, .int x2), (3, .int x3)] [] s := by
  intro n
  induction n with
  | zero => intro x2 x3 s h; unfold wX10_mapsBy_4 at h; exact h.elim
  | succ n ih =>
    intro x2 x3 s h
    unfold wX10_mapsBy_4 at h
    refine g_iload_n (pc := 4) F dX10_mapsBy_4 rfl 3 rfl ?_
    refine g_aload_n (pc := 5) F dX10_mapsBy_5 rfl 0 rfl ?_
    refine g_getR (pc := 6) F clX10 hx0.1 14 _ rfl (by decide) uX10_28 dX10_mapsBy_6 ?_
    refine g_bipush (pc := 9) F dX10_mapsBy_9 bp_6 ?_
    obtain ⟨hb_11, h⟩ := h
    refine g_iald (pc := 11) F hx0.2.2.2.2.2.2.2.1 hb_11 dX10_mapsBy_11 ?_
    refine g_icmp_ge (pc := 12) F 33 dX10_mapsBy_12 (by decide) (fun c => ?_) (fun c => ?_)
    · have h := h.1 c
      refine g_iload_n (pc := 33) F dX10_mapsBy_33 rfl 2 rfl ?_
      exact hR _ _ _ _ dX10_mapsBy_34 h
    · have h := h.2 c
      refine g_iload_n (pc := 15) F dX10_mapsBy_15 rfl 2 rfl ?_
      refine g_aload_n (pc := 16) F dX10_mapsBy_16 rfl 0 rfl ?_
      refine g_iload_n (pc := 17) F dX10_mapsBy_17 rfl 3 rfl ?_
      refine g_callVi (pc := 18) F (mX10_mapLanes hx0 h) mvX10_mapLanes uX10_168 (by decide) clX10 hx0.1 rfl rfl (Nat.le_of_ble_eq_true rfl) dX10_mapsBy_18 (fun r_18 s_18 h => ?_)
      refine g_iload_n (pc := 21) F dX10_mapsBy_21 rfl 1 rfl ?_
      refine g_ishr (pc := 22) F dX10_mapsBy_22 ?_
      refine g_iconst (pc := 23) F dX10_mapsBy_23 ic_1 ?_
      refine g_iand (pc := 24) F dX10_mapsBy_24 ?_
      refine g_iadd (pc := 25) F dX10_mapsBy_25 ?_
      refine g_istore_n (pc := 26) (lv' := [(_, _), (_, _), (_, _), (_, _)]) F dX10_mapsBy_26 rfl (by decide) rfl ?_
      refine g_iinc (pc := 27) (lv' := [(_, _), (_, _), (_, _), (_, _)]) F dX10_mapsBy_27 3 rfl (congrArg _ ic_1) (by decide) rfl ?_
      refine g_goto (pc := 30) F 4 dX10_mapsBy_30 (by decide) ?_
      exact g_weak [2, 3, 1, 0] rfl (ih _ _ _ h)
def wX10_mapsBy (x0 : Nat) (x1 : Int32) (s : St) (Q : Int32 → St → Prop) : Prop :=
  (∃ k_4, wX10_mapsBy_4  x0 x1  Q k_4 (0 : Int32) (0 : Int32) s)
set_option maxHeartbeats 4000000 in
set_option maxRecDepth 100000 in
theorem mX10_mapsBy {l : Launch} {V : Wv} {x0 : Nat} {x1 : Int32} {s : St} {Q : Int32 → St → Prop} (hx0 : isX10 V x0) (h : wX10_mapsBy x0 x1 s Q) : Ci yX10_mapsBy cX10_mapsBy 4 (some .int) (3) l V [rf V x0, .int x1] s Q := by
  unfold wX10_mapsBy at h
  refine Ci.of mvX10_mapsBy.1 (Nat.le_of_ble_eq_true rfl) (fun X F hR => ?_)
  refine g_lv (lv' := [(_, _), (_, _)]) rfl ?_
  refine g_iconst (pc := 0) F dX10_mapsBy_0 ic_0 ?_
  refine g_istore_n (pc := 1) (lv' := [(_, _), (_, _), (_, _)]) F dX10_mapsBy_1 rfl (by decide) rfl ?_
  refine g_iconst (pc := 2) F dX10_mapsBy_2 ic_0 ?_
  refine g_istore_n (pc := 3) (lv' := [(_, _), (_, _), (_, _), (_, _)]) F dX10_mapsBy_3 rfl (by decide) rfl ?_
  obtain ⟨k_4, h⟩ := h
  refine g_weak [2, 3, 1, 0] rfl (bX10_mapsBy_4 F hR hx0 k_4 _ _ _ h)
