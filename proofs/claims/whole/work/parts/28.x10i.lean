/-! printed by program: what each method does to the state (w..), and that its code does so (b.., m..) -/
def wX10_rate_113 (Q : Int32 → St → Prop) (x0 : Nat) (x1 : Int32) (x2 : Int32) (x3 : Int32) (x4 : Int32) (x5 : Int32) (t0 : Int64) (t1 : Int64) (t2 : Nat) (s : St) : Prop :=
  ∀ s_114 : St, s_114 = stL s t2 (t1 + t0) → ((¬ x1 = 0 → ((¬ x1 = (1 : Int32) → ((¬ x1 = (2 : Int32) → ((¬ x1 = (3 : Int32) → ((¬ x1 = (4 : Int32) → vp_in (37 : Int32) 38 ∧ Q (x3 + (s_114.1 (x0 + 7) (37 : Int32).toNatClampNeg)) s_114) ∧ (x1 = (4 : Int32) → Q (x5 + x2) s_114))) ∧ (x1 = (3 : Int32) → Q ((2 : Int32) * x4) s_114))) ∧ (x1 = (2 : Int32) → Q x5 s_114))) ∧ (x1 = (1 : Int32) → Q x4 s_114))) ∧ (x1 = 0 → Q x3 s_114))
set_option maxHeartbeats 4000000 in
set_option maxRecDepth 100000 in
theorem bX10_rate_113 {l : Launch} {V : Wv} {X : Mx} {Q : Int32 → St → Prop} {x0 : Nat} {x1 : Int32} {x2 : Int32} {x3 : Int32} {x4 : Int32} {x5 : Int32} {t0 : Int64} {t1 : Int64} {t2 : Nat} (F : Fx V X cX10_rate RX10 6 4) (hR : RtI l V X 6 cX10_rate Q) (hx0 : isX10 V x0) (ht2 : isX10 V t2)  {s : St} (h : wX10_rate_113 Q x0 x1 x2 x3 x4 x5 t0 t1 t2 s) : G l V X 6 113 [(0, rf V x0), (1, .int x1), (2, .int x2), (3, .int x3), (4, .int x4), (5, .int x5)] [.long t0, .long t1, rf V t2] s := by
  unfold wX10_rate_113 at h
  refine g_ladd (pc := 113) F dX10_rate_113 ?_
  have h := h _ rfl
  refine g_putL (pc := 114) F clX10 ht2.1 1 rfl (oneX10 _) (by decide) rfl (tyX10_ok 1 (by decide)) uX10_243 dX10_rate_114 ?_
  refine g_iload_n (pc := 117) F dX10_rate_117 rfl 1 rfl ?_
  refine g_if_ne (pc := 118) F 125 dX10_rate_118 (by decide) (fun c => ?_) (fun c => ?_)
  · have h := h.1 c
    refine g_iload_n (pc := 125) F dX10_rate_125 rfl 1 rfl ?_
    refine g_iconst (pc := 126) F dX10_rate_126 ic_1 ?_
    refine g_icmp_ne (pc := 127) F 135 dX10_rate_127 (by decide) (fun c => ?_) (fun c => ?_)
    · have h := h.1 c
      refine g_iload_n (pc := 135) F dX10_rate_135 rfl 1 rfl ?_
      refine g_iconst (pc := 136) F dX10_rate_136 ic_2 ?_
      refine g_icmp_ne (pc := 137) F 145 dX10_rate_137 (by decide) (fun c => ?_) (fun c => ?_)
      · have h := h.1 c
        refine g_iload_n (pc := 145) F dX10_rate_145 rfl 1 rfl ?_
        refine g_iconst (pc := 146) F dX10_rate_146 ic_3 ?_
        refine g_icmp_ne (pc := 147) F 157 dX10_rate_147 (by decide) (fun c => ?_) (fun c => ?_)
        · have h := h.1 c
          refine g_iload_n (pc := 157) F dX10_rate_157 rfl 1 rfl ?_
          refine g_iconst (pc := 158) F dX10_rate_158 ic_4 ?_
          refine g_icmp_ne (pc := 159) F 169 dX10_rate_159 (by decide) (fun c => ?_) (fun c => ?_)
          · have h := h.1 c
            refine g_iload_n (pc := 169) F dX10_rate_169 rfl 3 rfl ?_
            refine g_aload_n (pc := 170) F dX10_rate_170 rfl 0 rfl ?_
            refine g_getR (pc := 171) F clX10 hx0.1 14 _ rfl (by decide) uX10_28 dX10_rate_171 ?_
            refine g_bipush (pc := 174) F dX10_rate_174 bp_37 ?_
            obtain ⟨hb_176, h⟩ := h
            refine g_iald (pc := 176) F hx0.2.2.2.2.2.2.2.1 hb_176 dX10_rate_176 ?_
            refine g_iadd (pc := 177) F dX10_rate_177 ?_
            exact hR _ _ _ _ dX10_rate_178 h
          · have h := h.2 c
            refine g_iload (pc := 162) F dX10_rate_162 5 rfl ?_
            refine g_iload_n (pc := 164) F dX10_rate_164 rfl 2 rfl ?_
            refine g_iadd (pc := 165) F dX10_rate_165 ?_
            refine g_goto (pc := 166) F 178 dX10_rate_166 (by decide) ?_
            exact hR _ _ _ _ dX10_rate_178 h
        · have h := h.2 c
          refine g_iconst (pc := 150) F dX10_rate_150 ic_2 ?_
          refine g_iload (pc := 151) F dX10_rate_151 4 rfl ?_
          refine g_imul (pc := 153) F dX10_rate_153 ?_
          refine g_goto (pc := 154) F 178 dX10_rate_154 (by decide) ?_
          exact hR _ _ _ _ dX10_rate_178 h
      · have h := h.2 c
        refine g_iload (pc := 140) F dX10_rate_140 5 rfl ?_
        refine g_goto (pc := 142) F 178 dX10_rate_142 (by decide) ?_
        exact hR _ _ _ _ dX10_rate_178 h
    · have h := h.2 c
      refine g_iload (pc := 130) F dX10_rate_130 4 rfl ?_
      refine g_goto (pc := 132) F 178 dX10_rate_132 (by decide) ?_
      exact hR _ _ _ _ dX10_rate_178 h
  · have h := h.2 c
    refine g_iload_n (pc := 121) F dX10_rate_121 rfl 3 rfl ?_
    refine g_goto (pc := 122) F 178 dX10_rate_122 (by decide) ?_
    exact hR _ _ _ _ dX10_rate_178 h
def wX10_rate (x0 : Nat) (x1 : Int32) (x2 : Int32) (s : St) (Q : Int32 → St → Prop) : Prop :=
  ∀ s_2 : St, s_2 = stI s x0 0 (0 : Int32) → wX10_in x1 (0 : Int32) (5 : Int32) s_2 (fun r_8 s_8 => ((r_8 = 0 → Q (-1000000 : Int32) s_8) ∧ (¬ r_8 = 0 → wX10_isLane x0 x2 s_8 (fun r_16 s_16 => ((¬ r_16 = 0 → vp_in ((0 : Int32) + x2) 38 ∧ vp_in x2 12 ∧ wX10_mapsBy x0 x2 s_16 (fun r_47 s_47 => ((¬ x1 = 0 → ((¬ x1 = (1 : Int32) → ((¬ x1 = (2 : Int32) → ((¬ x1 = (3 : Int32) → ((¬ x1 = (4 : Int32) → wX10_rate_113 Q x0 x1 x2 (s_16.1 (x0 + 7) ((0 : Int32) + x2).toNatClampNeg) ((s_16.1 (x0 + 7) ((0 : Int32) + x2).toNatClampNeg) + (s_16.1 (x0 + 5) x2.toNatClampNeg)) ((s_16.1 (x0 + 7) ((0 : Int32) + x2).toNatClampNeg) - r_47) (100001 : Int64) (s_47.2.1 x0) x0 s_47) ∧ (x1 = (4 : Int32) → wX10_rate_113 Q x0 x1 x2 (s_16.1 (x0 + 7) ((0 : Int32) + x2).toNatClampNeg) ((s_16.1 (x0 + 7) ((0 : Int32) + x2).toNatClampNeg) + (s_16.1 (x0 + 5) x2.toNatClampNeg)) ((s_16.1 (x0 + 7) ((0 : Int32) + x2).toNatClampNeg) - r_47) (10101 : Int64) (s_47.2.1 x0) x0 s_47))) ∧ (x1 = (3 : Int32) → wX10_rate_113 Q x0 x1 x2 (s_16.1 (x0 + 7) ((0 : Int32) + x2).toNatClampNeg) ((s_16.1 (x0 + 7) ((0 : Int32) + x2).toNatClampNeg) + (s_16.1 (x0 + 5) x2.toNatClampNeg)) ((s_16.1 (x0 + 7) ((0 : Int32) + x2).toNatClampNeg) - r_47) (1011 : Int64) (s_47.2.1 x0) x0 s_47))) ∧ (x1 = (2 : Int32) → wX10_rate_113 Q x0 x1 x2 (s_16.1 (x0 + 7) ((0 : Int32) + x2).toNatClampNeg) ((s_16.1 (x0 + 7) ((0 : Int32) + x2).toNatClampNeg) + (s_16.1 (x0 + 5) x2.toNatClampNeg)) ((s_16.1 (x0 + 7) ((0 : Int32) + x2).toNatClampNeg) - r_47) (101 : Int64) (s_47.2.1 x0) x0 s_47))) ∧ (x1 = (1 : Int32) → wX10_rate_113 Q x0 x1 x2 (s_16.1 (x0 + 7) ((0 : Int32) + x2).toNatClampNeg) ((s_16.1 (x0 + 7) ((0 : Int32) + x2).toNatClampNeg) + (s_16.1 (x0 + 5) x2.toNatClampNeg)) ((s_16.1 (x0 + 7) ((0 : Int32) + x2).toNatClampNeg) - r_47) (11 : Int64) (s_47.2.1 x0) x0 s_47))) ∧ (x1 = 0 → wX10_rate_113 Q x0 x1 x2 (s_16.1 (x0 + 7) ((0 : Int32) + x2).toNatClampNeg) ((s_16.1 (x0 + 7) ((0 : Int32) + x2).toNatClampNeg) + (s_16.1 (x0 + 5) x2.toNatClampNeg)) ((s_16.1 (x0 + 7) ((0 : Int32) + x2).toNatClampNeg) - r_47) (1 : Int64) (s_47.2.1 x0) x0 s_47)))) ∧ (r_16 = 0 → Q (-1000000 : Int32) s_16))))))
set_option maxHeartbeats 4000000 in
set_option maxRecDepth 100000 in
theorem mX10_rate {l : Launch} {V : Wv} {x0 : Nat} {x1 : Int32} {x2 : Int32} {s : St} {Q : Int32 → St → Prop} (hx0 : isX10 V x0) (h : wX10_rate x0 x1 x2 s Q) : Ci yX10_rate cX10_rate 6 (some .int) (4) l V [rf V x0, .int x1, .int x2] s Q := by
  unfold wX10_rate at h
  refine Ci.of mvX10_rate.1 (Nat.le_of_ble_eq_true rfl) (fun X F hR => ?_)
  refine g_lv (lv' := [(_, _), (_, _), (_, _)]) rfl ?_
  refine g_aload_n (pc := 0) F dX10_rate_0 rfl 0 rfl ?_
  refine g_iconst (pc := 1) F dX10_rate_1 ic_0 ?_
  have h := h _ rfl
  refine g_putI (pc := 2) F clX10 hx0.1 0 rfl (by decide) rfl (tyX10_ok 0 (by decide)) uX10_89 dX10_rate_2 ?_
  refine g_iload_n (pc := 5) F dX10_rate_5 rfl 1 rfl ?_
  refine g_iconst (pc := 6) F dX10_rate_6 ic_0 ?_
  refine g_iconst (pc := 7) F dX10_rate_7 ic_5 ?_
  refine g_callSi (pc := 8) F (mX10_in  h) mvX10_in uX10_93 (by decide)  rfl rfl (Nat.le_of_ble_eq_true rfl) dX10_rate_8 (fun r_8 s_8 h => ?_)
  refine g_if_eq (pc := 11) F 22 dX10_rate_11 (by decide) (fun c => ?_) (fun c => ?_)
  · have h := h.1 c
    refine g_ldc (pc := 22) F dX10_rate_22 uX10_242 ?_
    exact hR _ _ _ _ dX10_rate_24 h
  · have h := h.2 c
    refine g_aload_n (pc := 14) F dX10_rate_14 rfl 0 rfl ?_
    refine g_iload_n (pc := 15) F dX10_rate_15 rfl 2 rfl ?_
    refine g_callVi (pc := 16) F (mX10_isLane hx0 h) mvX10_isLane uX10_171 (by decide) clX10 hx0.1 rfl rfl (Nat.le_of_ble_eq_true rfl) dX10_rate_16 (fun r_16 s_16 h => ?_)
    refine g_if_ne (pc := 19) F 25 dX10_rate_19 (by decide) (fun c => ?_) (fun c => ?_)
    · have h := h.1 c
      refine g_aload_n (pc := 25) F dX10_rate_25 rfl 0 rfl ?_
      refine g_getR (pc := 26) F clX10 hx0.1 14 _ rfl (by decide) uX10_28 dX10_rate_26 ?_
      refine g_iconst (pc := 29) F dX10_rate_29 ic_0 ?_
      refine g_iload_n (pc := 30) F dX10_rate_30 rfl 2 rfl ?_
      refine g_iadd (pc := 31) F dX10_rate_31 ?_
      obtain ⟨hb_32, h⟩ := h
      refine g_iald (pc := 32) F hx0.2.2.2.2.2.2.2.1 hb_32 dX10_rate_32 ?_
      refine g_istore_n (pc := 33) (lv' := [(_, _), (_, _), (_, _), (_, _)]) F dX10_rate_33 rfl (by decide) rfl ?_
      refine g_iload_n (pc := 34) F dX10_rate_34 rfl 0 rfl ?_
      refine g_aload_n (pc := 35) F dX10_rate_35 rfl 1 rfl ?_
      refine g_getR (pc := 36) F clX10 hx0.1 12 _ rfl (by decide) uX10_22 dX10_rate_36 ?_
      refine g_iload_n (pc := 39) F dX10_rate_39 rfl 3 rfl ?_
      obtain ⟨hb_40, h⟩ := h
      refine g_iald (pc := 40) F hx0.2.2.2.2.2.1 hb_40 dX10_rate_40 ?_
      refine g_iadd (pc := 41) F dX10_rate_41 ?_
      refine g_istore (pc := 42) (lv' := [(_, _), (_, _), (_, _), (_, _), (_, _)]) F dX10_rate_42 (by decide) rfl ?_
      refine g_iload_n (pc := 44) F dX10_rate_44 rfl 1 rfl ?_
      refine g_aload_n (pc := 45) F dX10_rate_45 rfl 2 rfl ?_
      refine g_iload_n (pc := 46) F dX10_rate_46 rfl 4 rfl ?_
      refine g_callVi (pc := 47) F (mX10_mapsBy hx0 h) mvX10_mapsBy uX10_175 (by decide) clX10 hx0.1 rfl rfl (Nat.le_of_ble_eq_true rfl) dX10_rate_47 (fun r_47 s_47 h => ?_)
      refine g_isub (pc := 50) F dX10_rate_50 ?_
      refine g_istore (pc := 51) (lv' := [(_, _), (_, _), (_, _), (_, _), (_, _), (_, _)]) F dX10_rate_51 (by decide) rfl ?_
      refine g_aload_n (pc := 53) F dX10_rate_53 rfl 3 rfl ?_
      refine g_dup (pc := 54) F dX10_rate_54 rfl ?_
      refine g_getL (pc := 55) F clX10 hx0.1 1 rfl (by decide) uX10_243 dX10_rate_55 ?_
      refine g_iload_n (pc := 58) F dX10_rate_58 rfl 4 rfl ?_
      refine g_if_ne (pc := 59) F 66 dX10_rate_59 (by decide) (fun c => ?_) (fun c => ?_)
      · have h := h.1 c
        refine g_iload_n (pc := 66) F dX10_rate_66 rfl 4 rfl ?_
        refine g_iconst (pc := 67) F dX10_rate_67 ic_1 ?_
        refine g_icmp_ne (pc := 68) F 77 dX10_rate_68 (by decide) (fun c => ?_) (fun c => ?_)
        · have h := h.1 c
          refine g_iload_n (pc := 77) F dX10_rate_77 rfl 4 rfl ?_
          refine g_iconst (pc := 78) F dX10_rate_78 ic_2 ?_
          refine g_icmp_ne (pc := 79) F 88 dX10_rate_79 (by decide) (fun c => ?_) (fun c => ?_)
          · have h := h.1 c
            refine g_iload_n (pc := 88) F dX10_rate_88 rfl 4 rfl ?_
            refine g_iconst (pc := 89) F dX10_rate_89 ic_3 ?_
            refine g_icmp_ne (pc := 90) F 99 dX10_rate_90 (by decide) (fun c => ?_) (fun c => ?_)
            · have h := h.1 c
              refine g_iload_n (pc := 99) F dX10_rate_99 rfl 4 rfl ?_
              refine g_iconst (pc := 100) F dX10_rate_100 ic_4 ?_
              refine g_icmp_ne (pc := 101) F 110 dX10_rate_101 (by decide) (fun c => ?_) (fun c => ?_)
              · have h := h.1 c
                refine g_ldc2 (pc := 110) F dX10_rate_110 uX10_255 ?_
                exact g_weak [3, 4, 5, 2, 1, 0] rfl (bX10_rate_113 F hR hx0 hx0 h)
              · have h := h.2 c
                refine g_ldc2 (pc := 104) F dX10_rate_104 uX10_253 ?_
                refine g_goto (pc := 107) F 113 dX10_rate_107 (by decide) ?_
                exact g_weak [3, 4, 5, 2, 1, 0] rfl (bX10_rate_113 F hR hx0 hx0 h)
            · have h := h.2 c
              refine g_ldc2 (pc := 93) F dX10_rate_93 uX10_251 ?_
              refine g_goto (pc := 96) F 113 dX10_rate_96 (by decide) ?_
              exact g_weak [3, 4, 5, 2, 1, 0] rfl (bX10_rate_113 F hR hx0 hx0 h)
          · have h := h.2 c
            refine g_ldc2 (pc := 82) F dX10_rate_82 uX10_249 ?_
            refine g_goto (pc := 85) F 113 dX10_rate_85 (by decide) ?_
            exact g_weak [3, 4, 5, 2, 1, 0] rfl (bX10_rate_113 F hR hx0 hx0 h)
        · have h := h.2 c
          refine g_ldc2 (pc := 71) F dX10_rate_71 uX10_247 ?_
          refine g_goto (pc := 74) F 113 dX10_rate_74 (by decide) ?_
          exact g_weak [3, 4, 5, 2, 1, 0] rfl (bX10_rate_113 F hR hx0 hx0 h)
      · have h := h.2 c
        refine g_lconst (pc := 62) (v := 1) F dX10_rate_62 (by decide) ?_
        refine g_goto (pc := 63) F 113 dX10_rate_63 (by decide) ?_
        exact g_weak [3, 4, 5, 2, 1, 0] rfl (bX10_rate_113 F hR hx0 hx0 h)
    · have h := h.2 c
      refine g_ldc (pc := 22) F dX10_rate_22 uX10_242 ?_
      exact hR _ _ _ _ dX10_rate_24 h
def wX10_keep_18 (x0 : Nat) (x1 : Int32) (K47 : St → Prop) (Q : Int32 → St → Prop) : Nat → Int32 → St → Prop
  | 0, _, _ => False
  | n + 1, x2, s =>
  (((38 : Int32) ≤ x2 → K47  s) ∧ (¬ (38 : Int32) ≤ x2 → vp_in x2 38 ∧ vp_in (((38 : Int32) * x1) + x2) 76 ∧ ∀ s_40 : St, s_40 = stI s (x0 + 8) (((38 : Int32) * x1) + x2).toNatClampNeg (s.1 (x0 + 7) x2.toNatClampNeg) → wX10_keep_18 x0 x1 K47 Q n (x2 + (1 : Int32)) s_40))
set_option maxHeartbeats 4000000 in
set_option maxRecDepth 100000 in
theorem bX10_keep_18 {l : Launch} {V : Wv} {X : Mx} {x0 : Nat} {x1 : Int32} {K47 : St → Prop} {Q : Int32 → St → Prop} (F : Fx V X cX10_keep RX10 3 1) (hR : RtI l V X 3 cX10_keep Q) (hx0 : isX10 V x0) (hK47 : ∀  (s : St), K47  s → G l V X 3 47 [(0, rf V x0), (1, .int x1)] [] s) : ∀ (n : Nat) (x2 : Int32) (s : St), wX10_keep_18 x0 x1 K47 Q n x2 s → G l V X 3 18 [(0, rf V x0), (1, .int x1), (2, .int x2)] [] s := by
  intro n
  induction n with
  | zero => intro x2 s h; unfold wX10_keep_18 at h; exact h.elim
  | succ n ih =>
    intro x2 s h
    unfold wX10_keep_18 at h
    refine g_iload_n (pc := 18) F dX10_keep_18 rfl 2 rfl ?_
    refine g_bipush (pc := 19) F dX10_keep_19 bp_38 ?_
    refine g_icmp_ge (pc := 21) F 47 dX10_keep_21 (by decide) (fun c => ?_) (fun c => ?_)
    · have h := h.1 c
      exact g_weak [0, 1] rfl (hK47 _ h)
    · have h := h.2 c
      refine g_aload_n (pc := 24) F dX10_keep_24 rfl 0 rfl ?_
      refine g_getR (pc := 25) F clX10 hx0.1 15 _ rfl (by decide) uX10_31 dX10_keep_25 ?_
      refine g_bipush (pc := 28) F dX10_keep_28 bp_38 ?_
      refine g_iload_n (pc := 30) F dX10_keep_30 rfl 1 rfl ?_
      refine g_imul (pc := 31) F dX10_keep_31 ?_
      refine g_iload_n (pc := 32) F dX10_keep_32 rfl 2 rfl ?_
      refine g_iadd (pc := 33) F dX10_keep_33 ?_
      refine g_aload_n (pc := 34) F dX10_keep_34 rfl 0 rfl ?_
      refine g_getR (pc := 35) F clX10 hx0.1 14 _ rfl (by decide) uX10_28 dX10_keep_35 ?_
      refine g_iload_n (pc := 38) F dX10_keep_38 rfl 2 rfl ?_
      obtain ⟨hb_39, h⟩ := h
      refine g_iald (pc := 39) F hx0.2.2.2.2.2.2.2.1 hb_39 dX10_keep_39 ?_
      obtain ⟨hb_40, h⟩ := h
      have h := h _ rfl
      refine g_iast (pc := 40) F hx0.2.2.2.2.2.2.2.2.1 hb_40 dX10_keep_40 ?_
      refine g_iinc (pc := 41) (lv' := [(_, _), (_, _), (_, _)]) F dX10_keep_41 2 rfl (congrArg _ ic_1) (by decide) rfl ?_
      refine g_goto (pc := 44) F 18 dX10_keep_44 (by decide) ?_
      exact g_weak [1, 2, 0] rfl (ih _ _ h)
def wX10_keep (x0 : Nat) (x1 : Int32) (s : St) (Q : Int32 → St → Prop) : Prop :=
  ∀ s_2 : St, s_2 = stI s x0 0 (0 : Int32) → wX10_in x1 (0 : Int32) (1 : Int32) s_2 (fun r_8 s_8 => ((¬ r_8 = 0 → (∃ k_18, wX10_keep_18  x0 x1 (fun  s_k47 => vp_in x1 2 ∧ ∀ s_53 : St, s_53 = stI s_k47 (x0 + 9) x1.toNatClampNeg (1 : Int32) → vp_in (6 : Int32) 38 ∧ Q (s_53.1 (x0 + 7) (6 : Int32).toNatClampNeg) s_53) Q k_18 (0 : Int32) s_8)) ∧ (r_8 = 0 → Q (-1 : Int32) s_8)))
set_option maxHeartbeats 4000000 in
set_option maxRecDepth 100000 in
theorem mX10_keep {l : Launch} {V : Wv} {x0 : Nat} {x1 : Int32} {s : St} {Q : Int32 → St → Prop} (hx0 : isX10 V x0) (h : wX10_keep x0 x1 s Q) : Ci yX10_keep cX10_keep 3 (some .int) (1) l V [rf V x0, .int x1] s Q := by
  unfold wX10_keep at h
  refine Ci.of mvX10_keep.1 (Nat.le_of_ble_eq_true rfl) (fun X F hR => ?_)
  refine g_lv (lv' := [(_, _), (_, _)]) rfl ?_
  refine g_aload_n (pc := 0) F dX10_keep_0 rfl 0 rfl ?_
  refine g_iconst (pc := 1) F dX10_keep_1 ic_0 ?_
  have h := h _ rfl
  refine g_putI (pc := 2) F clX10 hx0.1 0 rfl (by decide) rfl (tyX10_ok 0 (by decide)) uX10_89 dX10_keep_2 ?_
  refine g_iload_n (pc := 5) F dX10_keep_5 rfl 1 rfl ?_
  refine g_iconst (pc := 6) F dX10_keep_6 ic_0 ?_
  refine g_iconst (pc := 7) F dX10_keep_7 ic_1 ?_
  refine g_callSi (pc := 8) F (mX10_in  h) mvX10_in uX10_93 (by decide)  rfl rfl (Nat.le_of_ble_eq_true rfl) dX10_keep_8 (fun r_8 s_8 h => ?_)
  refine g_if_ne (pc := 11) F 16 dX10_keep_11 (by decide) (fun c => ?_) (fun c => ?_)
  · have h := h.1 c
    refine g_iconst (pc := 16) F dX10_keep_16 ic_0 ?_
    refine g_istore_n (pc := 17) (lv' := [(_, _), (_, _), (_, _)]) F dX10_keep_17 rfl (by decide) rfl ?_
    obtain ⟨k_18, h⟩ := h
    refine g_weak [1, 2, 0] rfl (bX10_keep_18 F hR hx0 (fun  s_k47 h => ?_) k_18 _ _ h)
    · refine g_aload_n (pc := 47) F dX10_keep_47 rfl 0 rfl ?_
      refine g_getR (pc := 48) F clX10 hx0.1 16 _ rfl (by decide) uX10_34 dX10_keep_48 ?_
      refine g_iload_n (pc := 51) F dX10_keep_51 rfl 1 rfl ?_
      refine g_iconst (pc := 52) F dX10_keep_52 ic_1 ?_
      obtain ⟨hb_53, h⟩ := h
      have h := h _ rfl
      refine g_zast (pc := 53) F hx0.2.2.2.2.2.2.2.2.2.1 hb_53 (by decide) dX10_keep_53 ?_
      refine g_aload_n (pc := 54) F dX10_keep_54 rfl 0 rfl ?_
      refine g_getR (pc := 55) F clX10 hx0.1 14 _ rfl (by decide) uX10_28 dX10_keep_55 ?_
      refine g_bipush (pc := 58) F dX10_keep_58 bp_6 ?_
      obtain ⟨hb_60, h⟩ := h
      refine g_iald (pc := 60) F hx0.2.2.2.2.2.2.2.1 hb_60 dX10_keep_60 ?_
      exact hR _ _ _ _ dX10_keep_61 h
  · have h := h.2 c
    refine g_iconst (pc := 14) F dX10_keep_14 ic_m1 ?_
    exact hR _ _ _ _ dX10_keep_15 h
def wX10_back_30 (x0 : Nat) (x1 : Int32) (K59 : St → Prop) (Q : Int32 → St → Prop) : Nat → Int32 → St → Prop
  | 0, _, _ => False
  | n + 1, x2, s =>
  (((38 : Int32) ≤ x2 → K59  s) ∧ (¬ (38 : Int32) ≤ x2 → vp_in (((38 : Int32) * x1) + x2) 76 ∧ vp_in x2 38 ∧ ∀ s_52 : St, s_52 = stI s (x0 + 7) x2.toNatClampNeg (s.1 (x0 + 8) (((38 : Int32) * x1) + x2).toNatClampNeg) → wX10_back_30 x0 x1 K59 Q n (x2 + (1 : Int32)) s_52))
set_option maxHeartbeats 4000000 in
set_option maxRecDepth 100000 in
theorem bX10_back_30 {l : Launch} {V : Wv} {X : Mx} {x0 : Nat} {x1 : Int32} {K59 : St → Prop} {Q : Int32 → St → Prop} (F : Fx V X cX10_back RX10 3 1) (hR : RtI l V X 3 cX10_back Q) (hx0 : isX10 V x0) (hK59 : ∀  (s : St), K59  s → G l V X 3 59 [(0, rf V x0)] [] s) : ∀ (n : Nat) (x2 : Int32) (s : St), wX10_back_30 x0 x1 K59 Q n x2 s → G l V X 3 30 [(0, rf V x0), (1, .int x1), (2, .int x2)] [] s := by
  intro n
  induction n with
  | zero => intro x2 s h; unfold wX10_back_30 at h; exact h.elim
  | succ n ih =>
    intro x2 s h
    unfold wX10_back_30 at h
    refine g_iload_n (pc := 30) F dX10_back_30 rfl 2 rfl ?_
    refine g_bipush (pc := 31) F dX10_back_31 bp_38 ?_
    refine g_icmp_ge (pc := 33) F 59 dX10_back_33 (by decide) (fun c => ?_) (fun c => ?_)
    · have h := h.1 c
      exact g_weak [0] rfl (hK59 _ h)
    · have h := h.2 c
      refine g_aload_n (pc := 36) F dX10_back_36 rfl 0 rfl ?_
      refine g_getR (pc := 37) F clX10 hx0.1 14 _ rfl (by decide) uX10_28 dX10_back_37 ?_
      refine g_iload_n (pc := 40) F dX10_back_40 rfl 2 rfl ?_
      refine g_aload_n (pc := 41) F dX10_back_41 rfl 0 rfl ?_
      refine g_getR (pc := 42) F clX10 hx0.1 15 _ rfl (by decide) uX10_31 dX10_back_42 ?_
      refine g_bipush (pc := 45) F dX10_back_45 bp_38 ?_
      refine g_iload_n (pc := 47) F dX10_back_47 rfl 1 rfl ?_
      refine g_imul (pc := 48) F dX10_back_48 ?_
      refine g_iload_n (pc := 49) F dX10_back_49 rfl 2 rfl ?_
      refine g_iadd (pc := 50) F dX10_back_50 ?_
      obtain ⟨hb_51, h⟩ := h
      refine g_iald (pc := 51) F hx0.2.2.2.2.2.2.2.2.1 hb_51 dX10_back_51 ?_
      obtain ⟨hb_52, h⟩ := h
      have h := h _ rfl
      refine g_iast (pc := 52) F hx0.2.2.2.2.2.2.2.1 hb_52 dX10_back_52 ?_
      refine g_iinc (pc := 53) (lv' := [(_, _), (_, _), (_, _)]) F dX10_back_53 2 rfl (congrArg _ ic_1) (by decide) rfl ?_
      refine g_goto (pc := 56) F 30 dX10_back_56 (by decide) ?_
      exact g_weak [1, 2, 0] rfl (ih _ _ h)
def wX10_back (x0 : Nat) (x1 : Int32) (s : St) (Q : Int32 → St → Prop) : Prop :=
  ∀ s_2 : St, s_2 = stI s x0 0 (0 : Int32) → wX10_in x1 (0 : Int32) (1 : Int32) s_2 (fun r_8 s_8 => ((¬ r_8 = 0 → vp_in x1 2 ∧ ((¬ (s_8.1 (x0 + 9) x1.toNatClampNeg) = 0 → (∃ k_30, wX10_back_30  x0 x1 (fun  s_k59 => ∀ s_61 : St, s_61 = stI s_k59 x0 18 (0 : Int32) → vp_in (6 : Int32) 38 ∧ Q (s_61.1 (x0 + 7) (6 : Int32).toNatClampNeg) s_61) Q k_30 (0 : Int32) s_8)) ∧ ((s_8.1 (x0 + 9) x1.toNatClampNeg) = 0 → Q (-2 : Int32) s_8))) ∧ (r_8 = 0 → Q (-1 : Int32) s_8)))
set_option maxHeartbeats 4000000 in
set_option maxRecDepth 100000 in
theorem mX10_back {l : Launch} {V : Wv} {x0 : Nat} {x1 : Int32} {s : St} {Q : Int32 → St → Prop} (hx0 : isX10 V x0) (h : wX10_back x0 x1 s Q) : Ci yX10_back cX10_back 3 (some .int) (1) l V [rf V x0, .int x1] s Q := by
  unfold wX10_back at h
  refine Ci.of mvX10_back.1 (Nat.le_of_ble_eq_true rfl) (fun X F hR => ?_)
  refine g_lv (lv' := [(_, _), (_, _)]) rfl ?_
  refine g_aload_n (pc := 0) F dX10_back_0 rfl 0 rfl ?_
  refine g_iconst (pc := 1) F dX10_back_1 ic_0 ?_
  have h := h _ rfl
  refine g_putI (pc := 2) F clX10 hx0.1 0 rfl (by decide) rfl (tyX10_ok 0 (by decide)) uX10_89 dX10_back_2 ?_
  refine g_iload_n (pc := 5) F dX10_back_5 rfl 1 rfl ?_
  refine g_iconst (pc := 6) F dX10_back_6 ic_0 ?_
  refine g_iconst (pc := 7) F dX10_back_7 ic_1 ?_
  refine g_callSi (pc := 8) F (mX10_in  h) mvX10_in uX10_93 (by decide)  rfl rfl (Nat.le_of_ble_eq_true rfl) dX10_back_8 (fun r_8 s_8 h => ?_)
  refine g_if_ne (pc := 11) F 16 dX10_back_11 (by decide) (fun c => ?_) (fun c => ?_)
  · have h := h.1 c
    refine g_aload_n (pc := 16) F dX10_back_16 rfl 0 rfl ?_
    refine g_getR (pc := 17) F clX10 hx0.1 16 _ rfl (by decide) uX10_34 dX10_back_17 ?_
    refine g_iload_n (pc := 20) F dX10_back_20 rfl 1 rfl ?_
    obtain ⟨hb_21, h⟩ := h
    refine g_zald (pc := 21) F hx0.2.2.2.2.2.2.2.2.2.1 hb_21 dX10_back_21 ?_
    refine g_if_ne (pc := 22) F 28 dX10_back_22 (by decide) (fun c => ?_) (fun c => ?_)
    · have h := h.1 c
      refine g_iconst (pc := 28) F dX10_back_28 ic_0 ?_
      refine g_istore_n (pc := 29) (lv' := [(_, _), (_, _), (_, _)]) F dX10_back_29 rfl (by decide) rfl ?_
      obtain ⟨k_30, h⟩ := h
      refine g_weak [1, 2, 0] rfl (bX10_back_30 F hR hx0 (fun  s_k59 h => ?_) k_30 _ _ h)
      · refine g_aload_n (pc := 59) F dX10_back_59 rfl 0 rfl ?_
        refine g_iconst (pc := 60) F dX10_back_60 ic_0 ?_
        have h := h _ rfl
        refine g_putI (pc := 61) F clX10 hx0.1 18 rfl (by decide) rfl (tyX10_ok 18 (by decide)) uX10_161 dX10_back_61 ?_
        refine g_aload_n (pc := 64) F dX10_back_64 rfl 0 rfl ?_
        refine g_getR (pc := 65) F clX10 hx0.1 14 _ rfl (by decide) uX10_28 dX10_back_65 ?_
        refine g_bipush (pc := 68) F dX10_back_68 bp_6 ?_
        obtain ⟨hb_70, h⟩ := h
        refine g_iald (pc := 70) F hx0.2.2.2.2.2.2.2.1 hb_70 dX10_back_70 ?_
        exact hR _ _ _ _ dX10_back_71 h
    · have h := h.2 c
      refine g_bipush (pc := 25) F dX10_back_25 bp_m2 ?_
      exact hR _ _ _ _ dX10_back_27 h
  · have h := h.2 c
    refine g_iconst (pc := 14) F dX10_back_14 ic_m1 ?_
    exact hR _ _ _ _ dX10_back_15 h
def wX10_count (x0 : Nat) (x1 : Int32) (s : St) (Q : Int32 → St → Prop) : Prop :=
  ∀ s_2 : St, s_2 = stI s x0 0 (0 : Int32) → wX10_in x1 (0 : Int32) (1 : Int32) s_2 (fun r_8 s_8 => ((r_8 = 0 → ((¬ x1 = (2 : Int32) → ((¬ x1 = (3 : Int32) → ((¬ x1 = (4 : Int32) → Q (-1 : Int32) s_8) ∧ (x1 = (4 : Int32) → Q (s_8.1 x0 3) s_8))) ∧ (x1 = (3 : Int32) → Q (s_8.1 x0 21) s_8))) ∧ (x1 = (2 : Int32) → vp_in (6 : Int32) 38 ∧ Q (s_8.1 (x0 + 7) (6 : Int32).toNatClampNeg) s_8))) ∧ (¬ r_8 = 0 → vp_in x1 4 ∧ Q (s_8.1 (x0 + 2) x1.toNatClampNeg) s_8)))
set_option maxHeartbeats 4000000 in
set_option maxRecDepth 100000 in
theorem mX10_count {l : Launch} {V : Wv} {x0 : Nat} {x1 : Int32} {s : St} {Q : Int32 → St → Prop} (hx0 : isX10 V x0) (h : wX10_count x0 x1 s Q) : Ci yX10_count cX10_count 2 (some .int) (1) l V [rf V x0, .int x1] s Q := by
  unfold wX10_count at h
  refine Ci.of mvX10_count.1 (Nat.le_of_ble_eq_true rfl) (fun X F hR => ?_)
  refine g_lv (lv' := [(_, _), (_, _)]) rfl ?_
  refine g_aload_n (pc := 0) F dX10_count_0 rfl 0 rfl ?_
  refine g_iconst (pc := 1) F dX10_count_1 ic_0 ?_
  have h := h _ rfl
  refine g_putI (pc := 2) F clX10 hx0.1 0 rfl (by decide) rfl (tyX10_ok 0 (by decide)) uX10_89 dX10_count_2 ?_
  refine g_iload_n (pc := 5) F dX10_count_5 rfl 1 rfl ?_
  refine g_iconst (pc := 6) F dX10_count_6 ic_0 ?_
  refine g_iconst (pc := 7) F dX10_count_7 ic_1 ?_
  refine g_callSi (pc := 8) F (mX10_in  h) mvX10_in uX10_93 (by decide)  rfl rfl (Nat.le_of_ble_eq_true rfl) dX10_count_8 (fun r_8 s_8 h => ?_)
  refine g_if_eq (pc := 11) F 23 dX10_count_11 (by decide) (fun c => ?_) (fun c => ?_)
  · have h := h.1 c
    refine g_iload_n (pc := 23) F dX10_count_23 rfl 1 rfl ?_
    refine g_iconst (pc := 24) F dX10_count_24 ic_2 ?_
    refine g_icmp_ne (pc := 25) F 38 dX10_count_25 (by decide) (fun c => ?_) (fun c => ?_)
    · have h := h.1 c
      refine g_iload_n (pc := 38) F dX10_count_38 rfl 1 rfl ?_
      refine g_iconst (pc := 39) F dX10_count_39 ic_3 ?_
      refine g_icmp_ne (pc := 40) F 50 dX10_count_40 (by decide) (fun c => ?_) (fun c => ?_)
      · have h := h.1 c
        refine g_iload_n (pc := 50) F dX10_count_50 rfl 1 rfl ?_
        refine g_iconst (pc := 51) F dX10_count_51 ic_4 ?_
        refine g_icmp_ne (pc := 52) F 62 dX10_count_52 (by decide) (fun c => ?_) (fun c => ?_)
        · have h := h.1 c
          refine g_iconst (pc := 62) F dX10_count_62 ic_m1 ?_
          exact hR _ _ _ _ dX10_count_63 h
        · have h := h.2 c
          refine g_aload_n (pc := 55) F dX10_count_55 rfl 0 rfl ?_
          refine g_getI (pc := 56) F clX10 hx0.1 3 rfl (by decide) uX10_97 dX10_count_56 ?_
          refine g_goto (pc := 59) F 63 dX10_count_59 (by decide) ?_
          exact hR _ _ _ _ dX10_count_63 h
      · have h := h.2 c
        refine g_aload_n (pc := 43) F dX10_count_43 rfl 0 rfl ?_
        refine g_getI (pc := 44) F clX10 hx0.1 21 rfl (by decide) uX10_158 dX10_count_44 ?_
        refine g_goto (pc := 47) F 63 dX10_count_47 (by decide) ?_
        exact hR _ _ _ _ dX10_count_63 h
    · have h := h.2 c
      refine g_aload_n (pc := 28) F dX10_count_28 rfl 0 rfl ?_
      refine g_getR (pc := 29) F clX10 hx0.1 14 _ rfl (by decide) uX10_28 dX10_count_29 ?_
      refine g_bipush (pc := 32) F dX10_count_32 bp_6 ?_
      obtain ⟨hb_34, h⟩ := h
      refine g_iald (pc := 34) F hx0.2.2.2.2.2.2.2.1 hb_34 dX10_count_34 ?_
      refine g_goto (pc := 35) F 63 dX10_count_35 (by decide) ?_
      exact hR _ _ _ _ dX10_count_63 h
  · have h := h.2 c
    refine g_aload_n (pc := 14) F dX10_count_14 rfl 0 rfl ?_
    refine g_getR (pc := 15) F clX10 hx0.1 9 _ rfl (by decide) uX10_13 dX10_count_15 ?_
    refine g_iload_n (pc := 18) F dX10_count_18 rfl 1 rfl ?_
    obtain ⟨hb_19, h⟩ := h
    refine g_iald (pc := 19) F hx0.2.2.1 hb_19 dX10_count_19 ?_
    refine g_goto (pc := 20) F 63 dX10_count_20 (by decide) ?_
    exact hR _ _ _ _ dX10_count_63 h
def wX10_trace (x0 : Nat) (s : St) (Q : Int64 → St → Prop) : Prop :=
  ∀ s_2 : St, s_2 = stI s x0 0 (0 : Int32) → Q (s_2.2.1 x0) s_2
set_option maxHeartbeats 4000000 in
set_option maxRecDepth 100000 in
theorem mX10_trace {l : Launch} {V : Wv} {x0 : Nat} {s : St} {Q : Int64 → St → Prop} (hx0 : isX10 V x0) (h : wX10_trace x0 s Q) : Cl yX10_trace cX10_trace 1 (0) l V [rf V x0] s Q := by
  unfold wX10_trace at h
  refine Cl.of mvX10_trace.1 (Nat.le_of_ble_eq_true rfl) (fun X F hR => ?_)
  refine g_lv (lv' := [(_, _)]) rfl ?_
  refine g_aload_n (pc := 0) F dX10_trace_0 rfl 0 rfl ?_
  refine g_iconst (pc := 1) F dX10_trace_1 ic_0 ?_
  have h := h _ rfl
  refine g_putI (pc := 2) F clX10 hx0.1 0 rfl (by decide) rfl (tyX10_ok 0 (by decide)) uX10_89 dX10_trace_2 ?_
  refine g_aload_n (pc := 5) F dX10_trace_5 rfl 0 rfl ?_
  refine g_getL (pc := 6) F clX10 hx0.1 1 rfl (by decide) uX10_243 dX10_trace_6 ?_
  exact hR _ _ _ _ dX10_trace_9 h
