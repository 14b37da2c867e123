/-! printed by program: what each method does to the state (w..), and that its code does so (b.., m..) -/
def wX4_bindWay_140 (rec : Int32 → St → Prop) (Q : St → Prop) (x0 : Nat) (x1 : Nat) (x2 : Int32) (x3 : Int32) (s : St) : Prop :=
  rec (x3 + (1 : Int32)) s
set_option maxHeartbeats 4000000 in
set_option maxRecDepth 100000 in
theorem bX4_bindWay_140 {l : Launch} {V : Wv} {X : Mx} {rec : Int32 → St → Prop} {Q : St → Prop} {x0 : Nat} {x1 : Nat} {x2 : Int32} {x3 : Int32} (F : Fx V X cX4_bindWay RX4 6 1) (hR : RtV l V X 6 cX4_bindWay Q) (hx0 : isX4 V x0) (hx1 : isX8 V x1) (hrec : ∀ (y3 : Int32) (s : St), rec y3 s → G l V X 6 2 [(0, rf V x0), (1, rf V x1), (2, .int x2), (3, .int y3)] [] s) {s : St} (h : wX4_bindWay_140 rec Q x0 x1 x2 x3 s) : G l V X 6 140 [(0, rf V x0), (1, rf V x1), (2, .int x2), (3, .int x3)] [] s := by
  unfold wX4_bindWay_140 at h
  refine g_iinc (pc := 140) (lv' := [(_, _), (_, _), (_, _), (_, _)]) F dX4_bindWay_140 3 rfl (congrArg _ ic_1) (by decide) rfl ?_
  refine g_goto (pc := 143) F 2 dX4_bindWay_143 (by decide) ?_
  exact g_weak [1, 2, 3, 0] rfl (hrec _ _ h)
def wX4_bindWay_2 (x0 : Nat) (x1 : Nat) (x2 : Int32) (Q : St → Prop) : Nat → Int32 → St → Prop
  | 0, _, _ => False
  | n + 1, x3, s =>
  (((s.1 x1 0) ≤ x3 → Q s) ∧ (¬ (s.1 x1 0) ≤ x3 → ((x3 = x2 → wX4_bindWay_140 (wX4_bindWay_2 x0 x1 x2 Q n) Q x0 x1 x2 x3 s) ∧ (¬ x3 = x2 → vp_in x3 33 ∧ vp_in x2 33 ∧ ((¬ (s.1 (x1 + 3) x3.toNatClampNeg) = (s.1 (x1 + 3) x2.toNatClampNeg) → wX4_bindWay_140 (wX4_bindWay_2 x0 x1 x2 Q n) Q x0 x1 x2 x3 s) ∧ ((s.1 (x1 + 3) x3.toNatClampNeg) = (s.1 (x1 + 3) x2.toNatClampNeg) → (((20 : Int32) ≤ (s.1 x0 1) → wX4_bindWay_140 (wX4_bindWay_2 x0 x1 x2 Q n) Q x0 x1 x2 x3 s) ∧ (¬ (20 : Int32) ≤ (s.1 x0 1) → vp_in x2 33 ∧ vp_in x3 33 ∧ vp_in (s.1 x0 1) 20 ∧ ∀ s_73 : St, s_73 = stI s (x0 + 1) (s.1 x0 1).toNatClampNeg ((s.1 (x1 + 4) x2.toNatClampNeg) &&& ((s.1 (x1 + 4) x3.toNatClampNeg) ^^^ (-1 : Int32))) → vp_in (s_73.1 x0 1) 20 ∧ ∀ s_89 : St, s_89 = stI s_73 (x0 + 2) (s_73.1 x0 1).toNatClampNeg ((s.1 (x1 + 4) x3.toNatClampNeg) &&& ((s.1 (x1 + 4) x2.toNatClampNeg) ^^^ (-1 : Int32))) → vp_in (0 : Int32) 7 ∧ vp_in (s_89.1 x0 1) 20 ∧ wJ6_bitCount_0f7a4 (s_89.1 (x0 + 1) (s_89.1 x0 1).toNatClampNeg) s_89 (fun r_110 s_110 => vp_in (s_110.1 x0 1) 20 ∧ wJ6_bitCount_0f7a4 (s_110.1 (x0 + 2) (s_110.1 x0 1).toNatClampNeg) s_110 (fun r_124 s_124 => vp_in (s_89.1 x0 1) 20 ∧ ∀ s_129 : St, s_129 = stI s_124 ((x0 + 4) + 1 * (0 : Int32).toNatClampNeg) (s_89.1 x0 1).toNatClampNeg (((1 : Int32) * r_110) - ((5 : Int32) * r_124)) → ∀ s_137 : St, s_137 = stI s_129 x0 1 ((s_129.1 x0 1) + (1 : Int32)) → wX4_bindWay_140 (wX4_bindWay_2 x0 x1 x2 Q n) Q x0 x1 x2 x3 s_137))))))))))
set_option maxHeartbeats 4000000 in
set_option maxRecDepth 100000 in
theorem bX4_bindWay_2 {l : Launch} {V : Wv} {X : Mx} {x0 : Nat} {x1 : Nat} {x2 : Int32} {Q : St → Prop} (F : Fx V X cX4_bindWay RX4 6 1) (hR : RtV l V X 6 cX4_bindWay Q) (hx0 : isX4 V x0) (hx1 : isX8 V x1)  : ∀ (n : Nat) (x3 : Int32) (s : St), wX4_bindWay_2 x0 x1 x2 Q n x3 s → G l V X 6 2 [(0, rf V x0), (1, rf V x1), (2, .int x2), (3, .int x3)] [] s := by
  intro n
  induction n with
  | zero => intro x3 s h; unfold wX4_bindWay_2 at h; exact h.elim
  | succ n ih =>
    intro x3 s h
    unfold wX4_bindWay_2 at h
    refine g_iload_n (pc := 2) F dX4_bindWay_2 rfl 3 rfl ?_
    refine g_aload_n (pc := 3) F dX4_bindWay_3 rfl 1 rfl ?_
    refine g_getI (pc := 4) F clX8 hx1.1 0 rfl (by decide) uX4_52 dX4_bindWay_4 ?_
    refine g_icmp_ge (pc := 7) F 146 dX4_bindWay_7 (by decide) (fun c => ?_) (fun c => ?_)
    · have h := h.1 c
      exact hR _ _ _ dX4_bindWay_146 h
    · have h := h.2 c
      refine g_iload_n (pc := 10) F dX4_bindWay_10 rfl 3 rfl ?_
      refine g_iload_n (pc := 11) F dX4_bindWay_11 rfl 2 rfl ?_
      refine g_icmp_eq (pc := 12) F 140 dX4_bindWay_12 (by decide) (fun c => ?_) (fun c => ?_)
      · have h := h.1 c
        exact g_weak [0, 1, 2, 3] rfl (bX4_bindWay_140 F hR hx0 hx1 ih h)
      · have h := h.2 c
        refine g_aload_n (pc := 15) F dX4_bindWay_15 rfl 1 rfl ?_
        refine g_getR (pc := 16) F clX8 hx1.1 3 _ rfl (by decide) uX4_61 dX4_bindWay_16 ?_
        refine g_iload_n (pc := 19) F dX4_bindWay_19 rfl 3 rfl ?_
        obtain ⟨hb_20, h⟩ := h
        refine g_iald (pc := 20) F hx1.2.2.2.1 hb_20 dX4_bindWay_20 ?_
        refine g_aload_n (pc := 21) F dX4_bindWay_21 rfl 1 rfl ?_
        refine g_getR (pc := 22) F clX8 hx1.1 3 _ rfl (by decide) uX4_61 dX4_bindWay_22 ?_
        refine g_iload_n (pc := 25) F dX4_bindWay_25 rfl 2 rfl ?_
        obtain ⟨hb_26, h⟩ := h
        refine g_iald (pc := 26) F hx1.2.2.2.1 hb_26 dX4_bindWay_26 ?_
        refine g_icmp_ne (pc := 27) F 140 dX4_bindWay_27 (by decide) (fun c => ?_) (fun c => ?_)
        · have h := h.1 c
          exact g_weak [0, 1, 2, 3] rfl (bX4_bindWay_140 F hR hx0 hx1 ih h)
        · have h := h.2 c
          refine g_aload_n (pc := 30) F dX4_bindWay_30 rfl 0 rfl ?_
          refine g_getI (pc := 31) F clX4 hx0.1 1 rfl (by decide) uX4_15 dX4_bindWay_31 ?_
          refine g_aload_n (pc := 34) F dX4_bindWay_34 rfl 0 rfl ?_
          refine g_getR (pc := 35) F clX4 hx0.1 3 _ rfl (by decide) uX4_21 dX4_bindWay_35 ?_
          refine g_alen (pc := 38) F hx0.2.1 al_20 dX4_bindWay_38 ?_
          refine g_icmp_ge (pc := 39) F 140 dX4_bindWay_39 (by decide) (fun c => ?_) (fun c => ?_)
          · have h := h.1 c
            exact g_weak [0, 1, 2, 3] rfl (bX4_bindWay_140 F hR hx0 hx1 ih h)
          · have h := h.2 c
            refine g_aload_n (pc := 42) F dX4_bindWay_42 rfl 1 rfl ?_
            refine g_getR (pc := 43) F clX8 hx1.1 4 _ rfl (by decide) uX4_64 dX4_bindWay_43 ?_
            refine g_iload_n (pc := 46) F dX4_bindWay_46 rfl 2 rfl ?_
            obtain ⟨hb_47, h⟩ := h
            refine g_iald (pc := 47) F hx1.2.2.2.2.1 hb_47 dX4_bindWay_47 ?_
            refine g_istore (pc := 48) (lv' := [(_, _), (_, _), (_, _), (_, _), (_, _)]) F dX4_bindWay_48 (by decide) rfl ?_
            refine g_aload_n (pc := 50) F dX4_bindWay_50 rfl 2 rfl ?_
            refine g_getR (pc := 51) F clX8 hx1.1 4 _ rfl (by decide) uX4_64 dX4_bindWay_51 ?_
            refine g_iload_n (pc := 54) F dX4_bindWay_54 rfl 4 rfl ?_
            obtain ⟨hb_55, h⟩ := h
            refine g_iald (pc := 55) F hx1.2.2.2.2.1 hb_55 dX4_bindWay_55 ?_
            refine g_istore (pc := 56) (lv' := [(_, _), (_, _), (_, _), (_, _), (_, _), (_, _)]) F dX4_bindWay_56 (by decide) rfl ?_
            refine g_aload_n (pc := 58) F dX4_bindWay_58 rfl 2 rfl ?_
            refine g_getR (pc := 59) F clX4 hx0.1 3 _ rfl (by decide) uX4_21 dX4_bindWay_59 ?_
            refine g_aload_n (pc := 62) F dX4_bindWay_62 rfl 2 rfl ?_
            refine g_getI (pc := 63) F clX4 hx0.1 1 rfl (by decide) uX4_15 dX4_bindWay_63 ?_
            refine g_iload (pc := 66) F dX4_bindWay_66 1 rfl ?_
            refine g_iload (pc := 68) F dX4_bindWay_68 0 rfl ?_
            refine g_iconst (pc := 70) F dX4_bindWay_70 ic_m1 ?_
            refine g_ixor (pc := 71) F dX4_bindWay_71 ?_
            refine g_iand (pc := 72) F dX4_bindWay_72 ?_
            obtain ⟨hb_73, h⟩ := h
            have h := h _ rfl
            refine g_iast (pc := 73) F hx0.2.1 hb_73 dX4_bindWay_73 ?_
            refine g_aload_n (pc := 74) F dX4_bindWay_74 rfl 2 rfl ?_
            refine g_getR (pc := 75) F clX4 hx0.1 4 _ rfl (by decide) uX4_25 dX4_bindWay_75 ?_
            refine g_aload_n (pc := 78) F dX4_bindWay_78 rfl 2 rfl ?_
            refine g_getI (pc := 79) F clX4 hx0.1 1 rfl (by decide) uX4_15 dX4_bindWay_79 ?_
            refine g_iload (pc := 82) F dX4_bindWay_82 0 rfl ?_
            refine g_iload (pc := 84) F dX4_bindWay_84 1 rfl ?_
            refine g_iconst (pc := 86) F dX4_bindWay_86 ic_m1 ?_
            refine g_ixor (pc := 87) F dX4_bindWay_87 ?_
            refine g_iand (pc := 88) F dX4_bindWay_88 ?_
            obtain ⟨hb_89, h⟩ := h
            have h := h _ rfl
            refine g_iast (pc := 89) F hx0.2.2.1 hb_89 dX4_bindWay_89 ?_
            refine g_aload_n (pc := 90) F dX4_bindWay_90 rfl 2 rfl ?_
            refine g_getR (pc := 91) F clX4 hx0.1 5 _ rfl (by decide) uX4_30 dX4_bindWay_91 ?_
            refine g_iconst (pc := 94) F dX4_bindWay_94 ic_0 ?_
            obtain ⟨hb_95, h⟩ := h
            refine g_aaldA (pc := 95) F hx0.2.2.2.1 hb_95 dX4_bindWay_95 ?_
            refine g_aload_n (pc := 96) F dX4_bindWay_96 rfl 2 rfl ?_
            refine g_getI (pc := 97) F clX4 hx0.1 1 rfl (by decide) uX4_15 dX4_bindWay_97 ?_
            refine g_iconst (pc := 100) F dX4_bindWay_100 ic_1 ?_
            refine g_aload_n (pc := 101) F dX4_bindWay_101 rfl 2 rfl ?_
            refine g_getR (pc := 102) F clX4 hx0.1 3 _ rfl (by decide) uX4_21 dX4_bindWay_102 ?_
            refine g_aload_n (pc := 105) F dX4_bindWay_105 rfl 2 rfl ?_
            refine g_getI (pc := 106) F clX4 hx0.1 1 rfl (by decide) uX4_15 dX4_bindWay_106 ?_
            obtain ⟨hb_109, h⟩ := h
            refine g_iald (pc := 109) F hx0.2.1 hb_109 dX4_bindWay_109 ?_
            refine g_callSi (pc := 110) F (mJ6_bitCount_0f7a4  h) mvJ6_bitCount_0f7a4 uX4_67 (by decide)  rfl rfl (Nat.le_of_ble_eq_true rfl) dX4_bindWay_110 (fun r_110 s_110 h => ?_)
            refine g_imul (pc := 113) F dX4_bindWay_113 ?_
            refine g_iconst (pc := 114) F dX4_bindWay_114 ic_5 ?_
            refine g_aload_n (pc := 115) F dX4_bindWay_115 rfl 2 rfl ?_
            refine g_getR (pc := 116) F clX4 hx0.1 4 _ rfl (by decide) uX4_25 dX4_bindWay_116 ?_
            refine g_aload_n (pc := 119) F dX4_bindWay_119 rfl 2 rfl ?_
            refine g_getI (pc := 120) F clX4 hx0.1 1 rfl (by decide) uX4_15 dX4_bindWay_120 ?_
            obtain ⟨hb_123, h⟩ := h
            refine g_iald (pc := 123) F hx0.2.2.1 hb_123 dX4_bindWay_123 ?_
            refine g_callSi (pc := 124) F (mJ6_bitCount_0f7a4  h) mvJ6_bitCount_0f7a4 uX4_67 (by decide)  rfl rfl (Nat.le_of_ble_eq_true rfl) dX4_bindWay_124 (fun r_124 s_124 h => ?_)
            refine g_imul (pc := 127) F dX4_bindWay_127 ?_
            refine g_isub (pc := 128) F dX4_bindWay_128 ?_
            obtain ⟨hb_129, h⟩ := h
            have h := h _ rfl
            refine g_iast (pc := 129) F (hx0.2.2.2.2.2.2.2 _ (vlt hb_95)) hb_129 dX4_bindWay_129 ?_
            refine g_aload_n (pc := 130) F dX4_bindWay_130 rfl 2 rfl ?_
            refine g_dup (pc := 131) F dX4_bindWay_131 rfl ?_
            refine g_getI (pc := 132) F clX4 hx0.1 1 rfl (by decide) uX4_15 dX4_bindWay_132 ?_
            refine g_iconst (pc := 135) F dX4_bindWay_135 ic_1 ?_
            refine g_iadd (pc := 136) F dX4_bindWay_136 ?_
            have h := h _ rfl
            refine g_putI (pc := 137) F clX4 hx0.1 1 rfl (by decide) rfl (tyX4_ok 1 (by decide)) uX4_15 dX4_bindWay_137 ?_
            exact g_weak [2, 3, 4, 5] rfl (bX4_bindWay_140 F hR hx0 hx1 ih h)
def wX4_bindWay (x0 : Nat) (x1 : Nat) (x2 : Int32) (s : St) (Q : St → Prop) : Prop :=
  (∃ k_2, wX4_bindWay_2  x0 x1 x2  Q k_2 (0 : Int32) s)
set_option maxHeartbeats 4000000 in
set_option maxRecDepth 100000 in
theorem mX4_bindWay {l : Launch} {V : Wv} {x0 : Nat} {x1 : Nat} {x2 : Int32} {s : St} {Q : St → Prop} (hx0 : isX4 V x0) (hx1 : isX8 V x1) (h : wX4_bindWay x0 x1 x2 s Q) : Cv yX4_bindWay cX4_bindWay 6 (1) l V [rf V x0, rf V x1, .int x2] s Q := by
  unfold wX4_bindWay at h
  refine Cv.of mvX4_bindWay.1 (Nat.le_of_ble_eq_true rfl) (fun X F hR => ?_)
  refine g_lv (lv' := [(_, _), (_, _), (_, _)]) rfl ?_
  refine g_iconst (pc := 0) F dX4_bindWay_0 ic_0 ?_
  refine g_istore_n (pc := 1) (lv' := [(_, _), (_, _), (_, _), (_, _)]) F dX4_bindWay_1 rfl (by decide) rfl ?_
  obtain ⟨k_2, h⟩ := h
  refine g_weak [1, 2, 3, 0] rfl (bX4_bindWay_2 F hR hx0 hx1 k_2 _ _ h)
def wX4_begin_71 (rec : Int32 → St → Prop) (Q : St → Prop) (x0 : Nat) (x2 : Nat) (x4 : Int64) (x6 : Int32) (s : St) : Prop :=
  rec (x6 + (1 : Int32)) s
set_option maxHeartbeats 4000000 in
set_option maxRecDepth 100000 in
theorem bX4_begin_71 {l : Launch} {V : Wv} {X : Mx} {rec : Int32 → St → Prop} {Q : St → Prop} {x0 : Nat} {x2 : Nat} {x4 : Int64} {x6 : Int32} (F : Fx V X cX4_begin RX4 7 2) (hR : RtV l V X 7 cX4_begin Q) (hx0 : isX4 V x0) (hx2 : isX8 V x2) (hrec : ∀ (y6 : Int32) (s : St), rec y6 s → G l V X 7 43 [(0, rf V x0), (2, rf V x2), (4, .long x4), (6, .int y6)] [] s) {s : St} (h : wX4_begin_71 rec Q x0 x2 x4 x6 s) : G l V X 7 71 [(0, rf V x0), (2, rf V x2), (4, .long x4), (6, .int x6)] [] s := by
  unfold wX4_begin_71 at h
  refine g_iinc (pc := 71) (lv' := [(_, _), (_, _), (_, _), (_, _)]) F dX4_begin_71 3 rfl (congrArg _ ic_1) (by decide) rfl ?_
  refine g_goto (pc := 74) F 43 dX4_begin_74 (by decide) ?_
  exact g_weak [1, 2, 3, 0] rfl (hrec _ _ h)
def wX4_begin_43 (x0 : Nat) (x2 : Nat) (x4 : Int64) (Q : St → Prop) : Nat → Int32 → St → Prop
  | 0, _, _ => False
  | n + 1, x6, s =>
  (((s.1 x2 0) ≤ x6 → Q s) ∧ (¬ (s.1 x2 0) ≤ x6 → ((¬ (lg_cmp ((x4 >>> (x6.toInt64 &&& 63)) &&& (1 : Int64)) (1 : Int64)) = 0 → wX4_begin_71 (wX4_begin_43 x0 x2 x4 Q n) Q x0 x2 x4 x6 s) ∧ ((lg_cmp ((x4 >>> (x6.toInt64 &&& 63)) &&& (1 : Int64)) (1 : Int64)) = 0 → wX4_bindWay x0 x2 x6 s (fun s_68 => wX4_begin_71 (wX4_begin_43 x0 x2 x4 Q n) Q x0 x2 x4 x6 s_68)))))
set_option maxHeartbeats 4000000 in
set_option maxRecDepth 100000 in
theorem bX4_begin_43 {l : Launch} {V : Wv} {X : Mx} {x0 : Nat} {x2 : Nat} {x4 : Int64} {Q : St → Prop} (F : Fx V X cX4_begin RX4 7 2) (hR : RtV l V X 7 cX4_begin Q) (hx0 : isX4 V x0) (hx2 : isX8 V x2)  : ∀ (n : Nat) (x6 : Int32) (s : St), wX4_begin_43 x0 x2 x4 Q n x6 s → G l V X 7 43 [(0, rf V x0), (2, rf V x2), (4, .long x4), (6, .int x6)] [] s := by
  intro n
  induction n with
  | zero => intro x6 s h; unfold wX4_begin_43 at h; exact h.elim
  | succ n ih =>
    intro x6 s h
    unfold wX4_begin_43 at h
    refine g_iload (pc := 43) F dX4_begin_43 3 rfl ?_
    refine g_aload_n (pc := 45) F dX4_begin_45 rfl 1 rfl ?_
    refine g_getI (pc := 46) F clX8 hx2.1 0 rfl (by decide) uX4_52 dX4_begin_46 ?_
    refine g_icmp_ge (pc := 49) F 77 dX4_begin_49 (by decide) (fun c => ?_) (fun c => ?_)
    · have h := h.1 c
      exact hR _ _ _ dX4_begin_77 h
    · have h := h.2 c
      refine g_lload (pc := 52) F dX4_begin_52 2 rfl ?_
      refine g_iload (pc := 54) F dX4_begin_54 3 rfl ?_
      refine g_lshr (pc := 56) F dX4_begin_56 ?_
      refine g_lconst (pc := 57) (v := 1) F dX4_begin_57 (by decide) ?_
      refine g_land (pc := 58) F dX4_begin_58 ?_
      refine g_lconst (pc := 59) (v := 1) F dX4_begin_59 (by decide) ?_
      refine g_lcmp (pc := 60) F dX4_begin_60 ?_
      refine g_if_ne (pc := 61) F 71 dX4_begin_61 (by decide) (fun c => ?_) (fun c => ?_)
      · have h := h.1 c
        exact g_weak [0, 1, 2, 3] rfl (bX4_begin_71 F hR hx0 hx2 ih h)
      · have h := h.2 c
        refine g_aload_n (pc := 64) F dX4_begin_64 rfl 0 rfl ?_
        refine g_aload_n (pc := 65) F dX4_begin_65 rfl 1 rfl ?_
        refine g_iload (pc := 66) F dX4_begin_66 3 rfl ?_
        refine g_callVv (pc := 68) F (mX4_bindWay hx0 hx2 h) mvX4_bindWay uX4_57 (by decide) clX4 hx0.1 rfl rfl (Nat.le_of_ble_eq_true rfl) dX4_begin_68 (fun s_68 h => ?_)
        exact g_weak [0, 1, 2, 3] rfl (bX4_begin_71 F hR hx0 hx2 ih h)
def wX4_begin (x0 : Nat) (x1 : Nat) (x2 : Nat) (x3 : Nat) (n3 : Nat) (x4 : Int64) (s : St) (Q : St → Prop) : Prop :=
  ∀ s_5 : St, s_5 = stI s x0 0 (s.1 x1 1) → cpOk (0 : Int32) (0 : Int32) (6 : Int32) n3 6 ∧ ∀ s_17 : St, s_17 = stC s_5 x3 (x0 + 11) (0 : Int32).toNatClampNeg (0 : Int32).toNatClampNeg (6 : Int32).toNatClampNeg → cpOk (0 : Int32) (0 : Int32) (6 : Int32) 6 6 ∧ ∀ s_32 : St, s_32 = stC s_17 (x1 + 3) (x0 + 12) (0 : Int32).toNatClampNeg (0 : Int32).toNatClampNeg (6 : Int32).toNatClampNeg → ∀ s_37 : St, s_37 = stI s_32 x0 1 (0 : Int32) → (∃ k_43, wX4_begin_43  x0 x2 x4  Q k_43 (0 : Int32) s_37)
set_option maxHeartbeats 4000000 in
set_option maxRecDepth 100000 in
theorem mX4_begin {l : Launch} {V : Wv} {x0 : Nat} {x1 : Nat} {x2 : Nat} {x3 : Nat} {n3 : Nat} {x4 : Int64} {s : St} {Q : St → Prop} (hx0 : isX4 V x0) (hx1 : isX1 V x1) (hx2 : isX8 V x2) (hx3 : V.2.1[x3]? = some (11, [n3])) (h : wX4_begin x0 x1 x2 x3 n3 x4 s Q) : Cv yX4_begin cX4_begin 7 (2) l V [rf V x0, rf V x1, rf V x2, rf V x3, .long x4] s Q := by
  unfold wX4_begin at h
  refine Cv.of mvX4_begin.1 (Nat.le_of_ble_eq_true rfl) (fun X F hR => ?_)
  refine g_lv (lv' := [(_, _), (_, _), (_, _), (_, _), (_, _)]) rfl ?_
  refine g_aload_n (pc := 0) F dX4_begin_0 rfl 0 rfl ?_
  refine g_aload_n (pc := 1) F dX4_begin_1 rfl 1 rfl ?_
  refine g_getI (pc := 2) F clX1 hx1.1 1 rfl (by decide) uX4_42 dX4_begin_2 ?_
  have h := h _ rfl
  refine g_putI (pc := 5) F clX4 hx0.1 0 rfl (by decide) rfl (tyX4_ok 0 (by decide)) uX4_9 dX4_begin_5 ?_
  refine g_aload_n (pc := 8) F dX4_begin_8 rfl 3 rfl ?_
  refine g_iconst (pc := 9) F dX4_begin_9 ic_0 ?_
  refine g_aload_n (pc := 10) F dX4_begin_10 rfl 0 rfl ?_
  refine g_getR (pc := 11) F clX4 hx0.1 6 _ rfl (by decide) uX4_33 dX4_begin_11 ?_
  refine g_iconst (pc := 14) F dX4_begin_14 ic_0 ?_
  refine g_bipush (pc := 15) F dX4_begin_15 bp_6 ?_
  obtain ⟨hb_17, h⟩ := h
  have h := h _ rfl
  refine g_copy (pc := 17) F hx3 hx0.2.2.2.2.1 hb_17.1 hb_17.2.1 hb_17.2.2.1 hb_17.2.2.2.1 hb_17.2.2.2.2 (by decide) (Nat.le_of_ble_eq_true rfl) uX4_45 dX4_begin_17 ?_
  refine g_aload_n (pc := 20) F dX4_begin_20 rfl 1 rfl ?_
  refine g_getR (pc := 21) F clX1 hx1.1 4 _ rfl (by decide) uX4_51 dX4_begin_21 ?_
  refine g_iconst (pc := 24) F dX4_begin_24 ic_0 ?_
  refine g_aload_n (pc := 25) F dX4_begin_25 rfl 0 rfl ?_
  refine g_getR (pc := 26) F clX4 hx0.1 7 _ rfl (by decide) uX4_36 dX4_begin_26 ?_
  refine g_iconst (pc := 29) F dX4_begin_29 ic_0 ?_
  refine g_bipush (pc := 30) F dX4_begin_30 bp_6 ?_
  obtain ⟨hb_32, h⟩ := h
  have h := h _ rfl
  refine g_copy (pc := 32) F hx1.2.2.2.1 hx0.2.2.2.2.2.1 hb_32.1 hb_32.2.1 hb_32.2.2.1 hb_32.2.2.2.1 hb_32.2.2.2.2 (by decide) (Nat.le_of_ble_eq_true rfl) uX4_45 dX4_begin_32 ?_
  refine g_aload_n (pc := 35) F dX4_begin_35 rfl 0 rfl ?_
  refine g_iconst (pc := 36) F dX4_begin_36 ic_0 ?_
  have h := h _ rfl
  refine g_putI (pc := 37) F clX4 hx0.1 1 rfl (by decide) rfl (tyX4_ok 1 (by decide)) uX4_15 dX4_begin_37 ?_
  refine g_iconst (pc := 40) F dX4_begin_40 ic_0 ?_
  refine g_istore (pc := 41) (lv' := [(_, _), (_, _), (_, _), (_, _), (_, _), (_, _)]) F dX4_begin_41 (by decide) rfl ?_
  obtain ⟨k_43, h⟩ := h
  refine g_weak [1, 3, 5, 0] rfl (bX4_begin_43 F hR hx0 hx2 k_43 _ _ h)
def wX4_lowest_41 (rec : Int32 → Int32 → St → Prop) (Q : Int32 → St → Prop) (x0 : Nat) (x1 : Int32) (x2 : Int32) (x3 : Int32) (s : St) : Prop :=
  rec x2 (x3 + (1 : Int32)) s
set_option maxHeartbeats 4000000 in
set_option maxRecDepth 100000 in
theorem bX4_lowest_41 {l : Launch} {V : Wv} {X : Mx} {rec : Int32 → Int32 → St → Prop} {Q : Int32 → St → Prop} {x0 : Nat} {x1 : Int32} {x2 : Int32} {x3 : Int32} (F : Fx V X cX4_lowest RX4 4 1) (hR : RtI l V X 4 cX4_lowest Q) (hx0 : isX4 V x0) (hrec : ∀ (y2 : Int32) (y3 : Int32) (s : St), rec y2 y3 s → G l V X 4 4 [(0, rf V x0), (1, .int x1), (2, .int y2), (3, .int y3)] [] s) {s : St} (h : wX4_lowest_41 rec Q x0 x1 x2 x3 s) : G l V X 4 41 [(0, rf V x0), (1, .int x1), (2, .int x2), (3, .int x3)] [] s := by
  unfold wX4_lowest_41 at h
  refine g_iinc (pc := 41) (lv' := [(_, _), (_, _), (_, _), (_, _)]) F dX4_lowest_41 3 rfl (congrArg _ ic_1) (by decide) rfl ?_
  refine g_goto (pc := 44) F 4 dX4_lowest_44 (by decide) ?_
  exact g_weak [1, 2, 3, 0] rfl (hrec _ _ _ h)
def wX4_lowest_4 (x0 : Nat) (x1 : Int32) (Q : Int32 → St → Prop) : Nat → Int32 → Int32 → St → Prop
  | 0, _, _, _ => False
  | n + 1, x2, x3, s =>
  (((s.1 x0 1) ≤ x3 → Q x2 s) ∧ (¬ (s.1 x0 1) ≤ x3 → vp_in x3 20 ∧ ((¬ (((s.1 (x0 + 2) x3.toNatClampNeg) >>> (x1 &&& 31)) &&& (1 : Int32)) = (1 : Int32) → wX4_lowest_41 (wX4_lowest_4 x0 x1 Q n) Q x0 x1 x2 x3 s) ∧ ((((s.1 (x0 + 2) x3.toNatClampNeg) >>> (x1 &&& 31)) &&& (1 : Int32)) = (1 : Int32) → vp_in x1 7 ∧ vp_in x3 20 ∧ wX4_lowest_41 (wX4_lowest_4 x0 x1 Q n) Q x0 x1 (if x2 < ((5 : Int32) + (s.1 ((x0 + 4) + 1 * x1.toNatClampNeg) x3.toNatClampNeg)) then ((5 : Int32) + (s.1 ((x0 + 4) + 1 * x1.toNatClampNeg) x3.toNatClampNeg)) else x2) x3 s))))
set_option maxHeartbeats 4000000 in
set_option maxRecDepth 100000 in
theorem bX4_lowest_4 {l : Launch} {V : Wv} {X : Mx} {x0 : Nat} {x1 : Int32} {Q : Int32 → St → Prop} (F : Fx V X cX4_lowest RX4 4 1) (hR : RtI l V X 4 cX4_lowest Q) (hx0 : isX4 V x0)  : ∀ (n : Nat) (x2 : Int32) (x3 : Int32) (s : St), wX4_lowest_4 x0 x1 Q n x2 x3 s → G l V X 4 4 [(0, rf V x0), (1, .int x1), (2, .int x2), (3, .int x3)] [] s := by
  intro n
  induction n with
  | zero => intro x2 x3 s h; unfold wX4_lowest_4 at h; exact h.elim
  | succ n ih =>
    intro x2 x3 s h
    unfold wX4_lowest_4 at h
    refine g_iload_n (pc := 4) F dX4_lowest_4 rfl 3 rfl ?_
    refine g_aload_n (pc := 5) F dX4_lowest_5 rfl 0 rfl ?_
    refine g_getI (pc := 6) F clX4 hx0.1 1 rfl (by decide) uX4_15 dX4_lowest_6 ?_
    refine g_icmp_ge (pc := 9) F 47 dX4_lowest_9 (by decide) (fun c => ?_) (fun c => ?_)
    · have h := h.1 c
      refine g_iload_n (pc := 47) F dX4_lowest_47 rfl 2 rfl ?_
      exact hR _ _ _ _ dX4_lowest_48 h
    · have h := h.2 c
      refine g_aload_n (pc := 12) F dX4_lowest_12 rfl 0 rfl ?_
      refine g_getR (pc := 13) F clX4 hx0.1 4 _ rfl (by decide) uX4_25 dX4_lowest_13 ?_
      refine g_iload_n (pc := 16) F dX4_lowest_16 rfl 3 rfl ?_
      obtain ⟨hb_17, h⟩ := h
      refine g_iald (pc := 17) F hx0.2.2.1 hb_17 dX4_lowest_17 ?_
      refine g_iload_n (pc := 18) F dX4_lowest_18 rfl 1 rfl ?_
      refine g_ishr (pc := 19) F dX4_lowest_19 ?_
      refine g_iconst (pc := 20) F dX4_lowest_20 ic_1 ?_
      refine g_iand (pc := 21) F dX4_lowest_21 ?_
      refine g_iconst (pc := 22) F dX4_lowest_22 ic_1 ?_
      refine g_icmp_ne (pc := 23) F 41 dX4_lowest_23 (by decide) (fun c => ?_) (fun c => ?_)
      · have h := h.1 c
        exact g_weak [0, 1, 2, 3] rfl (bX4_lowest_41 F hR hx0 ih h)
      · have h := h.2 c
        refine g_iload_n (pc := 26) F dX4_lowest_26 rfl 2 rfl ?_
        refine g_iconst (pc := 27) F dX4_lowest_27 ic_5 ?_
        refine g_aload_n (pc := 28) F dX4_lowest_28 rfl 0 rfl ?_
        refine g_getR (pc := 29) F clX4 hx0.1 5 _ rfl (by decide) uX4_30 dX4_lowest_29 ?_
        refine g_iload_n (pc := 32) F dX4_lowest_32 rfl 1 rfl ?_
        obtain ⟨hb_33, h⟩ := h
        refine g_aaldA (pc := 33) F hx0.2.2.2.1 hb_33 dX4_lowest_33 ?_
        refine g_iload_n (pc := 34) F dX4_lowest_34 rfl 3 rfl ?_
        obtain ⟨hb_35, h⟩ := h
        refine g_iald (pc := 35) F (hx0.2.2.2.2.2.2.2 _ (vlt hb_33)) hb_35 dX4_lowest_35 ?_
        refine g_iadd (pc := 36) F dX4_lowest_36 ?_
        refine g_max (pc := 37) F (by decide) (Nat.le_of_ble_eq_true rfl) uX4_100 dX4_lowest_37 ?_
        refine g_istore_n (pc := 40) (lv' := [(_, _), (_, _), (_, _), (_, _)]) F dX4_lowest_40 rfl (by decide) rfl ?_
        exact g_weak [1, 2, 0, 3] rfl (bX4_lowest_41 F hR hx0 ih h)
def wX4_lowest (x0 : Nat) (x1 : Int32) (s : St) (Q : Int32 → St → Prop) : Prop :=
  (∃ k_4, wX4_lowest_4  x0 x1  Q k_4 (1 : Int32) (0 : Int32) s)
set_option maxHeartbeats 4000000 in
set_option maxRecDepth 100000 in
theorem mX4_lowest {l : Launch} {V : Wv} {x0 : Nat} {x1 : Int32} {s : St} {Q : Int32 → St → Prop} (hx0 : isX4 V x0) (h : wX4_lowest x0 x1 s Q) : Ci yX4_lowest cX4_lowest 4 (some .int) (1) l V [rf V x0, .int x1] s Q := by
  unfold wX4_lowest at h
  refine Ci.of mvX4_lowest.1 (Nat.le_of_ble_eq_true rfl) (fun X F hR => ?_)
  refine g_lv (lv' := [(_, _), (_, _)]) rfl ?_
  refine g_iconst (pc := 0) F dX4_lowest_0 ic_1 ?_
  refine g_istore_n (pc := 1) (lv' := [(_, _), (_, _), (_, _)]) F dX4_lowest_1 rfl (by decide) rfl ?_
  refine g_iconst (pc := 2) F dX4_lowest_2 ic_0 ?_
  refine g_istore_n (pc := 3) (lv' := [(_, _), (_, _), (_, _), (_, _)]) F dX4_lowest_3 rfl (by decide) rfl ?_
  obtain ⟨k_4, h⟩ := h
  refine g_weak [2, 3, 1, 0] rfl (bX4_lowest_4 F hR hx0 k_4 _ _ _ h)
def wX4_highest_41 (rec : Int32 → Int32 → St → Prop) (Q : Int32 → St → Prop) (x0 : Nat) (x1 : Int32) (x2 : Int32) (x3 : Int32) (s : St) : Prop :=
  rec x2 (x3 + (1 : Int32)) s
set_option maxHeartbeats 4000000 in
set_option maxRecDepth 100000 in
theorem bX4_highest_41 {l : Launch} {V : Wv} {X : Mx} {rec : Int32 → Int32 → St → Prop} {Q : Int32 → St → Prop} {x0 : Nat} {x1 : Int32} {x2 : Int32} {x3 : Int32} (F : Fx V X cX4_highest RX4 4 1) (hR : RtI l V X 4 cX4_highest Q) (hx0 : isX4 V x0) (hrec : ∀ (y2 : Int32) (y3 : Int32) (s : St), rec y2 y3 s → G l V X 4 4 [(0, rf V x0), (1, .int x1), (2, .int y2), (3, .int y3)] [] s) {s : St} (h : wX4_highest_41 rec Q x0 x1 x2 x3 s) : G l V X 4 41 [(0, rf V x0), (1, .int x1), (2, .int x2), (3, .int x3)] [] s := by
  unfold wX4_highest_41 at h
  refine g_iinc (pc := 41) (lv' := [(_, _), (_, _), (_, _), (_, _)]) F dX4_highest_41 3 rfl (congrArg _ ic_1) (by decide) rfl ?_
  refine g_goto (pc := 44) F 4 dX4_highest_44 (by decide) ?_
  exact g_weak [1, 2, 3, 0] rfl (hrec _ _ _ h)
def wX4_highest_4 (x0 : Nat) (x1 : Int32) (Q : Int32 → St → Prop) : Nat → Int32 → Int32 → St → Prop
  | 0, _, _, _ => False
  | n + 1, x2, x3, s =>
  (((s.1 x0 1) ≤ x3 → Q x2 s) ∧ (¬ (s.1 x0 1) ≤ x3 → vp_in x3 20 ∧ ((¬ (((s.1 (x0 + 1) x3.toNatClampNeg) >>> (x1 &&& 31)) &&& (1 : Int32)) = (1 : Int32) → wX4_highest_41 (wX4_highest_4 x0 x1 Q n) Q x0 x1 x2 x3 s) ∧ ((((s.1 (x0 + 1) x3.toNatClampNeg) >>> (x1 &&& 31)) &&& (1 : Int32)) = (1 : Int32) → vp_in x1 7 ∧ vp_in x3 20 ∧ wX4_highest_41 (wX4_highest_4 x0 x1 Q n) Q x0 x1 (if ((1 : Int32) - (s.1 ((x0 + 4) + 1 * x1.toNatClampNeg) x3.toNatClampNeg)) < x2 then ((1 : Int32) - (s.1 ((x0 + 4) + 1 * x1.toNatClampNeg) x3.toNatClampNeg)) else x2) x3 s))))
set_option maxHeartbeats 4000000 in
set_option maxRecDepth 100000 in
theorem bX4_highest_4 {l : Launch} {V : Wv} {X : Mx} {x0 : Nat} {x1 : Int32} {Q : Int32 → St → Prop} (F : Fx V X cX4_highest RX4 4 1) (hR : RtI l V X 4 cX4_highest Q) (hx0 : isX4 V x0)  : ∀ (n : Nat) (x2 : Int32) (x3 : Int32) (s : St), wX4_highest_4 x0 x1 Q n x2 x3 s → G l V X 4 4 [(0, rf V x0), (1, .int x1), (2, .int x2), (3, .int x3)] [] s := by
  intro n
  induction n with
  | zero => intro x2 x3 s h; unfold wX4_highest_4 at h; exact h.elim
  | succ n ih =>
    intro x2 x3 s h
    unfold wX4_highest_4 at h
    refine g_iload_n (pc := 4) F dX4_highest_4 rfl 3 rfl ?_
    refine g_aload_n (pc := 5) F dX4_highest_5 rfl 0 rfl ?_
    refine g_getI (pc := 6) F clX4 hx0.1 1 rfl (by decide) uX4_15 dX4_highest_6 ?_
    refine g_icmp_ge (pc := 9) F 47 dX4_highest_9 (by decide) (fun c => ?_) (fun c => ?_)
    · have h := h.1 c
      refine g_iload_n (pc := 47) F dX4_highest_47 rfl 2 rfl ?_
      exact hR _ _ _ _ dX4_highest_48 h
    · have h := h.2 c
      refine g_aload_n (pc := 12) F dX4_highest_12 rfl 0 rfl ?_
      refine g_getR (pc := 13) F clX4 hx0.1 3 _ rfl (by decide) uX4_21 dX4_highest_13 ?_
      refine g_iload_n (pc := 16) F dX4_highest_16 rfl 3 rfl ?_
      obtain ⟨hb_17, h⟩ := h
      refine g_iald (pc := 17) F hx0.2.1 hb_17 dX4_highest_17 ?_
      refine g_iload_n (pc := 18) F dX4_highest_18 rfl 1 rfl ?_
      refine g_ishr (pc := 19) F dX4_highest_19 ?_
      refine g_iconst (pc := 20) F dX4_highest_20 ic_1 ?_
      refine g_iand (pc := 21) F dX4_highest_21 ?_
      refine g_iconst (pc := 22) F dX4_highest_22 ic_1 ?_
      refine g_icmp_ne (pc := 23) F 41 dX4_highest_23 (by decide) (fun c => ?_) (fun c => ?_)
      · have h := h.1 c
        exact g_weak [0, 1, 2, 3] rfl (bX4_highest_41 F hR hx0 ih h)
      · have h := h.2 c
        refine g_iload_n (pc := 26) F dX4_highest_26 rfl 2 rfl ?_
        refine g_iconst (pc := 27) F dX4_highest_27 ic_1 ?_
        refine g_aload_n (pc := 28) F dX4_highest_28 rfl 0 rfl ?_
        refine g_getR (pc := 29) F clX4 hx0.1 5 _ rfl (by decide) uX4_30 dX4_highest_29 ?_
        refine g_iload_n (pc := 32) F dX4_highest_32 rfl 1 rfl ?_
        obtain ⟨hb_33, h⟩ := h
        refine g_aaldA (pc := 33) F hx0.2.2.2.1 hb_33 dX4_highest_33 ?_
        refine g_iload_n (pc := 34) F dX4_highest_34 rfl 3 rfl ?_
        obtain ⟨hb_35, h⟩ := h
        refine g_iald (pc := 35) F (hx0.2.2.2.2.2.2.2 _ (vlt hb_33)) hb_35 dX4_highest_35 ?_
        refine g_isub (pc := 36) F dX4_highest_36 ?_
        refine g_min (pc := 37) F (by decide) (Nat.le_of_ble_eq_true rfl) uX4_81 dX4_highest_37 ?_
        refine g_istore_n (pc := 40) (lv' := [(_, _), (_, _), (_, _), (_, _)]) F dX4_highest_40 rfl (by decide) rfl ?_
        exact g_weak [1, 2, 0, 3] rfl (bX4_highest_41 F hR hx0 ih h)
def wX4_highest (x0 : Nat) (x1 : Int32) (s : St) (Q : Int32 → St → Prop) : Prop :=
  (∃ k_4, wX4_highest_4  x0 x1  Q k_4 (5 : Int32) (0 : Int32) s)
set_option maxHeartbeats 4000000 in
set_option maxRecDepth 100000 in
theorem mX4_highest {l : Launch} {V : Wv} {x0 : Nat} {x1 : Int32} {s : St} {Q : Int32 → St → Prop} (hx0 : isX4 V x0) (h : wX4_highest x0 x1 s Q) : Ci yX4_highest cX4_highest 4 (some .int) (1) l V [rf V x0, .int x1] s Q := by
  unfold wX4_highest at h
  refine Ci.of mvX4_highest.1 (Nat.le_of_ble_eq_true rfl) (fun X F hR => ?_)
  refine g_lv (lv' := [(_, _), (_, _)]) rfl ?_
  refine g_iconst (pc := 0) F dX4_highest_0 ic_5 ?_
  refine g_istore_n (pc := 1) (lv' := [(_, _), (_, _), (_, _)]) F dX4_highest_1 rfl (by decide) rfl ?_
  refine g_iconst (pc := 2) F dX4_highest_2 ic_0 ?_
  refine g_istore_n (pc := 3) (lv' := [(_, _), (_, _), (_, _), (_, _)]) F dX4_highest_3 rfl (by decide) rfl ?_
  obtain ⟨k_4, h⟩ := h
  refine g_weak [2, 3, 1, 0] rfl (bX4_highest_4 F hR hx0 k_4 _ _ _ h)
def wX4_choose_61 (rec : Int32 → St → Prop) (Q : St → Prop) (x0 : Nat) (x1 : Int32) (x2 : Int32) (x3 : Int32) (x4 : Int32) (s : St) : Prop :=
  vp_in (x1 + (1 : Int32)) 7 ∧ vp_in x1 7 ∧ vp_in x3 20 ∧ vp_in x3 20 ∧ ∀ s_81 : St, s_81 = stI s ((x0 + 4) + 1 * (x1 + (1 : Int32)).toNatClampNeg) x3.toNatClampNeg ((s.1 ((x0 + 4) + 1 * x1.toNatClampNeg) x3.toNatClampNeg) + x4) → rec (x3 + (1 : Int32)) s_81
set_option maxHeartbeats 4000000 in
set_option maxRecDepth 100000 in
theorem bX4_choose_61 {l : Launch} {V : Wv} {X : Mx} {rec : Int32 → St → Prop} {Q : St → Prop} {x0 : Nat} {x1 : Int32} {x2 : Int32} {x3 : Int32} {x4 : Int32} (F : Fx V X cX4_choose RX4 5 0) (hR : RtV l V X 5 cX4_choose Q) (hx0 : isX4 V x0) (hrec : ∀ (y3 : Int32) (s : St), rec y3 s → G l V X 5 9 [(0, rf V x0), (1, .int x1), (2, .int x2), (3, .int y3)] [] s) {s : St} (h : wX4_choose_61 rec Q x0 x1 x2 x3 x4 s) : G l V X 5 61 [(0, rf V x0), (1, .int x1), (2, .int x2), (3, .int x3), (4, .int x4)] [] s := by
  unfold wX4_choose_61 at h
  refine g_aload_n (pc := 61) F dX4_choose_61 rfl 0 rfl ?_
  refine g_getR (pc := 62) F clX4 hx0.1 5 _ rfl (by decide) uX4_30 dX4_choose_62 ?_
  refine g_iload_n (pc := 65) F dX4_choose_65 rfl 1 rfl ?_
  refine g_iconst (pc := 66) F dX4_choose_66 ic_1 ?_
  refine g_iadd (pc := 67) F dX4_choose_67 ?_
  obtain ⟨hb_68, h⟩ := h
  refine g_aaldA (pc := 68) F hx0.2.2.2.1 hb_68 dX4_choose_68 ?_
  refine g_iload_n (pc := 69) F dX4_choose_69 rfl 3 rfl ?_
  refine g_aload_n (pc := 70) F dX4_choose_70 rfl 0 rfl ?_
  refine g_getR (pc := 71) F clX4 hx0.1 5 _ rfl (by decide) uX4_30 dX4_choose_71 ?_
  refine g_iload_n (pc := 74) F dX4_choose_74 rfl 1 rfl ?_
  obtain ⟨hb_75, h⟩ := h
  refine g_aaldA (pc := 75) F hx0.2.2.2.1 hb_75 dX4_choose_75 ?_
  refine g_iload_n (pc := 76) F dX4_choose_76 rfl 3 rfl ?_
  obtain ⟨hb_77, h⟩ := h
  refine g_iald (pc := 77) F (hx0.2.2.2.2.2.2.2 _ (vlt hb_75)) hb_77 dX4_choose_77 ?_
  refine g_iload (pc := 78) F dX4_choose_78 4 rfl ?_
  refine g_iadd (pc := 80) F dX4_choose_80 ?_
  obtain ⟨hb_81, h⟩ := h
  have h := h _ rfl
  refine g_iast (pc := 81) F (hx0.2.2.2.2.2.2.2 _ (vlt hb_68)) hb_81 dX4_choose_81 ?_
  refine g_iinc (pc := 82) (lv' := [(_, _), (_, _), (_, _), (_, _), (_, _)]) F dX4_choose_82 3 rfl (congrArg _ ic_1) (by decide) rfl ?_
  refine g_goto (pc := 85) F 9 dX4_choose_85 (by decide) ?_
  exact g_weak [1, 2, 3, 0] rfl (hrec _ _ h)
def wX4_choose_9 (x0 : Nat) (x1 : Int32) (x2 : Int32) (Q : St → Prop) : Nat → Int32 → St → Prop
  | 0, _, _ => False
  | n + 1, x3, s =>
  (((s.1 x0 1) ≤ x3 → Q s) ∧ (¬ (s.1 x0 1) ≤ x3 → vp_in x3 20 ∧ ((¬ (((s.1 (x0 + 1) x3.toNatClampNeg) >>> (x1 &&& 31)) &&& (1 : Int32)) = (1 : Int32) → vp_in x3 20 ∧ ((¬ (((s.1 (x0 + 2) x3.toNatClampNeg) >>> (x1 &&& 31)) &&& (1 : Int32)) = (1 : Int32) → wX4_choose_61 (wX4_choose_9 x0 x1 x2 Q n) Q x0 x1 x2 x3 (0 : Int32) s) ∧ ((((s.1 (x0 + 2) x3.toNatClampNeg) >>> (x1 &&& 31)) &&& (1 : Int32)) = (1 : Int32) → wX4_choose_61 (wX4_choose_9 x0 x1 x2 Q n) Q x0 x1 x2 x3 ((5 : Int32) - x2) s))) ∧ ((((s.1 (x0 + 1) x3.toNatClampNeg) >>> (x1 &&& 31)) &&& (1 : Int32)) = (1 : Int32) → wX4_choose_61 (wX4_choose_9 x0 x1 x2 Q n) Q x0 x1 x2 x3 (x2 - (1 : Int32)) s))))
set_option maxHeartbeats 4000000 in
set_option maxRecDepth 100000 in
theorem bX4_choose_9 {l : Launch} {V : Wv} {X : Mx} {x0 : Nat} {x1 : Int32} {x2 : Int32} {Q : St → Prop} (F : Fx V X cX4_choose RX4 5 0) (hR : RtV l V X 5 cX4_choose Q) (hx0 : isX4 V x0)  : ∀ (n : Nat) (x3 : Int32) (s : St), wX4_choose_9 x0 x1 x2 Q n x3 s → G l V X 5 9 [(0, rf V x0), (1, .int x1), (2, .int x2), (3, .int x3)] [] s := by
  intro n
  induction n with
  | zero => intro x3 s h; unfold wX4_choose_9 at h; exact h.elim
  | succ n ih =>
    intro x3 s h
    unfold wX4_choose_9 at h
    refine g_iload_n (pc := 9) F dX4_choose_9 rfl 3 rfl ?_
    refine g_aload_n (pc := 10) F dX4_choose_10 rfl 0 rfl ?_
    refine g_getI (pc := 11) F clX4 hx0.1 1 rfl (by decide) uX4_15 dX4_choose_11 ?_
    refine g_icmp_ge (pc := 14) F 88 dX4_choose_14 (by decide) (fun c => ?_) (fun c => ?_)
    · have h := h.1 c
      exact hR _ _ _ dX4_choose_88 h
    · have h := h.2 c
      refine g_iconst (pc := 17) F dX4_choose_17 ic_0 ?_
      refine g_istore (pc := 18) (lv' := [(_, _), (_, _), (_, _), (_, _), (_, _)]) F dX4_choose_18 (by decide) rfl ?_
      refine g_aload_n (pc := 20) F dX4_choose_20 rfl 1 rfl ?_
      refine g_getR (pc := 21) F clX4 hx0.1 3 _ rfl (by decide) uX4_21 dX4_choose_21 ?_
      refine g_iload_n (pc := 24) F dX4_choose_24 rfl 4 rfl ?_
      obtain ⟨hb_25, h⟩ := h
      refine g_iald (pc := 25) F hx0.2.1 hb_25 dX4_choose_25 ?_
      refine g_iload_n (pc := 26) F dX4_choose_26 rfl 2 rfl ?_
      refine g_ishr (pc := 27) F dX4_choose_27 ?_
      refine g_iconst (pc := 28) F dX4_choose_28 ic_1 ?_
      refine g_iand (pc := 29) F dX4_choose_29 ?_
      refine g_iconst (pc := 30) F dX4_choose_30 ic_1 ?_
      refine g_icmp_ne (pc := 31) F 42 dX4_choose_31 (by decide) (fun c => ?_) (fun c => ?_)
      · have h := h.1 c
        refine g_aload_n (pc := 42) F dX4_choose_42 rfl 1 rfl ?_
        refine g_getR (pc := 43) F clX4 hx0.1 4 _ rfl (by decide) uX4_25 dX4_choose_43 ?_
        refine g_iload_n (pc := 46) F dX4_choose_46 rfl 4 rfl ?_
        obtain ⟨hb_47, h⟩ := h
        refine g_iald (pc := 47) F hx0.2.2.1 hb_47 dX4_choose_47 ?_
        refine g_iload_n (pc := 48) F dX4_choose_48 rfl 2 rfl ?_
        refine g_ishr (pc := 49) F dX4_choose_49 ?_
        refine g_iconst (pc := 50) F dX4_choose_50 ic_1 ?_
        refine g_iand (pc := 51) F dX4_choose_51 ?_
        refine g_iconst (pc := 52) F dX4_choose_52 ic_1 ?_
        refine g_icmp_ne (pc := 53) F 61 dX4_choose_53 (by decide) (fun c => ?_) (fun c => ?_)
        · have h := h.1 c
          exact g_weak [1, 2, 3, 4, 0] rfl (bX4_choose_61 F hR hx0 ih h)
        · have h := h.2 c
          refine g_iconst (pc := 56) F dX4_choose_56 ic_5 ?_
          refine g_iload_n (pc := 57) F dX4_choose_57 rfl 3 rfl ?_
          refine g_isub (pc := 58) F dX4_choose_58 ?_
          refine g_istore (pc := 59) (lv' := [(_, _), (_, _), (_, _), (_, _), (_, _)]) F dX4_choose_59 (by decide) rfl ?_
          exact g_weak [1, 2, 3, 4, 0] rfl (bX4_choose_61 F hR hx0 ih h)
      · have h := h.2 c
        refine g_iload_n (pc := 34) F dX4_choose_34 rfl 3 rfl ?_
        refine g_iconst (pc := 35) F dX4_choose_35 ic_1 ?_
        refine g_isub (pc := 36) F dX4_choose_36 ?_
        refine g_istore (pc := 37) (lv' := [(_, _), (_, _), (_, _), (_, _), (_, _)]) F dX4_choose_37 (by decide) rfl ?_
        refine g_goto (pc := 39) F 61 dX4_choose_39 (by decide) ?_
        exact g_weak [1, 2, 3, 4, 0] rfl (bX4_choose_61 F hR hx0 ih h)
def wX4_choose (x0 : Nat) (x1 : Int32) (x2 : Int32) (s : St) (Q : St → Prop) : Prop :=
  vp_in x1 6 ∧ ∀ s_6 : St, s_6 = stI s (x0 + 13) x1.toNatClampNeg x2 → (∃ k_9, wX4_choose_9  x0 x1 x2  Q k_9 (0 : Int32) s_6)
set_option maxHeartbeats 4000000 in
set_option maxRecDepth 100000 in
theorem mX4_choose {l : Launch} {V : Wv} {x0 : Nat} {x1 : Int32} {x2 : Int32} {s : St} {Q : St → Prop} (hx0 : isX4 V x0) (h : wX4_choose x0 x1 x2 s Q) : Cv yX4_choose cX4_choose 5 (0) l V [rf V x0, .int x1, .int x2] s Q := by
  unfold wX4_choose at h
  refine Cv.of mvX4_choose.1 (Nat.le_of_ble_eq_true rfl) (fun X F hR => ?_)
  refine g_lv (lv' := [(_, _), (_, _), (_, _)]) rfl ?_
  refine g_aload_n (pc := 0) F dX4_choose_0 rfl 0 rfl ?_
  refine g_getR (pc := 1) F clX4 hx0.1 8 _ rfl (by decide) uX4_39 dX4_choose_1 ?_
  refine g_iload_n (pc := 4) F dX4_choose_4 rfl 1 rfl ?_
  refine g_iload_n (pc := 5) F dX4_choose_5 rfl 2 rfl ?_
  obtain ⟨hb_6, h⟩ := h
  have h := h _ rfl
  refine g_iast (pc := 6) F hx0.2.2.2.2.2.2.1 hb_6 dX4_choose_6 ?_
  refine g_iconst (pc := 7) F dX4_choose_7 ic_0 ?_
  refine g_istore_n (pc := 8) (lv' := [(_, _), (_, _), (_, _), (_, _)]) F dX4_choose_8 rfl (by decide) rfl ?_
  obtain ⟨k_9, h⟩ := h
  refine g_weak [1, 2, 3, 0] rfl (bX4_choose_9 F hR hx0 k_9 _ _ h)
def wX4_goCheapest_159 (self : Nat → Int32 → Int32 → St → (St → Prop) → Prop) (rec : Int32 → St → Prop) (Q : St → Prop) (x0 : Nat) (x1 : Int32) (x2 : Int32) (x3 : Int32) (x4 : Int32) (x5 : Int32) (s : St) : Prop :=
  rec (x5 + (1 : Int32)) s
set_option maxHeartbeats 4000000 in
set_option maxRecDepth 100000 in
theorem bX4_goCheapest_159 {l : Launch} {V : Wv} {X : Mx} {d : Nat} {self : Nat → Int32 → Int32 → St → (St → Prop) → Prop} {rec : Int32 → St → Prop} {Q : St → Prop} {x0 : Nat} {x1 : Int32} {x2 : Int32} {x3 : Int32} {x4 : Int32} {x5 : Int32} (F : Fx V X cX4_goCheapest RX4 9 (2 + (d + 1))) (hR : RtV l V X 9 cX4_goCheapest Q) (hx0 : isX4 V x0) (hself : ∀ (x0 : Nat) (x1 : Int32) (x2 : Int32) (σ : St) (P : St → Prop), isX4 V x0 →  self x0 x1 x2 σ P → Cv yX4_goCheapest cX4_goCheapest 9 (2 + d) l V [rf V x0, .int x1, .int x2] σ P) (hrec : ∀ (y5 : Int32) (s : St), rec y5 s → G l V X 9 37 [(0, rf V x0), (1, .int x1), (2, .int x2), (3, .int x3), (4, .int x4), (5, .int y5)] [] s) {s : St} (h : wX4_goCheapest_159 self rec Q x0 x1 x2 x3 x4 x5 s) : G l V X 9 159 [(0, rf V x0), (1, .int x1), (2, .int x2), (3, .int x3), (4, .int x4), (5, .int x5)] [] s := by
  unfold wX4_goCheapest_159 at h
  refine g_iinc (pc := 159) (lv' := [(_, _), (_, _), (_, _), (_, _), (_, _), (_, _)]) F dX4_goCheapest_159 5 rfl (congrArg _ ic_1) (by decide) rfl ?_
  refine g_goto (pc := 162) F 37 dX4_goCheapest_162 (by decide) ?_
  exact g_weak [1, 2, 3, 4, 5, 0] rfl (hrec _ _ h)
def wX4_goCheapest_116 (self : Nat → Int32 → Int32 → St → (St → Prop) → Prop) (rec : Int32 → St → Prop) (Q : St → Prop) (x0 : Nat) (x1 : Int32) (x2 : Int32) (x3 : Int32) (x4 : Int32) (x5 : Int32) (x6 : Int32) (x8 : Int32) (s : St) : Prop :=
  ((x5 ≤ 0 → wX4_goCheapest_159 self (rec) Q x0 x1 x2 x3 x4 x5 s) ∧ (¬ x5 ≤ 0 → ((x8 < x3 → wX4_goCheapest_159 self (rec) Q x0 x1 x2 x3 x4 x5 s) ∧ (¬ x8 < x3 → ((x4 < x8 → wX4_goCheapest_159 self (rec) Q x0 x1 x2 x3 x4 x5 s) ∧ (¬ x4 < x8 → (((s.1 x0 2) ≤ x6 → wX4_goCheapest_159 self (rec) Q x0 x1 x2 x3 x4 x5 s) ∧ (¬ (s.1 x0 2) ≤ x6 → wX4_choose x0 x1 x8 s (fun s_147 => self x0 (x1 + (1 : Int32)) x6 s_147 (fun s_156 => wX4_goCheapest_159 self (rec) Q x0 x1 x2 x3 x4 x5 s_156))))))))))
set_option maxHeartbeats 4000000 in
set_option maxRecDepth 100000 in
theorem bX4_goCheapest_116 {l : Launch} {V : Wv} {X : Mx} {d : Nat} {self : Nat → Int32 → Int32 → St → (St → Prop) → Prop} {rec : Int32 → St → Prop} {Q : St → Prop} {x0 : Nat} {x1 : Int32} {x2 : Int32} {x3 : Int32} {x4 : Int32} {x5 : Int32} {x6 : Int32} {x8 : Int32} (F : Fx V X cX4_goCheapest RX4 9 (2 + (d + 1))) (hR : RtV l V X 9 cX4_goCheapest Q) (hx0 : isX4 V x0) (hself : ∀ (x0 : Nat) (x1 : Int32) (x2 : Int32) (σ : St) (P : St → Prop), isX4 V x0 →  self x0 x1 x2 σ P → Cv yX4_goCheapest cX4_goCheapest 9 (2 + d) l V [rf V x0, .int x1, .int x2] σ P) (hrec : ∀ (y5 : Int32) (s : St), rec y5 s → G l V X 9 37 [(0, rf V x0), (1, .int x1), (2, .int x2), (3, .int x3), (4, .int x4), (5, .int y5)] [] s) {s : St} (h : wX4_goCheapest_116 self rec Q x0 x1 x2 x3 x4 x5 x6 x8 s) : G l V X 9 116 [(0, rf V x0), (1, .int x1), (2, .int x2), (3, .int x3), (4, .int x4), (5, .int x5), (6, .int x6), (8, .int x8)] [] s := by
  unfold wX4_goCheapest_116 at h
  refine g_iload (pc := 116) F dX4_goCheapest_116 5 rfl ?_
  refine g_if_le (pc := 118) F 159 dX4_goCheapest_118 (by decide) (fun c => ?_) (fun c => ?_)
  · have h := h.1 c
    exact g_weak [0, 1, 2, 3, 4, 5] rfl (bX4_goCheapest_159 F hR hx0 hself hrec h)
  · have h := h.2 c
    refine g_iload (pc := 121) F dX4_goCheapest_121 7 rfl ?_
    refine g_iload_n (pc := 123) F dX4_goCheapest_123 rfl 3 rfl ?_
    refine g_icmp_lt (pc := 124) F 159 dX4_goCheapest_124 (by decide) (fun c => ?_) (fun c => ?_)
    · have h := h.1 c
      exact g_weak [0, 1, 2, 3, 4, 5] rfl (bX4_goCheapest_159 F hR hx0 hself hrec h)
    · have h := h.2 c
      refine g_iload (pc := 127) F dX4_goCheapest_127 7 rfl ?_
      refine g_iload (pc := 129) F dX4_goCheapest_129 4 rfl ?_
      refine g_icmp_gt (pc := 131) F 159 dX4_goCheapest_131 (by decide) (fun c => ?_) (fun c => ?_)
      · have h := h.1 c
        exact g_weak [0, 1, 2, 3, 4, 5] rfl (bX4_goCheapest_159 F hR hx0 hself hrec h)
      · have h := h.2 c
        refine g_iload (pc := 134) F dX4_goCheapest_134 6 rfl ?_
        refine g_aload_n (pc := 136) F dX4_goCheapest_136 rfl 0 rfl ?_
        refine g_getI (pc := 137) F clX4 hx0.1 2 rfl (by decide) uX4_18 dX4_goCheapest_137 ?_
        refine g_icmp_ge (pc := 140) F 159 dX4_goCheapest_140 (by decide) (fun c => ?_) (fun c => ?_)
        · have h := h.1 c
          exact g_weak [0, 1, 2, 3, 4, 5] rfl (bX4_goCheapest_159 F hR hx0 hself hrec h)
        · have h := h.2 c
          refine g_aload_n (pc := 143) F dX4_goCheapest_143 rfl 0 rfl ?_
          refine g_iload_n (pc := 144) F dX4_goCheapest_144 rfl 1 rfl ?_
          refine g_iload (pc := 145) F dX4_goCheapest_145 7 rfl ?_
          refine g_callVv (pc := 147) F (mX4_choose hx0 h) mvX4_choose uX4_93 (by omega) clX4 hx0.1 rfl rfl (Nat.le_of_ble_eq_true rfl) dX4_goCheapest_147 (fun s_147 h => ?_)
          refine g_aload_n (pc := 150) F dX4_goCheapest_150 rfl 0 rfl ?_
          refine g_iload_n (pc := 151) F dX4_goCheapest_151 rfl 1 rfl ?_
          refine g_iconst (pc := 152) F dX4_goCheapest_152 ic_1 ?_
          refine g_iadd (pc := 153) F dX4_goCheapest_153 ?_
          refine g_iload (pc := 154) F dX4_goCheapest_154 6 rfl ?_
          refine g_callSv (pc := 156) F (hself _ _ _ _ _ hx0 h) mvX4_goCheapest uX4_73 (by omega)  rfl rfl (Nat.le_of_ble_eq_true rfl) dX4_goCheapest_156 (fun s_156 h => ?_)
          exact g_weak [0, 1, 2, 3, 4, 5] rfl (bX4_goCheapest_159 F hR hx0 hself hrec h)
def wX4_goCheapest_37 (self : Nat → Int32 → Int32 → St → (St → Prop) → Prop) (x0 : Nat) (x1 : Int32) (x2 : Int32) (x3 : Int32) (x4 : Int32) (Q : St → Prop) : Nat → Int32 → St → Prop
  | 0, _, _ => False
  | n + 1, x5, s =>
  (((5 : Int32) ≤ x5 → Q s) ∧ (¬ (5 : Int32) ≤ x5 → vp_in x1 6 ∧ vp_in x1 6 ∧ vp_in x1 6 ∧ ((((s.1 (x0 + 11) x1.toNatClampNeg) - x5) < x3 → wX4_goCheapest_116 self (wX4_goCheapest_37 self x0 x1 x2 x3 x4 Q n) Q x0 x1 x2 x3 x4 x5 (x2 + (x5 * (s.1 (x0 + 12) x1.toNatClampNeg))) ((s.1 (x0 + 11) x1.toNatClampNeg) + x5) s) ∧ (¬ ((s.1 (x0 + 11) x1.toNatClampNeg) - x5) < x3 → ((x4 < ((s.1 (x0 + 11) x1.toNatClampNeg) - x5) → wX4_goCheapest_116 self (wX4_goCheapest_37 self x0 x1 x2 x3 x4 Q n) Q x0 x1 x2 x3 x4 x5 (x2 + (x5 * (s.1 (x0 + 12) x1.toNatClampNeg))) ((s.1 (x0 + 11) x1.toNatClampNeg) + x5) s) ∧ (¬ x4 < ((s.1 (x0 + 11) x1.toNatClampNeg) - x5) → (((s.1 x0 2) ≤ (x2 + (x5 * (s.1 (x0 + 12) x1.toNatClampNeg))) → wX4_goCheapest_116 self (wX4_goCheapest_37 self x0 x1 x2 x3 x4 Q n) Q x0 x1 x2 x3 x4 x5 (x2 + (x5 * (s.1 (x0 + 12) x1.toNatClampNeg))) ((s.1 (x0 + 11) x1.toNatClampNeg) + x5) s) ∧ (¬ (s.1 x0 2) ≤ (x2 + (x5 * (s.1 (x0 + 12) x1.toNatClampNeg))) → wX4_choose x0 x1 ((s.1 (x0 + 11) x1.toNatClampNeg) - x5) s (fun s_104 => self x0 (x1 + (1 : Int32)) (x2 + (x5 * (s.1 (x0 + 12) x1.toNatClampNeg))) s_104 (fun s_113 => wX4_goCheapest_116 self (wX4_goCheapest_37 self x0 x1 x2 x3 x4 Q n) Q x0 x1 x2 x3 x4 x5 (x2 + (x5 * (s.1 (x0 + 12) x1.toNatClampNeg))) ((s.1 (x0 + 11) x1.toNatClampNeg) + x5) s_113))))))))))
set_option maxHeartbeats 4000000 in
set_option maxRecDepth 100000 in
theorem bX4_goCheapest_37 {l : Launch} {V : Wv} {X : Mx} {d : Nat} {self : Nat → Int32 → Int32 → St → (St → Prop) → Prop} {x0 : Nat} {x1 : Int32} {x2 : Int32} {x3 : Int32} {x4 : Int32} {Q : St → Prop} (F : Fx V X cX4_goCheapest RX4 9 (2 + (d + 1))) (hR : RtV l V X 9 cX4_goCheapest Q) (hx0 : isX4 V x0) (hself : ∀ (x0 : Nat) (x1 : Int32) (x2 : Int32) (σ : St) (P : St → Prop), isX4 V x0 →  self x0 x1 x2 σ P → Cv yX4_goCheapest cX4_goCheapest 9 (2 + d) l V [rf V x0, .int x1, .int x2] σ P) : ∀ (n : Nat) (x5 : Int32) (s : St), wX4_goCheapest_37 self x0 x1 x2 x3 x4 Q n x5 s → G l V X 9 37 [(0, rf V x0), (1, .int x1), (2, .int x2), (3, .int x3), (4, .int x4), (5, .int x5)] [] s := by
  intro n
  induction n with
  | zero => intro x5 s h; unfold wX4_goCheapest_37 at h; exact h.elim
  | succ n ih =>
    intro x5 s h
    unfold wX4_goCheapest_37 at h
    refine g_iload (pc := 37) F dX4_goCheapest_37 5 rfl ?_
    refine g_iconst (pc := 39) F dX4_goCheapest_39 ic_5 ?_
    refine g_icmp_ge (pc := 40) F 165 dX4_goCheapest_40 (by decide) (fun c => ?_) (fun c => ?_)
    · have h := h.1 c
      exact hR _ _ _ dX4_goCheapest_165 h
    · have h := h.2 c
      refine g_iload_n (pc := 43) F dX4_goCheapest_43 rfl 2 rfl ?_
      refine g_iload (pc := 44) F dX4_goCheapest_44 5 rfl ?_
      refine g_aload_n (pc := 46) F dX4_goCheapest_46 rfl 0 rfl ?_
      refine g_getR (pc := 47) F clX4 hx0.1 7 _ rfl (by decide) uX4_36 dX4_goCheapest_47 ?_
      refine g_iload_n (pc := 50) F dX4_goCheapest_50 rfl 1 rfl ?_
      obtain ⟨hb_51, h⟩ := h
      refine g_iald (pc := 51) F hx0.2.2.2.2.2.1 hb_51 dX4_goCheapest_51 ?_
      refine g_imul (pc := 52) F dX4_goCheapest_52 ?_
      refine g_iadd (pc := 53) F dX4_goCheapest_53 ?_
      refine g_istore (pc := 54) (lv' := [(_, _), (_, _), (_, _), (_, _), (_, _), (_, _), (_, _)]) F dX4_goCheapest_54 (by decide) rfl ?_
      refine g_aload_n (pc := 56) F dX4_goCheapest_56 rfl 1 rfl ?_
      refine g_getR (pc := 57) F clX4 hx0.1 6 _ rfl (by decide) uX4_33 dX4_goCheapest_57 ?_
      refine g_iload_n (pc := 60) F dX4_goCheapest_60 rfl 2 rfl ?_
      obtain ⟨hb_61, h⟩ := h
      refine g_iald (pc := 61) F hx0.2.2.2.2.1 hb_61 dX4_goCheapest_61 ?_
      refine g_iload (pc := 62) F dX4_goCheapest_62 6 rfl ?_
      refine g_isub (pc := 64) F dX4_goCheapest_64 ?_
      refine g_istore (pc := 65) (lv' := [(_, _), (_, _), (_, _), (_, _), (_, _), (_, _), (_, _), (_, _)]) F dX4_goCheapest_65 (by decide) rfl ?_
      refine g_aload_n (pc := 67) F dX4_goCheapest_67 rfl 2 rfl ?_
      refine g_getR (pc := 68) F clX4 hx0.1 6 _ rfl (by decide) uX4_33 dX4_goCheapest_68 ?_
      refine g_iload_n (pc := 71) F dX4_goCheapest_71 rfl 3 rfl ?_
      obtain ⟨hb_72, h⟩ := h
      refine g_iald (pc := 72) F hx0.2.2.2.2.1 hb_72 dX4_goCheapest_72 ?_
      refine g_iload (pc := 73) F dX4_goCheapest_73 7 rfl ?_
      refine g_iadd (pc := 75) F dX4_goCheapest_75 ?_
      refine g_istore (pc := 76) (lv' := [(_, _), (_, _), (_, _), (_, _), (_, _), (_, _), (_, _), (_, _), (_, _)]) F dX4_goCheapest_76 (by decide) rfl ?_
      refine g_iload (pc := 78) F dX4_goCheapest_78 1 rfl ?_
      refine g_iload_n (pc := 80) F dX4_goCheapest_80 rfl 6 rfl ?_
      refine g_icmp_lt (pc := 81) F 116 dX4_goCheapest_81 (by decide) (fun c => ?_) (fun c => ?_)
      · have h := h.1 c
        exact g_weak [3, 4, 5, 6, 7, 8, 2, 0] rfl (bX4_goCheapest_116 F hR hx0 hself ih h)
      · have h := h.2 c
        refine g_iload (pc := 84) F dX4_goCheapest_84 1 rfl ?_
        refine g_iload (pc := 86) F dX4_goCheapest_86 7 rfl ?_
        refine g_icmp_gt (pc := 88) F 116 dX4_goCheapest_88 (by decide) (fun c => ?_) (fun c => ?_)
        · have h := h.1 c
          exact g_weak [3, 4, 5, 6, 7, 8, 2, 0] rfl (bX4_goCheapest_116 F hR hx0 hself ih h)
        · have h := h.2 c
          refine g_iload (pc := 91) F dX4_goCheapest_91 2 rfl ?_
          refine g_aload_n (pc := 93) F dX4_goCheapest_93 rfl 3 rfl ?_
          refine g_getI (pc := 94) F clX4 hx0.1 2 rfl (by decide) uX4_18 dX4_goCheapest_94 ?_
          refine g_icmp_ge (pc := 97) F 116 dX4_goCheapest_97 (by decide) (fun c => ?_) (fun c => ?_)
          · have h := h.1 c
            exact g_weak [3, 4, 5, 6, 7, 8, 2, 0] rfl (bX4_goCheapest_116 F hR hx0 hself ih h)
          · have h := h.2 c
            refine g_aload_n (pc := 100) F dX4_goCheapest_100 rfl 3 rfl ?_
            refine g_iload_n (pc := 101) F dX4_goCheapest_101 rfl 4 rfl ?_
            refine g_iload (pc := 102) F dX4_goCheapest_102 1 rfl ?_
            refine g_callVv (pc := 104) F (mX4_choose hx0 h) mvX4_choose uX4_93 (by omega) clX4 hx0.1 rfl rfl (Nat.le_of_ble_eq_true rfl) dX4_goCheapest_104 (fun s_104 h => ?_)
            refine g_aload_n (pc := 107) F dX4_goCheapest_107 rfl 3 rfl ?_
            refine g_iload_n (pc := 108) F dX4_goCheapest_108 rfl 4 rfl ?_
            refine g_iconst (pc := 109) F dX4_goCheapest_109 ic_1 ?_
            refine g_iadd (pc := 110) F dX4_goCheapest_110 ?_
            refine g_iload (pc := 111) F dX4_goCheapest_111 2 rfl ?_
            refine g_callSv (pc := 113) F (hself _ _ _ _ _ hx0 h) mvX4_goCheapest uX4_73 (by omega)  rfl rfl (Nat.le_of_ble_eq_true rfl) dX4_goCheapest_113 (fun s_113 h => ?_)
            exact g_weak [3, 4, 5, 6, 7, 8, 2, 0] rfl (bX4_goCheapest_116 F hR hx0 hself ih h)
def wX4_goCheapest : Nat → Nat → Int32 → Int32 → St → (St → Prop) → Prop
  | 0, _, _, _, _, _ => False
  | d + 1, x0, x1, x2, s, Q =>
  ((x1 < (s.1 x0 0) → wX4_lowest x0 x1 s (fun r_23 s_23 => wX4_highest x0 x1 s_23 (fun r_29 s_29 => (∃ k_37, wX4_goCheapest_37 (wX4_goCheapest d) x0 x1 x2 r_23 r_29  Q k_37 (0 : Int32) s_29)))) ∧ (¬ x1 < (s.1 x0 0) → ∀ s_17 : St, s_17 = stI s x0 2 (if x2 < (s.1 x0 2) then x2 else (s.1 x0 2)) → Q s_17))
set_option maxHeartbeats 4000000 in
set_option maxRecDepth 100000 in
theorem mX4_goCheapest_all {l : Launch} {V : Wv} : ∀ (d : Nat) (x0 : Nat) (x1 : Int32) (x2 : Int32) (s : St) (Q : St → Prop), isX4 V x0 → wX4_goCheapest d x0 x1 x2 s Q → Cv yX4_goCheapest cX4_goCheapest 9 (2 + d) l V [rf V x0, .int x1, .int x2] s Q := by
  intro d
  induction d with
  | zero => intro x0 x1 x2 s Q hx0 h; unfold wX4_goCheapest at h; exact h.elim
  | succ d hself =>
    intro x0 x1 x2 s Q hx0 h
    unfold wX4_goCheapest at h
    refine Cv.of mvX4_goCheapest.1 (Nat.le_of_ble_eq_true rfl) (fun X F hR => ?_)
    refine g_lv (lv' := [(_, _), (_, _), (_, _)]) rfl ?_
    refine g_iload_n (pc := 0) F dX4_goCheapest_0 rfl 1 rfl ?_
    refine g_aload_n (pc := 1) F dX4_goCheapest_1 rfl 0 rfl ?_
    refine g_getI (pc := 2) F clX4 hx0.1 0 rfl (by decide) uX4_9 dX4_goCheapest_2 ?_
    refine g_icmp_lt (pc := 5) F 21 dX4_goCheapest_5 (by decide) (fun c => ?_) (fun c => ?_)
    · have h := h.1 c
      refine g_aload_n (pc := 21) F dX4_goCheapest_21 rfl 0 rfl ?_
      refine g_iload_n (pc := 22) F dX4_goCheapest_22 rfl 1 rfl ?_
      refine g_callVi (pc := 23) F (mX4_lowest hx0 h) mvX4_lowest uX4_87 (by omega) clX4 hx0.1 rfl rfl (Nat.le_of_ble_eq_true rfl) dX4_goCheapest_23 (fun r_23 s_23 h => ?_)
      refine g_istore_n (pc := 26) (lv' := [(_, _), (_, _), (_, _), (_, _)]) F dX4_goCheapest_26 rfl (by decide) rfl ?_
      refine g_aload_n (pc := 27) F dX4_goCheapest_27 rfl 1 rfl ?_
      refine g_iload_n (pc := 28) F dX4_goCheapest_28 rfl 2 rfl ?_
      refine g_callVi (pc := 29) F (mX4_highest hx0 h) mvX4_highest uX4_90 (by omega) clX4 hx0.1 rfl rfl (Nat.le_of_ble_eq_true rfl) dX4_goCheapest_29 (fun r_29 s_29 h => ?_)
      refine g_istore (pc := 32) (lv' := [(_, _), (_, _), (_, _), (_, _), (_, _)]) F dX4_goCheapest_32 (by decide) rfl ?_
      refine g_iconst (pc := 34) F dX4_goCheapest_34 ic_0 ?_
      refine g_istore (pc := 35) (lv' := [(_, _), (_, _), (_, _), (_, _), (_, _), (_, _)]) F dX4_goCheapest_35 (by decide) rfl ?_
      obtain ⟨k_37, h⟩ := h
      refine g_weak [3, 4, 5, 2, 1, 0] rfl (bX4_goCheapest_37 F hR hx0 hself k_37 _ _ h)
    · have h := h.2 c
      refine g_aload_n (pc := 8) F dX4_goCheapest_8 rfl 0 rfl ?_
      refine g_aload_n (pc := 9) F dX4_goCheapest_9 rfl 0 rfl ?_
      refine g_getI (pc := 10) F clX4 hx0.1 2 rfl (by decide) uX4_18 dX4_goCheapest_10 ?_
      refine g_iload_n (pc := 13) F dX4_goCheapest_13 rfl 2 rfl ?_
      refine g_min (pc := 14) F (by omega) (Nat.le_of_ble_eq_true rfl) uX4_81 dX4_goCheapest_14 ?_
      have h := h _ rfl
      refine g_putI (pc := 17) F clX4 hx0.1 2 rfl (by decide) rfl (tyX4_ok 2 (by decide)) uX4_18 dX4_goCheapest_17 ?_
      exact hR _ _ _ dX4_goCheapest_20 h
theorem mX4_goCheapest {l : Launch} {V : Wv} (d : Nat) {x0 : Nat} {x1 : Int32} {x2 : Int32} {s : St} {Q : St → Prop} (hx0 : isX4 V x0) (h : wX4_goCheapest d x0 x1 x2 s Q) : Cv yX4_goCheapest cX4_goCheapest 9 (2 + d) l V [rf V x0, .int x1, .int x2] s Q := mX4_goCheapest_all d x0 x1 x2 s Q hx0 h
def wX4_leastCost (x0 : Nat) (s : St) (Q : Int32 → St → Prop) : Prop :=
  ∀ s_4 : St, s_4 = stI s x0 2 (1000 : Int32) → ∃ d, d ≤ 7 ∧ wX4_goCheapest d x0 (0 : Int32) (0 : Int32) s_4 (fun s_10 => ((¬ (s_10.1 x0 2) = (1000 : Int32) → Q (s_10.1 x0 2) s_10) ∧ ((s_10.1 x0 2) = (1000 : Int32) → Q (-9 : Int32) s_10)))
set_option maxHeartbeats 4000000 in
set_option maxRecDepth 100000 in
theorem mX4_leastCost {l : Launch} {V : Wv} {x0 : Nat} {s : St} {Q : Int32 → St → Prop} (hx0 : isX4 V x0) (h : wX4_leastCost x0 s Q) : Ci yX4_leastCost cX4_leastCost 1 (some .int) (10) l V [rf V x0] s Q := by
  unfold wX4_leastCost at h
  refine Ci.of mvX4_leastCost.1 (Nat.le_of_ble_eq_true rfl) (fun X F hR => ?_)
  refine g_lv (lv' := [(_, _)]) rfl ?_
  refine g_aload_n (pc := 0) F dX4_leastCost_0 rfl 0 rfl ?_
  refine g_sipush (pc := 1) F dX4_leastCost_1 sp_1000 ?_
  have h := h _ rfl
  refine g_putI (pc := 4) F clX4 hx0.1 2 rfl (by decide) rfl (tyX4_ok 2 (by decide)) uX4_18 dX4_leastCost_4 ?_
  refine g_aload_n (pc := 7) F dX4_leastCost_7 rfl 0 rfl ?_
  refine g_iconst (pc := 8) F dX4_leastCost_8 ic_0 ?_
  refine g_iconst (pc := 9) F dX4_leastCost_9 ic_0 ?_
  obtain ⟨d_10, hd_10, h⟩ := h
  refine g_callSv (pc := 10) F (mX4_goCheapest d_10 hx0 h) mvX4_goCheapest uX4_73 (by omega)  rfl rfl (Nat.le_of_ble_eq_true rfl) dX4_leastCost_10 (fun s_10 h => ?_)
  refine g_aload_n (pc := 13) F dX4_leastCost_13 rfl 0 rfl ?_
  refine g_getI (pc := 14) F clX4 hx0.1 2 rfl (by decide) uX4_18 dX4_leastCost_14 ?_
  refine g_sipush (pc := 17) F dX4_leastCost_17 sp_1000 ?_
  refine g_icmp_ne (pc := 20) F 28 dX4_leastCost_20 (by decide) (fun c => ?_) (fun c => ?_)
  · have h := h.1 c
    refine g_aload_n (pc := 28) F dX4_leastCost_28 rfl 0 rfl ?_
    refine g_getI (pc := 29) F clX4 hx0.1 2 rfl (by decide) uX4_18 dX4_leastCost_29 ?_
    exact hR _ _ _ _ dX4_leastCost_32 h
  · have h := h.2 c
    refine g_bipush (pc := 23) F dX4_leastCost_23 bp_m9 ?_
    refine g_goto (pc := 25) F 32 dX4_leastCost_25 (by decide) ?_
    exact hR _ _ _ _ dX4_leastCost_32 h
def wX4_goFirst_78 (self : Nat → Int32 → Int32 → St → (Int32 → St → Prop) → Prop) (rec : Int32 → St → Prop) (Q : Int32 → St → Prop) (x0 : Nat) (x1 : Int32) (x2 : Int32) (x3 : Int32) (x4 : Int32) (s : St) : Prop :=
  rec (x4 + (1 : Int32)) s
set_option maxHeartbeats 4000000 in
set_option maxRecDepth 100000 in
theorem bX4_goFirst_78 {l : Launch} {V : Wv} {X : Mx} {d : Nat} {self : Nat → Int32 → Int32 → St → (Int32 → St → Prop) → Prop} {rec : Int32 → St → Prop} {Q : Int32 → St → Prop} {x0 : Nat} {x1 : Int32} {x2 : Int32} {x3 : Int32} {x4 : Int32} (F : Fx V X cX4_goFirst RX4 6 (2 + (d + 1))) (hR : RtZ l V X 6 cX4_goFirst Q) (hx0 : isX4 V x0) (hself : ∀ (x0 : Nat) (x1 : Int32) (x2 : Int32) (σ : St) (P : Int32 → St → Prop), isX4 V x0 →  self x0 x1 x2 σ P → Ci yX4_goFirst cX4_goFirst 6 (some .boolean) (2 + d) l V [rf V x0, .int x1, .int x2] σ P) (hrec : ∀ (y4 : Int32) (s : St), rec y4 s → G l V X 6 23 [(0, rf V x0), (1, .int x1), (2, .int x2), (3, .int x3), (4, .int y4)] [] s) {s : St} (h : wX4_goFirst_78 self rec Q x0 x1 x2 x3 x4 s) : G l V X 6 78 [(0, rf V x0), (1, .int x1), (2, .int x2), (3, .int x3), (4, .int x4)] [] s := by
  unfold wX4_goFirst_78 at h
  refine g_iinc (pc := 78) (lv' := [(_, _), (_, _), (_, _), (_, _), (_, _)]) F dX4_goFirst_78 4 rfl (congrArg _ ic_1) (by decide) rfl ?_
  refine g_goto (pc := 81) F 23 dX4_goFirst_81 (by decide) ?_
  exact g_weak [1, 2, 3, 4, 0] rfl (hrec _ _ h)
def wX4_goFirst_23 (self : Nat → Int32 → Int32 → St → (Int32 → St → Prop) → Prop) (x0 : Nat) (x1 : Int32) (x2 : Int32) (x3 : Int32) (Q : Int32 → St → Prop) : Nat → Int32 → St → Prop
  | 0, _, _ => False
  | n + 1, x4, s =>
  ((x3 < x4 → Q (0 : Int32) s) ∧ (¬ x3 < x4 → vp_in x1 6 ∧ vp_in x1 6 ∧ (((x2 - ((s.1 (x0 + 12) x1.toNatClampNeg) * (if 0 ≤ (x4 - (s.1 (x0 + 11) x1.toNatClampNeg)) then (x4 - (s.1 (x0 + 11) x1.toNatClampNeg)) else 0 - (x4 - (s.1 (x0 + 11) x1.toNatClampNeg))))) < 0 → wX4_goFirst_78 self (wX4_goFirst_23 self x0 x1 x2 x3 Q n) Q x0 x1 x2 x3 x4 s) ∧ (¬ (x2 - ((s.1 (x0 + 12) x1.toNatClampNeg) * (if 0 ≤ (x4 - (s.1 (x0 + 11) x1.toNatClampNeg)) then (x4 - (s.1 (x0 + 11) x1.toNatClampNeg)) else 0 - (x4 - (s.1 (x0 + 11) x1.toNatClampNeg))))) < 0 → wX4_choose x0 x1 x4 s (fun s_61 => self x0 (x1 + (1 : Int32)) (x2 - ((s.1 (x0 + 12) x1.toNatClampNeg) * (if 0 ≤ (x4 - (s.1 (x0 + 11) x1.toNatClampNeg)) then (x4 - (s.1 (x0 + 11) x1.toNatClampNeg)) else 0 - (x4 - (s.1 (x0 + 11) x1.toNatClampNeg))))) s_61 (fun r_70 s_70 => ((r_70 = 0 → wX4_goFirst_78 self (wX4_goFirst_23 self x0 x1 x2 x3 Q n) Q x0 x1 x2 x3 x4 s_70) ∧ (¬ r_70 = 0 → Q (1 : Int32) s_70))))))))
set_option maxHeartbeats 4000000 in
set_option maxRecDepth 100000 in
theorem bX4_goFirst_23 {l : Launch} {V : Wv} {X : Mx} {d : Nat} {self : Nat → Int32 → Int32 → St → (Int32 → St → Prop) → Prop} {x0 : Nat} {x1 : Int32} {x2 : Int32} {x3 : Int32} {Q : Int32 → St → Prop} (F : Fx V X cX4_goFirst RX4 6 (2 + (d + 1))) (hR : RtZ l V X 6 cX4_goFirst Q) (hx0 : isX4 V x0) (hself : ∀ (x0 : Nat) (x1 : Int32) (x2 : Int32) (σ : St) (P : Int32 → St → Prop), isX4 V x0 →  self x0 x1 x2 σ P → Ci yX4_goFirst cX4_goFirst 6 (some .boolean) (2 + d) l V [rf V x0, .int x1, .int x2] σ P) : ∀ (n : Nat) (x4 : Int32) (s : St), wX4_goFirst_23 self x0 x1 x2 x3 Q n x4 s → G l V X 6 23 [(0, rf V x0), (1, .int x1), (2, .int x2), (3, .int x3), (4, .int x4)] [] s := by
  intro n
  induction n with
  | zero => intro x4 s h; unfold wX4_goFirst_23 at h; exact h.elim
  | succ n ih =>
    intro x4 s h
    unfold wX4_goFirst_23 at h
    refine g_iload (pc := 23) F dX4_goFirst_23 4 rfl ?_
    refine g_iload_n (pc := 25) F dX4_goFirst_25 rfl 3 rfl ?_
    refine g_icmp_gt (pc := 26) F 84 dX4_goFirst_26 (by decide) (fun c => ?_) (fun c => ?_)
    · have h := h.1 c
      refine g_iconst (pc := 84) F dX4_goFirst_84 ic_0 ?_
      exact hR _ _ _ _ dX4_goFirst_85 (Or.inl rfl) h
    · have h := h.2 c
      refine g_iload_n (pc := 29) F dX4_goFirst_29 rfl 2 rfl ?_
      refine g_aload_n (pc := 30) F dX4_goFirst_30 rfl 0 rfl ?_
      refine g_getR (pc := 31) F clX4 hx0.1 7 _ rfl (by decide) uX4_36 dX4_goFirst_31 ?_
      refine g_iload_n (pc := 34) F dX4_goFirst_34 rfl 1 rfl ?_
      obtain ⟨hb_35, h⟩ := h
      refine g_iald (pc := 35) F hx0.2.2.2.2.2.1 hb_35 dX4_goFirst_35 ?_
      refine g_iload (pc := 36) F dX4_goFirst_36 4 rfl ?_
      refine g_aload_n (pc := 38) F dX4_goFirst_38 rfl 0 rfl ?_
      refine g_getR (pc := 39) F clX4 hx0.1 6 _ rfl (by decide) uX4_33 dX4_goFirst_39 ?_
      refine g_iload_n (pc := 42) F dX4_goFirst_42 rfl 1 rfl ?_
      obtain ⟨hb_43, h⟩ := h
      refine g_iald (pc := 43) F hx0.2.2.2.2.1 hb_43 dX4_goFirst_43 ?_
      refine g_isub (pc := 44) F dX4_goFirst_44 ?_
      refine g_abs (pc := 45) F (by omega) (Nat.le_of_ble_eq_true rfl) uX4_97 dX4_goFirst_45 ?_
      refine g_imul (pc := 48) F dX4_goFirst_48 ?_
      refine g_isub (pc := 49) F dX4_goFirst_49 ?_
      refine g_istore (pc := 50) (lv' := [(_, _), (_, _), (_, _), (_, _), (_, _), (_, _)]) F dX4_goFirst_50 (by decide) rfl ?_
      refine g_iload (pc := 52) F dX4_goFirst_52 0 rfl ?_
      refine g_if_lt (pc := 54) F 78 dX4_goFirst_54 (by decide) (fun c => ?_) (fun c => ?_)
      · have h := h.1 c
        exact g_weak [1, 2, 3, 4, 5] rfl (bX4_goFirst_78 F hR hx0 hself ih h)
      · have h := h.2 c
        refine g_aload_n (pc := 57) F dX4_goFirst_57 rfl 1 rfl ?_
        refine g_iload_n (pc := 58) F dX4_goFirst_58 rfl 2 rfl ?_
        refine g_iload (pc := 59) F dX4_goFirst_59 5 rfl ?_
        refine g_callVv (pc := 61) F (mX4_choose hx0 h) mvX4_choose uX4_93 (by omega) clX4 hx0.1 rfl rfl (Nat.le_of_ble_eq_true rfl) dX4_goFirst_61 (fun s_61 h => ?_)
        refine g_aload_n (pc := 64) F dX4_goFirst_64 rfl 1 rfl ?_
        refine g_iload_n (pc := 65) F dX4_goFirst_65 rfl 2 rfl ?_
        refine g_iconst (pc := 66) F dX4_goFirst_66 ic_1 ?_
        refine g_iadd (pc := 67) F dX4_goFirst_67 ?_
        refine g_iload (pc := 68) F dX4_goFirst_68 0 rfl ?_
        refine g_callSi (pc := 70) F (hself _ _ _ _ _ hx0 h) mvX4_goFirst uX4_77 (by omega)  rfl rfl (Nat.le_of_ble_eq_true rfl) dX4_goFirst_70 (fun r_70 s_70 h => ?_)
        refine g_if_eq (pc := 73) F 78 dX4_goFirst_73 (by decide) (fun c => ?_) (fun c => ?_)
        · have h := h.1 c
          exact g_weak [1, 2, 3, 4, 5] rfl (bX4_goFirst_78 F hR hx0 hself ih h)
        · have h := h.2 c
          refine g_iconst (pc := 76) F dX4_goFirst_76 ic_1 ?_
          exact hR _ _ _ _ dX4_goFirst_77 (Or.inr rfl) h
def wX4_goFirst : Nat → Nat → Int32 → Int32 → St → (Int32 → St → Prop) → Prop
  | 0, _, _, _, _, _ => False
  | d + 1, x0, x1, x2, s, Q =>
  ((x1 < (s.1 x0 0) → wX4_highest x0 x1 s (fun r_12 s_12 => wX4_lowest x0 x1 s_12 (fun r_18 s_18 => (∃ k_23, wX4_goFirst_23 (wX4_goFirst d) x0 x1 x2 r_12  Q k_23 r_18 s_18)))) ∧ (¬ x1 < (s.1 x0 0) → Q (1 : Int32) s))
set_option maxHeartbeats 4000000 in
set_option maxRecDepth 100000 in
theorem mX4_goFirst_all {l : Launch} {V : Wv} : ∀ (d : Nat) (x0 : Nat) (x1 : Int32) (x2 : Int32) (s : St) (Q : Int32 → St → Prop), isX4 V x0 → wX4_goFirst d x0 x1 x2 s Q → Ci yX4_goFirst cX4_goFirst 6 (some .boolean) (2 + d) l V [rf V x0, .int x1, .int x2] s Q := by
  intro d
  induction d with
  | zero => intro x0 x1 x2 s Q hx0 h; unfold wX4_goFirst at h; exact h.elim
  | succ d hself =>
    intro x0 x1 x2 s Q hx0 h
    unfold wX4_goFirst at h
    refine Cz.of mvX4_goFirst.1 (Nat.le_of_ble_eq_true rfl) (fun X F hR => ?_)
    refine g_lv (lv' := [(_, _), (_, _), (_, _)]) rfl ?_
    refine g_iload_n (pc := 0) F dX4_goFirst_0 rfl 1 rfl ?_
    refine g_aload_n (pc := 1) F dX4_goFirst_1 rfl 0 rfl ?_
    refine g_getI (pc := 2) F clX4 hx0.1 0 rfl (by decide) uX4_9 dX4_goFirst_2 ?_
    refine g_icmp_lt (pc := 5) F 10 dX4_goFirst_5 (by decide) (fun c => ?_) (fun c => ?_)
    · have h := h.1 c
      refine g_aload_n (pc := 10) F dX4_goFirst_10 rfl 0 rfl ?_
      refine g_iload_n (pc := 11) F dX4_goFirst_11 rfl 1 rfl ?_
      refine g_callVi (pc := 12) F (mX4_highest hx0 h) mvX4_highest uX4_90 (by omega) clX4 hx0.1 rfl rfl (Nat.le_of_ble_eq_true rfl) dX4_goFirst_12 (fun r_12 s_12 h => ?_)
      refine g_istore_n (pc := 15) (lv' := [(_, _), (_, _), (_, _), (_, _)]) F dX4_goFirst_15 rfl (by decide) rfl ?_
      refine g_aload_n (pc := 16) F dX4_goFirst_16 rfl 1 rfl ?_
      refine g_iload_n (pc := 17) F dX4_goFirst_17 rfl 2 rfl ?_
      refine g_callVi (pc := 18) F (mX4_lowest hx0 h) mvX4_lowest uX4_87 (by omega) clX4 hx0.1 rfl rfl (Nat.le_of_ble_eq_true rfl) dX4_goFirst_18 (fun r_18 s_18 h => ?_)
      refine g_istore (pc := 21) (lv' := [(_, _), (_, _), (_, _), (_, _), (_, _)]) F dX4_goFirst_21 (by decide) rfl ?_
      obtain ⟨k_23, h⟩ := h
      refine g_weak [2, 3, 4, 1, 0] rfl (bX4_goFirst_23 F hR hx0 hself k_23 _ _ h)
    · have h := h.2 c
      refine g_iconst (pc := 8) F dX4_goFirst_8 ic_1 ?_
      exact hR _ _ _ _ dX4_goFirst_9 (Or.inr rfl) h
theorem mX4_goFirst {l : Launch} {V : Wv} (d : Nat) {x0 : Nat} {x1 : Int32} {x2 : Int32} {s : St} {Q : Int32 → St → Prop} (hx0 : isX4 V x0) (h : wX4_goFirst d x0 x1 x2 s Q) : Ci yX4_goFirst cX4_goFirst 6 (some .boolean) (2 + d) l V [rf V x0, .int x1, .int x2] s Q := mX4_goFirst_all d x0 x1 x2 s Q hx0 h
def wX4_findFirst (x0 : Nat) (x1 : Int32) (s : St) (Q : Int32 → St → Prop) : Prop :=
  ∃ d, d ≤ 7 ∧ wX4_goFirst d x0 (0 : Int32) x1 s (fun r_3 s_3 => (isB r_3 ∧ Q r_3 s_3))
set_option maxHeartbeats 4000000 in
set_option maxRecDepth 100000 in
theorem mX4_findFirst {l : Launch} {V : Wv} {x0 : Nat} {x1 : Int32} {s : St} {Q : Int32 → St → Prop} (hx0 : isX4 V x0) (h : wX4_findFirst x0 x1 s Q) : Ci yX4_findFirst cX4_findFirst 2 (some .boolean) (10) l V [rf V x0, .int x1] s Q := by
  unfold wX4_findFirst at h
  refine Cz.of mvX4_findFirst.1 (Nat.le_of_ble_eq_true rfl) (fun X F hR => ?_)
  refine g_lv (lv' := [(_, _), (_, _)]) rfl ?_
  refine g_aload_n (pc := 0) F dX4_findFirst_0 rfl 0 rfl ?_
  refine g_iconst (pc := 1) F dX4_findFirst_1 ic_0 ?_
  refine g_iload_n (pc := 2) F dX4_findFirst_2 rfl 1 rfl ?_
  obtain ⟨d_3, hd_3, h⟩ := h
  refine g_callSi (pc := 3) F (mX4_goFirst d_3 hx0 h) mvX4_goFirst uX4_77 (by omega)  rfl rfl (Nat.le_of_ble_eq_true rfl) dX4_findFirst_3 (fun r_3 s_3 h => ?_)
  exact hR _ _ _ _ dX4_findFirst_6 h.1 h.2
