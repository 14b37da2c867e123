/-! printed by program: what each method does to the state (w..), and that its code does so (b.., m..) -/
def wX10_odds_42 (x0 : Nat) (x1 : Int32) (x2 : Int32) (x3 : Int32) (K67 : Int32 → St → Prop) (Q : Int32 → St → Prop) : Nat → Int32 → Int32 → St → Prop
  | 0, _, _, _ => False
  | n + 1, x4, x5, s =>
  vp_in (6 : Int32) 38 ∧ (((s.1 (x0 + 7) (6 : Int32).toNatClampNeg) ≤ x5 → K67 x4 s) ∧ (¬ (s.1 (x0 + 7) (6 : Int32).toNatClampNeg) ≤ x5 → wX10_odds_42 x0 x1 x2 x3 K67 Q n (x4 * (10 : Int32)) (x5 + (1 : Int32)) s))
set_option maxHeartbeats 4000000 in
set_option maxRecDepth 100000 in
theorem bX10_odds_42 {l : Launch} {V : Wv} {X : Mx} {x0 : Nat} {x1 : Int32} {x2 : Int32} {x3 : Int32} {K67 : Int32 → St → Prop} {Q : Int32 → St → Prop} (F : Fx V X cX10_odds RX10 8 4) (hR : RtI l V X 8 cX10_odds Q) (hx0 : isX10 V x0) (hK67 : ∀ (y4 : Int32) (s : St), K67 y4 s → G l V X 8 67 [(0, rf V x0), (1, .int x1), (2, .int x2), (3, .int x3), (4, .int y4)] [] s) : ∀ (n : Nat) (x4 : Int32) (x5 : Int32) (s : St), wX10_odds_42 x0 x1 x2 x3 K67 Q n x4 x5 s → G l V X 8 42 [(0, rf V x0), (1, .int x1), (2, .int x2), (3, .int x3), (4, .int x4), (5, .int x5)] [] s := by
  intro n
  induction n with
  | zero => intro x4 x5 s h; unfold wX10_odds_42 at h; exact h.elim
  | succ n ih =>
    intro x4 x5 s h
    unfold wX10_odds_42 at h
    refine g_iload (pc := 42) F dX10_odds_42 5 rfl ?_
    refine g_aload_n (pc := 44) F dX10_odds_44 rfl 0 rfl ?_
    refine g_getR (pc := 45) F clX10 hx0.1 14 _ rfl (by decide) uX10_28 dX10_odds_45 ?_
    refine g_bipush (pc := 48) F dX10_odds_48 bp_6 ?_
    obtain ⟨hb_50, h⟩ := h
    refine g_iald (pc := 50) F hx0.2.2.2.2.2.2.2.1 hb_50 dX10_odds_50 ?_
    refine g_icmp_ge (pc := 51) F 67 dX10_odds_51 (by decide) (fun c => ?_) (fun c => ?_)
    · have h := h.1 c
      exact g_weak [0, 1, 2, 3, 4] rfl (hK67 _ _ h)
    · have h := h.2 c
      refine g_iload (pc := 54) F dX10_odds_54 4 rfl ?_
      refine g_bipush (pc := 56) F dX10_odds_56 bp_10 ?_
      refine g_imul (pc := 58) F dX10_odds_58 ?_
      refine g_istore (pc := 59) (lv' := [(_, _), (_, _), (_, _), (_, _), (_, _), (_, _)]) F dX10_odds_59 (by decide) rfl ?_
      refine g_iinc (pc := 61) (lv' := [(_, _), (_, _), (_, _), (_, _), (_, _), (_, _)]) F dX10_odds_61 5 rfl (congrArg _ ic_1) (by decide) rfl ?_
      refine g_goto (pc := 64) F 42 dX10_odds_64 (by decide) ?_
      exact g_weak [2, 3, 4, 5, 1, 0] rfl (ih _ _ _ h)
def wX10_odds_118 (rec : Int32 → Int32 → St → Prop) (K127 : Int32 → St → Prop) (Q : Int32 → St → Prop) (x0 : Nat) (x1 : Int32) (x2 : Int32) (x3 : Int32) (x4 : Int32) (x5 : Int32) (x7 : Int32) (t0 : Int32) (t1 : Int32) (s : St) : Prop :=
  rec (t1 * t0) (x7 + (1 : Int32)) s
set_option maxHeartbeats 4000000 in
set_option maxRecDepth 100000 in
theorem bX10_odds_118 {l : Launch} {V : Wv} {X : Mx} {rec : Int32 → Int32 → St → Prop} {K127 : Int32 → St → Prop} {Q : Int32 → St → Prop} {x0 : Nat} {x1 : Int32} {x2 : Int32} {x3 : Int32} {x4 : Int32} {x5 : Int32} {x7 : Int32} {t0 : Int32} {t1 : Int32} (F : Fx V X cX10_odds RX10 8 4) (hR : RtI l V X 8 cX10_odds Q) (hx0 : isX10 V x0) (hrec : ∀ (y6 : Int32) (y7 : Int32) (s : St), rec y6 y7 s → G l V X 8 85 [(0, rf V x0), (1, .int x1), (2, .int x2), (3, .int x3), (4, .int x4), (5, .int x5), (6, .int y6), (7, .int y7)] [] s) (hK127 : ∀ (y6 : Int32) (s : St), K127 y6 s → G l V X 8 127 [(0, rf V x0), (1, .int x1), (2, .int x2), (3, .int x3), (4, .int x4), (5, .int x5), (6, .int y6)] [] s) {s : St} (h : wX10_odds_118 rec K127 Q x0 x1 x2 x3 x4 x5 x7 t0 t1 s) : G l V X 8 118 [(0, rf V x0), (1, .int x1), (2, .int x2), (3, .int x3), (4, .int x4), (5, .int x5), (7, .int x7)] [.int t0, .int t1] s := by
  unfold wX10_odds_118 at h
  refine g_imul (pc := 118) F dX10_odds_118 ?_
  refine g_istore (pc := 119) (lv' := [(_, _), (_, _), (_, _), (_, _), (_, _), (_, _), (_, _), (_, _)]) F dX10_odds_119 (by decide) rfl ?_
  refine g_iinc (pc := 121) (lv' := [(_, _), (_, _), (_, _), (_, _), (_, _), (_, _), (_, _), (_, _)]) F dX10_odds_121 7 rfl (congrArg _ ic_1) (by decide) rfl ?_
  refine g_goto (pc := 124) F 85 dX10_odds_124 (by decide) ?_
  exact g_weak [2, 3, 4, 5, 6, 7, 1, 0] rfl (hrec _ _ _ h)
def wX10_odds_85 (x0 : Nat) (x1 : Int32) (x2 : Int32) (x3 : Int32) (x4 : Int32) (x5 : Int32) (K127 : Int32 → St → Prop) (Q : Int32 → St → Prop) : Nat → Int32 → Int32 → St → Prop
  | 0, _, _, _ => False
  | n + 1, x6, x7, s =>
  vp_in (6 : Int32) 38 ∧ (((s.1 (x0 + 7) (6 : Int32).toNatClampNeg) ≤ x7 → K127 x6 s) ∧ (¬ (s.1 (x0 + 7) (6 : Int32).toNatClampNeg) ≤ x7 → ((¬ ((x5 >>> (x7 &&& 31)) &&& (1 : Int32)) = (1 : Int32) → wX10_odds_118 (wX10_odds_85 x0 x1 x2 x3 x4 x5 K127 Q n) (K127) Q x0 x1 x2 x3 x4 x5 x7 x1 x6 s) ∧ (((x5 >>> (x7 &&& 31)) &&& (1 : Int32)) = (1 : Int32) → wX10_odds_118 (wX10_odds_85 x0 x1 x2 x3 x4 x5 K127 Q n) (K127) Q x0 x1 x2 x3 x4 x5 x7 ((10 : Int32) - x1) x6 s))))
set_option maxHeartbeats 4000000 in
set_option maxRecDepth 100000 in
theorem bX10_odds_85 {l : Launch} {V : Wv} {X : Mx} {x0 : Nat} {x1 : Int32} {x2 : Int32} {x3 : Int32} {x4 : Int32} {x5 : Int32} {K127 : Int32 → St → Prop} {Q : Int32 → St → Prop} (F : Fx V X cX10_odds RX10 8 4) (hR : RtI l V X 8 cX10_odds Q) (hx0 : isX10 V x0) (hK127 : ∀ (y6 : Int32) (s : St), K127 y6 s → G l V X 8 127 [(0, rf V x0), (1, .int x1), (2, .int x2), (3, .int x3), (4, .int x4), (5, .int x5), (6, .int y6)] [] s) : ∀ (n : Nat) (x6 : Int32) (x7 : Int32) (s : St), wX10_odds_85 x0 x1 x2 x3 x4 x5 K127 Q n x6 x7 s → G l V X 8 85 [(0, rf V x0), (1, .int x1), (2, .int x2), (3, .int x3), (4, .int x4), (5, .int x5), (6, .int x6), (7, .int x7)] [] s := by
  intro n
  induction n with
  | zero => intro x6 x7 s h; unfold wX10_odds_85 at h; exact h.elim
  | succ n ih =>
    intro x6 x7 s h
    unfold wX10_odds_85 at h
    refine g_iload (pc := 85) F dX10_odds_85 7 rfl ?_
    refine g_aload_n (pc := 87) F dX10_odds_87 rfl 0 rfl ?_
    refine g_getR (pc := 88) F clX10 hx0.1 14 _ rfl (by decide) uX10_28 dX10_odds_88 ?_
    refine g_bipush (pc := 91) F dX10_odds_91 bp_6 ?_
    obtain ⟨hb_93, h⟩ := h
    refine g_iald (pc := 93) F hx0.2.2.2.2.2.2.2.1 hb_93 dX10_odds_93 ?_
    refine g_icmp_ge (pc := 94) F 127 dX10_odds_94 (by decide) (fun c => ?_) (fun c => ?_)
    · have h := h.1 c
      exact g_weak [0, 1, 2, 3, 4, 5, 6] rfl (hK127 _ _ h)
    · have h := h.2 c
      refine g_iload (pc := 97) F dX10_odds_97 6 rfl ?_
      refine g_iload (pc := 99) F dX10_odds_99 5 rfl ?_
      refine g_iload (pc := 101) F dX10_odds_101 7 rfl ?_
      refine g_ishr (pc := 103) F dX10_odds_103 ?_
      refine g_iconst (pc := 104) F dX10_odds_104 ic_1 ?_
      refine g_iand (pc := 105) F dX10_odds_105 ?_
      refine g_iconst (pc := 106) F dX10_odds_106 ic_1 ?_
      refine g_icmp_ne (pc := 107) F 117 dX10_odds_107 (by decide) (fun c => ?_) (fun c => ?_)
      · have h := h.1 c
        refine g_iload_n (pc := 117) F dX10_odds_117 rfl 1 rfl ?_
        exact g_weak [0, 1, 2, 3, 4, 5, 7] rfl (bX10_odds_118 F hR hx0 ih hK127 h)
      · have h := h.2 c
        refine g_bipush (pc := 110) F dX10_odds_110 bp_10 ?_
        refine g_iload_n (pc := 112) F dX10_odds_112 rfl 1 rfl ?_
        refine g_isub (pc := 113) F dX10_odds_113 ?_
        refine g_goto (pc := 114) F 118 dX10_odds_114 (by decide) ?_
        exact g_weak [0, 1, 2, 3, 4, 5, 7] rfl (bX10_odds_118 F hR hx0 ih hK127 h)
def wX10_odds_145 (rec : Int32 → Int32 → St → Prop) (K153 : Int32 → St → Prop) (Q : Int32 → St → Prop) (x0 : Nat) (x1 : Int32) (x2 : Int32) (x4 : Int32) (x5 : Int32) (t0 : Int32) (t1 : Int32) (s : St) : Prop :=
  rec (t1 + t0) (x5 + (1 : Int32)) s
set_option maxHeartbeats 4000000 in
set_option maxRecDepth 100000 in
theorem bX10_odds_145 {l : Launch} {V : Wv} {X : Mx} {rec : Int32 → Int32 → St → Prop} {K153 : Int32 → St → Prop} {Q : Int32 → St → Prop} {x0 : Nat} {x1 : Int32} {x2 : Int32} {x4 : Int32} {x5 : Int32} {t0 : Int32} {t1 : Int32} (F : Fx V X cX10_odds RX10 8 4) (hR : RtI l V X 8 cX10_odds Q) (hx0 : isX10 V x0) (hrec : ∀ (y3 : Int32) (y5 : Int32) (s : St), rec y3 y5 s → G l V X 8 70 [(0, rf V x0), (1, .int x1), (2, .int x2), (3, .int y3), (4, .int x4), (5, .int y5)] [] s) (hK153 : ∀ (y3 : Int32) (s : St), K153 y3 s → G l V X 8 153 [(2, .int x2), (3, .int y3), (4, .int x4)] [] s) {s : St} (h : wX10_odds_145 rec K153 Q x0 x1 x2 x4 x5 t0 t1 s) : G l V X 8 145 [(0, rf V x0), (1, .int x1), (2, .int x2), (4, .int x4), (5, .int x5)] [.int t0, .int t1] s := by
  unfold wX10_odds_145 at h
  refine g_iadd (pc := 145) F dX10_odds_145 ?_
  refine g_istore_n (pc := 146) (lv' := [(_, _), (_, _), (_, _), (_, _), (_, _), (_, _)]) F dX10_odds_146 rfl (by decide) rfl ?_
  refine g_iinc (pc := 147) (lv' := [(_, _), (_, _), (_, _), (_, _), (_, _), (_, _)]) F dX10_odds_147 5 rfl (congrArg _ ic_1) (by decide) rfl ?_
  refine g_goto (pc := 150) F 70 dX10_odds_150 (by decide) ?_
  exact g_weak [2, 3, 4, 1, 5, 0] rfl (hrec _ _ _ h)
def wX10_odds_70 (x0 : Nat) (x1 : Int32) (x2 : Int32) (x4 : Int32) (K153 : Int32 → St → Prop) (Q : Int32 → St → Prop) : Nat → Int32 → Int32 → St → Prop
  | 0, _, _, _ => False
  | n + 1, x3, x5, s =>
  wX10_allMaps x0 s (fun r_73 s_73 => ((r_73 < x5 → K153 x3 s_73) ∧ (¬ r_73 < x5 → (∃ k_85, wX10_odds_85  x0 x1 x2 x3 x4 x5 (fun x6_127 s_k127 => wX10_costOf x0 x5 s_k127 (fun r_131 s_131 => ((¬ r_131 = (1000000 : Int32) → wX10_odds_145 (wX10_odds_70 x0 x1 x2 x4 K153 Q n) (K153) Q x0 x1 x2 x4 x5 x6_127 x3 s_131) ∧ (r_131 = (1000000 : Int32) → wX10_odds_145 (wX10_odds_70 x0 x1 x2 x4 K153 Q n) (K153) Q x0 x1 x2 x4 x5 (0 : Int32) x3 s_131)))) Q k_85 (1 : Int32) (0 : Int32) s_73))))
set_option maxHeartbeats 4000000 in
set_option maxRecDepth 100000 in
theorem bX10_odds_70 {l : Launch} {V : Wv} {X : Mx} {x0 : Nat} {x1 : Int32} {x2 : Int32} {x4 : Int32} {K153 : Int32 → St → Prop} {Q : Int32 → St → Prop} (F : Fx V X cX10_odds RX10 8 4) (hR : RtI l V X 8 cX10_odds Q) (hx0 : isX10 V x0) (hK153 : ∀ (y3 : Int32) (s : St), K153 y3 s → G l V X 8 153 [(2, .int x2), (3, .int y3), (4, .int x4)] [] s) : ∀ (n : Nat) (x3 : Int32) (x5 : Int32) (s : St), wX10_odds_70 x0 x1 x2 x4 K153 Q n x3 x5 s → G l V X 8 70 [(0, rf V x0), (1, .int x1), (2, .int x2), (3, .int x3), (4, .int x4), (5, .int x5)] [] s := by
  intro n
  induction n with
  | zero => intro x3 x5 s h; unfold wX10_odds_70 at h; exact h.elim
  | succ n ih =>
    intro x3 x5 s h
    unfold wX10_odds_70 at h
    refine g_iload (pc := 70) F dX10_odds_70 5 rfl ?_
    refine g_aload_n (pc := 72) F dX10_odds_72 rfl 0 rfl ?_
    refine g_callVi (pc := 73) F (mX10_allMaps hx0 h) mvX10_allMaps uX10_202 (by decide) clX10 hx0.1 rfl rfl (Nat.le_of_ble_eq_true rfl) dX10_odds_73 (fun r_73 s_73 h => ?_)
    refine g_icmp_gt (pc := 76) F 153 dX10_odds_76 (by decide) (fun c => ?_) (fun c => ?_)
    · have h := h.1 c
      exact g_weak [2, 3, 4] rfl (hK153 _ _ h)
    · have h := h.2 c
      refine g_iconst (pc := 79) F dX10_odds_79 ic_1 ?_
      refine g_istore (pc := 80) (lv' := [(_, _), (_, _), (_, _), (_, _), (_, _), (_, _), (_, _)]) F dX10_odds_80 (by decide) rfl ?_
      refine g_iconst (pc := 82) F dX10_odds_82 ic_0 ?_
      refine g_istore (pc := 83) (lv' := [(_, _), (_, _), (_, _), (_, _), (_, _), (_, _), (_, _), (_, _)]) F dX10_odds_83 (by decide) rfl ?_
      obtain ⟨k_85, h⟩ := h
      refine g_weak [2, 3, 4, 5, 6, 7, 1, 0] rfl (bX10_odds_85 F hR hx0 (fun x6_127 s_k127 h => ?_) k_85 _ _ _ h)
      · refine g_iload_n (pc := 127) F dX10_odds_127 rfl 3 rfl ?_
        refine g_aload_n (pc := 128) F dX10_odds_128 rfl 0 rfl ?_
        refine g_iload (pc := 129) F dX10_odds_129 5 rfl ?_
        refine g_callVi (pc := 131) F (mX10_costOf hx0 h) mvX10_costOf uX10_205 (by decide) clX10 hx0.1 rfl rfl (Nat.le_of_ble_eq_true rfl) dX10_odds_131 (fun r_131 s_131 h => ?_)
        refine g_ldc (pc := 134) F dX10_odds_134 uX10_167 ?_
        refine g_icmp_ne (pc := 136) F 143 dX10_odds_136 (by decide) (fun c => ?_) (fun c => ?_)
        · have h := h.1 c
          refine g_iload (pc := 143) F dX10_odds_143 6 rfl ?_
          exact g_weak [0, 1, 2, 4, 5] rfl (bX10_odds_145 F hR hx0 ih hK153 h)
        · have h := h.2 c
          refine g_iconst (pc := 139) F dX10_odds_139 ic_0 ?_
          refine g_goto (pc := 140) F 145 dX10_odds_140 (by decide) ?_
          exact g_weak [0, 1, 2, 4, 5] rfl (bX10_odds_145 F hR hx0 ih hK153 h)
def wX10_odds (x0 : Nat) (x1 : Int32) (x2 : Int32) (s : St) (Q : Int32 → St → Prop) : Prop :=
  ∀ s_2 : St, s_2 = stI s x0 0 (0 : Int32) → wX10_in x1 (0 : Int32) (10 : Int32) s_2 (fun r_9 s_9 => ((r_9 = 0 → Q (-1 : Int32) s_9) ∧ (¬ r_9 = 0 → wX10_in x2 (0 : Int32) (1 : Int32) s_9 (fun r_18 s_18 => ((¬ r_18 = 0 → wX10_draftLanes x0 s_18 (fun r_28 s_28 => wX10_scans x0 r_28 s_28 (fun s_31 => (∃ k_42, wX10_odds_42  x0 x1 x2 (0 : Int32) (fun x4_67 s_k67 => (∃ k_70, wX10_odds_70  x0 x1 x2 x4_67 (fun x3_153 s_k153 => wX10_gcd x3_153 x4_67 s_k153 (fun r_156 s_156 => ((¬ x2 = 0 → ¬ r_156 = 0 ∧ Q (x4_67 / r_156) s_156) ∧ (x2 = 0 → ¬ r_156 = 0 ∧ Q (x3_153 / r_156) s_156)))) Q k_70 (0 : Int32) (0 : Int32) s_k67)) Q k_42 (1 : Int32) (0 : Int32) s_31)))) ∧ (r_18 = 0 → Q (-1 : Int32) s_18))))))
set_option maxHeartbeats 4000000 in
set_option maxRecDepth 100000 in
theorem mX10_odds {l : Launch} {V : Wv} {x0 : Nat} {x1 : Int32} {x2 : Int32} {s : St} {Q : Int32 → St → Prop} (hx0 : isX10 V x0) (h : wX10_odds x0 x1 x2 s Q) : Ci yX10_odds cX10_odds 8 (some .int) (4) l V [rf V x0, .int x1, .int x2] s Q := by
  unfold wX10_odds at h
  refine Ci.of mvX10_odds.1 (Nat.le_of_ble_eq_true rfl) (fun X F hR => ?_)
  refine g_lv (lv' := [(_, _), (_, _), (_, _)]) rfl ?_
  refine g_aload_n (pc := 0) F dX10_odds_0 rfl 0 rfl ?_
  refine g_iconst (pc := 1) F dX10_odds_1 ic_0 ?_
  have h := h _ rfl
  refine g_putI (pc := 2) F clX10 hx0.1 0 rfl (by decide) rfl (tyX10_ok 0 (by decide)) uX10_89 dX10_odds_2 ?_
  refine g_iload_n (pc := 5) F dX10_odds_5 rfl 1 rfl ?_
  refine g_iconst (pc := 6) F dX10_odds_6 ic_0 ?_
  refine g_bipush (pc := 7) F dX10_odds_7 bp_10 ?_
  refine g_callSi (pc := 9) F (mX10_in  h) mvX10_in uX10_93 (by decide)  rfl rfl (Nat.le_of_ble_eq_true rfl) dX10_odds_9 (fun r_9 s_9 h => ?_)
  refine g_if_eq (pc := 12) F 24 dX10_odds_12 (by decide) (fun c => ?_) (fun c => ?_)
  · have h := h.1 c
    refine g_iconst (pc := 24) F dX10_odds_24 ic_m1 ?_
    exact hR _ _ _ _ dX10_odds_25 h
  · have h := h.2 c
    refine g_iload_n (pc := 15) F dX10_odds_15 rfl 2 rfl ?_
    refine g_iconst (pc := 16) F dX10_odds_16 ic_0 ?_
    refine g_iconst (pc := 17) F dX10_odds_17 ic_1 ?_
    refine g_callSi (pc := 18) F (mX10_in  h) mvX10_in uX10_93 (by decide)  rfl rfl (Nat.le_of_ble_eq_true rfl) dX10_odds_18 (fun r_18 s_18 h => ?_)
    refine g_if_ne (pc := 21) F 26 dX10_odds_21 (by decide) (fun c => ?_) (fun c => ?_)
    · have h := h.1 c
      refine g_aload_n (pc := 26) F dX10_odds_26 rfl 0 rfl ?_
      refine g_aload_n (pc := 27) F dX10_odds_27 rfl 0 rfl ?_
      refine g_callVi (pc := 28) F (mX10_draftLanes hx0 h) mvX10_draftLanes uX10_195 (by decide) clX10 hx0.1 rfl rfl (Nat.le_of_ble_eq_true rfl) dX10_odds_28 (fun r_28 s_28 h => ?_)
      refine g_callVv (pc := 31) F (mX10_scans hx0 h) mvX10_scans uX10_199 (by decide) clX10 hx0.1 rfl rfl (Nat.le_of_ble_eq_true rfl) dX10_odds_31 (fun s_31 h => ?_)
      refine g_iconst (pc := 34) F dX10_odds_34 ic_0 ?_
      refine g_istore_n (pc := 35) (lv' := [(_, _), (_, _), (_, _), (_, _)]) F dX10_odds_35 rfl (by decide) rfl ?_
      refine g_iconst (pc := 36) F dX10_odds_36 ic_1 ?_
      refine g_istore (pc := 37) (lv' := [(_, _), (_, _), (_, _), (_, _), (_, _)]) F dX10_odds_37 (by decide) rfl ?_
      refine g_iconst (pc := 39) F dX10_odds_39 ic_0 ?_
      refine g_istore (pc := 40) (lv' := [(_, _), (_, _), (_, _), (_, _), (_, _), (_, _)]) F dX10_odds_40 (by decide) rfl ?_
      obtain ⟨k_42, h⟩ := h
      refine g_weak [3, 4, 5, 2, 1, 0] rfl (bX10_odds_42 F hR hx0 (fun x4_67 s_k67 h => ?_) k_42 _ _ _ h)
      · refine g_iconst (pc := 67) F dX10_odds_67 ic_0 ?_
        refine g_istore (pc := 68) (lv' := [(_, _), (_, _), (_, _), (_, _), (_, _), (_, _)]) F dX10_odds_68 (by decide) rfl ?_
        obtain ⟨k_70, h⟩ := h
        refine g_weak [1, 2, 3, 4, 5, 0] rfl (bX10_odds_70 F hR hx0 (fun x3_153 s_k153 h => ?_) k_70 _ _ _ h)
        · refine g_iload_n (pc := 153) F dX10_odds_153 rfl 1 rfl ?_
          refine g_iload (pc := 154) F dX10_odds_154 2 rfl ?_
          refine g_callSi (pc := 156) F (mX10_gcd  h) mvX10_gcd uX10_236 (by decide)  rfl rfl (Nat.le_of_ble_eq_true rfl) dX10_odds_156 (fun r_156 s_156 h => ?_)
          refine g_istore (pc := 159) (lv' := [(_, _), (_, _), (_, _), (_, _)]) F dX10_odds_159 (by decide) rfl ?_
          refine g_iload_n (pc := 161) F dX10_odds_161 rfl 1 rfl ?_
          refine g_if_ne (pc := 162) F 172 dX10_odds_162 (by decide) (fun c => ?_) (fun c => ?_)
          · have h := h.1 c
            refine g_iload (pc := 172) F dX10_odds_172 3 rfl ?_
            refine g_iload (pc := 174) F dX10_odds_174 0 rfl ?_
            obtain ⟨hb_176, h⟩ := h
            refine g_idiv (pc := 176) F dX10_odds_176 hb_176 ?_
            exact hR _ _ _ _ dX10_odds_177 h
          · have h := h.2 c
            refine g_iload_n (pc := 165) F dX10_odds_165 rfl 2 rfl ?_
            refine g_iload (pc := 166) F dX10_odds_166 0 rfl ?_
            obtain ⟨hb_168, h⟩ := h
            refine g_idiv (pc := 168) F dX10_odds_168 hb_168 ?_
            refine g_goto (pc := 169) F 177 dX10_odds_169 (by decide) ?_
            exact hR _ _ _ _ dX10_odds_177 h
    · have h := h.2 c
      refine g_iconst (pc := 24) F dX10_odds_24 ic_m1 ?_
      exact hR _ _ _ _ dX10_odds_25 h
def wX10_took (x0 : Nat) (x1 : Int32) (x2 : Int32) (s : St) (Q : Int32 → St → Prop) : Prop :=
  ∀ s_2 : St, s_2 = stI s x0 0 (0 : Int32) → wX10_isLane x0 x1 s_2 (fun r_7 s_7 => ((r_7 = 0 → Q (-1 : Int32) s_7) ∧ (¬ r_7 = 0 → wX10_in x2 (0 : Int32) (1 : Int32) s_7 (fun r_16 s_16 => ((¬ r_16 = 0 → ((¬ (s_16.1 x0 21) = (6 : Int32) → vp_in (s_16.1 x0 21) 6 ∧ ∀ s_45 : St, s_45 = stI s_16 (x0 + 11) (s_16.1 x0 21).toNatClampNeg x1 → vp_in (s_45.1 x0 21) 6 ∧ ∀ s_55 : St, s_55 = stI s_45 (x0 + 12) (s_45.1 x0 21).toNatClampNeg x2 → ∀ s_63 : St, s_63 = stI s_55 x0 21 ((s_55.1 x0 21) + (1 : Int32)) → Q (s_63.1 x0 21) s_63) ∧ ((s_16.1 x0 21) = (6 : Int32) → Q (-3 : Int32) s_16))) ∧ (r_16 = 0 → Q (-1 : Int32) s_16))))))
set_option maxHeartbeats 4000000 in
set_option maxRecDepth 100000 in
theorem mX10_took {l : Launch} {V : Wv} {x0 : Nat} {x1 : Int32} {x2 : Int32} {s : St} {Q : Int32 → St → Prop} (hx0 : isX10 V x0) (h : wX10_took x0 x1 x2 s Q) : Ci yX10_took cX10_took 3 (some .int) (2) l V [rf V x0, .int x1, .int x2] s Q := by
  unfold wX10_took at h
  refine Ci.of mvX10_took.1 (Nat.le_of_ble_eq_true rfl) (fun X F hR => ?_)
  refine g_lv (lv' := [(_, _), (_, _), (_, _)]) rfl ?_
  refine g_aload_n (pc := 0) F dX10_took_0 rfl 0 rfl ?_
  refine g_iconst (pc := 1) F dX10_took_1 ic_0 ?_
  have h := h _ rfl
  refine g_putI (pc := 2) F clX10 hx0.1 0 rfl (by decide) rfl (tyX10_ok 0 (by decide)) uX10_89 dX10_took_2 ?_
  refine g_aload_n (pc := 5) F dX10_took_5 rfl 0 rfl ?_
  refine g_iload_n (pc := 6) F dX10_took_6 rfl 1 rfl ?_
  refine g_callVi (pc := 7) F (mX10_isLane hx0 h) mvX10_isLane uX10_171 (by decide) clX10 hx0.1 rfl rfl (Nat.le_of_ble_eq_true rfl) dX10_took_7 (fun r_7 s_7 h => ?_)
  refine g_if_eq (pc := 10) F 22 dX10_took_10 (by decide) (fun c => ?_) (fun c => ?_)
  · have h := h.1 c
    refine g_iconst (pc := 22) F dX10_took_22 ic_m1 ?_
    exact hR _ _ _ _ dX10_took_23 h
  · have h := h.2 c
    refine g_iload_n (pc := 13) F dX10_took_13 rfl 2 rfl ?_
    refine g_iconst (pc := 14) F dX10_took_14 ic_0 ?_
    refine g_iconst (pc := 15) F dX10_took_15 ic_1 ?_
    refine g_callSi (pc := 16) F (mX10_in  h) mvX10_in uX10_93 (by decide)  rfl rfl (Nat.le_of_ble_eq_true rfl) dX10_took_16 (fun r_16 s_16 h => ?_)
    refine g_if_ne (pc := 19) F 24 dX10_took_19 (by decide) (fun c => ?_) (fun c => ?_)
    · have h := h.1 c
      refine g_aload_n (pc := 24) F dX10_took_24 rfl 0 rfl ?_
      refine g_getI (pc := 25) F clX10 hx0.1 21 rfl (by decide) uX10_158 dX10_took_25 ?_
      refine g_bipush (pc := 28) F dX10_took_28 bp_6 ?_
      refine g_icmp_ne (pc := 30) F 36 dX10_took_30 (by decide) (fun c => ?_) (fun c => ?_)
      · have h := h.1 c
        refine g_aload_n (pc := 36) F dX10_took_36 rfl 0 rfl ?_
        refine g_getR (pc := 37) F clX10 hx0.1 19 _ rfl (by decide) uX10_41 dX10_took_37 ?_
        refine g_aload_n (pc := 40) F dX10_took_40 rfl 0 rfl ?_
        refine g_getI (pc := 41) F clX10 hx0.1 21 rfl (by decide) uX10_158 dX10_took_41 ?_
        refine g_iload_n (pc := 44) F dX10_took_44 rfl 1 rfl ?_
        obtain ⟨hb_45, h⟩ := h
        have h := h _ rfl
        refine g_iast (pc := 45) F hx0.2.2.2.2.2.2.2.2.2.2.2.1 hb_45 dX10_took_45 ?_
        refine g_aload_n (pc := 46) F dX10_took_46 rfl 0 rfl ?_
        refine g_getR (pc := 47) F clX10 hx0.1 20 _ rfl (by decide) uX10_44 dX10_took_47 ?_
        refine g_aload_n (pc := 50) F dX10_took_50 rfl 0 rfl ?_
        refine g_getI (pc := 51) F clX10 hx0.1 21 rfl (by decide) uX10_158 dX10_took_51 ?_
        refine g_iload_n (pc := 54) F dX10_took_54 rfl 2 rfl ?_
        obtain ⟨hb_55, h⟩ := h
        have h := h _ rfl
        refine g_iast (pc := 55) F hx0.2.2.2.2.2.2.2.2.2.2.2.2.1 hb_55 dX10_took_55 ?_
        refine g_aload_n (pc := 56) F dX10_took_56 rfl 0 rfl ?_
        refine g_dup (pc := 57) F dX10_took_57 rfl ?_
        refine g_getI (pc := 58) F clX10 hx0.1 21 rfl (by decide) uX10_158 dX10_took_58 ?_
        refine g_iconst (pc := 61) F dX10_took_61 ic_1 ?_
        refine g_iadd (pc := 62) F dX10_took_62 ?_
        have h := h _ rfl
        refine g_putI (pc := 63) F clX10 hx0.1 21 rfl (by decide) rfl (tyX10_ok 21 (by decide)) uX10_158 dX10_took_63 ?_
        refine g_aload_n (pc := 66) F dX10_took_66 rfl 0 rfl ?_
        refine g_getI (pc := 67) F clX10 hx0.1 21 rfl (by decide) uX10_158 dX10_took_67 ?_
        exact hR _ _ _ _ dX10_took_70 h
      · have h := h.2 c
        refine g_bipush (pc := 33) F dX10_took_33 bp_m3 ?_
        exact hR _ _ _ _ dX10_took_35 h
    · have h := h.2 c
      refine g_iconst (pc := 22) F dX10_took_22 ic_m1 ?_
      exact hR _ _ _ _ dX10_took_23 h
def wX10_forget (x0 : Nat) (s : St) (Q : Int32 → St → Prop) : Prop :=
  ∀ s_2 : St, s_2 = stI s x0 0 (0 : Int32) → ∀ s_12 : St, s_12 = stI s_2 x0 21 (0 : Int32) → Q (s_2.1 x0 21) s_12
set_option maxHeartbeats 4000000 in
set_option maxRecDepth 100000 in
theorem mX10_forget {l : Launch} {V : Wv} {x0 : Nat} {s : St} {Q : Int32 → St → Prop} (hx0 : isX10 V x0) (h : wX10_forget x0 s Q) : Ci yX10_forget cX10_forget 2 (some .int) (0) l V [rf V x0] s Q := by
  unfold wX10_forget at h
  refine Ci.of mvX10_forget.1 (Nat.le_of_ble_eq_true rfl) (fun X F hR => ?_)
  refine g_lv (lv' := [(_, _)]) rfl ?_
  refine g_aload_n (pc := 0) F dX10_forget_0 rfl 0 rfl ?_
  refine g_iconst (pc := 1) F dX10_forget_1 ic_0 ?_
  have h := h _ rfl
  refine g_putI (pc := 2) F clX10 hx0.1 0 rfl (by decide) rfl (tyX10_ok 0 (by decide)) uX10_89 dX10_forget_2 ?_
  refine g_aload_n (pc := 5) F dX10_forget_5 rfl 0 rfl ?_
  refine g_getI (pc := 6) F clX10 hx0.1 21 rfl (by decide) uX10_158 dX10_forget_6 ?_
  refine g_istore_n (pc := 9) (lv' := [(_, _), (_, _)]) F dX10_forget_9 rfl (by decide) rfl ?_
  refine g_aload_n (pc := 10) F dX10_forget_10 rfl 1 rfl ?_
  refine g_iconst (pc := 11) F dX10_forget_11 ic_0 ?_
  have h := h _ rfl
  refine g_putI (pc := 12) F clX10 hx0.1 21 rfl (by decide) rfl (tyX10_ok 21 (by decide)) uX10_158 dX10_forget_12 ?_
  refine g_iload_n (pc := 15) F dX10_forget_15 rfl 0 rfl ?_
  exact hR _ _ _ _ dX10_forget_16 h
def wX10_mayBe_61 (rec : Int32 → Int32 → St → Prop) (Q : Int32 → St → Prop) (x0 : Nat) (x1 : Int32) (x3 : Int32) (t0 : Int32) (s : St) : Prop :=
  rec t0 (x3 + (1 : Int32)) s
set_option maxHeartbeats 4000000 in
set_option maxRecDepth 100000 in
theorem bX10_mayBe_61 {l : Launch} {V : Wv} {X : Mx} {rec : Int32 → Int32 → St → Prop} {Q : Int32 → St → Prop} {x0 : Nat} {x1 : Int32} {x3 : Int32} {t0 : Int32} (F : Fx V X cX10_mayBe RX10 4 1) (hR : RtZ l V X 4 cX10_mayBe Q) (hx0 : isX10 V x0) (hrec : ∀ (y2 : Int32) (y3 : Int32) (s : St), rec y2 y3 s → G l V X 4 25 [(0, rf V x0), (1, .int x1), (2, .int y2), (3, .int y3)] [] s) {s : St} (h : wX10_mayBe_61 rec Q x0 x1 x3 t0 s) : G l V X 4 61 [(0, rf V x0), (1, .int x1), (3, .int x3)] [.int t0] s := by
  unfold wX10_mayBe_61 at h
  refine g_istore_n (pc := 61) (lv' := [(_, _), (_, _), (_, _), (_, _)]) F dX10_mayBe_61 rfl (by decide) rfl ?_
  refine g_iinc (pc := 62) (lv' := [(_, _), (_, _), (_, _), (_, _)]) F dX10_mayBe_62 3 rfl (congrArg _ ic_1) (by decide) rfl ?_
  refine g_goto (pc := 65) F 25 dX10_mayBe_65 (by decide) ?_
  exact g_weak [2, 3, 1, 0] rfl (hrec _ _ _ h)
def wX10_mayBe_60 (rec : Int32 → Int32 → St → Prop) (Q : Int32 → St → Prop) (x0 : Nat) (x1 : Int32) (x3 : Int32) (s : St) : Prop :=
  wX10_mayBe_61 (rec) Q x0 x1 x3 (0 : Int32) s
set_option maxHeartbeats 4000000 in
set_option maxRecDepth 100000 in
theorem bX10_mayBe_60 {l : Launch} {V : Wv} {X : Mx} {rec : Int32 → Int32 → St → Prop} {Q : Int32 → St → Prop} {x0 : Nat} {x1 : Int32} {x3 : Int32} (F : Fx V X cX10_mayBe RX10 4 1) (hR : RtZ l V X 4 cX10_mayBe Q) (hx0 : isX10 V x0) (hrec : ∀ (y2 : Int32) (y3 : Int32) (s : St), rec y2 y3 s → G l V X 4 25 [(0, rf V x0), (1, .int x1), (2, .int y2), (3, .int y3)] [] s) {s : St} (h : wX10_mayBe_60 rec Q x0 x1 x3 s) : G l V X 4 60 [(0, rf V x0), (1, .int x1), (3, .int x3)] [] s := by
  unfold wX10_mayBe_60 at h
  refine g_iconst (pc := 60) F dX10_mayBe_60 ic_0 ?_
  exact g_weak [0, 1, 2] rfl (bX10_mayBe_61 F hR hx0 hrec h)
def wX10_mayBe_25 (x0 : Nat) (x1 : Int32) (Q : Int32 → St → Prop) : Nat → Int32 → Int32 → St → Prop
  | 0, _, _, _ => False
  | n + 1, x2, x3, s =>
  (((s.1 x0 21) ≤ x3 → (isB x2 ∧ Q x2 s)) ∧ (¬ (s.1 x0 21) ≤ x3 → ((x2 = 0 → wX10_mayBe_60 (wX10_mayBe_25 x0 x1 Q n) Q x0 x1 x3 s) ∧ (¬ x2 = 0 → vp_in x3 6 ∧ vp_in x3 6 ∧ ((¬ ((x1 >>> ((s.1 (x0 + 11) x3.toNatClampNeg) &&& 31)) &&& (1 : Int32)) = (s.1 (x0 + 12) x3.toNatClampNeg) → wX10_mayBe_60 (wX10_mayBe_25 x0 x1 Q n) Q x0 x1 x3 s) ∧ (((x1 >>> ((s.1 (x0 + 11) x3.toNatClampNeg) &&& 31)) &&& (1 : Int32)) = (s.1 (x0 + 12) x3.toNatClampNeg) → wX10_mayBe_61 (wX10_mayBe_25 x0 x1 Q n) Q x0 x1 x3 (1 : Int32) s))))))
set_option maxHeartbeats 4000000 in
set_option maxRecDepth 100000 in
theorem bX10_mayBe_25 {l : Launch} {V : Wv} {X : Mx} {x0 : Nat} {x1 : Int32} {Q : Int32 → St → Prop} (F : Fx V X cX10_mayBe RX10 4 1) (hR : RtZ l V X 4 cX10_mayBe Q) (hx0 : isX10 V x0)  : ∀ (n : Nat) (x2 : Int32) (x3 : Int32) (s : St), wX10_mayBe_25 x0 x1 Q n x2 x3 s → G l V X 4 25 [(0, rf V x0), (1, .int x1), (2, .int x2), (3, .int x3)] [] s := by
  intro n
  induction n with
  | zero => intro x2 x3 s h; unfold wX10_mayBe_25 at h; exact h.elim
  | succ n ih =>
    intro x2 x3 s h
    unfold wX10_mayBe_25 at h
    refine g_iload_n (pc := 25) F dX10_mayBe_25 rfl 3 rfl ?_
    refine g_aload_n (pc := 26) F dX10_mayBe_26 rfl 0 rfl ?_
    refine g_getI (pc := 27) F clX10 hx0.1 21 rfl (by decide) uX10_158 dX10_mayBe_27 ?_
    refine g_icmp_ge (pc := 30) F 68 dX10_mayBe_30 (by decide) (fun c => ?_) (fun c => ?_)
    · have h := h.1 c
      refine g_iload_n (pc := 68) F dX10_mayBe_68 rfl 2 rfl ?_
      exact hR _ _ _ _ dX10_mayBe_69 h.1 h.2
    · have h := h.2 c
      refine g_iload_n (pc := 33) F dX10_mayBe_33 rfl 2 rfl ?_
      refine g_if_eq (pc := 34) F 60 dX10_mayBe_34 (by decide) (fun c => ?_) (fun c => ?_)
      · have h := h.1 c
        exact g_weak [0, 1, 3] rfl (bX10_mayBe_60 F hR hx0 ih h)
      · have h := h.2 c
        refine g_iload_n (pc := 37) F dX10_mayBe_37 rfl 1 rfl ?_
        refine g_aload_n (pc := 38) F dX10_mayBe_38 rfl 0 rfl ?_
        refine g_getR (pc := 39) F clX10 hx0.1 19 _ rfl (by decide) uX10_41 dX10_mayBe_39 ?_
        refine g_iload_n (pc := 42) F dX10_mayBe_42 rfl 3 rfl ?_
        obtain ⟨hb_43, h⟩ := h
        refine g_iald (pc := 43) F hx0.2.2.2.2.2.2.2.2.2.2.2.1 hb_43 dX10_mayBe_43 ?_
        refine g_ishr (pc := 44) F dX10_mayBe_44 ?_
        refine g_iconst (pc := 45) F dX10_mayBe_45 ic_1 ?_
        refine g_iand (pc := 46) F dX10_mayBe_46 ?_
        refine g_aload_n (pc := 47) F dX10_mayBe_47 rfl 0 rfl ?_
        refine g_getR (pc := 48) F clX10 hx0.1 20 _ rfl (by decide) uX10_44 dX10_mayBe_48 ?_
        refine g_iload_n (pc := 51) F dX10_mayBe_51 rfl 3 rfl ?_
        obtain ⟨hb_52, h⟩ := h
        refine g_iald (pc := 52) F hx0.2.2.2.2.2.2.2.2.2.2.2.2.1 hb_52 dX10_mayBe_52 ?_
        refine g_icmp_ne (pc := 53) F 60 dX10_mayBe_53 (by decide) (fun c => ?_) (fun c => ?_)
        · have h := h.1 c
          exact g_weak [0, 1, 3] rfl (bX10_mayBe_60 F hR hx0 ih h)
        · have h := h.2 c
          refine g_iconst (pc := 56) F dX10_mayBe_56 ic_1 ?_
          refine g_goto (pc := 57) F 61 dX10_mayBe_57 (by decide) ?_
          exact g_weak [0, 1, 3] rfl (bX10_mayBe_61 F hR hx0 ih h)
def wX10_mayBe_22 (Q : Int32 → St → Prop) (x0 : Nat) (x1 : Int32) (t0 : Int32) (s : St) : Prop :=
  (∃ k_25, wX10_mayBe_25  x0 x1  Q k_25 t0 (0 : Int32) s)
set_option maxHeartbeats 4000000 in
set_option maxRecDepth 100000 in
theorem bX10_mayBe_22 {l : Launch} {V : Wv} {X : Mx} {Q : Int32 → St → Prop} {x0 : Nat} {x1 : Int32} {t0 : Int32} (F : Fx V X cX10_mayBe RX10 4 1) (hR : RtZ l V X 4 cX10_mayBe Q) (hx0 : isX10 V x0)  {s : St} (h : wX10_mayBe_22 Q x0 x1 t0 s) : G l V X 4 22 [(0, rf V x0), (1, .int x1)] [.int t0] s := by
  unfold wX10_mayBe_22 at h
  refine g_istore_n (pc := 22) (lv' := [(_, _), (_, _), (_, _)]) F dX10_mayBe_22 rfl (by decide) rfl ?_
  refine g_iconst (pc := 23) F dX10_mayBe_23 ic_0 ?_
  refine g_istore_n (pc := 24) (lv' := [(_, _), (_, _), (_, _), (_, _)]) F dX10_mayBe_24 rfl (by decide) rfl ?_
  obtain ⟨k_25, h⟩ := h
  refine g_weak [2, 3, 1, 0] rfl (bX10_mayBe_25 F hR hx0 k_25 _ _ _ h)
def wX10_mayBe_21 (Q : Int32 → St → Prop) (x0 : Nat) (x1 : Int32) (s : St) : Prop :=
  wX10_mayBe_22 Q x0 x1 (0 : Int32) s
set_option maxHeartbeats 4000000 in
set_option maxRecDepth 100000 in
theorem bX10_mayBe_21 {l : Launch} {V : Wv} {X : Mx} {Q : Int32 → St → Prop} {x0 : Nat} {x1 : Int32} (F : Fx V X cX10_mayBe RX10 4 1) (hR : RtZ l V X 4 cX10_mayBe Q) (hx0 : isX10 V x0)  {s : St} (h : wX10_mayBe_21 Q x0 x1 s) : G l V X 4 21 [(0, rf V x0), (1, .int x1)] [] s := by
  unfold wX10_mayBe_21 at h
  refine g_iconst (pc := 21) F dX10_mayBe_21 ic_0 ?_
  exact g_weak [0, 1] rfl (bX10_mayBe_22 F hR hx0 h)
def wX10_mayBe (x0 : Nat) (x1 : Int32) (s : St) (Q : Int32 → St → Prop) : Prop :=
  vp_in x1 64 ∧ (((s.1 (x0 + 13) x1.toNatClampNeg) = 0 → wX10_mayBe_21 Q x0 x1 s) ∧ (¬ (s.1 (x0 + 13) x1.toNatClampNeg) = 0 → wX10_holds x0 x1 s (fun r_11 s_11 => ((r_11 = 0 → wX10_mayBe_21 Q x0 x1 s_11) ∧ (¬ r_11 = 0 → wX10_mayBe_22 Q x0 x1 (1 : Int32) s_11)))))
set_option maxHeartbeats 4000000 in
set_option maxRecDepth 100000 in
theorem mX10_mayBe {l : Launch} {V : Wv} {x0 : Nat} {x1 : Int32} {s : St} {Q : Int32 → St → Prop} (hx0 : isX10 V x0) (h : wX10_mayBe x0 x1 s Q) : Ci yX10_mayBe cX10_mayBe 4 (some .boolean) (1) l V [rf V x0, .int x1] s Q := by
  unfold wX10_mayBe at h
  refine Cz.of mvX10_mayBe.1 (Nat.le_of_ble_eq_true rfl) (fun X F hR => ?_)
  refine g_lv (lv' := [(_, _), (_, _)]) rfl ?_
  refine g_aload_n (pc := 0) F dX10_mayBe_0 rfl 0 rfl ?_
  refine g_getR (pc := 1) F clX10 hx0.1 22 _ rfl (by decide) uX10_47 dX10_mayBe_1 ?_
  refine g_iload_n (pc := 4) F dX10_mayBe_4 rfl 1 rfl ?_
  obtain ⟨hb_5, h⟩ := h
  refine g_iald (pc := 5) F hx0.2.2.2.2.2.2.2.2.2.2.2.2.2.1 hb_5 dX10_mayBe_5 ?_
  refine g_if_eq (pc := 6) F 21 dX10_mayBe_6 (by decide) (fun c => ?_) (fun c => ?_)
  · have h := h.1 c
    exact g_weak [0, 1] rfl (bX10_mayBe_21 F hR hx0 h)
  · have h := h.2 c
    refine g_aload_n (pc := 9) F dX10_mayBe_9 rfl 0 rfl ?_
    refine g_iload_n (pc := 10) F dX10_mayBe_10 rfl 1 rfl ?_
    refine g_callVi (pc := 11) F (mX10_holds hx0 h) mvX10_holds uX10_185 (by decide) clX10 hx0.1 rfl rfl (Nat.le_of_ble_eq_true rfl) dX10_mayBe_11 (fun r_11 s_11 h => ?_)
    refine g_if_eq (pc := 14) F 21 dX10_mayBe_14 (by decide) (fun c => ?_) (fun c => ?_)
    · have h := h.1 c
      exact g_weak [0, 1] rfl (bX10_mayBe_21 F hR hx0 h)
    · have h := h.2 c
      refine g_iconst (pc := 17) F dX10_mayBe_17 ic_1 ?_
      refine g_goto (pc := 18) F 22 dX10_mayBe_18 (by decide) ?_
      exact g_weak [0, 1] rfl (bX10_mayBe_22 F hR hx0 h)
def wX10_can_66 (rec : Int32 → Int32 → Int32 → Int32 → St → Prop) (K72 : Int32 → Int32 → Int32 → St → Prop) (Q : Int32 → St → Prop) (x0 : Nat) (x1 : Int32) (x2 : Int32) (x3 : Int32) (x4 : Int32) (x5 : Int32) (s : St) : Prop :=
  rec x2 x3 x4 (x5 + (1 : Int32)) s
set_option maxHeartbeats 4000000 in
set_option maxRecDepth 100000 in
theorem bX10_can_66 {l : Launch} {V : Wv} {X : Mx} {rec : Int32 → Int32 → Int32 → Int32 → St → Prop} {K72 : Int32 → Int32 → Int32 → St → Prop} {Q : Int32 → St → Prop} {x0 : Nat} {x1 : Int32} {x2 : Int32} {x3 : Int32} {x4 : Int32} {x5 : Int32} (F : Fx V X cX10_can RX10 6 2) (hR : RtI l V X 6 cX10_can Q) (hx0 : isX10 V x0) (hrec : ∀ (y2 : Int32) (y3 : Int32) (y4 : Int32) (y5 : Int32) (s : St), rec y2 y3 y4 y5 s → G l V X 6 35 [(0, rf V x0), (1, .int x1), (2, .int y2), (3, .int y3), (4, .int y4), (5, .int y5)] [] s) (hK72 : ∀ (y2 : Int32) (y3 : Int32) (y4 : Int32) (s : St), K72 y2 y3 y4 s → G l V X 6 72 [(1, .int x1), (2, .int y2), (3, .int y3), (4, .int y4)] [] s) {s : St} (h : wX10_can_66 rec K72 Q x0 x1 x2 x3 x4 x5 s) : G l V X 6 66 [(0, rf V x0), (1, .int x1), (2, .int x2), (3, .int x3), (4, .int x4), (5, .int x5)] [] s := by
  unfold wX10_can_66 at h
  refine g_iinc (pc := 66) (lv' := [(_, _), (_, _), (_, _), (_, _), (_, _), (_, _)]) F dX10_can_66 5 rfl (congrArg _ ic_1) (by decide) rfl ?_
  refine g_goto (pc := 69) F 35 dX10_can_69 (by decide) ?_
  exact g_weak [1, 2, 3, 4, 5, 0] rfl (hrec _ _ _ _ _ h)
def wX10_can_35 (x0 : Nat) (x1 : Int32) (K72 : Int32 → Int32 → Int32 → St → Prop) (Q : Int32 → St → Prop) : Nat → Int32 → Int32 → Int32 → Int32 → St → Prop
  | 0, _, _, _, _, _ => False
  | n + 1, x2, x3, x4, x5, s =>
  (((64 : Int32) ≤ x5 → K72 x2 x3 x4 s) ∧ (¬ (64 : Int32) ≤ x5 → wX10_mayBe x0 x5 s (fun r_45 s_45 => ((r_45 = 0 → wX10_can_66 (wX10_can_35 x0 x1 K72 Q n) (K72) Q x0 x1 x2 x3 x4 x5 s_45) ∧ (¬ r_45 = 0 → wX10_can_66 (wX10_can_35 x0 x1 K72 Q n) (K72) Q x0 x1 (x2 + (1 : Int32)) (x3 &&& x5) (x4 ||| x5) x5 s_45)))))
set_option maxHeartbeats 4000000 in
set_option maxRecDepth 100000 in
theorem bX10_can_35 {l : Launch} {V : Wv} {X : Mx} {x0 : Nat} {x1 : Int32} {K72 : Int32 → Int32 → Int32 → St → Prop} {Q : Int32 → St → Prop} (F : Fx V X cX10_can RX10 6 2) (hR : RtI l V X 6 cX10_can Q) (hx0 : isX10 V x0) (hK72 : ∀ (y2 : Int32) (y3 : Int32) (y4 : Int32) (s : St), K72 y2 y3 y4 s → G l V X 6 72 [(1, .int x1), (2, .int y2), (3, .int y3), (4, .int y4)] [] s) : ∀ (n : Nat) (x2 : Int32) (x3 : Int32) (x4 : Int32) (x5 : Int32) (s : St), wX10_can_35 x0 x1 K72 Q n x2 x3 x4 x5 s → G l V X 6 35 [(0, rf V x0), (1, .int x1), (2, .int x2), (3, .int x3), (4, .int x4), (5, .int x5)] [] s := by
  intro n
  induction n with
  | zero => intro x2 x3 x4 x5 s h; unfold wX10_can_35 at h; exact h.elim
  | succ n ih =>
    intro x2 x3 x4 x5 s h
    unfold wX10_can_35 at h
    refine g_iload (pc := 35) F dX10_can_35 5 rfl ?_
    refine g_bipush (pc := 37) F dX10_can_37 bp_64 ?_
    refine g_icmp_ge (pc := 39) F 72 dX10_can_39 (by decide) (fun c => ?_) (fun c => ?_)
    · have h := h.1 c
      exact g_weak [1, 2, 3, 4] rfl (hK72 _ _ _ _ h)
    · have h := h.2 c
      refine g_aload_n (pc := 42) F dX10_can_42 rfl 0 rfl ?_
      refine g_iload (pc := 43) F dX10_can_43 5 rfl ?_
      refine g_callVi (pc := 45) F (mX10_mayBe hx0 h) mvX10_mayBe uX10_239 (by decide) clX10 hx0.1 rfl rfl (Nat.le_of_ble_eq_true rfl) dX10_can_45 (fun r_45 s_45 h => ?_)
      refine g_if_eq (pc := 48) F 66 dX10_can_48 (by decide) (fun c => ?_) (fun c => ?_)
      · have h := h.1 c
        exact g_weak [0, 1, 2, 3, 4, 5] rfl (bX10_can_66 F hR hx0 ih hK72 h)
      · have h := h.2 c
        refine g_iinc (pc := 51) (lv' := [(_, _), (_, _), (_, _), (_, _), (_, _), (_, _)]) F dX10_can_51 2 rfl (congrArg _ ic_1) (by decide) rfl ?_
        refine g_iload_n (pc := 54) F dX10_can_54 rfl 3 rfl ?_
        refine g_iload (pc := 55) F dX10_can_55 5 rfl ?_
        refine g_iand (pc := 57) F dX10_can_57 ?_
        refine g_istore_n (pc := 58) (lv' := [(_, _), (_, _), (_, _), (_, _), (_, _), (_, _)]) F dX10_can_58 rfl (by decide) rfl ?_
        refine g_iload (pc := 59) F dX10_can_59 4 rfl ?_
        refine g_iload (pc := 61) F dX10_can_61 5 rfl ?_
        refine g_ior (pc := 63) F dX10_can_63 ?_
        refine g_istore (pc := 64) (lv' := [(_, _), (_, _), (_, _), (_, _), (_, _), (_, _)]) F dX10_can_64 (by decide) rfl ?_
        exact g_weak [3, 4, 2, 1, 0, 5] rfl (bX10_can_66 F hR hx0 ih hK72 h)
def wX10_can (x0 : Nat) (x1 : Int32) (s : St) (Q : Int32 → St → Prop) : Prop :=
  ∀ s_2 : St, s_2 = stI s x0 0 (0 : Int32) → wX10_in x1 (0 : Int32) (2 : Int32) s_2 (fun r_8 s_8 => ((¬ r_8 = 0 → wX10_measures x0 (x0 + 7) 38 s_8 (fun s_21 => (∃ k_35, wX10_can_35  x0 x1 (fun x2_72 x3_72 x4_72 s_k72 => ((¬ x1 = 0 → ((¬ x1 = (2 : Int32) → ((¬ x2_72 = 0 → Q x3_72 s_k72) ∧ (x2_72 = 0 → Q (-9 : Int32) s_k72))) ∧ (x1 = (2 : Int32) → Q x4_72 s_k72))) ∧ (x1 = 0 → Q x2_72 s_k72))) Q k_35 (0 : Int32) (63 : Int32) (0 : Int32) (1 : Int32) s_21))) ∧ (r_8 = 0 → Q (-1 : Int32) s_8)))
set_option maxHeartbeats 4000000 in
set_option maxRecDepth 100000 in
theorem mX10_can {l : Launch} {V : Wv} {x0 : Nat} {x1 : Int32} {s : St} {Q : Int32 → St → Prop} (hx0 : isX10 V x0) (h : wX10_can x0 x1 s Q) : Ci yX10_can cX10_can 6 (some .int) (2) l V [rf V x0, .int x1] s Q := by
  unfold wX10_can at h
  refine Ci.of mvX10_can.1 (Nat.le_of_ble_eq_true rfl) (fun X F hR => ?_)
  refine g_lv (lv' := [(_, _), (_, _)]) rfl ?_
  refine g_aload_n (pc := 0) F dX10_can_0 rfl 0 rfl ?_
  refine g_iconst (pc := 1) F dX10_can_1 ic_0 ?_
  have h := h _ rfl
  refine g_putI (pc := 2) F clX10 hx0.1 0 rfl (by decide) rfl (tyX10_ok 0 (by decide)) uX10_89 dX10_can_2 ?_
  refine g_iload_n (pc := 5) F dX10_can_5 rfl 1 rfl ?_
  refine g_iconst (pc := 6) F dX10_can_6 ic_0 ?_
  refine g_iconst (pc := 7) F dX10_can_7 ic_2 ?_
  refine g_callSi (pc := 8) F (mX10_in  h) mvX10_in uX10_93 (by decide)  rfl rfl (Nat.le_of_ble_eq_true rfl) dX10_can_8 (fun r_8 s_8 h => ?_)
  refine g_if_ne (pc := 11) F 16 dX10_can_11 (by decide) (fun c => ?_) (fun c => ?_)
  · have h := h.1 c
    refine g_aload_n (pc := 16) F dX10_can_16 rfl 0 rfl ?_
    refine g_aload_n (pc := 17) F dX10_can_17 rfl 0 rfl ?_
    refine g_getR (pc := 18) F clX10 hx0.1 14 _ rfl (by decide) uX10_28 dX10_can_18 ?_
    refine g_callVv (pc := 21) F (mX10_measures hx0 hx0.2.2.2.2.2.2.2.1 h) mvX10_measures uX10_181 (by decide) clX10 hx0.1 rfl rfl (Nat.le_of_ble_eq_true rfl) dX10_can_21 (fun s_21 h => ?_)
    refine g_iconst (pc := 24) F dX10_can_24 ic_0 ?_
    refine g_istore_n (pc := 25) (lv' := [(_, _), (_, _), (_, _)]) F dX10_can_25 rfl (by decide) rfl ?_
    refine g_bipush (pc := 26) F dX10_can_26 bp_63 ?_
    refine g_istore_n (pc := 28) (lv' := [(_, _), (_, _), (_, _), (_, _)]) F dX10_can_28 rfl (by decide) rfl ?_
    refine g_iconst (pc := 29) F dX10_can_29 ic_0 ?_
    refine g_istore (pc := 30) (lv' := [(_, _), (_, _), (_, _), (_, _), (_, _)]) F dX10_can_30 (by decide) rfl ?_
    refine g_iconst (pc := 32) F dX10_can_32 ic_1 ?_
    refine g_istore (pc := 33) (lv' := [(_, _), (_, _), (_, _), (_, _), (_, _), (_, _)]) F dX10_can_33 (by decide) rfl ?_
    obtain ⟨k_35, h⟩ := h
    refine g_weak [4, 5, 3, 2, 1, 0] rfl (bX10_can_35 F hR hx0 (fun x2_72 x3_72 x4_72 s_k72 h => ?_) k_35 _ _ _ _ _ h)
    · refine g_iload_n (pc := 72) F dX10_can_72 rfl 0 rfl ?_
      refine g_if_ne (pc := 73) F 80 dX10_can_73 (by decide) (fun c => ?_) (fun c => ?_)
      · have h := h.1 c
        refine g_iload_n (pc := 80) F dX10_can_80 rfl 0 rfl ?_
        refine g_iconst (pc := 81) F dX10_can_81 ic_2 ?_
        refine g_icmp_ne (pc := 82) F 90 dX10_can_82 (by decide) (fun c => ?_) (fun c => ?_)
        · have h := h.1 c
          refine g_iload_n (pc := 90) F dX10_can_90 rfl 1 rfl ?_
          refine g_if_ne (pc := 91) F 99 dX10_can_91 (by decide) (fun c => ?_) (fun c => ?_)
          · have h := h.1 c
            refine g_iload_n (pc := 99) F dX10_can_99 rfl 2 rfl ?_
            exact hR _ _ _ _ dX10_can_100 h
          · have h := h.2 c
            refine g_bipush (pc := 94) F dX10_can_94 bp_m9 ?_
            refine g_goto (pc := 96) F 100 dX10_can_96 (by decide) ?_
            exact hR _ _ _ _ dX10_can_100 h
        · have h := h.2 c
          refine g_iload (pc := 85) F dX10_can_85 3 rfl ?_
          refine g_goto (pc := 87) F 100 dX10_can_87 (by decide) ?_
          exact hR _ _ _ _ dX10_can_100 h
      · have h := h.2 c
        refine g_iload_n (pc := 76) F dX10_can_76 rfl 1 rfl ?_
        refine g_goto (pc := 77) F 100 dX10_can_77 (by decide) ?_
        exact hR _ _ _ _ dX10_can_100 h
  · have h := h.2 c
    refine g_iconst (pc := 14) F dX10_can_14 ic_m1 ?_
    exact hR _ _ _ _ dX10_can_15 h
def wX10_look_37 (rec : Int32 → Int32 → St → Prop) (K45 : Int32 → St → Prop) (Q : Int32 → St → Prop) (x0 : Nat) (x2 : Int32) (t0 : Int32) (t1 : Int32) (s : St) : Prop :=
  rec (t1 + t0) (x2 + (1 : Int32)) s
set_option maxHeartbeats 4000000 in
set_option maxRecDepth 100000 in
theorem bX10_look_37 {l : Launch} {V : Wv} {X : Mx} {rec : Int32 → Int32 → St → Prop} {K45 : Int32 → St → Prop} {Q : Int32 → St → Prop} {x0 : Nat} {x2 : Int32} {t0 : Int32} {t1 : Int32} (F : Fx V X cX10_look RX10 7 2) (hR : RtI l V X 7 cX10_look Q) (hx0 : isX10 V x0) (hrec : ∀ (y1 : Int32) (y2 : Int32) (s : St), rec y1 y2 s → G l V X 7 17 [(0, rf V x0), (1, .int y1), (2, .int y2)] [] s) (hK45 : ∀ (y1 : Int32) (s : St), K45 y1 s → G l V X 7 45 [(0, rf V x0), (1, .int y1)] [] s) {s : St} (h : wX10_look_37 rec K45 Q x0 x2 t0 t1 s) : G l V X 7 37 [(0, rf V x0), (2, .int x2)] [.int t0, .int t1] s := by
  unfold wX10_look_37 at h
  refine g_iadd (pc := 37) F dX10_look_37 ?_
  refine g_istore_n (pc := 38) (lv' := [(_, _), (_, _), (_, _)]) F dX10_look_38 rfl (by decide) rfl ?_
  refine g_iinc (pc := 39) (lv' := [(_, _), (_, _), (_, _)]) F dX10_look_39 2 rfl (congrArg _ ic_1) (by decide) rfl ?_
  refine g_goto (pc := 42) F 17 dX10_look_42 (by decide) ?_
  exact g_weak [2, 1, 0] rfl (hrec _ _ _ h)
def wX10_look_17 (x0 : Nat) (K45 : Int32 → St → Prop) (Q : Int32 → St → Prop) : Nat → Int32 → Int32 → St → Prop
  | 0, _, _, _ => False
  | n + 1, x1, x2, s =>
  (((64 : Int32) ≤ x2 → K45 x1 s) ∧ (¬ (64 : Int32) ≤ x2 → wX10_mayBe x0 x2 s (fun r_26 s_26 => ((r_26 = 0 → wX10_look_37 (wX10_look_17 x0 K45 Q n) (K45) Q x0 x2 (0 : Int32) x1 s_26) ∧ (¬ r_26 = 0 → wX10_look_37 (wX10_look_17 x0 K45 Q n) (K45) Q x0 x2 (1 : Int32) x1 s_26)))))
set_option maxHeartbeats 4000000 in
set_option maxRecDepth 100000 in
theorem bX10_look_17 {l : Launch} {V : Wv} {X : Mx} {x0 : Nat} {K45 : Int32 → St → Prop} {Q : Int32 → St → Prop} (F : Fx V X cX10_look RX10 7 2) (hR : RtI l V X 7 cX10_look Q) (hx0 : isX10 V x0) (hK45 : ∀ (y1 : Int32) (s : St), K45 y1 s → G l V X 7 45 [(0, rf V x0), (1, .int y1)] [] s) : ∀ (n : Nat) (x1 : Int32) (x2 : Int32) (s : St), wX10_look_17 x0 K45 Q n x1 x2 s → G l V X 7 17 [(0, rf V x0), (1, .int x1), (2, .int x2)] [] s := by
  intro n
  induction n with
  | zero => intro x1 x2 s h; unfold wX10_look_17 at h; exact h.elim
  | succ n ih =>
    intro x1 x2 s h
    unfold wX10_look_17 at h
    refine g_iload_n (pc := 17) F dX10_look_17 rfl 2 rfl ?_
    refine g_bipush (pc := 18) F dX10_look_18 bp_64 ?_
    refine g_icmp_ge (pc := 20) F 45 dX10_look_20 (by decide) (fun c => ?_) (fun c => ?_)
    · have h := h.1 c
      exact g_weak [0, 1] rfl (hK45 _ _ h)
    · have h := h.2 c
      refine g_iload_n (pc := 23) F dX10_look_23 rfl 1 rfl ?_
      refine g_aload_n (pc := 24) F dX10_look_24 rfl 0 rfl ?_
      refine g_iload_n (pc := 25) F dX10_look_25 rfl 2 rfl ?_
      refine g_callVi (pc := 26) F (mX10_mayBe hx0 h) mvX10_mayBe uX10_239 (by decide) clX10 hx0.1 rfl rfl (Nat.le_of_ble_eq_true rfl) dX10_look_26 (fun r_26 s_26 h => ?_)
      refine g_if_eq (pc := 29) F 36 dX10_look_29 (by decide) (fun c => ?_) (fun c => ?_)
      · have h := h.1 c
        refine g_iconst (pc := 36) F dX10_look_36 ic_0 ?_
        exact g_weak [0, 2] rfl (bX10_look_37 F hR hx0 ih hK45 h)
      · have h := h.2 c
        refine g_iconst (pc := 32) F dX10_look_32 ic_1 ?_
        refine g_goto (pc := 33) F 37 dX10_look_33 (by decide) ?_
        exact g_weak [0, 2] rfl (bX10_look_37 F hR hx0 ih hK45 h)
def wX10_look_110 (rec : Int32 → Int32 → St → Prop) (K119 : Int32 → St → Prop) (Q : Int32 → St → Prop) (x0 : Nat) (x1 : Int32) (x2 : Int32) (x3 : Int32) (x4 : Int32) (x6 : Int32) (t0 : Int32) (t1 : Int32) (s : St) : Prop :=
  rec (t1 + t0) (x6 + (1 : Int32)) s
set_option maxHeartbeats 4000000 in
set_option maxRecDepth 100000 in
theorem bX10_look_110 {l : Launch} {V : Wv} {X : Mx} {rec : Int32 → Int32 → St → Prop} {K119 : Int32 → St → Prop} {Q : Int32 → St → Prop} {x0 : Nat} {x1 : Int32} {x2 : Int32} {x3 : Int32} {x4 : Int32} {x6 : Int32} {t0 : Int32} {t1 : Int32} (F : Fx V X cX10_look RX10 7 2) (hR : RtI l V X 7 cX10_look Q) (hx0 : isX10 V x0) (hrec : ∀ (y5 : Int32) (y6 : Int32) (s : St), rec y5 y6 s → G l V X 7 76 [(0, rf V x0), (1, .int x1), (2, .int x2), (3, .int x3), (4, .int x4), (5, .int y5), (6, .int y6)] [] s) (hK119 : ∀ (y5 : Int32) (s : St), K119 y5 s → G l V X 7 119 [(0, rf V x0), (1, .int x1), (2, .int x2), (3, .int x3), (4, .int x4), (5, .int y5)] [] s) {s : St} (h : wX10_look_110 rec K119 Q x0 x1 x2 x3 x4 x6 t0 t1 s) : G l V X 7 110 [(0, rf V x0), (1, .int x1), (2, .int x2), (3, .int x3), (4, .int x4), (6, .int x6)] [.int t0, .int t1] s := by
  unfold wX10_look_110 at h
  refine g_iadd (pc := 110) F dX10_look_110 ?_
  refine g_istore (pc := 111) (lv' := [(_, _), (_, _), (_, _), (_, _), (_, _), (_, _), (_, _)]) F dX10_look_111 (by decide) rfl ?_
  refine g_iinc (pc := 113) (lv' := [(_, _), (_, _), (_, _), (_, _), (_, _), (_, _), (_, _)]) F dX10_look_113 6 rfl (congrArg _ ic_1) (by decide) rfl ?_
  refine g_goto (pc := 116) F 76 dX10_look_116 (by decide) ?_
  exact g_weak [2, 3, 4, 5, 6, 1, 0] rfl (hrec _ _ _ h)
def wX10_look_109 (rec : Int32 → Int32 → St → Prop) (K119 : Int32 → St → Prop) (Q : Int32 → St → Prop) (x0 : Nat) (x1 : Int32) (x2 : Int32) (x3 : Int32) (x4 : Int32) (x6 : Int32) (t0 : Int32) (s : St) : Prop :=
  wX10_look_110 (rec) (K119) Q x0 x1 x2 x3 x4 x6 (0 : Int32) t0 s
set_option maxHeartbeats 4000000 in
set_option maxRecDepth 100000 in
theorem bX10_look_109 {l : Launch} {V : Wv} {X : Mx} {rec : Int32 → Int32 → St → Prop} {K119 : Int32 → St → Prop} {Q : Int32 → St → Prop} {x0 : Nat} {x1 : Int32} {x2 : Int32} {x3 : Int32} {x4 : Int32} {x6 : Int32} {t0 : Int32} (F : Fx V X cX10_look RX10 7 2) (hR : RtI l V X 7 cX10_look Q) (hx0 : isX10 V x0) (hrec : ∀ (y5 : Int32) (y6 : Int32) (s : St), rec y5 y6 s → G l V X 7 76 [(0, rf V x0), (1, .int x1), (2, .int x2), (3, .int x3), (4, .int x4), (5, .int y5), (6, .int y6)] [] s) (hK119 : ∀ (y5 : Int32) (s : St), K119 y5 s → G l V X 7 119 [(0, rf V x0), (1, .int x1), (2, .int x2), (3, .int x3), (4, .int x4), (5, .int y5)] [] s) {s : St} (h : wX10_look_109 rec K119 Q x0 x1 x2 x3 x4 x6 t0 s) : G l V X 7 109 [(0, rf V x0), (1, .int x1), (2, .int x2), (3, .int x3), (4, .int x4), (6, .int x6)] [.int t0] s := by
  unfold wX10_look_109 at h
  refine g_iconst (pc := 109) F dX10_look_109 ic_0 ?_
  exact g_weak [0, 1, 2, 3, 4, 5] rfl (bX10_look_110 F hR hx0 hrec hK119 h)
def wX10_look_76 (x0 : Nat) (x1 : Int32) (x2 : Int32) (x3 : Int32) (x4 : Int32) (K119 : Int32 → St → Prop) (Q : Int32 → St → Prop) : Nat → Int32 → Int32 → St → Prop
  | 0, _, _, _ => False
  | n + 1, x5, x6, s =>
  (((64 : Int32) ≤ x6 → K119 x5 s) ∧ (¬ (64 : Int32) ≤ x6 → wX10_mayBe x0 x6 s (fun r_88 s_88 => ((r_88 = 0 → wX10_look_109 (wX10_look_76 x0 x1 x2 x3 x4 K119 Q n) (K119) Q x0 x1 x2 x3 x4 x6 x5 s_88) ∧ (¬ r_88 = 0 → ((¬ ((x6 >>> (x4 &&& 31)) &&& (1 : Int32)) = (1 : Int32) → wX10_look_109 (wX10_look_76 x0 x1 x2 x3 x4 K119 Q n) (K119) Q x0 x1 x2 x3 x4 x6 x5 s_88) ∧ (((x6 >>> (x4 &&& 31)) &&& (1 : Int32)) = (1 : Int32) → wX10_look_110 (wX10_look_76 x0 x1 x2 x3 x4 K119 Q n) (K119) Q x0 x1 x2 x3 x4 x6 (1 : Int32) x5 s_88)))))))
set_option maxHeartbeats 4000000 in
set_option maxRecDepth 100000 in
theorem bX10_look_76 {l : Launch} {V : Wv} {X : Mx} {x0 : Nat} {x1 : Int32} {x2 : Int32} {x3 : Int32} {x4 : Int32} {K119 : Int32 → St → Prop} {Q : Int32 → St → Prop} (F : Fx V X cX10_look RX10 7 2) (hR : RtI l V X 7 cX10_look Q) (hx0 : isX10 V x0) (hK119 : ∀ (y5 : Int32) (s : St), K119 y5 s → G l V X 7 119 [(0, rf V x0), (1, .int x1), (2, .int x2), (3, .int x3), (4, .int x4), (5, .int y5)] [] s) : ∀ (n : Nat) (x5 : Int32) (x6 : Int32) (s : St), wX10_look_76 x0 x1 x2 x3 x4 K119 Q n x5 x6 s → G l V X 7 76 [(0, rf V x0), (1, .int x1), (2, .int x2), (3, .int x3), (4, .int x4), (5, .int x5), (6, .int x6)] [] s := by
  intro n
  induction n with
  | zero => intro x5 x6 s h; unfold wX10_look_76 at h; exact h.elim
  | succ n ih =>
    intro x5 x6 s h
    unfold wX10_look_76 at h
    refine g_iload (pc := 76) F dX10_look_76 6 rfl ?_
    refine g_bipush (pc := 78) F dX10_look_78 bp_64 ?_
    refine g_icmp_ge (pc := 80) F 119 dX10_look_80 (by decide) (fun c => ?_) (fun c => ?_)
    · have h := h.1 c
      exact g_weak [0, 1, 2, 3, 4, 5] rfl (hK119 _ _ h)
    · have h := h.2 c
      refine g_iload (pc := 83) F dX10_look_83 5 rfl ?_
      refine g_aload_n (pc := 85) F dX10_look_85 rfl 0 rfl ?_
      refine g_iload (pc := 86) F dX10_look_86 6 rfl ?_
      refine g_callVi (pc := 88) F (mX10_mayBe hx0 h) mvX10_mayBe uX10_239 (by decide) clX10 hx0.1 rfl rfl (Nat.le_of_ble_eq_true rfl) dX10_look_88 (fun r_88 s_88 h => ?_)
      refine g_if_eq (pc := 91) F 109 dX10_look_91 (by decide) (fun c => ?_) (fun c => ?_)
      · have h := h.1 c
        exact g_weak [0, 1, 2, 3, 4, 6] rfl (bX10_look_109 F hR hx0 ih hK119 h)
      · have h := h.2 c
        refine g_iload (pc := 94) F dX10_look_94 6 rfl ?_
        refine g_iload (pc := 96) F dX10_look_96 4 rfl ?_
        refine g_ishr (pc := 98) F dX10_look_98 ?_
        refine g_iconst (pc := 99) F dX10_look_99 ic_1 ?_
        refine g_iand (pc := 100) F dX10_look_100 ?_
        refine g_iconst (pc := 101) F dX10_look_101 ic_1 ?_
        refine g_icmp_ne (pc := 102) F 109 dX10_look_102 (by decide) (fun c => ?_) (fun c => ?_)
        · have h := h.1 c
          exact g_weak [0, 1, 2, 3, 4, 6] rfl (bX10_look_109 F hR hx0 ih hK119 h)
        · have h := h.2 c
          refine g_iconst (pc := 105) F dX10_look_105 ic_1 ?_
          refine g_goto (pc := 106) F 110 dX10_look_106 (by decide) ?_
          exact g_weak [0, 1, 2, 3, 4, 6] rfl (bX10_look_110 F hR hx0 ih hK119 h)
def wX10_look_164 (rec : Int32 → Int32 → Int32 → St → Prop) (Q : Int32 → St → Prop) (x0 : Nat) (x1 : Int32) (x2 : Int32) (x4 : Int32) (t0 : Int32) (s : St) : Prop :=
  rec x2 t0 (x4 + (1 : Int32)) s
set_option maxHeartbeats 4000000 in
set_option maxRecDepth 100000 in
theorem bX10_look_164 {l : Launch} {V : Wv} {X : Mx} {rec : Int32 → Int32 → Int32 → St → Prop} {Q : Int32 → St → Prop} {x0 : Nat} {x1 : Int32} {x2 : Int32} {x4 : Int32} {t0 : Int32} (F : Fx V X cX10_look RX10 7 2) (hR : RtI l V X 7 cX10_look Q) (hx0 : isX10 V x0) (hrec : ∀ (y2 : Int32) (y3 : Int32) (y4 : Int32) (s : St), rec y2 y3 y4 s → G l V X 7 54 [(0, rf V x0), (1, .int x1), (2, .int y2), (3, .int y3), (4, .int y4)] [] s) {s : St} (h : wX10_look_164 rec Q x0 x1 x2 x4 t0 s) : G l V X 7 164 [(0, rf V x0), (1, .int x1), (2, .int x2), (4, .int x4)] [.int t0] s := by
  unfold wX10_look_164 at h
  refine g_istore_n (pc := 164) (lv' := [(_, _), (_, _), (_, _), (_, _), (_, _)]) F dX10_look_164 rfl (by decide) rfl ?_
  refine g_iinc (pc := 165) (lv' := [(_, _), (_, _), (_, _), (_, _), (_, _)]) F dX10_look_165 4 rfl (congrArg _ ic_1) (by decide) rfl ?_
  refine g_goto (pc := 168) F 54 dX10_look_168 (by decide) ?_
  exact g_weak [2, 3, 4, 1, 0] rfl (hrec _ _ _ _ h)
def wX10_look_151 (rec : Int32 → Int32 → Int32 → St → Prop) (Q : Int32 → St → Prop) (x0 : Nat) (x1 : Int32) (x3 : Int32) (x4 : Int32) (x6 : Int32) (t0 : Int32) (s : St) : Prop :=
  ((x3 ≤ x6 → wX10_look_164 (rec) Q x0 x1 t0 x4 x3 s) ∧ (¬ x3 ≤ x6 → wX10_look_164 (rec) Q x0 x1 t0 x4 x6 s))
set_option maxHeartbeats 4000000 in
set_option maxRecDepth 100000 in
theorem bX10_look_151 {l : Launch} {V : Wv} {X : Mx} {rec : Int32 → Int32 → Int32 → St → Prop} {Q : Int32 → St → Prop} {x0 : Nat} {x1 : Int32} {x3 : Int32} {x4 : Int32} {x6 : Int32} {t0 : Int32} (F : Fx V X cX10_look RX10 7 2) (hR : RtI l V X 7 cX10_look Q) (hx0 : isX10 V x0) (hrec : ∀ (y2 : Int32) (y3 : Int32) (y4 : Int32) (s : St), rec y2 y3 y4 s → G l V X 7 54 [(0, rf V x0), (1, .int x1), (2, .int y2), (3, .int y3), (4, .int y4)] [] s) {s : St} (h : wX10_look_151 rec Q x0 x1 x3 x4 x6 t0 s) : G l V X 7 151 [(0, rf V x0), (1, .int x1), (3, .int x3), (4, .int x4), (6, .int x6)] [.int t0] s := by
  unfold wX10_look_151 at h
  refine g_istore_n (pc := 151) (lv' := [(_, _), (_, _), (_, _), (_, _), (_, _), (_, _)]) F dX10_look_151 rfl (by decide) rfl ?_
  refine g_iload (pc := 152) F dX10_look_152 5 rfl ?_
  refine g_iload_n (pc := 154) F dX10_look_154 rfl 3 rfl ?_
  refine g_icmp_ge (pc := 155) F 163 dX10_look_155 (by decide) (fun c => ?_) (fun c => ?_)
  · have h := h.1 c
    refine g_iload_n (pc := 163) F dX10_look_163 rfl 3 rfl ?_
    exact g_weak [1, 2, 0, 4] rfl (bX10_look_164 F hR hx0 hrec h)
  · have h := h.2 c
    refine g_iload (pc := 158) F dX10_look_158 5 rfl ?_
    refine g_goto (pc := 160) F 164 dX10_look_160 (by decide) ?_
    exact g_weak [1, 2, 0, 4] rfl (bX10_look_164 F hR hx0 hrec h)
def wX10_look_137 (rec : Int32 → Int32 → Int32 → St → Prop) (Q : Int32 → St → Prop) (x0 : Nat) (x1 : Int32) (x2 : Int32) (x3 : Int32) (x4 : Int32) (t0 : Int32) (s : St) : Prop :=
  ((x3 ≤ t0 → wX10_look_151 (rec) Q x0 x1 x3 x4 t0 x2 s) ∧ (¬ x3 ≤ t0 → wX10_look_151 (rec) Q x0 x1 x3 x4 t0 x4 s))
set_option maxHeartbeats 4000000 in
set_option maxRecDepth 100000 in
theorem bX10_look_137 {l : Launch} {V : Wv} {X : Mx} {rec : Int32 → Int32 → Int32 → St → Prop} {Q : Int32 → St → Prop} {x0 : Nat} {x1 : Int32} {x2 : Int32} {x3 : Int32} {x4 : Int32} {t0 : Int32} (F : Fx V X cX10_look RX10 7 2) (hR : RtI l V X 7 cX10_look Q) (hx0 : isX10 V x0) (hrec : ∀ (y2 : Int32) (y3 : Int32) (y4 : Int32) (s : St), rec y2 y3 y4 s → G l V X 7 54 [(0, rf V x0), (1, .int x1), (2, .int y2), (3, .int y3), (4, .int y4)] [] s) {s : St} (h : wX10_look_137 rec Q x0 x1 x2 x3 x4 t0 s) : G l V X 7 137 [(0, rf V x0), (1, .int x1), (2, .int x2), (3, .int x3), (4, .int x4)] [.int t0] s := by
  unfold wX10_look_137 at h
  refine g_istore (pc := 137) (lv' := [(_, _), (_, _), (_, _), (_, _), (_, _), (_, _)]) F dX10_look_137 (by decide) rfl ?_
  refine g_iload (pc := 139) F dX10_look_139 0 rfl ?_
  refine g_iload_n (pc := 141) F dX10_look_141 rfl 4 rfl ?_
  refine g_icmp_ge (pc := 142) F 150 dX10_look_142 (by decide) (fun c => ?_) (fun c => ?_)
  · have h := h.1 c
    refine g_iload_n (pc := 150) F dX10_look_150 rfl 3 rfl ?_
    exact g_weak [1, 2, 4, 5, 0] rfl (bX10_look_151 F hR hx0 hrec h)
  · have h := h.2 c
    refine g_iload (pc := 145) F dX10_look_145 5 rfl ?_
    refine g_goto (pc := 147) F 151 dX10_look_147 (by decide) ?_
    exact g_weak [1, 2, 4, 5, 0] rfl (bX10_look_151 F hR hx0 hrec h)
def wX10_look_54 (x0 : Nat) (x1 : Int32) (Q : Int32 → St → Prop) : Nat → Int32 → Int32 → Int32 → St → Prop
  | 0, _, _, _, _ => False
  | n + 1, x2, x3, x4, s =>
  vp_in (1 : Int32) 4 ∧ (((s.1 (x0 + 2) (1 : Int32).toNatClampNeg) ≤ x4 → Q x2 s) ∧ (¬ (s.1 (x0 + 2) (1 : Int32).toNatClampNeg) ≤ x4 → ((x1 ≤ (1 : Int32) → Q x2 s) ∧ (¬ x1 ≤ (1 : Int32) → (∃ k_76, wX10_look_76  x0 x1 x2 x3 x4 (fun x5_119 s_k119 => ((x5_119 ≤ (x1 - x5_119) → wX10_look_137 (wX10_look_54 x0 x1 Q n) Q x0 x1 x2 x3 x4 (x1 - x5_119) s_k119) ∧ (¬ x5_119 ≤ (x1 - x5_119) → wX10_look_137 (wX10_look_54 x0 x1 Q n) Q x0 x1 x2 x3 x4 x5_119 s_k119))) Q k_76 (0 : Int32) (1 : Int32) s)))))
set_option maxHeartbeats 4000000 in
set_option maxRecDepth 100000 in
theorem bX10_look_54 {l : Launch} {V : Wv} {X : Mx} {x0 : Nat} {x1 : Int32} {Q : Int32 → St → Prop} (F : Fx V X cX10_look RX10 7 2) (hR : RtI l V X 7 cX10_look Q) (hx0 : isX10 V x0)  : ∀ (n : Nat) (x2 : Int32) (x3 : Int32) (x4 : Int32) (s : St), wX10_look_54 x0 x1 Q n x2 x3 x4 s → G l V X 7 54 [(0, rf V x0), (1, .int x1), (2, .int x2), (3, .int x3), (4, .int x4)] [] s := by
  intro n
  induction n with
  | zero => intro x2 x3 x4 s h; unfold wX10_look_54 at h; exact h.elim
  | succ n ih =>
    intro x2 x3 x4 s h
    unfold wX10_look_54 at h
    refine g_iload (pc := 54) F dX10_look_54 4 rfl ?_
    refine g_aload_n (pc := 56) F dX10_look_56 rfl 0 rfl ?_
    refine g_getR (pc := 57) F clX10 hx0.1 9 _ rfl (by decide) uX10_13 dX10_look_57 ?_
    refine g_iconst (pc := 60) F dX10_look_60 ic_1 ?_
    obtain ⟨hb_61, h⟩ := h
    refine g_iald (pc := 61) F hx0.2.2.1 hb_61 dX10_look_61 ?_
    refine g_icmp_ge (pc := 62) F 171 dX10_look_62 (by decide) (fun c => ?_) (fun c => ?_)
    · have h := h.1 c
      refine g_iload_n (pc := 171) F dX10_look_171 rfl 2 rfl ?_
      exact hR _ _ _ _ dX10_look_172 h
    · have h := h.2 c
      refine g_iload_n (pc := 65) F dX10_look_65 rfl 1 rfl ?_
      refine g_iconst (pc := 66) F dX10_look_66 ic_1 ?_
      refine g_icmp_le (pc := 67) F 171 dX10_look_67 (by decide) (fun c => ?_) (fun c => ?_)
      · have h := h.1 c
        refine g_iload_n (pc := 171) F dX10_look_171 rfl 2 rfl ?_
        exact hR _ _ _ _ dX10_look_172 h
      · have h := h.2 c
        refine g_iconst (pc := 70) F dX10_look_70 ic_0 ?_
        refine g_istore (pc := 71) (lv' := [(_, _), (_, _), (_, _), (_, _), (_, _), (_, _)]) F dX10_look_71 (by decide) rfl ?_
        refine g_iconst (pc := 73) F dX10_look_73 ic_1 ?_
        refine g_istore (pc := 74) (lv' := [(_, _), (_, _), (_, _), (_, _), (_, _), (_, _), (_, _)]) F dX10_look_74 (by decide) rfl ?_
        obtain ⟨k_76, h⟩ := h
        refine g_weak [2, 3, 4, 5, 6, 1, 0] rfl (bX10_look_76 F hR hx0 (fun x5_119 s_k119 h => ?_) k_76 _ _ _ h)
        · refine g_iload (pc := 119) F dX10_look_119 5 rfl ?_
          refine g_iload_n (pc := 121) F dX10_look_121 rfl 1 rfl ?_
          refine g_iload (pc := 122) F dX10_look_122 5 rfl ?_
          refine g_isub (pc := 124) F dX10_look_124 ?_
          refine g_icmp_le (pc := 125) F 133 dX10_look_125 (by decide) (fun c => ?_) (fun c => ?_)
          · have h := h.1 c
            refine g_iload_n (pc := 133) F dX10_look_133 rfl 1 rfl ?_
            refine g_iload (pc := 134) F dX10_look_134 5 rfl ?_
            refine g_isub (pc := 136) F dX10_look_136 ?_
            exact g_weak [0, 1, 2, 3, 4] rfl (bX10_look_137 F hR hx0 ih h)
          · have h := h.2 c
            refine g_iload (pc := 128) F dX10_look_128 5 rfl ?_
            refine g_goto (pc := 130) F 137 dX10_look_130 (by decide) ?_
            exact g_weak [0, 1, 2, 3, 4] rfl (bX10_look_137 F hR hx0 ih h)
def wX10_look (x0 : Nat) (s : St) (Q : Int32 → St → Prop) : Prop :=
  ∀ s_2 : St, s_2 = stI s x0 0 (0 : Int32) → wX10_measures x0 (x0 + 7) 38 s_2 (fun s_10 => (∃ k_17, wX10_look_17  x0 (fun x1_45 s_k45 => (∃ k_54, wX10_look_54  x0 x1_45  Q k_54 (-9 : Int32) (1000000 : Int32) (0 : Int32) s_k45)) Q k_17 (0 : Int32) (1 : Int32) s_10))
set_option maxHeartbeats 4000000 in
set_option maxRecDepth 100000 in
theorem mX10_look {l : Launch} {V : Wv} {x0 : Nat} {s : St} {Q : Int32 → St → Prop} (hx0 : isX10 V x0) (h : wX10_look x0 s Q) : Ci yX10_look cX10_look 7 (some .int) (2) l V [rf V x0] s Q := by
  unfold wX10_look at h
  refine Ci.of mvX10_look.1 (Nat.le_of_ble_eq_true rfl) (fun X F hR => ?_)
  refine g_lv (lv' := [(_, _)]) rfl ?_
  refine g_aload_n (pc := 0) F dX10_look_0 rfl 0 rfl ?_
  refine g_iconst (pc := 1) F dX10_look_1 ic_0 ?_
  have h := h _ rfl
  refine g_putI (pc := 2) F clX10 hx0.1 0 rfl (by decide) rfl (tyX10_ok 0 (by decide)) uX10_89 dX10_look_2 ?_
  refine g_aload_n (pc := 5) F dX10_look_5 rfl 0 rfl ?_
  refine g_aload_n (pc := 6) F dX10_look_6 rfl 0 rfl ?_
  refine g_getR (pc := 7) F clX10 hx0.1 14 _ rfl (by decide) uX10_28 dX10_look_7 ?_
  refine g_callVv (pc := 10) F (mX10_measures hx0 hx0.2.2.2.2.2.2.2.1 h) mvX10_measures uX10_181 (by decide) clX10 hx0.1 rfl rfl (Nat.le_of_ble_eq_true rfl) dX10_look_10 (fun s_10 h => ?_)
  refine g_iconst (pc := 13) F dX10_look_13 ic_0 ?_
  refine g_istore_n (pc := 14) (lv' := [(_, _), (_, _)]) F dX10_look_14 rfl (by decide) rfl ?_
  refine g_iconst (pc := 15) F dX10_look_15 ic_1 ?_
  refine g_istore_n (pc := 16) (lv' := [(_, _), (_, _), (_, _)]) F dX10_look_16 rfl (by decide) rfl ?_
  obtain ⟨k_17, h⟩ := h
  refine g_weak [2, 1, 0] rfl (bX10_look_17 F hR hx0 (fun x1_45 s_k45 h => ?_) k_17 _ _ _ h)
  · refine g_bipush (pc := 45) F dX10_look_45 bp_m9 ?_
    refine g_istore_n (pc := 47) (lv' := [(_, _), (_, _), (_, _)]) F dX10_look_47 rfl (by decide) rfl ?_
    refine g_ldc (pc := 48) F dX10_look_48 uX10_167 ?_
    refine g_istore_n (pc := 50) (lv' := [(_, _), (_, _), (_, _), (_, _)]) F dX10_look_50 rfl (by decide) rfl ?_
    refine g_iconst (pc := 51) F dX10_look_51 ic_0 ?_
    refine g_istore (pc := 52) (lv' := [(_, _), (_, _), (_, _), (_, _), (_, _)]) F dX10_look_52 (by decide) rfl ?_
    obtain ⟨k_54, h⟩ := h
    refine g_weak [3, 4, 2, 1, 0] rfl (bX10_look_54 F hR hx0 k_54 _ _ _ _ h)
