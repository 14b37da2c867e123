/-! every piece as a world of its own -/
def DX0 : List Sh := [(0, [0, 0, 5]), (11, [6])]
theorem pwX0 {Y : NV} {h0 : Nat} {w : va_W} (h : poX0 Y h0 w) : ∃ a : Nat → Nat, a 0 = h0 ∧ w = wld (Y.1, DX0, a, Y.2) (stI st0 0 1 (-9)) := by
  obtain ⟨q1, rfl⟩ := h
  refine ⟨fun i => [h0, q1].getD i 0, rfl, ?_⟩
  rw [wld_R]
  rfl
def DX2 : List Sh := [(2, [5, 6, 7, 0, 0]), (11, [6]), (11, [5]), (11, [25])]
theorem pwX2 {Y : NV} {h0 : Nat} {w : va_W} (h : poX2 Y h0 w) : ∃ a : Nat → Nat, a 0 = h0 ∧ w = wld (Y.1, DX2, a, Y.2) st0 := by
  obtain ⟨q1, q2, q3, rfl⟩ := h
  refine ⟨fun i => [h0, q1, q2, q3].getD i 0, rfl, ?_⟩
  rw [wld_R]
  rfl
def DX5 : List Sh := [(5, [0, 0, 0, 0])]
theorem pwX5 {Y : NV} {h0 : Nat} {w : va_W} (h : poX5 Y h0 w) : ∃ a : Nat → Nat, a 0 = h0 ∧ w = wld (Y.1, DX5, a, Y.2) (stI (stI st0 0 1 (-9)) 0 2 (-9)) := by
  unfold poX5 at h
  subst h
  refine ⟨fun i => [h0].getD i 0, rfl, ?_⟩
  rw [wld_R]
  rfl
def DX6 : List Sh := [(6, [0, 0, 0, 0, 0, 0, 5]), (11, [6])]
theorem pwX6 {Y : NV} {h0 : Nat} {w : va_W} (h : poX6 Y h0 w) : ∃ a : Nat → Nat, a 0 = h0 ∧ w = wld (Y.1, DX6, a, Y.2) st0 := by
  obtain ⟨q1, rfl⟩ := h
  refine ⟨fun i => [h0, q1].getD i 0, rfl, ?_⟩
  rw [wld_R]
  rfl
def DX7 : List Sh := [(7, [0, 5, 0, 0, 0, 0]), (11, [120])]
theorem pwX7 {Y : NV} {h0 : Nat} {w : va_W} (h : poX7 Y h0 w) : ∃ a : Nat → Nat, a 0 = h0 ∧ w = wld (Y.1, DX7, a, Y.2) st0 := by
  obtain ⟨q1, rfl⟩ := h
  refine ⟨fun i => [h0, q1].getD i 0, rfl, ?_⟩
  rw [wld_R]
  rfl
def DX8 : List Sh := [(8, [0, 5, 6, 7, 8, 9, 10, 11]), (11, [165]), (11, [33]), (11, [33]), (11, [33]), (11, [33]), (11, [25]), (11, [5])]
theorem pwX8 {Y : NV} {h0 : Nat} {w : va_W} (h : poX8 Y h0 w) : ∃ a : Nat → Nat, a 0 = h0 ∧ w = wld (Y.1, DX8, a, Y.2) st0 := by
  obtain ⟨q1, q2, q3, q4, q5, q6, q7, rfl⟩ := h
  refine ⟨fun i => [h0, q1, q2, q3, q4, q5, q6, q7].getD i 0, rfl, ?_⟩
  rw [wld_R]
  rfl
def DX4 : List Sh := [(4, [0, 0, 0, 5, 6, 7, 15, 16, 17]), (11, [20]), (11, [20]), (14, [7, 4, 1]), (11, [20]), (11, [20]), (11, [20]), (11, [20]), (11, [20]), (11, [20]), (11, [20]), (11, [6]), (11, [6]), (11, [6])]
def poX4 (Y : NV) (h0 : Nat) (w : va_W) : Prop := ∃ a : Nat → Nat, a 0 = h0 ∧ w = wld (Y.1, DX4, a, Y.2) (stI st0 0 2 1000)
def imgE (Y : NV) (f : Nat → Option Nat) : va_E := .inl (Y.2.2.2.1, 2, .inr (.inr (.inr (.inr f))))
section P9
variable {l : Launch} {Y : NV} {X : Mx} {h0 c n mc ms : Nat} {A B : va_W}
theorem stepX9 (F : FxN Y X cX9_init RX9 2 3 mc ms) {fs : List Value} {qi : Nat} {f : Nat → Option Nat} {v v2 : Int32} {i : Nat} (hf : fs[7]? = some (.ref qi)) (h1 : ¬ (2 : Int32) ≤ v) (h2 : v + Int32.ofInt 1 = v2) (h3 : v.toNatClampNeg = i) (h4 : vp_in v 2) (hc : c + 4 ≤ mc) (hn : n + 41 ≤ ms)
    (kk : ∀ (a : Nat → Nat) (w : va_W), w = wld (Y.1, DX2, a, Y.2) st0 → N l Y X 2 145 [(1, .int v2), (0, .ref h0)] [] ((h0, .inr (9, fs)) :: (A ++ (qi, imgE Y (va_up f i (some (a 0)))) :: (B ++ w))) (c + 4) (n + 41)) :
    N l Y X 2 145 [(1, .int v), (0, .ref h0)] [] ((h0, .inr (9, fs)) :: (A ++ (qi, imgE Y f) :: B)) c n := by
  refine n_iload_n F dX9_init_145 rfl 0 rfl ?_
  refine n_iconst F (v := 2) dX9_init_146 (by decide) ?_
  refine n_icmp_ge F 169 dX9_init_147 (by decide) (fun h => absurd h h1) (fun _ => ?_)
  refine n_aload_n F dX9_init_150 rfl 1 rfl ?_
  refine n_get F clX9 7 (by decide) uX9_50 hf dX9_init_151 ?_
  refine n_iload_n F dX9_init_154 rfl 0 rfl ?_
  refine n_new F clX2 tyX2_ok dfX2 uX9_26 uinstX2 uiniX2 (by omega) (by omega) dX9_init_155 (fun b => ?_)
  refine n_dup F dX9_init_158 rfl ?_
  refine n_callN F (iniX2 l Y) miX2 uX9_28 (by decide) (by omega) (by omega) (Nat.le_of_ble_eq_true rfl) dX9_init_159 (fun w hw => ?_)
  obtain ⟨a, rfl, hwa⟩ := pwX2 hw
  obtain ⟨x, y, z, rfl⟩ := hw
  refine n_astq F (A.length + 1) (A.length + (B.length + 1) + 1) (k := 2) (f := f) (b := a 0) (vs := [.ref x, .ref y, .ref z, .int 0, .int 0]) ?_ ?_ h4 dX9_init_162 ?_
  · show ((A ++ _ :: B) ++ _)[A.length]? = _
    simp [imgE]
  · show ((A ++ _ :: B) ++ _)[A.length + (B.length + 1)]? = _
    rw [List.getElem?_append_right (by simp)]
    simp
  refine n_ws (ws' := (h0, .inr (9, fs)) :: (A ++ (qi, imgE Y (va_up f i (some (a 0)))) :: (B ++ wld (Y.1, DX2, a, Y.2) st0))) ?_ ?_
  · rw [← hwa, h3]
    show _ :: (((A ++ _ :: B) ++ _).set A.length _) = _
    rw [List.append_assoc, List.set_append_right _ _ (Nat.le_refl _), Nat.sub_self]
    rfl
  refine n_iinc F dX9_init_163 0 rfl h2 (by decide) rfl ?_
  refine n_goto F 145 dX9_init_166 (by decide) ?_
  exact kk a _ rfl
end P9
def poX9 (Y : NV) (h0 : Nat) (w : va_W) : Prop := ∃ (a1 a2 a3 a4 a5 a6 a7 a8 a9 a10 a11 : Nat → Nat) (t2 t3 : St) (qi : Nat) (b0 b1 : Nat → Nat), GroundC 0 (2, []) t2 ∧ GroundC 0 (2, []) t3 ∧ w = (h0, .inr (9, [.ref (a1 0), .ref (a2 0), .ref (a3 0), .ref (a4 0), .ref (a5 0), .ref (a6 0), .ref (a7 0), .ref qi, .int 0, .ref (a8 0), .ref (a9 0), .ref (a10 0), .ref (a11 0), .long 0])) :: ((wld (Y.1, DX7, a1, Y.2) st0 ++ wld (Y.1, DX1, a2, Y.2) t2 ++ wld (Y.1, DX1, a3, Y.2) t3 ++ wld (Y.1, DX2, a4, Y.2) st0 ++ wld (Y.1, DX2, a5, Y.2) st0 ++ wld (Y.1, DX8, a6, Y.2) st0 ++ wld (Y.1, DX3, a7, Y.2) st0) ++ (qi, imgE Y (va_up (va_up (fun _ => none) 0 (some (b0 0))) 1 (some (b1 0)))) :: (((wld (Y.1, DX4, a8, Y.2) (stI st0 0 2 1000) ++ wld (Y.1, DX0, a9, Y.2) (stI st0 0 1 (-9)) ++ wld (Y.1, DX5, a10, Y.2) (stI (stI st0 0 1 (-9)) 0 2 (-9)) ++ wld (Y.1, DX6, a11, Y.2) st0) ++ wld (Y.1, DX2, b0, Y.2) st0) ++ wld (Y.1, DX2, b1, Y.2) st0))
theorem iniX9 (l : Launch) (Y : NV) (h4 : Cn yX4_init cX4_init 1 1 13 205 l Y 4 fsX4 (poX4 Y)) : Cn yX9_init cX9_init 2 3 98 1388 l Y 9 fsX9 (poX9 Y) := by
  refine Cn.of miX9 (by decide) (fun X h0 F hin hR => ?_)
  unfold fsX9
  refine n_aload_n F dX9_init_0 rfl 0 rfl ?_
  refine n_obj F (by decide) (Nat.le_of_ble_eq_true rfl) uX9_3 dX9_init_1 ?_
  refine n_aload_n F dX9_init_4 rfl 0 rfl ?_
  refine n_new F clX7 tyX7_ok dfX7 uX9_9 uinstX7 uiniX7 (Nat.le_of_ble_eq_true rfl) (Nat.le_of_ble_eq_true rfl) dX9_init_5 (fun q1 => ?_)
  refine n_dup F dX9_init_8 rfl ?_
  refine n_callN F (iniX7 l Y) miX7 uX9_11 (by decide) (Nat.le_of_ble_eq_true rfl) (Nat.le_of_ble_eq_true rfl) (Nat.le_of_ble_eq_true rfl) dX9_init_9 (fun w1 hw1 => ?_)
  obtain ⟨a1, rfl, e1⟩ := pwX7 hw1
  refine n_putF F clX9 hin 0 (by decide) uX9_12 rfl rfl (tyX9_ok 0 (by decide)) rfl rfl (Nat.le_of_ble_eq_true rfl) dX9_init_12 ?_
  show N l Y X 2 15 [(0, .ref h0)] [] ((h0, .inr (9, [.ref (a1 0), .null, .null, .null, .null, .null, .null, .null, .int 0, .null, .null, .null, .null, .long 0])) :: (w1)) 2 126
  refine n_aload_n F dX9_init_15 rfl 0 rfl ?_
  refine n_new F clX1 tyX1_ok dfX1 uX9_16 uinstX1 uiniX1 (Nat.le_of_ble_eq_true rfl) (Nat.le_of_ble_eq_true rfl) dX9_init_16 (fun q2 => ?_)
  refine n_dup F dX9_init_19 rfl ?_
  refine n_call F (iniX1 l Y) miX1 uX9_18 (by decide) (Nat.le_of_ble_eq_true rfl) (Nat.le_of_ble_eq_true rfl) (Nat.le_of_ble_eq_true rfl) dX9_init_20 (fun w2 hw2 => ?_)
  obtain ⟨a2, t2, rfl, e2, hg2⟩ := hw2
  refine n_put F clX9 1 (by decide) uX9_19 rfl (tyX9_ok 1 (by decide)) rfl rfl (Nat.le_of_ble_eq_true rfl) dX9_init_23 ?_
  show N l Y X 2 26 [(0, .ref h0)] [] ((h0, .inr (9, [.ref (a1 0), .ref (a2 0), .null, .null, .null, .null, .null, .null, .int 0, .null, .null, .null, .null, .long 0])) :: (w1 ++ w2)) 7 175
  refine n_aload_n F dX9_init_26 rfl 0 rfl ?_
  refine n_new F clX1 tyX1_ok dfX1 uX9_16 uinstX1 uiniX1 (Nat.le_of_ble_eq_true rfl) (Nat.le_of_ble_eq_true rfl) dX9_init_27 (fun q3 => ?_)
  refine n_dup F dX9_init_30 rfl ?_
  refine n_call F (iniX1 l Y) miX1 uX9_18 (by decide) (Nat.le_of_ble_eq_true rfl) (Nat.le_of_ble_eq_true rfl) (Nat.le_of_ble_eq_true rfl) dX9_init_31 (fun w3 hw3 => ?_)
  obtain ⟨a3, t3, rfl, e3, hg3⟩ := hw3
  refine n_put F clX9 2 (by decide) uX9_23 rfl (tyX9_ok 2 (by decide)) rfl rfl (Nat.le_of_ble_eq_true rfl) dX9_init_34 ?_
  show N l Y X 2 37 [(0, .ref h0)] [] ((h0, .inr (9, [.ref (a1 0), .ref (a2 0), .ref (a3 0), .null, .null, .null, .null, .null, .int 0, .null, .null, .null, .null, .long 0])) :: (w1 ++ w2 ++ w3)) 12 224
  refine n_aload_n F dX9_init_37 rfl 0 rfl ?_
  refine n_new F clX2 tyX2_ok dfX2 uX9_26 uinstX2 uiniX2 (Nat.le_of_ble_eq_true rfl) (Nat.le_of_ble_eq_true rfl) dX9_init_38 (fun q4 => ?_)
  refine n_dup F dX9_init_41 rfl ?_
  refine n_callN F (iniX2 l Y) miX2 uX9_28 (by decide) (Nat.le_of_ble_eq_true rfl) (Nat.le_of_ble_eq_true rfl) (Nat.le_of_ble_eq_true rfl) dX9_init_42 (fun w4 hw4 => ?_)
  obtain ⟨a4, rfl, e4⟩ := pwX2 hw4
  refine n_putF F clX9 hin 3 (by decide) uX9_29 rfl rfl (tyX9_ok 3 (by decide)) rfl rfl (Nat.le_of_ble_eq_true rfl) dX9_init_45 ?_
  show N l Y X 2 48 [(0, .ref h0)] [] ((h0, .inr (9, [.ref (a1 0), .ref (a2 0), .ref (a3 0), .ref (a4 0), .null, .null, .null, .null, .int 0, .null, .null, .null, .null, .long 0])) :: (w1 ++ w2 ++ w3 ++ w4)) 16 265
  refine n_aload_n F dX9_init_48 rfl 0 rfl ?_
  refine n_new F clX2 tyX2_ok dfX2 uX9_26 uinstX2 uiniX2 (Nat.le_of_ble_eq_true rfl) (Nat.le_of_ble_eq_true rfl) dX9_init_49 (fun q5 => ?_)
  refine n_dup F dX9_init_52 rfl ?_
  refine n_callN F (iniX2 l Y) miX2 uX9_28 (by decide) (Nat.le_of_ble_eq_true rfl) (Nat.le_of_ble_eq_true rfl) (Nat.le_of_ble_eq_true rfl) dX9_init_53 (fun w5 hw5 => ?_)
  obtain ⟨a5, rfl, e5⟩ := pwX2 hw5
  refine n_putF F clX9 hin 4 (by decide) uX9_33 rfl rfl (tyX9_ok 4 (by decide)) rfl rfl (Nat.le_of_ble_eq_true rfl) dX9_init_56 ?_
  show N l Y X 2 59 [(0, .ref h0)] [] ((h0, .inr (9, [.ref (a1 0), .ref (a2 0), .ref (a3 0), .ref (a4 0), .ref (a5 0), .null, .null, .null, .int 0, .null, .null, .null, .null, .long 0])) :: (w1 ++ w2 ++ w3 ++ w4 ++ w5)) 20 306
  refine n_aload_n F dX9_init_59 rfl 0 rfl ?_
  refine n_new F clX8 tyX8_ok dfX8 uX9_36 uinstX8 uiniX8 (Nat.le_of_ble_eq_true rfl) (Nat.le_of_ble_eq_true rfl) dX9_init_60 (fun q6 => ?_)
  refine n_dup F dX9_init_63 rfl ?_
  refine n_callN F (iniX8 l Y) miX8 uX9_38 (by decide) (Nat.le_of_ble_eq_true rfl) (Nat.le_of_ble_eq_true rfl) (Nat.le_of_ble_eq_true rfl) dX9_init_64 (fun w6 hw6 => ?_)
  obtain ⟨a6, rfl, e6⟩ := pwX8 hw6
  refine n_putF F clX9 hin 5 (by decide) uX9_39 rfl rfl (tyX9_ok 5 (by decide)) rfl rfl (Nat.le_of_ble_eq_true rfl) dX9_init_67 ?_
  show N l Y X 2 70 [(0, .ref h0)] [] ((h0, .inr (9, [.ref (a1 0), .ref (a2 0), .ref (a3 0), .ref (a4 0), .ref (a5 0), .ref (a6 0), .null, .null, .int 0, .null, .null, .null, .null, .long 0])) :: (w1 ++ w2 ++ w3 ++ w4 ++ w5 ++ w6)) 28 641
  refine n_aload_n F dX9_init_70 rfl 0 rfl ?_
  refine n_new F clX3 tyX3_ok dfX3 uX9_43 uinstX3 uiniX3 (Nat.le_of_ble_eq_true rfl) (Nat.le_of_ble_eq_true rfl) dX9_init_71 (fun q7 => ?_)
  refine n_dup F dX9_init_74 rfl ?_
  refine n_call F (iniX3 l Y) miX3 uX9_45 (by decide) (Nat.le_of_ble_eq_true rfl) (Nat.le_of_ble_eq_true rfl) (Nat.le_of_ble_eq_true rfl) dX9_init_75 (fun w7 hw7 => ?_)
  obtain ⟨a7, rfl, e7⟩ := hw7
  refine n_putF F clX9 hin 6 (by decide) uX9_46 rfl rfl (tyX9_ok 6 (by decide)) rfl rfl (Nat.le_of_ble_eq_true rfl) dX9_init_78 ?_
  show N l Y X 2 81 [(0, .ref h0)] [] ((h0, .inr (9, [.ref (a1 0), .ref (a2 0), .ref (a3 0), .ref (a4 0), .ref (a5 0), .ref (a6 0), .ref (a7 0), .null, .int 0, .null, .null, .null, .null, .long 0])) :: (w1 ++ w2 ++ w3 ++ w4 ++ w5 ++ w6 ++ w7)) 70 1064
  refine n_aload_n F dX9_init_81 rfl 0 rfl ?_
  refine n_iconst F (v := 2) dX9_init_82 (by decide) ?_
  refine n_newQ F (k := 2) uX9_26 (by decide) (by decide) (by decide) (Nat.le_of_ble_eq_true rfl) (Nat.le_of_ble_eq_true rfl) dX9_init_83 (fun qi => ?_)
  refine n_putF F clX9 hin 7 (by decide) uX9_50 rfl rfl (tyX9_ok 7 (by decide)) rfl rfl (Nat.le_of_ble_eq_true rfl) dX9_init_86 ?_
  show N l Y X 2 89 [(0, .ref h0)] [] ((h0, .inr (9, [.ref (a1 0), .ref (a2 0), .ref (a3 0), .ref (a4 0), .ref (a5 0), .ref (a6 0), .ref (a7 0), .ref qi, .int 0, .null, .null, .null, .null, .long 0])) :: (w1 ++ w2 ++ w3 ++ w4 ++ w5 ++ w6 ++ w7 ++ [(qi, imgE Y (fun _ => none))])) 71 1066
  refine n_aload_n F dX9_init_89 rfl 0 rfl ?_
  refine n_iconst F (v := 0) dX9_init_90 (by decide) ?_
  refine n_put F clX9 8 (by decide) uX9_54 rfl (tyX9_ok 8 (by decide)) rfl rfl (Nat.le_of_ble_eq_true rfl) dX9_init_91 ?_
  show N l Y X 2 94 [(0, .ref h0)] [] ((h0, .inr (9, [.ref (a1 0), .ref (a2 0), .ref (a3 0), .ref (a4 0), .ref (a5 0), .ref (a6 0), .ref (a7 0), .ref qi, .int 0, .null, .null, .null, .null, .long 0])) :: (w1 ++ w2 ++ w3 ++ w4 ++ w5 ++ w6 ++ w7 ++ [(qi, imgE Y (fun _ => none))])) 71 1066
  refine n_aload_n F dX9_init_94 rfl 0 rfl ?_
  refine n_new F clX4 tyX4_ok dfX4 uX9_58 uinstX4 uiniX4 (Nat.le_of_ble_eq_true rfl) (Nat.le_of_ble_eq_true rfl) dX9_init_95 (fun q8 => ?_)
  refine n_dup F dX9_init_98 rfl ?_
  refine n_callN F (h4) miX4 uX9_60 (by decide) (Nat.le_of_ble_eq_true rfl) (Nat.le_of_ble_eq_true rfl) (Nat.le_of_ble_eq_true rfl) dX9_init_99 (fun w8 hw8 => ?_)
  obtain ⟨a8, rfl, e8⟩ := hw8
  refine n_putF F clX9 hin 9 (by decide) uX9_61 rfl rfl (tyX9_ok 9 (by decide)) rfl rfl (Nat.le_of_ble_eq_true rfl) dX9_init_102 ?_
  show N l Y X 2 105 [(0, .ref h0)] [] ((h0, .inr (9, [.ref (a1 0), .ref (a2 0), .ref (a3 0), .ref (a4 0), .ref (a5 0), .ref (a6 0), .ref (a7 0), .ref qi, .int 0, .ref (a8 0), .null, .null, .null, .long 0])) :: (w1 ++ w2 ++ w3 ++ w4 ++ w5 ++ w6 ++ w7 ++ [(qi, imgE Y (fun _ => none))] ++ w8)) 85 1280
  refine n_aload_n F dX9_init_105 rfl 0 rfl ?_
  refine n_new F clX0 tyX0_ok dfX0 uX9_65 uinstX0 uiniX0 (Nat.le_of_ble_eq_true rfl) (Nat.le_of_ble_eq_true rfl) dX9_init_106 (fun q9 => ?_)
  refine n_dup F dX9_init_109 rfl ?_
  refine n_callN F (iniX0 l Y) miX0 uX9_67 (by decide) (Nat.le_of_ble_eq_true rfl) (Nat.le_of_ble_eq_true rfl) (Nat.le_of_ble_eq_true rfl) dX9_init_110 (fun w9 hw9 => ?_)
  obtain ⟨a9, rfl, e9⟩ := pwX0 hw9
  refine n_putF F clX9 hin 10 (by decide) uX9_68 rfl rfl (tyX9_ok 10 (by decide)) rfl rfl (Nat.le_of_ble_eq_true rfl) dX9_init_113 ?_
  show N l Y X 2 116 [(0, .ref h0)] [] ((h0, .inr (9, [.ref (a1 0), .ref (a2 0), .ref (a3 0), .ref (a4 0), .ref (a5 0), .ref (a6 0), .ref (a7 0), .ref qi, .int 0, .ref (a8 0), .ref (a9 0), .null, .null, .long 0])) :: (w1 ++ w2 ++ w3 ++ w4 ++ w5 ++ w6 ++ w7 ++ [(qi, imgE Y (fun _ => none))] ++ w8 ++ w9)) 87 1289
  refine n_aload_n F dX9_init_116 rfl 0 rfl ?_
  refine n_new F clX5 tyX5_ok dfX5 uX9_72 uinstX5 uiniX5 (Nat.le_of_ble_eq_true rfl) (Nat.le_of_ble_eq_true rfl) dX9_init_117 (fun q10 => ?_)
  refine n_dup F dX9_init_120 rfl ?_
  refine n_callN F (iniX5 l Y) miX5 uX9_74 (by decide) (Nat.le_of_ble_eq_true rfl) (Nat.le_of_ble_eq_true rfl) (Nat.le_of_ble_eq_true rfl) dX9_init_121 (fun w10 hw10 => ?_)
  obtain ⟨a10, rfl, e10⟩ := pwX5 hw10
  refine n_putF F clX9 hin 11 (by decide) uX9_75 rfl rfl (tyX9_ok 11 (by decide)) rfl rfl (Nat.le_of_ble_eq_true rfl) dX9_init_124 ?_
  show N l Y X 2 127 [(0, .ref h0)] [] ((h0, .inr (9, [.ref (a1 0), .ref (a2 0), .ref (a3 0), .ref (a4 0), .ref (a5 0), .ref (a6 0), .ref (a7 0), .ref qi, .int 0, .ref (a8 0), .ref (a9 0), .ref (a10 0), .null, .long 0])) :: (w1 ++ w2 ++ w3 ++ w4 ++ w5 ++ w6 ++ w7 ++ [(qi, imgE Y (fun _ => none))] ++ w8 ++ w9 ++ w10)) 88 1293
  refine n_aload_n F dX9_init_127 rfl 0 rfl ?_
  refine n_new F clX6 tyX6_ok dfX6 uX9_79 uinstX6 uiniX6 (Nat.le_of_ble_eq_true rfl) (Nat.le_of_ble_eq_true rfl) dX9_init_128 (fun q11 => ?_)
  refine n_dup F dX9_init_131 rfl ?_
  refine n_callN F (iniX6 l Y) miX6 uX9_81 (by decide) (Nat.le_of_ble_eq_true rfl) (Nat.le_of_ble_eq_true rfl) (Nat.le_of_ble_eq_true rfl) dX9_init_132 (fun w11 hw11 => ?_)
  obtain ⟨a11, rfl, e11⟩ := pwX6 hw11
  refine n_putF F clX9 hin 12 (by decide) uX9_82 rfl rfl (tyX9_ok 12 (by decide)) rfl rfl (Nat.le_of_ble_eq_true rfl) dX9_init_135 ?_
  show N l Y X 2 138 [(0, .ref h0)] [] ((h0, .inr (9, [.ref (a1 0), .ref (a2 0), .ref (a3 0), .ref (a4 0), .ref (a5 0), .ref (a6 0), .ref (a7 0), .ref qi, .int 0, .ref (a8 0), .ref (a9 0), .ref (a10 0), .ref (a11 0), .long 0])) :: (w1 ++ w2 ++ w3 ++ w4 ++ w5 ++ w6 ++ w7 ++ [(qi, imgE Y (fun _ => none))] ++ w8 ++ w9 ++ w10 ++ w11)) 90 1306
  refine n_aload_n F dX9_init_138 rfl 0 rfl ?_
  refine n_lconst F (v := 0) dX9_init_139 (by decide) ?_
  refine n_put F clX9 13 (by decide) uX9_86 rfl (tyX9_ok 13 (by decide)) rfl rfl (Nat.le_of_ble_eq_true rfl) dX9_init_140 ?_
  show N l Y X 2 143 [(0, .ref h0)] [] ((h0, .inr (9, [.ref (a1 0), .ref (a2 0), .ref (a3 0), .ref (a4 0), .ref (a5 0), .ref (a6 0), .ref (a7 0), .ref qi, .int 0, .ref (a8 0), .ref (a9 0), .ref (a10 0), .ref (a11 0), .long 0])) :: (w1 ++ w2 ++ w3 ++ w4 ++ w5 ++ w6 ++ w7 ++ [(qi, imgE Y (fun _ => none))] ++ w8 ++ w9 ++ w10 ++ w11)) 90 1306
  refine n_iconst F (v := 0) dX9_init_143 (by decide) ?_
  refine n_istore_n F dX9_init_144 rfl (by decide) rfl ?_
  refine n_ws (ws' := (h0, .inr (9, [.ref (a1 0), .ref (a2 0), .ref (a3 0), .ref (a4 0), .ref (a5 0), .ref (a6 0), .ref (a7 0), .ref qi, .int 0, .ref (a8 0), .ref (a9 0), .ref (a10 0), .ref (a11 0), .long 0])) :: ((w1 ++ w2 ++ w3 ++ w4 ++ w5 ++ w6 ++ w7) ++ (qi, imgE Y (fun _ => none)) :: (w8 ++ w9 ++ w10 ++ w11))) (by simp only [List.append_assoc, List.cons_append, List.nil_append]) ?_
  refine stepX9 F (i := 0) (v2 := 1) rfl (by decide) (by decide) (by decide) (by unfold vp_in; decide) (Nat.le_of_ble_eq_true rfl) (Nat.le_of_ble_eq_true rfl) (fun b0 u0 f0 => ?_)
  refine stepX9 F (i := 1) (v2 := 2) rfl (by decide) (by decide) (by decide) (by unfold vp_in; decide) (Nat.le_of_ble_eq_true rfl) (Nat.le_of_ble_eq_true rfl) (fun b1 u1 f1 => ?_)
  refine n_iload_n F dX9_init_145 rfl 0 rfl ?_
  refine n_iconst F (v := 2) dX9_init_146 (by decide) ?_
  refine n_icmp_ge F 169 dX9_init_147 (by decide) (fun _ => ?_) (fun h => absurd (by decide) h)
  exact hR _ _ _ _ _ dX9_init_169 (Nat.le_of_ble_eq_true rfl) (Nat.le_of_ble_eq_true rfl) ⟨a1, a2, a3, a4, a5, a6, a7, a8, a9, a10, a11, t2, t3, qi, b0, b1, hg2, hg3, by rw [e1, e2, e3, e4, e5, e6, e7, e8, e9, e10, e11, f0, f1]⟩
