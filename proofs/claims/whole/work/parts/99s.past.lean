/-! Past(): ten Nows -/
section P3
variable {l : Launch} {Y : NV} {X : Mx} {h0 c n mc ms : Nat} {R : va_W}
theorem stepX3 (F : FxN Y X cX3_init RX3 2 2 mc ms) {fs : List Value} {q0 : Nat} {f : Nat → Option Nat} {v v2 : Int32} {i : Nat} (hf : fs[0]? = some (.ref q0)) (h1 : ¬ (10 : Int32) ≤ v) (h2 : v + Int32.ofInt 1 = v2) (h3 : v.toNatClampNeg = i) (h4 : vp_in v 10) (hc : c + 4 ≤ mc) (hn : n + 41 ≤ ms)
    (kk : ∀ b x y z : Nat, N l Y X 2 25 [(1, .int v2), (0, .ref h0)] [] ((h0, .inr (3, fs)) :: (q0, .inl (Y.2.2.2.1, 10, .inr (.inr (.inr (.inr (va_up f i (some b))))))) :: (R ++ [(b, .inr (2, [.ref x, .ref y, .ref z, .int 0, .int 0])), (x, .inl (Y.2.1, 6, .inl (fun _ => 0))), (y, .inl (Y.2.1, 5, .inl (fun _ => 0))), (z, .inl (Y.2.1, 25, .inl (fun _ => 0)))])) (c + 4) (n + 41)) :
    N l Y X 2 25 [(1, .int v), (0, .ref h0)] [] ((h0, .inr (3, fs)) :: (q0, .inl (Y.2.2.2.1, 10, .inr (.inr (.inr (.inr f))))) :: R) c n := by
  refine n_iload_n F dX3_init_25 rfl 0 rfl ?_
  refine n_bipush F (v := 10) dX3_init_26 (by decide) ?_
  refine n_icmp_ge F 50 dX3_init_28 (by decide) (fun h => absurd h h1) (fun _ => ?_)
  refine n_aload_n F dX3_init_31 rfl 1 rfl ?_
  refine n_get F clX3 0 (by decide) uX3_11 hf dX3_init_32 ?_
  refine n_iload_n F dX3_init_35 rfl 0 rfl ?_
  refine n_new F clX2 tyX2_ok dfX2 uX3_9 uinstX2 uiniX2 (by omega) (by omega) dX3_init_36 (fun b => ?_)
  refine n_dup F dX3_init_39 rfl ?_
  refine n_callN F (iniX2 l Y) miX2 uX3_24 (by decide) (by omega) (by omega) (Nat.le_of_ble_eq_true rfl) dX3_init_40 (fun w hw => ?_)
  obtain ⟨x, y, z, rfl⟩ := hw
  refine n_astq F 1 (R.length + 2) rfl (b := b) (vs := [.ref x, .ref y, .ref z, .int 0, .int 0]) ?_ h4 dX3_init_43 ?_
  · show (R ++ _)[R.length]? = _
    simp
  refine n_iinc F dX3_init_44 0 rfl h2 (by decide) rfl ?_
  refine n_goto F 25 dX3_init_47 (by decide) ?_
  rw [h3]
  exact kk b x y z
end P3
def DX3 : List Sh := [(3, [5, 0, 0]), (13, [10, 2, 4]), (2, [7, 8, 9, 0, 0]), (11, [6]), (11, [5]), (11, [25]), (2, [11, 12, 13, 0, 0]), (11, [6]), (11, [5]), (11, [25]), (2, [15, 16, 17, 0, 0]), (11, [6]), (11, [5]), (11, [25]), (2, [19, 20, 21, 0, 0]), (11, [6]), (11, [5]), (11, [25]), (2, [23, 24, 25, 0, 0]), (11, [6]), (11, [5]), (11, [25]), (2, [27, 28, 29, 0, 0]), (11, [6]), (11, [5]), (11, [25]), (2, [31, 32, 33, 0, 0]), (11, [6]), (11, [5]), (11, [25]), (2, [35, 36, 37, 0, 0]), (11, [6]), (11, [5]), (11, [25]), (2, [39, 40, 41, 0, 0]), (11, [6]), (11, [5]), (11, [25]), (2, [43, 44, 45, 0, 0]), (11, [6]), (11, [5]), (11, [25])]
def poX3 (Y : NV) (h0 : Nat) (w : va_W) : Prop := ∃ a : Nat → Nat, a 0 = h0 ∧ w = wld (Y.1, DX3, a, Y.2) st0
theorem upX3 (Y : NV) (h0 q0 b0 x0 y0 z0 b1 x1 y1 z1 b2 x2 y2 z2 b3 x3 y3 z3 b4 x4 y4 z4 b5 x5 y5 z5 b6 x6 y6 z6 b7 x7 y7 z7 b8 x8 y8 z8 b9 x9 y9 z9 : Nat) : (va_up (va_up (va_up (va_up (va_up (va_up (va_up (va_up (va_up (va_up (fun _ => none) 0 (some b0)) 1 (some b1)) 2 (some b2)) 3 (some b3)) 4 (some b4)) 5 (some b5)) 6 (some b6)) 7 (some b7)) 8 (some b8)) 9 (some b9)) = refs (Y.1, DX3, (fun i => [h0, q0, b0, x0, y0, z0, b1, x1, y1, z1, b2, x2, y2, z2, b3, x3, y3, z3, b4, x4, y4, z4, b5, x5, y5, z5, b6, x6, y6, z6, b7, x7, y7, z7, b8, x8, y8, z8, b9, x9, y9, z9].getD i 0), Y.2) [10, 2, 4] := by
  funext i
  match i with
  | 0 => rfl
  | 1 => rfl
  | 2 => rfl
  | 3 => rfl
  | 4 => rfl
  | 5 => rfl
  | 6 => rfl
  | 7 => rfl
  | 8 => rfl
  | 9 => rfl
  | i + 10 => simp [va_up, refs]
theorem eqX3 (Y : NV) (h0 q0 b0 x0 y0 z0 b1 x1 y1 z1 b2 x2 y2 z2 b3 x3 y3 z3 b4 x4 y4 z4 b5 x5 y5 z5 b6 x6 y6 z6 b7 x7 y7 z7 b8 x8 y8 z8 b9 x9 y9 z9 : Nat) : ((h0, .inr (3, [.ref q0, .int 0, .int 0])) :: (q0, .inl (Y.2.2.2.1, 10, .inr (.inr (.inr (.inr (va_up (va_up (va_up (va_up (va_up (va_up (va_up (va_up (va_up (va_up (fun _ => none) 0 (some b0)) 1 (some b1)) 2 (some b2)) 3 (some b3)) 4 (some b4)) 5 (some b5)) 6 (some b6)) 7 (some b7)) 8 (some b8)) 9 (some b9))))))) :: [(b0, .inr (2, [.ref x0, .ref y0, .ref z0, .int 0, .int 0])), (x0, .inl (Y.2.1, 6, .inl (fun _ => 0))), (y0, .inl (Y.2.1, 5, .inl (fun _ => 0))), (z0, .inl (Y.2.1, 25, .inl (fun _ => 0))), (b1, .inr (2, [.ref x1, .ref y1, .ref z1, .int 0, .int 0])), (x1, .inl (Y.2.1, 6, .inl (fun _ => 0))), (y1, .inl (Y.2.1, 5, .inl (fun _ => 0))), (z1, .inl (Y.2.1, 25, .inl (fun _ => 0))), (b2, .inr (2, [.ref x2, .ref y2, .ref z2, .int 0, .int 0])), (x2, .inl (Y.2.1, 6, .inl (fun _ => 0))), (y2, .inl (Y.2.1, 5, .inl (fun _ => 0))), (z2, .inl (Y.2.1, 25, .inl (fun _ => 0))), (b3, .inr (2, [.ref x3, .ref y3, .ref z3, .int 0, .int 0])), (x3, .inl (Y.2.1, 6, .inl (fun _ => 0))), (y3, .inl (Y.2.1, 5, .inl (fun _ => 0))), (z3, .inl (Y.2.1, 25, .inl (fun _ => 0))), (b4, .inr (2, [.ref x4, .ref y4, .ref z4, .int 0, .int 0])), (x4, .inl (Y.2.1, 6, .inl (fun _ => 0))), (y4, .inl (Y.2.1, 5, .inl (fun _ => 0))), (z4, .inl (Y.2.1, 25, .inl (fun _ => 0))), (b5, .inr (2, [.ref x5, .ref y5, .ref z5, .int 0, .int 0])), (x5, .inl (Y.2.1, 6, .inl (fun _ => 0))), (y5, .inl (Y.2.1, 5, .inl (fun _ => 0))), (z5, .inl (Y.2.1, 25, .inl (fun _ => 0))), (b6, .inr (2, [.ref x6, .ref y6, .ref z6, .int 0, .int 0])), (x6, .inl (Y.2.1, 6, .inl (fun _ => 0))), (y6, .inl (Y.2.1, 5, .inl (fun _ => 0))), (z6, .inl (Y.2.1, 25, .inl (fun _ => 0))), (b7, .inr (2, [.ref x7, .ref y7, .ref z7, .int 0, .int 0])), (x7, .inl (Y.2.1, 6, .inl (fun _ => 0))), (y7, .inl (Y.2.1, 5, .inl (fun _ => 0))), (z7, .inl (Y.2.1, 25, .inl (fun _ => 0))), (b8, .inr (2, [.ref x8, .ref y8, .ref z8, .int 0, .int 0])), (x8, .inl (Y.2.1, 6, .inl (fun _ => 0))), (y8, .inl (Y.2.1, 5, .inl (fun _ => 0))), (z8, .inl (Y.2.1, 25, .inl (fun _ => 0))), (b9, .inr (2, [.ref x9, .ref y9, .ref z9, .int 0, .int 0])), (x9, .inl (Y.2.1, 6, .inl (fun _ => 0))), (y9, .inl (Y.2.1, 5, .inl (fun _ => 0))), (z9, .inl (Y.2.1, 25, .inl (fun _ => 0)))] : va_W) = wld (Y.1, DX3, (fun i => [h0, q0, b0, x0, y0, z0, b1, x1, y1, z1, b2, x2, y2, z2, b3, x3, y3, z3, b4, x4, y4, z4, b5, x5, y5, z5, b6, x6, y6, z6, b7, x7, y7, z7, b8, x8, y8, z8, b9, x9, y9, z9].getD i 0), Y.2) st0 := by
  rw [upX3 Y h0 q0 b0 x0 y0 z0 b1 x1 y1 z1 b2 x2 y2 z2 b3 x3 y3 z3 b4 x4 y4 z4 b5 x5 y5 z5 b6 x6 y6 z6 b7 x7 y7 z7 b8 x8 y8 z8 b9 x9 y9 z9, wld_R]
  rfl
theorem iniX3 (l : Launch) (Y : NV) : Cn yX3_init cX3_init 2 2 41 420 l Y 3 fsX3 (poX3 Y) := by
  refine Cn.of miX3 (by decide) (fun X h0 F hin hR => ?_)
  unfold fsX3
  refine n_aload_n F dX3_init_0 rfl 0 rfl ?_
  refine n_obj F (by decide) (Nat.le_of_ble_eq_true rfl) uX3_3 dX3_init_1 ?_
  refine n_aload_n F dX3_init_4 rfl 0 rfl ?_
  refine n_bipush F (v := 10) dX3_init_5 (by decide) ?_
  refine n_newQ F (k := 10) uX3_9 (by decide) (by decide) (by decide) (Nat.le_of_ble_eq_true rfl) (Nat.le_of_ble_eq_true rfl) dX3_init_7 (fun q0 => ?_)
  refine n_putF F clX3 hin 0 (by decide) uX3_11 rfl rfl (tyX3_ok 0 (by decide)) rfl rfl (Nat.le_of_ble_eq_true rfl) dX3_init_10 ?_
  refine n_aload_n F dX3_init_13 rfl 0 rfl ?_
  refine n_iconst F (v := 0) dX3_init_14 (by decide) ?_
  refine n_put F clX3 1 (by decide) uX3_17 rfl (tyX3_ok 1 (by decide)) rfl rfl (Nat.le_of_ble_eq_true rfl) dX3_init_15 ?_
  refine n_aload_n F dX3_init_18 rfl 0 rfl ?_
  refine n_iconst F (v := 0) dX3_init_19 (by decide) ?_
  refine n_put F clX3 2 (by decide) uX3_21 rfl (tyX3_ok 2 (by decide)) rfl rfl (Nat.le_of_ble_eq_true rfl) dX3_init_20 ?_
  refine n_iconst F (v := 0) dX3_init_23 (by decide) ?_
  refine n_istore_n F dX3_init_24 rfl (by decide) rfl ?_
  show N l Y X 2 25 [(1, .int 0), (0, .ref h0)] [] [(h0, .inr (3, [.ref q0, .int 0, .int 0])), (q0, .inl (Y.2.2.2.1, 10, .inr (.inr (.inr (.inr (fun _ => none))))))] 1 10
  refine stepX3 F (i := 0) (v2 := 1) rfl (by decide) (by decide) (by decide) (by unfold vp_in; decide) (Nat.le_of_ble_eq_true rfl) (Nat.le_of_ble_eq_true rfl) (fun b0 x0 y0 z0 => ?_)
  refine stepX3 F (i := 1) (v2 := 2) rfl (by decide) (by decide) (by decide) (by unfold vp_in; decide) (Nat.le_of_ble_eq_true rfl) (Nat.le_of_ble_eq_true rfl) (fun b1 x1 y1 z1 => ?_)
  refine stepX3 F (i := 2) (v2 := 3) rfl (by decide) (by decide) (by decide) (by unfold vp_in; decide) (Nat.le_of_ble_eq_true rfl) (Nat.le_of_ble_eq_true rfl) (fun b2 x2 y2 z2 => ?_)
  refine stepX3 F (i := 3) (v2 := 4) rfl (by decide) (by decide) (by decide) (by unfold vp_in; decide) (Nat.le_of_ble_eq_true rfl) (Nat.le_of_ble_eq_true rfl) (fun b3 x3 y3 z3 => ?_)
  show N l Y X 2 25 [(1, .int 4), (0, .ref h0)] [] ((h0, .inr (3, [.ref q0, .int 0, .int 0])) :: (q0, .inl (Y.2.2.2.1, 10, .inr (.inr (.inr (.inr (va_up (va_up (va_up (va_up (fun _ => none) 0 (some b0)) 1 (some b1)) 2 (some b2)) 3 (some b3))))))) :: [(b0, .inr (2, [.ref x0, .ref y0, .ref z0, .int 0, .int 0])), (x0, .inl (Y.2.1, 6, .inl (fun _ => 0))), (y0, .inl (Y.2.1, 5, .inl (fun _ => 0))), (z0, .inl (Y.2.1, 25, .inl (fun _ => 0))), (b1, .inr (2, [.ref x1, .ref y1, .ref z1, .int 0, .int 0])), (x1, .inl (Y.2.1, 6, .inl (fun _ => 0))), (y1, .inl (Y.2.1, 5, .inl (fun _ => 0))), (z1, .inl (Y.2.1, 25, .inl (fun _ => 0))), (b2, .inr (2, [.ref x2, .ref y2, .ref z2, .int 0, .int 0])), (x2, .inl (Y.2.1, 6, .inl (fun _ => 0))), (y2, .inl (Y.2.1, 5, .inl (fun _ => 0))), (z2, .inl (Y.2.1, 25, .inl (fun _ => 0))), (b3, .inr (2, [.ref x3, .ref y3, .ref z3, .int 0, .int 0])), (x3, .inl (Y.2.1, 6, .inl (fun _ => 0))), (y3, .inl (Y.2.1, 5, .inl (fun _ => 0))), (z3, .inl (Y.2.1, 25, .inl (fun _ => 0)))]) 17 174
  refine stepX3 F (i := 4) (v2 := 5) rfl (by decide) (by decide) (by decide) (by unfold vp_in; decide) (Nat.le_of_ble_eq_true rfl) (Nat.le_of_ble_eq_true rfl) (fun b4 x4 y4 z4 => ?_)
  refine stepX3 F (i := 5) (v2 := 6) rfl (by decide) (by decide) (by decide) (by unfold vp_in; decide) (Nat.le_of_ble_eq_true rfl) (Nat.le_of_ble_eq_true rfl) (fun b5 x5 y5 z5 => ?_)
  refine stepX3 F (i := 6) (v2 := 7) rfl (by decide) (by decide) (by decide) (by unfold vp_in; decide) (Nat.le_of_ble_eq_true rfl) (Nat.le_of_ble_eq_true rfl) (fun b6 x6 y6 z6 => ?_)
  show N l Y X 2 25 [(1, .int 7), (0, .ref h0)] [] ((h0, .inr (3, [.ref q0, .int 0, .int 0])) :: (q0, .inl (Y.2.2.2.1, 10, .inr (.inr (.inr (.inr (va_up (va_up (va_up (va_up (va_up (va_up (va_up (fun _ => none) 0 (some b0)) 1 (some b1)) 2 (some b2)) 3 (some b3)) 4 (some b4)) 5 (some b5)) 6 (some b6))))))) :: [(b0, .inr (2, [.ref x0, .ref y0, .ref z0, .int 0, .int 0])), (x0, .inl (Y.2.1, 6, .inl (fun _ => 0))), (y0, .inl (Y.2.1, 5, .inl (fun _ => 0))), (z0, .inl (Y.2.1, 25, .inl (fun _ => 0))), (b1, .inr (2, [.ref x1, .ref y1, .ref z1, .int 0, .int 0])), (x1, .inl (Y.2.1, 6, .inl (fun _ => 0))), (y1, .inl (Y.2.1, 5, .inl (fun _ => 0))), (z1, .inl (Y.2.1, 25, .inl (fun _ => 0))), (b2, .inr (2, [.ref x2, .ref y2, .ref z2, .int 0, .int 0])), (x2, .inl (Y.2.1, 6, .inl (fun _ => 0))), (y2, .inl (Y.2.1, 5, .inl (fun _ => 0))), (z2, .inl (Y.2.1, 25, .inl (fun _ => 0))), (b3, .inr (2, [.ref x3, .ref y3, .ref z3, .int 0, .int 0])), (x3, .inl (Y.2.1, 6, .inl (fun _ => 0))), (y3, .inl (Y.2.1, 5, .inl (fun _ => 0))), (z3, .inl (Y.2.1, 25, .inl (fun _ => 0))), (b4, .inr (2, [.ref x4, .ref y4, .ref z4, .int 0, .int 0])), (x4, .inl (Y.2.1, 6, .inl (fun _ => 0))), (y4, .inl (Y.2.1, 5, .inl (fun _ => 0))), (z4, .inl (Y.2.1, 25, .inl (fun _ => 0))), (b5, .inr (2, [.ref x5, .ref y5, .ref z5, .int 0, .int 0])), (x5, .inl (Y.2.1, 6, .inl (fun _ => 0))), (y5, .inl (Y.2.1, 5, .inl (fun _ => 0))), (z5, .inl (Y.2.1, 25, .inl (fun _ => 0))), (b6, .inr (2, [.ref x6, .ref y6, .ref z6, .int 0, .int 0])), (x6, .inl (Y.2.1, 6, .inl (fun _ => 0))), (y6, .inl (Y.2.1, 5, .inl (fun _ => 0))), (z6, .inl (Y.2.1, 25, .inl (fun _ => 0)))]) 29 297
  refine stepX3 F (i := 7) (v2 := 8) rfl (by decide) (by decide) (by decide) (by unfold vp_in; decide) (Nat.le_of_ble_eq_true rfl) (Nat.le_of_ble_eq_true rfl) (fun b7 x7 y7 z7 => ?_)
  refine stepX3 F (i := 8) (v2 := 9) rfl (by decide) (by decide) (by decide) (by unfold vp_in; decide) (Nat.le_of_ble_eq_true rfl) (Nat.le_of_ble_eq_true rfl) (fun b8 x8 y8 z8 => ?_)
  refine stepX3 F (i := 9) (v2 := 10) rfl (by decide) (by decide) (by decide) (by unfold vp_in; decide) (Nat.le_of_ble_eq_true rfl) (Nat.le_of_ble_eq_true rfl) (fun b9 x9 y9 z9 => ?_)
  show N l Y X 2 25 [(1, .int 10), (0, .ref h0)] [] ((h0, .inr (3, [.ref q0, .int 0, .int 0])) :: (q0, .inl (Y.2.2.2.1, 10, .inr (.inr (.inr (.inr (va_up (va_up (va_up (va_up (va_up (va_up (va_up (va_up (va_up (va_up (fun _ => none) 0 (some b0)) 1 (some b1)) 2 (some b2)) 3 (some b3)) 4 (some b4)) 5 (some b5)) 6 (some b6)) 7 (some b7)) 8 (some b8)) 9 (some b9))))))) :: [(b0, .inr (2, [.ref x0, .ref y0, .ref z0, .int 0, .int 0])), (x0, .inl (Y.2.1, 6, .inl (fun _ => 0))), (y0, .inl (Y.2.1, 5, .inl (fun _ => 0))), (z0, .inl (Y.2.1, 25, .inl (fun _ => 0))), (b1, .inr (2, [.ref x1, .ref y1, .ref z1, .int 0, .int 0])), (x1, .inl (Y.2.1, 6, .inl (fun _ => 0))), (y1, .inl (Y.2.1, 5, .inl (fun _ => 0))), (z1, .inl (Y.2.1, 25, .inl (fun _ => 0))), (b2, .inr (2, [.ref x2, .ref y2, .ref z2, .int 0, .int 0])), (x2, .inl (Y.2.1, 6, .inl (fun _ => 0))), (y2, .inl (Y.2.1, 5, .inl (fun _ => 0))), (z2, .inl (Y.2.1, 25, .inl (fun _ => 0))), (b3, .inr (2, [.ref x3, .ref y3, .ref z3, .int 0, .int 0])), (x3, .inl (Y.2.1, 6, .inl (fun _ => 0))), (y3, .inl (Y.2.1, 5, .inl (fun _ => 0))), (z3, .inl (Y.2.1, 25, .inl (fun _ => 0))), (b4, .inr (2, [.ref x4, .ref y4, .ref z4, .int 0, .int 0])), (x4, .inl (Y.2.1, 6, .inl (fun _ => 0))), (y4, .inl (Y.2.1, 5, .inl (fun _ => 0))), (z4, .inl (Y.2.1, 25, .inl (fun _ => 0))), (b5, .inr (2, [.ref x5, .ref y5, .ref z5, .int 0, .int 0])), (x5, .inl (Y.2.1, 6, .inl (fun _ => 0))), (y5, .inl (Y.2.1, 5, .inl (fun _ => 0))), (z5, .inl (Y.2.1, 25, .inl (fun _ => 0))), (b6, .inr (2, [.ref x6, .ref y6, .ref z6, .int 0, .int 0])), (x6, .inl (Y.2.1, 6, .inl (fun _ => 0))), (y6, .inl (Y.2.1, 5, .inl (fun _ => 0))), (z6, .inl (Y.2.1, 25, .inl (fun _ => 0))), (b7, .inr (2, [.ref x7, .ref y7, .ref z7, .int 0, .int 0])), (x7, .inl (Y.2.1, 6, .inl (fun _ => 0))), (y7, .inl (Y.2.1, 5, .inl (fun _ => 0))), (z7, .inl (Y.2.1, 25, .inl (fun _ => 0))), (b8, .inr (2, [.ref x8, .ref y8, .ref z8, .int 0, .int 0])), (x8, .inl (Y.2.1, 6, .inl (fun _ => 0))), (y8, .inl (Y.2.1, 5, .inl (fun _ => 0))), (z8, .inl (Y.2.1, 25, .inl (fun _ => 0))), (b9, .inr (2, [.ref x9, .ref y9, .ref z9, .int 0, .int 0])), (x9, .inl (Y.2.1, 6, .inl (fun _ => 0))), (y9, .inl (Y.2.1, 5, .inl (fun _ => 0))), (z9, .inl (Y.2.1, 25, .inl (fun _ => 0)))]) 41 420
  refine n_iload_n F dX3_init_25 rfl 0 rfl ?_
  refine n_bipush F (v := 10) dX3_init_26 (by decide) ?_
  refine n_icmp_ge F 50 dX3_init_28 (by decide) (fun _ => ?_) (fun h => absurd (by decide) h)
  exact hR _ _ _ _ _ dX3_init_50 (Nat.le_refl _) (Nat.le_refl _) ⟨_, rfl, eqX3 Y h0 q0 b0 x0 y0 z0 b1 x1 y1 z1 b2 x2 y2 z2 b3 x3 y3 z3 b4 x4 y4 z4 b5 x5 y5 z5 b6 x6 y6 z6 b7 x7 y7 z7 b8 x8 y8 z8 b9 x9 y9 z9⟩
