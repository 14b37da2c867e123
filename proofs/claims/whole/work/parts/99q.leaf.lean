/-! CONSTRUCTORS: printed by program (cons.py) -/
def fsX0 : List Value := [.int 0, .int 0, .null]
theorem dfX0 : ∀ j, j < 3 → defaultValue (tyX0 j) = vp_V fsX0 j
  | 0, _ => rfl
  | 1, _ => rfl
  | 2, _ => rfl
  | j + 3, h => absurd h (by omega)
theorem miX0 : MVb yX0_init cX0_init 1 none 0 ∧ Cond.instanceMethod yX0_init ∈ lw_u ∧ yX0_init.name = "<init>" := ⟨⟨uw (i := 290) (by decide +kernel) rfl, uiniX0, by decide +kernel⟩, uw (i := 289) (by decide +kernel) rfl, rfl⟩
def fsX1 : List Value := [.int 0, .int 0, .null, .null, .null, .null]
theorem dfX1 : ∀ j, j < 6 → defaultValue (tyX1 j) = vp_V fsX1 j
  | 0, _ => rfl
  | 1, _ => rfl
  | 2, _ => rfl
  | 3, _ => rfl
  | 4, _ => rfl
  | 5, _ => rfl
  | j + 6, h => absurd h (by omega)
theorem miX1 : MVb yX1_init cX1_init 1 none 0 ∧ Cond.instanceMethod yX1_init ∈ lw_u ∧ yX1_init.name = "<init>" := ⟨⟨uw (i := 128) (by decide +kernel) rfl, uiniX1, by decide +kernel⟩, uw (i := 127) (by decide +kernel) rfl, rfl⟩
def fsX2 : List Value := [.null, .null, .null, .int 0, .int 0]
theorem dfX2 : ∀ j, j < 5 → defaultValue (tyX2 j) = vp_V fsX2 j
  | 0, _ => rfl
  | 1, _ => rfl
  | 2, _ => rfl
  | 3, _ => rfl
  | 4, _ => rfl
  | j + 5, h => absurd h (by omega)
theorem miX2 : MVb yX2_init cX2_init 1 none 0 ∧ Cond.instanceMethod yX2_init ∈ lw_u ∧ yX2_init.name = "<init>" := ⟨⟨uw (i := 167) (by decide +kernel) rfl, uiniX2, by decide +kernel⟩, uw (i := 166) (by decide +kernel) rfl, rfl⟩
def fsX3 : List Value := [.null, .int 0, .int 0]
theorem dfX3 : ∀ j, j < 3 → defaultValue (tyX3 j) = vp_V fsX3 j
  | 0, _ => rfl
  | 1, _ => rfl
  | 2, _ => rfl
  | j + 3, h => absurd h (by omega)
theorem miX3 : MVb yX3_init cX3_init 2 none 0 ∧ Cond.instanceMethod yX3_init ∈ lw_u ∧ yX3_init.name = "<init>" := ⟨⟨uw (i := 233) (by decide +kernel) rfl, uiniX3, by decide +kernel⟩, uw (i := 232) (by decide +kernel) rfl, rfl⟩
def fsX4 : List Value := [.int 0, .int 0, .int 0, .null, .null, .null, .null, .null, .null]
theorem dfX4 : ∀ j, j < 9 → defaultValue (tyX4 j) = vp_V fsX4 j
  | 0, _ => rfl
  | 1, _ => rfl
  | 2, _ => rfl
  | 3, _ => rfl
  | 4, _ => rfl
  | 5, _ => rfl
  | 6, _ => rfl
  | 7, _ => rfl
  | 8, _ => rfl
  | j + 9, h => absurd h (by omega)
theorem miX4 : MVb yX4_init cX4_init 1 none 0 ∧ Cond.instanceMethod yX4_init ∈ lw_u ∧ yX4_init.name = "<init>" := ⟨⟨uw (i := 253) (by decide +kernel) rfl, uiniX4, by decide +kernel⟩, uw (i := 252) (by decide +kernel) rfl, rfl⟩
def fsX5 : List Value := [.int 0, .int 0, .int 0, .int 0]
theorem dfX5 : ∀ j, j < 4 → defaultValue (tyX5 j) = vp_V fsX5 j
  | 0, _ => rfl
  | 1, _ => rfl
  | 2, _ => rfl
  | 3, _ => rfl
  | j + 4, h => absurd h (by omega)
theorem miX5 : MVb yX5_init cX5_init 1 none 0 ∧ Cond.instanceMethod yX5_init ∈ lw_u ∧ yX5_init.name = "<init>" := ⟨⟨uw (i := 309) (by decide +kernel) rfl, uiniX5, by decide +kernel⟩, uw (i := 308) (by decide +kernel) rfl, rfl⟩
def fsX6 : List Value := [.int 0, .int 0, .int 0, .int 0, .int 0, .int 0, .null]
theorem dfX6 : ∀ j, j < 7 → defaultValue (tyX6 j) = vp_V fsX6 j
  | 0, _ => rfl
  | 1, _ => rfl
  | 2, _ => rfl
  | 3, _ => rfl
  | 4, _ => rfl
  | 5, _ => rfl
  | 6, _ => rfl
  | j + 7, h => absurd h (by omega)
theorem miX6 : MVb yX6_init cX6_init 1 none 0 ∧ Cond.instanceMethod yX6_init ∈ lw_u ∧ yX6_init.name = "<init>" := ⟨⟨uw (i := 332) (by decide +kernel) rfl, uiniX6, by decide +kernel⟩, uw (i := 331) (by decide +kernel) rfl, rfl⟩
def fsX7 : List Value := [.int 0, .null, .int 0, .int 0, .int 0, .int 0]
theorem dfX7 : ∀ j, j < 6 → defaultValue (tyX7 j) = vp_V fsX7 j
  | 0, _ => rfl
  | 1, _ => rfl
  | 2, _ => rfl
  | 3, _ => rfl
  | 4, _ => rfl
  | 5, _ => rfl
  | j + 6, h => absurd h (by omega)
theorem miX7 : MVb yX7_init cX7_init 1 none 0 ∧ Cond.instanceMethod yX7_init ∈ lw_u ∧ yX7_init.name = "<init>" := ⟨⟨uw (i := 101) (by decide +kernel) rfl, uiniX7, by decide +kernel⟩, uw (i := 100) (by decide +kernel) rfl, rfl⟩
def fsX8 : List Value := [.int 0, .null, .null, .null, .null, .null, .null, .null]
theorem dfX8 : ∀ j, j < 8 → defaultValue (tyX8 j) = vp_V fsX8 j
  | 0, _ => rfl
  | 1, _ => rfl
  | 2, _ => rfl
  | 3, _ => rfl
  | 4, _ => rfl
  | 5, _ => rfl
  | 6, _ => rfl
  | 7, _ => rfl
  | j + 8, h => absurd h (by omega)
theorem miX8 : MVb yX8_init cX8_init 1 none 0 ∧ Cond.instanceMethod yX8_init ∈ lw_u ∧ yX8_init.name = "<init>" := ⟨⟨uw (i := 196) (by decide +kernel) rfl, uiniX8, by decide +kernel⟩, uw (i := 195) (by decide +kernel) rfl, rfl⟩
def fsX9 : List Value := [.null, .null, .null, .null, .null, .null, .null, .null, .int 0, .null, .null, .null, .null, .long 0]
theorem dfX9 : ∀ j, j < 14 → defaultValue (tyX9 j) = vp_V fsX9 j
  | 0, _ => rfl
  | 1, _ => rfl
  | 2, _ => rfl
  | 3, _ => rfl
  | 4, _ => rfl
  | 5, _ => rfl
  | 6, _ => rfl
  | 7, _ => rfl
  | 8, _ => rfl
  | 9, _ => rfl
  | 10, _ => rfl
  | 11, _ => rfl
  | 12, _ => rfl
  | 13, _ => rfl
  | j + 14, h => absurd h (by omega)
theorem miX9 : MVb yX9_init cX9_init 2 none 0 ∧ Cond.instanceMethod yX9_init ∈ lw_u ∧ yX9_init.name = "<init>" := ⟨⟨uw (i := 93) (by decide +kernel) rfl, uiniX9, by decide +kernel⟩, uw (i := 92) (by decide +kernel) rfl, rfl⟩
def fsX10 : List Value := [.int 0, .long 0, .null, .int 0, .int 0, .int 0, .int 0, .int 0, .int 0, .null, .null, .null, .null, .null, .null, .null, .null, .null, .int 0, .null, .null, .int 0, .null, .null, .null, .null, .int 0, .null, .null, .null, .null, .null, .null, .null, .null]
theorem dfX10 : ∀ j, j < 35 → defaultValue (tyX10 j) = vp_V fsX10 j
  | 0, _ => rfl
  | 1, _ => rfl
  | 2, _ => rfl
  | 3, _ => rfl
  | 4, _ => rfl
  | 5, _ => rfl
  | 6, _ => rfl
  | 7, _ => rfl
  | 8, _ => rfl
  | 9, _ => rfl
  | 10, _ => rfl
  | 11, _ => rfl
  | 12, _ => rfl
  | 13, _ => rfl
  | 14, _ => rfl
  | 15, _ => rfl
  | 16, _ => rfl
  | 17, _ => rfl
  | 18, _ => rfl
  | 19, _ => rfl
  | 20, _ => rfl
  | 21, _ => rfl
  | 22, _ => rfl
  | 23, _ => rfl
  | 24, _ => rfl
  | 25, _ => rfl
  | 26, _ => rfl
  | 27, _ => rfl
  | 28, _ => rfl
  | 29, _ => rfl
  | 30, _ => rfl
  | 31, _ => rfl
  | 32, _ => rfl
  | 33, _ => rfl
  | 34, _ => rfl
  | j + 35, h => absurd h (by omega)
theorem miX10 : MVb yX10_init cX10_init 1 none 0 ∧ Cond.instanceMethod yX10_init ∈ lw_u ∧ yX10_init.name = "<init>" := ⟨⟨uw (i := 889) (by decide +kernel) rfl, uiniX10, by decide +kernel⟩, uw (i := 888) (by decide +kernel) rfl, rfl⟩
def poX0 (Y : NV) (h0 : Nat) (w : va_W) : Prop := ∃ q1 : Nat, w = [(h0, .inr (0, [.int 0, .int (-9), .ref q1])), (q1, .inl (Y.2.1, 6, .inl (fun _ => 0)))]
theorem iniX0 (l : Launch) (Y : NV) : Cn yX0_init cX0_init 1 1 1 6 l Y 0 fsX0 (poX0 Y) := by
  refine Cn.of miX0 (by decide) (fun X h0 F hin hR => ?_)
  unfold fsX0
  refine n_aload_n F dX0_init_0 rfl 0 rfl ?_
  refine n_obj F (by decide) (Nat.le_of_ble_eq_true rfl) uX0_3 dX0_init_1 ?_
  refine n_aload_n F dX0_init_4 rfl 0 rfl ?_
  refine n_iconst F (v := 0) dX0_init_5 (by decide) ?_
  refine n_put F clX0 0 (by decide) uX0_9 rfl (tyX0_ok 0 (by decide)) rfl rfl (Nat.le_of_ble_eq_true rfl) dX0_init_6 ?_
  refine n_aload_n F dX0_init_9 rfl 0 rfl ?_
  refine n_bipush F (v := (-9)) dX0_init_10 (by decide) ?_
  refine n_put F clX0 1 (by decide) uX0_15 rfl (tyX0_ok 1 (by decide)) rfl rfl (Nat.le_of_ble_eq_true rfl) dX0_init_12 ?_
  refine n_aload_n F dX0_init_15 rfl 0 rfl ?_
  refine n_bipush F (v := 6) dX0_init_16 (by decide) ?_
  refine n_newI F (k := 6) (by decide) (by decide) (by decide) (Nat.le_of_ble_eq_true rfl) (Nat.le_of_ble_eq_true rfl) dX0_init_18 (fun q1 => ?_)
  refine n_putF F clX0 hin 2 (by decide) uX0_19 rfl rfl (tyX0_ok 2 (by decide)) rfl rfl (Nat.le_of_ble_eq_true rfl) dX0_init_20 ?_
  exact hR _ _ _ _ _ dX0_init_23 (Nat.le_of_ble_eq_true rfl) (Nat.le_of_ble_eq_true rfl) ⟨q1, rfl⟩
def poX2 (Y : NV) (h0 : Nat) (w : va_W) : Prop := ∃ q1 q2 q3 : Nat, w = [(h0, .inr (2, [.ref q1, .ref q2, .ref q3, .int 0, .int 0])), (q1, .inl (Y.2.1, 6, .inl (fun _ => 0))), (q2, .inl (Y.2.1, 5, .inl (fun _ => 0))), (q3, .inl (Y.2.1, 25, .inl (fun _ => 0)))]
theorem iniX2 (l : Launch) (Y : NV) : Cn yX2_init cX2_init 1 1 3 36 l Y 2 fsX2 (poX2 Y) := by
  refine Cn.of miX2 (by decide) (fun X h0 F hin hR => ?_)
  unfold fsX2
  refine n_aload_n F dX2_init_0 rfl 0 rfl ?_
  refine n_obj F (by decide) (Nat.le_of_ble_eq_true rfl) uX2_3 dX2_init_1 ?_
  refine n_aload_n F dX2_init_4 rfl 0 rfl ?_
  refine n_bipush F (v := 6) dX2_init_5 (by decide) ?_
  refine n_newI F (k := 6) (by decide) (by decide) (by decide) (Nat.le_of_ble_eq_true rfl) (Nat.le_of_ble_eq_true rfl) dX2_init_7 (fun q1 => ?_)
  refine n_putF F clX2 hin 0 (by decide) uX2_9 rfl rfl (tyX2_ok 0 (by decide)) rfl rfl (Nat.le_of_ble_eq_true rfl) dX2_init_9 ?_
  refine n_aload_n F dX2_init_12 rfl 0 rfl ?_
  refine n_iconst F (v := 5) dX2_init_13 (by decide) ?_
  refine n_newI F (k := 5) (by decide) (by decide) (by decide) (Nat.le_of_ble_eq_true rfl) (Nat.le_of_ble_eq_true rfl) dX2_init_14 (fun q2 => ?_)
  refine n_putF F clX2 hin 1 (by decide) uX2_15 rfl rfl (tyX2_ok 1 (by decide)) rfl rfl (Nat.le_of_ble_eq_true rfl) dX2_init_16 ?_
  refine n_aload_n F dX2_init_19 rfl 0 rfl ?_
  refine n_bipush F (v := 25) dX2_init_20 (by decide) ?_
  refine n_newI F (k := 25) (by decide) (by decide) (by decide) (Nat.le_of_ble_eq_true rfl) (Nat.le_of_ble_eq_true rfl) dX2_init_22 (fun q3 => ?_)
  refine n_putF F clX2 hin 2 (by decide) uX2_18 rfl rfl (tyX2_ok 2 (by decide)) rfl rfl (Nat.le_of_ble_eq_true rfl) dX2_init_24 ?_
  refine n_aload_n F dX2_init_27 rfl 0 rfl ?_
  refine n_iconst F (v := 0) dX2_init_28 (by decide) ?_
  refine n_put F clX2 3 (by decide) uX2_21 rfl (tyX2_ok 3 (by decide)) rfl rfl (Nat.le_of_ble_eq_true rfl) dX2_init_29 ?_
  refine n_aload_n F dX2_init_32 rfl 0 rfl ?_
  refine n_iconst F (v := 0) dX2_init_33 (by decide) ?_
  refine n_put F clX2 4 (by decide) uX2_25 rfl (tyX2_ok 4 (by decide)) rfl rfl (Nat.le_of_ble_eq_true rfl) dX2_init_34 ?_
  exact hR _ _ _ _ _ dX2_init_37 (Nat.le_of_ble_eq_true rfl) (Nat.le_of_ble_eq_true rfl) ⟨q1, q2, q3, rfl⟩
def poX5 (Y : NV) (h0 : Nat) (w : va_W) : Prop := w = [(h0, .inr (5, [.int 0, .int (-9), .int (-9), .int 0]))]
theorem iniX5 (l : Launch) (Y : NV) : Cn yX5_init cX5_init 1 1 0 0 l Y 5 fsX5 (poX5 Y) := by
  refine Cn.of miX5 (by decide) (fun X h0 F hin hR => ?_)
  unfold fsX5
  refine n_aload_n F dX5_init_0 rfl 0 rfl ?_
  refine n_obj F (by decide) (Nat.le_of_ble_eq_true rfl) uX5_3 dX5_init_1 ?_
  refine n_aload_n F dX5_init_4 rfl 0 rfl ?_
  refine n_iconst F (v := 0) dX5_init_5 (by decide) ?_
  refine n_put F clX5 0 (by decide) uX5_9 rfl (tyX5_ok 0 (by decide)) rfl rfl (Nat.le_of_ble_eq_true rfl) dX5_init_6 ?_
  refine n_aload_n F dX5_init_9 rfl 0 rfl ?_
  refine n_bipush F (v := (-9)) dX5_init_10 (by decide) ?_
  refine n_put F clX5 1 (by decide) uX5_15 rfl (tyX5_ok 1 (by decide)) rfl rfl (Nat.le_of_ble_eq_true rfl) dX5_init_12 ?_
  refine n_aload_n F dX5_init_15 rfl 0 rfl ?_
  refine n_bipush F (v := (-9)) dX5_init_16 (by decide) ?_
  refine n_put F clX5 2 (by decide) uX5_19 rfl (tyX5_ok 2 (by decide)) rfl rfl (Nat.le_of_ble_eq_true rfl) dX5_init_18 ?_
  refine n_aload_n F dX5_init_21 rfl 0 rfl ?_
  refine n_iconst F (v := 0) dX5_init_22 (by decide) ?_
  refine n_put F clX5 3 (by decide) uX5_22 rfl (tyX5_ok 3 (by decide)) rfl rfl (Nat.le_of_ble_eq_true rfl) dX5_init_23 ?_
  exact hR _ _ _ _ _ dX5_init_26 (Nat.le_of_ble_eq_true rfl) (Nat.le_of_ble_eq_true rfl) rfl
def poX6 (Y : NV) (h0 : Nat) (w : va_W) : Prop := ∃ q1 : Nat, w = [(h0, .inr (6, [.int 0, .int 0, .int 0, .int 0, .int 0, .int 0, .ref q1])), (q1, .inl (Y.2.1, 6, .inl (fun _ => 0)))]
theorem iniX6 (l : Launch) (Y : NV) : Cn yX6_init cX6_init 1 1 1 6 l Y 6 fsX6 (poX6 Y) := by
  refine Cn.of miX6 (by decide) (fun X h0 F hin hR => ?_)
  unfold fsX6
  refine n_aload_n F dX6_init_0 rfl 0 rfl ?_
  refine n_obj F (by decide) (Nat.le_of_ble_eq_true rfl) uX6_3 dX6_init_1 ?_
  refine n_aload_n F dX6_init_4 rfl 0 rfl ?_
  refine n_iconst F (v := 0) dX6_init_5 (by decide) ?_
  refine n_put F clX6 0 (by decide) uX6_9 rfl (tyX6_ok 0 (by decide)) rfl rfl (Nat.le_of_ble_eq_true rfl) dX6_init_6 ?_
  refine n_aload_n F dX6_init_9 rfl 0 rfl ?_
  refine n_iconst F (v := 0) dX6_init_10 (by decide) ?_
  refine n_put F clX6 1 (by decide) uX6_15 rfl (tyX6_ok 1 (by decide)) rfl rfl (Nat.le_of_ble_eq_true rfl) dX6_init_11 ?_
  refine n_aload_n F dX6_init_14 rfl 0 rfl ?_
  refine n_iconst F (v := 0) dX6_init_15 (by decide) ?_
  refine n_put F clX6 2 (by decide) uX6_18 rfl (tyX6_ok 2 (by decide)) rfl rfl (Nat.le_of_ble_eq_true rfl) dX6_init_16 ?_
  refine n_aload_n F dX6_init_19 rfl 0 rfl ?_
  refine n_iconst F (v := 0) dX6_init_20 (by decide) ?_
  refine n_put F clX6 3 (by decide) uX6_21 rfl (tyX6_ok 3 (by decide)) rfl rfl (Nat.le_of_ble_eq_true rfl) dX6_init_21 ?_
  refine n_aload_n F dX6_init_24 rfl 0 rfl ?_
  refine n_iconst F (v := 0) dX6_init_25 (by decide) ?_
  refine n_put F clX6 4 (by decide) uX6_24 rfl (tyX6_ok 4 (by decide)) rfl rfl (Nat.le_of_ble_eq_true rfl) dX6_init_26 ?_
  refine n_aload_n F dX6_init_29 rfl 0 rfl ?_
  refine n_iconst F (v := 0) dX6_init_30 (by decide) ?_
  refine n_put F clX6 5 (by decide) uX6_27 rfl (tyX6_ok 5 (by decide)) rfl rfl (Nat.le_of_ble_eq_true rfl) dX6_init_31 ?_
  refine n_aload_n F dX6_init_34 rfl 0 rfl ?_
  refine n_bipush F (v := 6) dX6_init_35 (by decide) ?_
  refine n_newI F (k := 6) (by decide) (by decide) (by decide) (Nat.le_of_ble_eq_true rfl) (Nat.le_of_ble_eq_true rfl) dX6_init_37 (fun q1 => ?_)
  refine n_putF F clX6 hin 6 (by decide) uX6_30 rfl rfl (tyX6_ok 6 (by decide)) rfl rfl (Nat.le_of_ble_eq_true rfl) dX6_init_39 ?_
  exact hR _ _ _ _ _ dX6_init_42 (Nat.le_of_ble_eq_true rfl) (Nat.le_of_ble_eq_true rfl) ⟨q1, rfl⟩
def poX7 (Y : NV) (h0 : Nat) (w : va_W) : Prop := ∃ q1 : Nat, w = [(h0, .inr (7, [.int 0, .ref q1, .int 0, .int 0, .int 0, .int 0])), (q1, .inl (Y.2.1, 120, .inl (fun _ => 0)))]
theorem iniX7 (l : Launch) (Y : NV) : Cn yX7_init cX7_init 1 1 1 120 l Y 7 fsX7 (poX7 Y) := by
  refine Cn.of miX7 (by decide) (fun X h0 F hin hR => ?_)
  unfold fsX7
  refine n_aload_n F dX7_init_0 rfl 0 rfl ?_
  refine n_obj F (by decide) (Nat.le_of_ble_eq_true rfl) uX7_3 dX7_init_1 ?_
  refine n_aload_n F dX7_init_4 rfl 0 rfl ?_
  refine n_iconst F (v := 0) dX7_init_5 (by decide) ?_
  refine n_put F clX7 0 (by decide) uX7_9 rfl (tyX7_ok 0 (by decide)) rfl rfl (Nat.le_of_ble_eq_true rfl) dX7_init_6 ?_
  refine n_aload_n F dX7_init_9 rfl 0 rfl ?_
  refine n_bipush F (v := 120) dX7_init_10 (by decide) ?_
  refine n_newI F (k := 120) (by decide) (by decide) (by decide) (Nat.le_of_ble_eq_true rfl) (Nat.le_of_ble_eq_true rfl) dX7_init_12 (fun q1 => ?_)
  refine n_putF F clX7 hin 1 (by decide) uX7_15 rfl rfl (tyX7_ok 1 (by decide)) rfl rfl (Nat.le_of_ble_eq_true rfl) dX7_init_14 ?_
  refine n_aload_n F dX7_init_17 rfl 0 rfl ?_
  refine n_iconst F (v := 0) dX7_init_18 (by decide) ?_
  refine n_put F clX7 2 (by decide) uX7_19 rfl (tyX7_ok 2 (by decide)) rfl rfl (Nat.le_of_ble_eq_true rfl) dX7_init_19 ?_
  refine n_aload_n F dX7_init_22 rfl 0 rfl ?_
  refine n_iconst F (v := 0) dX7_init_23 (by decide) ?_
  refine n_put F clX7 3 (by decide) uX7_22 rfl (tyX7_ok 3 (by decide)) rfl rfl (Nat.le_of_ble_eq_true rfl) dX7_init_24 ?_
  refine n_aload_n F dX7_init_27 rfl 0 rfl ?_
  refine n_iconst F (v := 0) dX7_init_28 (by decide) ?_
  refine n_put F clX7 4 (by decide) uX7_25 rfl (tyX7_ok 4 (by decide)) rfl rfl (Nat.le_of_ble_eq_true rfl) dX7_init_29 ?_
  refine n_aload_n F dX7_init_32 rfl 0 rfl ?_
  refine n_iconst F (v := 0) dX7_init_33 (by decide) ?_
  refine n_put F clX7 5 (by decide) uX7_28 rfl (tyX7_ok 5 (by decide)) rfl rfl (Nat.le_of_ble_eq_true rfl) dX7_init_34 ?_
  exact hR _ _ _ _ _ dX7_init_37 (Nat.le_of_ble_eq_true rfl) (Nat.le_of_ble_eq_true rfl) ⟨q1, rfl⟩
def poX8 (Y : NV) (h0 : Nat) (w : va_W) : Prop := ∃ q1 q2 q3 q4 q5 q6 q7 : Nat, w = [(h0, .inr (8, [.int 0, .ref q1, .ref q2, .ref q3, .ref q4, .ref q5, .ref q6, .ref q7])), (q1, .inl (Y.2.1, 165, .inl (fun _ => 0))), (q2, .inl (Y.2.1, 33, .inl (fun _ => 0))), (q3, .inl (Y.2.1, 33, .inl (fun _ => 0))), (q4, .inl (Y.2.1, 33, .inl (fun _ => 0))), (q5, .inl (Y.2.1, 33, .inl (fun _ => 0))), (q6, .inl (Y.2.1, 25, .inl (fun _ => 0))), (q7, .inl (Y.2.1, 5, .inl (fun _ => 0)))]
theorem iniX8 (l : Launch) (Y : NV) : Cn yX8_init cX8_init 1 1 7 327 l Y 8 fsX8 (poX8 Y) := by
  refine Cn.of miX8 (by decide) (fun X h0 F hin hR => ?_)
  unfold fsX8
  refine n_aload_n F dX8_init_0 rfl 0 rfl ?_
  refine n_obj F (by decide) (Nat.le_of_ble_eq_true rfl) uX8_3 dX8_init_1 ?_
  refine n_aload_n F dX8_init_4 rfl 0 rfl ?_
  refine n_iconst F (v := 0) dX8_init_5 (by decide) ?_
  refine n_put F clX8 0 (by decide) uX8_9 rfl (tyX8_ok 0 (by decide)) rfl rfl (Nat.le_of_ble_eq_true rfl) dX8_init_6 ?_
  refine n_aload_n F dX8_init_9 rfl 0 rfl ?_
  refine n_sipush F (v := 165) dX8_init_10 (by decide) ?_
  refine n_newI F (k := 165) (by decide) (by decide) (by decide) (Nat.le_of_ble_eq_true rfl) (Nat.le_of_ble_eq_true rfl) dX8_init_13 (fun q1 => ?_)
  refine n_putF F clX8 hin 1 (by decide) uX8_15 rfl rfl (tyX8_ok 1 (by decide)) rfl rfl (Nat.le_of_ble_eq_true rfl) dX8_init_15 ?_
  refine n_aload_n F dX8_init_18 rfl 0 rfl ?_
  refine n_bipush F (v := 33) dX8_init_19 (by decide) ?_
  refine n_newI F (k := 33) (by decide) (by decide) (by decide) (Nat.le_of_ble_eq_true rfl) (Nat.le_of_ble_eq_true rfl) dX8_init_21 (fun q2 => ?_)
  refine n_putF F clX8 hin 2 (by decide) uX8_19 rfl rfl (tyX8_ok 2 (by decide)) rfl rfl (Nat.le_of_ble_eq_true rfl) dX8_init_23 ?_
  refine n_aload_n F dX8_init_26 rfl 0 rfl ?_
  refine n_bipush F (v := 33) dX8_init_27 (by decide) ?_
  refine n_newI F (k := 33) (by decide) (by decide) (by decide) (Nat.le_of_ble_eq_true rfl) (Nat.le_of_ble_eq_true rfl) dX8_init_29 (fun q3 => ?_)
  refine n_putF F clX8 hin 3 (by decide) uX8_22 rfl rfl (tyX8_ok 3 (by decide)) rfl rfl (Nat.le_of_ble_eq_true rfl) dX8_init_31 ?_
  refine n_aload_n F dX8_init_34 rfl 0 rfl ?_
  refine n_bipush F (v := 33) dX8_init_35 (by decide) ?_
  refine n_newI F (k := 33) (by decide) (by decide) (by decide) (Nat.le_of_ble_eq_true rfl) (Nat.le_of_ble_eq_true rfl) dX8_init_37 (fun q4 => ?_)
  refine n_putF F clX8 hin 4 (by decide) uX8_25 rfl rfl (tyX8_ok 4 (by decide)) rfl rfl (Nat.le_of_ble_eq_true rfl) dX8_init_39 ?_
  refine n_aload_n F dX8_init_42 rfl 0 rfl ?_
  refine n_bipush F (v := 33) dX8_init_43 (by decide) ?_
  refine n_newI F (k := 33) (by decide) (by decide) (by decide) (Nat.le_of_ble_eq_true rfl) (Nat.le_of_ble_eq_true rfl) dX8_init_45 (fun q5 => ?_)
  refine n_putF F clX8 hin 5 (by decide) uX8_28 rfl rfl (tyX8_ok 5 (by decide)) rfl rfl (Nat.le_of_ble_eq_true rfl) dX8_init_47 ?_
  refine n_aload_n F dX8_init_50 rfl 0 rfl ?_
  refine n_bipush F (v := 25) dX8_init_51 (by decide) ?_
  refine n_newI F (k := 25) (by decide) (by decide) (by decide) (Nat.le_of_ble_eq_true rfl) (Nat.le_of_ble_eq_true rfl) dX8_init_53 (fun q6 => ?_)
  refine n_putF F clX8 hin 6 (by decide) uX8_31 rfl rfl (tyX8_ok 6 (by decide)) rfl rfl (Nat.le_of_ble_eq_true rfl) dX8_init_55 ?_
  refine n_aload_n F dX8_init_58 rfl 0 rfl ?_
  refine n_iconst F (v := 5) dX8_init_59 (by decide) ?_
  refine n_newI F (k := 5) (by decide) (by decide) (by decide) (Nat.le_of_ble_eq_true rfl) (Nat.le_of_ble_eq_true rfl) dX8_init_60 (fun q7 => ?_)
  refine n_putF F clX8 hin 7 (by decide) uX8_34 rfl rfl (tyX8_ok 7 (by decide)) rfl rfl (Nat.le_of_ble_eq_true rfl) dX8_init_62 ?_
  exact hR _ _ _ _ _ dX8_init_65 (Nat.le_of_ble_eq_true rfl) (Nat.le_of_ble_eq_true rfl) ⟨q1, q2, q3, q4, q5, q6, q7, rfl⟩
