/-! Search() -/
section SRC
variable {l : Launch} {Y : NV} {X : Mx} {cc : ByteArray} {own : String} {nL lev pc mc ms c n : Nat} {lv : List (Nat × Value)} {st : List Value} {ws : va_W}
def rowsE (Y : NV) (q : Nat) : va_W := [(q, .inl (Y.2.2.2.2, 7, .inr (.inr (.inr (.inr (fun i => if i < 7 then some (q + 1 + i) else none)))))), (q + 1 + 0, .inl (Y.2.1, 20, .inl (fun _ => 0))), (q + 1 + 1, .inl (Y.2.1, 20, .inl (fun _ => 0))), (q + 1 + 2, .inl (Y.2.1, 20, .inl (fun _ => 0))), (q + 1 + 3, .inl (Y.2.1, 20, .inl (fun _ => 0))), (q + 1 + 4, .inl (Y.2.1, 20, .inl (fun _ => 0))), (q + 1 + 5, .inl (Y.2.1, 20, .inl (fun _ => 0))), (q + 1 + 6, .inl (Y.2.1, 20, .inl (fun _ => 0)))]
theorem rowsE_get {q : Nat} : ∀ k x, (rowsE Y q)[k]? = some x → x.1 = q + k ∧ k < 8
  | 0, _, h => by cases h; exact ⟨rfl, by decide⟩
  | 1, _, h => by cases h; exact ⟨rfl, by decide⟩
  | 2, _, h => by cases h; exact ⟨rfl, by decide⟩
  | 3, _, h => by cases h; exact ⟨rfl, by decide⟩
  | 4, _, h => by cases h; exact ⟨rfl, by decide⟩
  | 5, _, h => by cases h; exact ⟨rfl, by decide⟩
  | 6, _, h => by cases h; exact ⟨rfl, by decide⟩
  | 7, _, h => by cases h; exact ⟨rfl, by decide⟩
  | k + 8, _, h => by cases h
theorem n_mul (F : FxN Y X cc own nL lev mc ms) {idx : Nat} (hu : Cond.classLink own idx "[[I" ∈ lw_u) (hc : c + 8 ≤ mc) (hn : n + 147 ≤ ms) (d : decode cc pc = .ok (.multianewarray idx 2, 4)) (kk : ∀ q : Nat, N l Y X nL (pc + 4) lv (.ref q :: st) (ws ++ rowsE Y q) (c + 8) (n + 147)) : N l Y X nL pc lv (.int 20 :: .int 7 :: st) ws c n := fun H locs ls hP hD hS hl => by
  intro T hT X0
  subst hT
  have h10 := F.2.2.2.2.2.2.2.2.2
  obtain ⟨T1, cA, comp, sl, f1, f2, f3, ⟨f4, f7, f8⟩, f9, f10, X1, step⟩ := mulF (pc := pc) (ls := ls) (st := st) X0 F.1 F.2.1 F.2.2.2.1 (F.2.2.2.2.1 _ hu) h10.2.2.2.2 (F.2.2.2.2.1 _ u_arrI) d (Nat.le_trans hc h10.1) (Nat.le_trans hn h10.2.1)
  have e1 : X.2.2.2.1.vm.findClass ("[" ++ (FieldType.array .int).toString) = some Y.2.2.2.2 := (F.2.2.2.2.2.1.2 3 (Y.2.2.2.2, .array .int) rfl).2
  have e2 : X.2.2.2.1.vm.findClass ("[" ++ FieldType.int.toString) = some Y.2.1 := (F.2.2.2.2.2.1.2 0 (Y.2.1, .int) rfl).2
  have e3 : cA = Y.2.2.2.2 := Option.some.inj (f1.symm.trans e1)
  have e4 : comp = Y.2.1 := Option.some.inj (f2.symm.trans e2)
  subst e3 e4
  have hin : ∀ j, j < 7 → va_at Y.1 vwCl (T.heap.size + 1 + j, .inl (Y.2.1, 20, .inl (fun _ => 0))) T1.heap := fun j hj => by
    show T1.heap[T.heap.size + 1 + j]? = some (arrV Y.2.1 20 (fun _ => .int 0))
    rw [f9 j hj, arrV_new]
  have hout : va_at Y.1 vwCl (T.heap.size, .inl (Y.2.2.2.2, 7, .inr (.inr (.inr (.inr (fun i => if i < 7 then some (T.heap.size + 1 + i) else none)))))) T1.heap := by
    show T1.heap[T.heap.size]? = some (vp_cell _ _)
    rw [vp_cell_q, f4]
    have hsl : sl = (arrV Y.2.2.2.2 7 (fun j => va_rf (if j < 7 then some (T.heap.size + 1 + j) else none))).slots := by
      apply Array.ext_getElem?
      intro i
      by_cases hi : i < 7
      · rw [f8 i hi, arrV_read _ _ hi, if_pos hi]
        rfl
      · rw [Array.getElem?_eq_none (by omega), Array.getElem?_eq_none (by rw [arrV_size]; omega)]
    rw [hsl]
    rfl
  have hP1 : va_P Y.1 vwCl (ws ++ rowsE Y T.heap.size) T1.heap := by
    refine va_P.app (va_P.kept hP (fun k q hk => f10 q.1 ((hP k q hk).lt))) (fun k q hk => ?_)
    match k, hk with
    | 0, hk => cases hk; exact hout
    | 1, hk => cases hk; exact hin 0 (by decide)
    | 2, hk => cases hk; exact hin 1 (by decide)
    | 3, hk => cases hk; exact hin 2 (by decide)
    | 4, hk => cases hk; exact hin 3 (by decide)
    | 5, hk => cases hk; exact hin 4 (by decide)
    | 6, hk => cases hk; exact hin 5 (by decide)
    | 7, hk => cases hk; exact hin 6 (by decide)
    | k + 8, hk => cases hk
  have hD1 : va_D X.2.2.2.2.2.2.2.2.2.2.2 (ws ++ rowsE Y T.heap.size) := by
    refine va_D.app hD ⟨fun i j p q hp hq hpq => ?_, fun k q hk => ?_⟩ (fun i j p q hp hq hpq => ?_)
    · have h1 := (rowsE_get i p hp).1
      have h2 := (rowsE_get j q hq).1
      omega
    · exact F.2.2.2.2.2.2.1 q.1 (by rw [(rowsE_get k q hk).1]; exact Nat.le_trans hS.1 (Nat.le_add_right _ _))
    · have h1 := (hP i p hp).lt
      have h2 := (rowsE_get j q hq).1
      omega
  have hS1 : va_S X.2.2.2.2.2.2.2.2.2.2.2 X.2.2.2.1.heap T1.heap locs := ⟨Nat.le_trans hS.1 (by omega), fun q h1 h2 => (f10 q (Nat.lt_of_lt_of_le h1 hS.1)).trans (hS.2.1 q h1 h2), hS.2.2⟩
  obtain ⟨t, a1, b1⟩ := kk T.heap.size T1.heap locs ls hP1 hD1 hS1 hl T1 rfl X1
  exact ⟨t, step t a1, b1⟩
end SRC
theorem upX4 (Y : NV) (h0 q1 q2 qm q3 q4 q5 : Nat) : (fun i => if i < 7 then some (qm + 1 + i) else none) = refs (Y.1, DX4, (fun i => [h0, q1, q2, qm, qm + 1 + 0, qm + 1 + 1, qm + 1 + 2, qm + 1 + 3, qm + 1 + 4, qm + 1 + 5, qm + 1 + 6, q3, q4, q5].getD i 0), Y.2) [7, 4, 1] := by
  funext i
  match i with
  | 0 => rfl
  | 1 => rfl
  | 2 => rfl
  | 3 => rfl
  | 4 => rfl
  | 5 => rfl
  | 6 => rfl
  | i + 7 =>
    show (if i + 7 < 7 then _ else none) = (if i + 7 < 7 then _ else none)
    rw [if_neg (by omega), if_neg (by omega)]
theorem eqX4 (Y : NV) (h0 q1 q2 qm q3 q4 q5 : Nat) : ((h0, .inr (4, [.int 0, .int 0, .int 1000, .ref q1, .ref q2, .ref qm, .ref q3, .ref q4, .ref q5])) :: ([(q1, .inl (Y.2.1, 20, .inl (fun _ => 0)))] ++ [(q2, .inl (Y.2.1, 20, .inl (fun _ => 0)))] ++ rowsE Y qm ++ [(q3, .inl (Y.2.1, 6, .inl (fun _ => 0)))] ++ [(q4, .inl (Y.2.1, 6, .inl (fun _ => 0)))] ++ [(q5, .inl (Y.2.1, 6, .inl (fun _ => 0)))]) : va_W) = wld (Y.1, DX4, (fun i => [h0, q1, q2, qm, qm + 1 + 0, qm + 1 + 1, qm + 1 + 2, qm + 1 + 3, qm + 1 + 4, qm + 1 + 5, qm + 1 + 6, q3, q4, q5].getD i 0), Y.2) (stI st0 0 2 1000) := by
  unfold rowsE
  rw [upX4 Y h0 q1 q2 qm q3 q4 q5, wld_R]
  rfl
theorem iniX4 (l : Launch) (Y : NV) : Cn yX4_init cX4_init 1 1 13 205 l Y 4 fsX4 (poX4 Y) := by
  refine Cn.of miX4 (by decide) (fun X h0 F hin hR => ?_)
  unfold fsX4
  refine n_aload_n F dX4_init_0 rfl 0 rfl ?_
  refine n_obj F (by decide) (Nat.le_of_ble_eq_true rfl) uX4_3 dX4_init_1 ?_
  refine n_aload_n F dX4_init_4 rfl 0 rfl ?_
  refine n_iconst F (v := 0) dX4_init_5 (by decide) ?_
  refine n_put F clX4 0 (by decide) uX4_9 rfl (tyX4_ok 0 (by decide)) rfl rfl (Nat.le_of_ble_eq_true rfl) dX4_init_6 ?_
  show N l Y X 1 9 [(0, .ref h0)] [] ((h0, .inr (4, [.int 0, .int 0, .int 0, .null, .null, .null, .null, .null, .null])) :: ([])) 0 0
  refine n_aload_n F dX4_init_9 rfl 0 rfl ?_
  refine n_iconst F (v := 0) dX4_init_10 (by decide) ?_
  refine n_put F clX4 1 (by decide) uX4_15 rfl (tyX4_ok 1 (by decide)) rfl rfl (Nat.le_of_ble_eq_true rfl) dX4_init_11 ?_
  show N l Y X 1 14 [(0, .ref h0)] [] ((h0, .inr (4, [.int 0, .int 0, .int 0, .null, .null, .null, .null, .null, .null])) :: ([])) 0 0
  refine n_aload_n F dX4_init_14 rfl 0 rfl ?_
  refine n_sipush F (v := 1000) dX4_init_15 (by decide) ?_
  refine n_put F clX4 2 (by decide) uX4_18 rfl (tyX4_ok 2 (by decide)) rfl rfl (Nat.le_of_ble_eq_true rfl) dX4_init_18 ?_
  show N l Y X 1 21 [(0, .ref h0)] [] ((h0, .inr (4, [.int 0, .int 0, .int 1000, .null, .null, .null, .null, .null, .null])) :: ([])) 0 0
  refine n_aload_n F dX4_init_21 rfl 0 rfl ?_
  refine n_bipush F (v := 20) dX4_init_22 (by decide) ?_
  refine n_newI F (k := 20) (by decide) (by decide) (by decide) (Nat.le_of_ble_eq_true rfl) (Nat.le_of_ble_eq_true rfl) dX4_init_24 (fun q1 => ?_)
  refine n_putF F clX4 hin 3 (by decide) uX4_21 rfl rfl (tyX4_ok 3 (by decide)) rfl rfl (Nat.le_of_ble_eq_true rfl) dX4_init_26 ?_
  show N l Y X 1 29 [(0, .ref h0)] [] ((h0, .inr (4, [.int 0, .int 0, .int 1000, .ref q1, .null, .null, .null, .null, .null])) :: ([(q1, .inl (Y.2.1, 20, .inl (fun _ => 0)))])) 1 20
  refine n_aload_n F dX4_init_29 rfl 0 rfl ?_
  refine n_bipush F (v := 20) dX4_init_30 (by decide) ?_
  refine n_newI F (k := 20) (by decide) (by decide) (by decide) (Nat.le_of_ble_eq_true rfl) (Nat.le_of_ble_eq_true rfl) dX4_init_32 (fun q2 => ?_)
  refine n_putF F clX4 hin 4 (by decide) uX4_25 rfl rfl (tyX4_ok 4 (by decide)) rfl rfl (Nat.le_of_ble_eq_true rfl) dX4_init_34 ?_
  show N l Y X 1 37 [(0, .ref h0)] [] ((h0, .inr (4, [.int 0, .int 0, .int 1000, .ref q1, .ref q2, .null, .null, .null, .null])) :: ([(q1, .inl (Y.2.1, 20, .inl (fun _ => 0)))] ++ [(q2, .inl (Y.2.1, 20, .inl (fun _ => 0)))])) 2 40
  refine n_aload_n F dX4_init_37 rfl 0 rfl ?_
  refine n_bipush F (v := 7) dX4_init_38 (by decide) ?_
  refine n_bipush F (v := 20) dX4_init_40 (by decide) ?_
  refine n_mul F uX4_28 (Nat.le_of_ble_eq_true rfl) (Nat.le_of_ble_eq_true rfl) dX4_init_42 (fun qm => ?_)
  refine n_putF F clX4 hin 5 (by decide) uX4_30 rfl rfl (tyX4_ok 5 (by decide)) rfl rfl (Nat.le_of_ble_eq_true rfl) dX4_init_46 ?_
  show N l Y X 1 49 [(0, .ref h0)] [] ((h0, .inr (4, [.int 0, .int 0, .int 1000, .ref q1, .ref q2, .ref qm, .null, .null, .null])) :: ([(q1, .inl (Y.2.1, 20, .inl (fun _ => 0)))] ++ [(q2, .inl (Y.2.1, 20, .inl (fun _ => 0)))] ++ rowsE Y qm)) 10 187
  refine n_aload_n F dX4_init_49 rfl 0 rfl ?_
  refine n_bipush F (v := 6) dX4_init_50 (by decide) ?_
  refine n_newI F (k := 6) (by decide) (by decide) (by decide) (Nat.le_of_ble_eq_true rfl) (Nat.le_of_ble_eq_true rfl) dX4_init_52 (fun q3 => ?_)
  refine n_putF F clX4 hin 6 (by decide) uX4_33 rfl rfl (tyX4_ok 6 (by decide)) rfl rfl (Nat.le_of_ble_eq_true rfl) dX4_init_54 ?_
  show N l Y X 1 57 [(0, .ref h0)] [] ((h0, .inr (4, [.int 0, .int 0, .int 1000, .ref q1, .ref q2, .ref qm, .ref q3, .null, .null])) :: ([(q1, .inl (Y.2.1, 20, .inl (fun _ => 0)))] ++ [(q2, .inl (Y.2.1, 20, .inl (fun _ => 0)))] ++ rowsE Y qm ++ [(q3, .inl (Y.2.1, 6, .inl (fun _ => 0)))])) 11 193
  refine n_aload_n F dX4_init_57 rfl 0 rfl ?_
  refine n_bipush F (v := 6) dX4_init_58 (by decide) ?_
  refine n_newI F (k := 6) (by decide) (by decide) (by decide) (Nat.le_of_ble_eq_true rfl) (Nat.le_of_ble_eq_true rfl) dX4_init_60 (fun q4 => ?_)
  refine n_putF F clX4 hin 7 (by decide) uX4_36 rfl rfl (tyX4_ok 7 (by decide)) rfl rfl (Nat.le_of_ble_eq_true rfl) dX4_init_62 ?_
  show N l Y X 1 65 [(0, .ref h0)] [] ((h0, .inr (4, [.int 0, .int 0, .int 1000, .ref q1, .ref q2, .ref qm, .ref q3, .ref q4, .null])) :: ([(q1, .inl (Y.2.1, 20, .inl (fun _ => 0)))] ++ [(q2, .inl (Y.2.1, 20, .inl (fun _ => 0)))] ++ rowsE Y qm ++ [(q3, .inl (Y.2.1, 6, .inl (fun _ => 0)))] ++ [(q4, .inl (Y.2.1, 6, .inl (fun _ => 0)))])) 12 199
  refine n_aload_n F dX4_init_65 rfl 0 rfl ?_
  refine n_bipush F (v := 6) dX4_init_66 (by decide) ?_
  refine n_newI F (k := 6) (by decide) (by decide) (by decide) (Nat.le_of_ble_eq_true rfl) (Nat.le_of_ble_eq_true rfl) dX4_init_68 (fun q5 => ?_)
  refine n_putF F clX4 hin 8 (by decide) uX4_39 rfl rfl (tyX4_ok 8 (by decide)) rfl rfl (Nat.le_of_ble_eq_true rfl) dX4_init_70 ?_
  show N l Y X 1 73 [(0, .ref h0)] [] ((h0, .inr (4, [.int 0, .int 0, .int 1000, .ref q1, .ref q2, .ref qm, .ref q3, .ref q4, .ref q5])) :: ([(q1, .inl (Y.2.1, 20, .inl (fun _ => 0)))] ++ [(q2, .inl (Y.2.1, 20, .inl (fun _ => 0)))] ++ rowsE Y qm ++ [(q3, .inl (Y.2.1, 6, .inl (fun _ => 0)))] ++ [(q4, .inl (Y.2.1, 6, .inl (fun _ => 0)))] ++ [(q5, .inl (Y.2.1, 6, .inl (fun _ => 0)))])) 13 205
  exact hR _ _ _ _ _ dX4_init_73 (Nat.le_refl _) (Nat.le_refl _) ⟨_, rfl, eqX4 Y h0 q1 q2 qm q3 q4 q5⟩
