/-! THE LAW'S START -/
theorem u_arrN : Cond.arrayOver (.object RX2) ∈ lw_tbl := List.mem_of_getElem? (i := 236) (by decide +kernel)
theorem u_arrA : Cond.arrayOver (.array .int) ∈ lw_tbl := List.mem_of_getElem? (i := 256) (by decide +kernel)
theorem lw_env {s : State} {b : Nat} (hts : ∀ w ∈ lw_tbl, w.before #[Value.ref b] s = true) : ∃ Y : NV, va_K Y.1 vwCl (tyC Y) s ∧ Nst s := by
  have hu : ∀ w ∈ lw_u, w.before #[Value.ref b] s = true := fun w hw => hts w (List.mem_filter.mp hw).1
  have key : ∀ k : Nat, ∃ (cC : ClassId) (iS : Nat → Nat), ∀ q, vwCl[k]? = some q → u_Kn s q.1 q.2.1 q.2.2 cC iS := by
    intro k
    match k with
    | 0 =>
      obtain ⟨c, i, h⟩ := u_known (C := RX0) (T := TX0) (N := 3) hu cwX0 (hu _ uinstX0)
      exact ⟨c, i, fun q hq => by cases hq; exact h⟩
    | 1 =>
      obtain ⟨c, i, h⟩ := u_known (C := RX1) (T := TX1) (N := 6) hu cwX1 (hu _ uinstX1)
      exact ⟨c, i, fun q hq => by cases hq; exact h⟩
    | 2 =>
      obtain ⟨c, i, h⟩ := u_known (C := RX2) (T := TX2) (N := 5) hu cwX2 (hu _ uinstX2)
      exact ⟨c, i, fun q hq => by cases hq; exact h⟩
    | 3 =>
      obtain ⟨c, i, h⟩ := u_known (C := RX3) (T := TX3) (N := 3) hu cwX3 (hu _ uinstX3)
      exact ⟨c, i, fun q hq => by cases hq; exact h⟩
    | 4 =>
      obtain ⟨c, i, h⟩ := u_known (C := RX4) (T := TX4) (N := 9) hu cwX4 (hu _ uinstX4)
      exact ⟨c, i, fun q hq => by cases hq; exact h⟩
    | 5 =>
      obtain ⟨c, i, h⟩ := u_known (C := RX5) (T := TX5) (N := 4) hu cwX5 (hu _ uinstX5)
      exact ⟨c, i, fun q hq => by cases hq; exact h⟩
    | 6 =>
      obtain ⟨c, i, h⟩ := u_known (C := RX6) (T := TX6) (N := 7) hu cwX6 (hu _ uinstX6)
      exact ⟨c, i, fun q hq => by cases hq; exact h⟩
    | 7 =>
      obtain ⟨c, i, h⟩ := u_known (C := RX7) (T := TX7) (N := 6) hu cwX7 (hu _ uinstX7)
      exact ⟨c, i, fun q hq => by cases hq; exact h⟩
    | 8 =>
      obtain ⟨c, i, h⟩ := u_known (C := RX8) (T := TX8) (N := 8) hu cwX8 (hu _ uinstX8)
      exact ⟨c, i, fun q hq => by cases hq; exact h⟩
    | 9 =>
      obtain ⟨c, i, h⟩ := u_known (C := RX9) (T := TX9) (N := 14) hu cwX9 (hu _ uinstX9)
      exact ⟨c, i, fun q hq => by cases hq; exact h⟩
    | 10 =>
      obtain ⟨c, i, h⟩ := u_known (C := RX10) (T := TX10) (N := 35) hu cwX10 (hu _ uinstX10)
      exact ⟨c, i, fun q hq => by cases hq; exact h⟩
    | k + 11 => exact ⟨0, fun _ => 0, fun q hq => by simp [vwCl] at hq⟩
  obtain ⟨i1, i2, i3, i4, i5, i6⟩ := Cond.arrayClass_spec (hu _ u_arrI)
  obtain ⟨z1, z2, z3, z4, z5, z6⟩ := Cond.arrayClass_spec (hu _ u_arrZ)
  obtain ⟨n1, n2, n3, n4, -, n5, n6, n7⟩ := Cond.arrayOver_spec (hts _ u_arrN)
  have hAI : AOI s := hts _ u_arrA
  obtain ⟨g1, g2, g3, g4, -, g5, g6, g7⟩ := hAI.spec
  refine ⟨((fun k => Classical.choose (key k), fun k => Classical.choose (Classical.choose_spec (key k))), (i1, z1, n2, g2)), ⟨fun k q hq => Classical.choose_spec (Classical.choose_spec (key k)) q hq, fun k q hq => ?_⟩, fun own idx y hm => va_Nw.of rfl (hts _ hm), va_AO.of (hts _ u_arrN), hAI⟩
  match k, hq with
  | 0, hq => cases hq; exact ⟨fun _ _ => ⟨(fun k h => by cases h), i2, i5, i3, i6⟩, i4⟩
  | 1, hq => cases hq; exact ⟨fun _ _ => ⟨(fun k h => by cases h), z2, z5, z3, z6⟩, z4⟩
  | 2, hq => cases hq; exact ⟨fun _ _ => ⟨(fun k h => by cases h), n3, n5, n1, n6⟩, n3, n1, n5, n6, n4, n7⟩
  | 3, hq => cases hq; exact ⟨fun _ _ => ⟨(fun k h => by cases h), g3, g5, g1, g6⟩, g7⟩
  | k + 4, hq => cases hq
theorem lw_start {p : Program} {e : Env} {s : State} {m : MethodId} {below : List Frame} {meth : Method} {c : Code} (l : Launch) {b L : Nat} {xs : Nat → Int32} (hL : L ≤ 192) (C0 : lw_At p s m meth c b L xs) (h4 : ∀ Y : NV, Cn yX4_init cX4_init 1 1 13 205 l Y 4 fsX4 (poX4 Y)) : W p l e room_1 s m #[Value.ref b] below meth c s.heap [] 0 0 (lw_Z below #[Value.ref b] s) (entryFrame m ([Value.ref b] : List Value).toArray 4) := by
  obtain ⟨hx, hb, hr, hml, hown, hts, hX, hbl, hlocks, hgv⟩ := id C0
  have hu : ∀ w ∈ lw_u, w.before #[Value.ref b] s = true := fun w hw => hts w (List.mem_filter.mp hw).1
  obtain ⟨Y, hK, hNst⟩ := lw_env hts
  have F : FxN Y (p, e, room_1, s, m, #[Value.ref b], below, meth, c, (0, 0), lw_Z below #[Value.ref b] s, (fun q => s.heap.size ≤ q)) cL_law RL 4 60 600000 7302250 := ⟨hx, hb, hml, hown, hu, hK, fun _ h => h, hlocks, ⟨Nat.le_of_ble_eq_true rfl, Nat.le_of_ble_eq_true rfl⟩, Nat.le_of_ble_eq_true rfl, Nat.le_of_ble_eq_true rfl, hNst⟩
  rw [lg_entry_eq]
  suffices h : N l Y (p, e, room_1, s, m, #[Value.ref b], below, meth, c, (0, 0), lw_Z below #[Value.ref b] s, (fun q => s.heap.size ≤ q)) 4 0 [(0, .ref b)] [] [] 0 0 by
    exact h s.heap [] _ (fun k q hq => by cases hq) ⟨fun i j p q hq => (by cases hq), fun k q hq => by cases hq⟩ va_S.rf (lv_entry [.ref b] (Nat.le_of_ble_eq_true rfl))
  refine n_new F clX9 tyX9_ok dfX9 uL_7 uinstX9 uiniX9 (Nat.le_of_ble_eq_true rfl) (Nat.le_of_ble_eq_true rfl) dL_law_0 (fun h9 => ?_)
  refine n_dup F dL_law_3 rfl ?_
  refine n_call F (iniX9 l Y (h4 Y)) miX9 uL_9 (by decide) (Nat.le_of_ble_eq_true rfl) (Nat.le_of_ble_eq_true rfl) (Nat.le_of_ble_eq_true rfl) dL_law_4 (fun w9 hw9 => ?_)
  refine n_astore_n F dL_law_7 rfl (by decide) (lv' := [(1, .ref h9), (0, .ref b)]) rfl ?_
  refine n_new F clX10 tyX10_ok dfX10 uL_10 uinstX10 uiniX10 (Nat.le_of_ble_eq_true rfl) (Nat.le_of_ble_eq_true rfl) dL_law_8 (fun hm => ?_)
  refine n_dup F dL_law_11 rfl ?_
  refine n_call F (iniX10 l Y) miX10 uL_12 (by decide) (Nat.le_of_ble_eq_true rfl) (Nat.le_of_ble_eq_true rfl) (Nat.le_of_ble_eq_true rfl) dL_law_12 (fun w10 hw10 => ?_)
  refine n_astore_n F dL_law_15 rfl (by decide) (lv' := [(2, .ref hm), (1, .ref h9), (0, .ref b)]) rfl ?_
  refine n_iconst F (v := 0) dL_law_16 (by decide) ?_
  refine n_istore_n F dL_law_17 rfl (by decide) (lv' := [(3, .int 0), (2, .ref hm), (1, .ref h9), (0, .ref b)]) rfl ?_
  obtain ⟨a1, a2, a3, a4, a5, a6, a7, a8, a9, a10, a11, t2, t3, qi, b0, b1, hg2, hg3, e9⟩ := hw9
  obtain ⟨am, tm, rfl, e10, hRM⟩ := hw10
  refine n_widen (c' := 600000) (n' := 7302250) (Nat.le_of_ble_eq_true rfl) (Nat.le_of_ble_eq_true rfl) ?_
  refine n_of_g (Ds := DESC) (a := glA h9 qi a1 a2 a3 a4 a5 a6 a7 a8 a9 a10 a11 b0 b1 am) (σ := glS t2 t3 tm) F ?_ (Nat.le_refl _) (Nat.le_refl _) (fun F1 => ?_)
  · rw [e9, e10, glue]
    simp only [List.append_assoc, List.cons_append, List.nil_append]
  refine g_weak [3, 2, 1, 0] rfl ?_
  refine lw_loop (Inv := InvL) hL F1 rfl ⟨hX, hbl, Nat.not_le.mpr hbl⟩ lw_inv ?_ (L + 3) 0 _ (by omega) (by omega) (inv00 hg2 hRM)
  intro σ lv H locs ls hP hS hl
  exact va_forget (fun q hq => hS.2.2 q hq) (lw_ret hx hb hr hlocks dL_law_893)
