/-! the reference: the land settles -/
def setP (la : Land) (n : Nat) : List Nat := (List.range n).filter (fun b => endsN la b != 0)
theorem setP_succ (la : Land) (n : Nat) : setP la (n + 1) = setP la n ++ (if endsN la n = 0 then [] else [n]) := by
  unfold setP
  rw [List.range_succ, List.filter_append]
  congr 1
  by_cases c : endsN la n = 0
  · rw [if_pos c]
    simp [c]
  · rw [if_neg c]
    simp [c]
theorem setP_len (la : Land) : ∀ n, (setP la n).length ≤ n
  | 0 => by unfold setP; simp
  | n + 1 => by
    have := setP_len la n
    rw [setP_succ, List.length_append]
    split <;> simp <;> omega
theorem low_half0 : allN (fun b => decide (1 ≤ b → (b % 2 = 1 → lowBit b = 0) ∧ (b % 2 = 0 → lowBit b = 1 + lowBit (b / 2)))) 64 = true := by decide +kernel
theorem low_half {b : Nat} (hb : b < 64) (h1 : 1 ≤ b) : (b % 2 = 1 → lowBit b = 0) ∧ (b % 2 = 0 → lowBit b = 1 + lowBit (b / 2)) := of_decide_eq_true (allN_at low_half0 b hb) h1
section STL
variable {x : Nat} {s : St} {D : Dt}
theorem sX10_settles {Q : St → Prop} (hok : okD D) (hR : RdM x D s) (h14 : s.1 (x + 14) 0 = 0) (hQ : ∀ u, Fr (fun k => x ≤ k) s u → RM x ([], laD D, nwD D, [], (none, none), [], s.2.1 x) u → Q u) : wX10_settles x s Q := by
  have l6 : D.2.1.length ≤ 6 := hok.1.2.2.1
  have o3 : okLand (laD D) := hok.1
  have p6 := p2_le l6
  have p0 := Nat.two_pow_pos D.2.1.length
  obtain ⟨d1, d2, d3, dN⟩ := hR
  unfold wX10_settles
  have lp1 : ∀ (K : St → Prop), (∀ u, Fr (fun k => k = x + 2) s u → u.1 (x + 2) 0 = nI D.1 → u.1 (x + 2) 1 = nI D.2.1.length → K u) → ∀ d k u, k + d = 2 → Fr (fun k => k = x + 2) s u → (∀ j, j < k → u.1 (x + 2) j = s.1 (x + 2) (2 + j)) → u.1 (x + 2) 2 = s.1 (x + 2) 2 → u.1 (x + 2) 3 = s.1 (x + 2) 3 → wX10_settles_2 x K Q (d + 1) (nI k) u := by
    intro K hK d
    induction d with
    | zero =>
      intro k u hk hf h1 h2 h3
      have ek : k = 2 := by omega
      subst ek
      unfold wX10_settles_2
      exact ⟨fun _ => hK u hf (by rw [h1 0 (by omega)]; exact d1) (by rw [h1 1 (by omega)]; exact d2), fun z => absurd (Int32.le_refl _) z⟩
    | succ d ih =>
      intro k u hk hf h1 h2 h3
      unfold wX10_settles_2
      rw [show (2 : Int32) + nI k = nI (2 + k) from nI_add 2 k, nI_clamp (show k < 2 ^ 31 by omega), nI_clamp (show 2 + k < 2 ^ 31 by omega), show nI k + (1 : Int32) = nI (k + 1) from nI_add _ 1]
      refine ⟨fun z => absurd ((nI_leI (a := 2) (by omega) (by omega)).mp z) (by omega), fun _ => ⟨vp_in_nI (by omega) (by omega), vp_in_nI (by omega) (by omega), fun v hv => ?_⟩⟩
      have ek : u.1 (x + 2) (2 + k) = s.1 (x + 2) (2 + k) := by
        rcases (show k = 0 ∨ k = 1 by omega) with c | c
        · rw [c]; exact h2
        · rw [c]; exact h3
      rw [ek] at hv
      refine ih (k + 1) v (by omega) (by rw [hv]; exact hf.I rfl) (fun j hj => ?_) (by rw [hv, rI_nj (by omega)]; exact h2) (by rw [hv, rI_nj (by omega)]; exact h3)
      rw [hv]
      by_cases c : j = k
      · subst c; rw [rI_eq]
      · rw [rI_nj c]; exact h1 j (by omega)
  have lp2 : ∀ (K : St → Prop) (s1 : St), (∀ u, Fr (fun k => 3 + x ≤ k ∧ k ≤ x + 5) s1 u → (∀ c, 3 ≤ c → c ≤ 5 → ∀ l, l < 6 → u.1 (x + c) l = s1.1 (x + c) (6 + l)) → K u) → ∀ d k u, k + d = 6 → Fr (fun k => 3 + x ≤ k ∧ k ≤ x + 5) s1 u → (∀ c, 3 ≤ c → c ≤ 5 → (∀ l, l < k → u.1 (x + c) l = s1.1 (x + c) (6 + l)) ∧ ∀ l, 6 ≤ l → u.1 (x + c) l = s1.1 (x + c) l) → wX10_settles_29 x K Q (d + 1) (nI k) u := by
    intro K s1 hK d
    induction d with
    | zero =>
      intro k u hk hf h1
      have ek : k = 6 := by omega
      subst ek
      unfold wX10_settles_29
      exact ⟨fun _ => hK u hf (fun c a b l hl => (h1 c a b).1 l hl), fun z => absurd (Int32.le_refl _) z⟩
    | succ d ih =>
      intro k u hk hf h1
      unfold wX10_settles_29
      rw [show (6 : Int32) + nI k = nI (6 + k) from nI_add 6 k, nI_clamp (show k < 2 ^ 31 by omega), nI_clamp (show 6 + k < 2 ^ 31 by omega), show nI k + (1 : Int32) = nI (k + 1) from nI_add _ 1]
      refine ⟨fun z => absurd ((nI_leI (a := 6) (by omega) (by omega)).mp z) (by omega), fun _ => ⟨vp_in_nI (by omega) (by omega), vp_in_nI (by omega) (by omega), fun v hv => ⟨vp_in_nI (by omega) (by omega), vp_in_nI (by omega) (by omega), fun w hw => ⟨vp_in_nI (by omega) (by omega), vp_in_nI (by omega) (by omega), fun y hy => ?_⟩⟩⟩⟩
      rw [(h1 3 (by omega) (by omega)).2 (6 + k) (by omega)] at hv
      rw [show v.1 (x + 4) (6 + k) = s1.1 (x + 4) (6 + k) from by rw [hv, rI_ne (by omega)]; exact (h1 4 (by omega) (by omega)).2 (6 + k) (by omega)] at hw
      rw [show w.1 (x + 5) (6 + k) = s1.1 (x + 5) (6 + k) from by rw [hw, rI_ne (by omega), hv, rI_ne (by omega)]; exact (h1 5 (by omega) (by omega)).2 (6 + k) (by omega)] at hy
      have val : ∀ c, 3 ≤ c → c ≤ 5 → ∀ l, y.1 (x + c) l = if l = k then s1.1 (x + c) (6 + k) else u.1 (x + c) l := fun c c3 c5 l => by
        rcases (show c = 3 ∨ c = 4 ∨ c = 5 by omega) with e | e | e
        · subst e
          rw [hy, rI_ne (by omega), hw, rI_ne (by omega), hv]
          by_cases q : l = k
          · subst q; rw [rI_eq, if_pos rfl]
          · rw [rI_nj q, if_neg q]
        · subst e
          rw [hy, rI_ne (by omega), hw]
          by_cases q : l = k
          · subst q; rw [rI_eq, if_pos rfl]
          · rw [rI_nj q, if_neg q, hv, rI_ne (by omega)]
        · subst e
          rw [hy]
          by_cases q : l = k
          · subst q; rw [rI_eq, if_pos rfl]
          · rw [rI_nj q, if_neg q, hw, rI_ne (by omega), hv, rI_ne (by omega)]
      refine ih (k + 1) y (by omega) (by rw [hy, hw, hv]; exact ((hf.I ⟨by omega, by omega⟩).I ⟨by omega, by omega⟩).I ⟨by omega, by omega⟩) (fun c c3 c5 => ⟨fun l hl => ?_, fun l hl => ?_⟩)
      · rw [val c c3 c5 l]
        by_cases q : l = k
        · rw [if_pos q, q]
        · rw [if_neg q]; exact (h1 c c3 c5).1 l (by omega)
      · rw [val c c3 c5 l, if_neg (by omega)]
        exact (h1 c c3 c5).2 l hl
  have lp3 : ∀ (K : St → Prop) (s2 : St), (∀ u, Fr (fun k => k = x + 7) s2 u → (∀ j, j < 38 → u.1 (x + 7) j = s2.1 (x + 6) j) → K u) → ∀ d k u, k + d = 38 → Fr (fun k => k = x + 7) s2 u → (∀ j, j < k → u.1 (x + 7) j = s2.1 (x + 6) j) → wX10_settles_88 x K Q (d + 1) (nI k) u := by
    intro K s2 hK d
    induction d with
    | zero =>
      intro k u hk hf h1
      have ek : k = 38 := by omega
      subst ek
      unfold wX10_settles_88
      exact ⟨fun _ => hK u hf h1, fun z => absurd (Int32.le_refl _) z⟩
    | succ d ih =>
      intro k u hk hf h1
      unfold wX10_settles_88
      rw [nI_clamp (show k < 2 ^ 31 by omega), show nI k + (1 : Int32) = nI (k + 1) from nI_add _ 1]
      refine ⟨fun z => absurd ((nI_leI (a := 38) (by omega) (by omega)).mp z) (by omega), fun _ => ⟨vp_in_nI (by omega) (by omega), vp_in_nI (by omega) (by omega), fun v hv => ?_⟩⟩
      rw [hf.1 (x + 6) (by omega)] at hv
      refine ih (k + 1) v (by omega) (by rw [hv]; exact hf.I rfl) (fun j hj => ?_)
      rw [hv]
      by_cases c : j = k
      · subst c; rw [rI_eq]
      · rw [rI_nj c]; exact h1 j (by omega)
  have lp4 : ∀ (K : St → Prop) (s3 : St), s3.1 (x + 2) 1 = nI D.2.1.length → lanesM x D.2.1 s3 → (∀ u, Fr (fun k => k = x ∨ k = x + 13 ∨ k = x + 15 ∨ k = x + 16) s3 u → (∀ j, j ≠ 26 → u.1 x j = s3.1 x j) → (∀ b, 1 ≤ b → b < 64 → u.1 (x + 13) b = nI (endsN (laD D) b) ∧ u.1 (x + 15) b = nI (lowBit b)) → u.1 x 26 = nI (setP (laD D) 64).length → rowAt (u.1 (x + 16)) 0 (setP (laD D) 64) → K u) → ∀ d n u, n + d = 64 → 1 ≤ n → Fr (fun k => k = x ∨ k = x + 13 ∨ k = x + 15 ∨ k = x + 16) s3 u → (∀ j, j ≠ 26 → u.1 x j = s3.1 x j) → (∀ b, 1 ≤ b → b < n → u.1 (x + 13) b = nI (endsN (laD D) b) ∧ u.1 (x + 15) b = nI (lowBit b)) → u.1 x 26 = nI (setP (laD D) n).length → rowAt (u.1 (x + 16)) 0 (setP (laD D) n) → wX10_settles_119 x K Q (d + 1) (nI n) u := by
    intro K s3 e21 hl3 hK d
    induction d with
    | zero =>
      intro n u hn _ hf hx h1 h26 hrw
      have en : n = 64 := by omega
      subst en
      unfold wX10_settles_119
      exact ⟨fun _ => hK u hf hx h1 h26 hrw, fun z => absurd (Int32.le_refl _) z⟩
    | succ d ih =>
      intro n u hn h1n hf hx h1 h26 hrw
      have hlen := setP_len (laD D) n
      have hel := ends_lt o3 n
      have e2u : u.1 (x + 2) ((1 : Int32).toNatClampNeg) = nI D.2.1.length := by rw [hf.1 (x + 2) (by omega)]; exact e21
      have e1 : (1 : Int32) <<< (nI D.2.1.length &&& 31) = nI (2 ^ D.2.1.length) := by
        rw [show (1 : Int32) = nI 1 from rfl, show (31 : Int32) = nI 31 from rfl, fa_and, shl1 (by omega)]

      have t2 : ∀ (v : St) (lo : Int32), Fr (fun k => k = x ∨ k = x + 13 ∨ k = x + 15 ∨ k = x + 16) s3 v → (∀ j, v.1 x j = u.1 x j) → v.1 (x + 15) = u.1 (x + 15) → v.1 (x + 16) = u.1 (x + 16) → (∀ b, 1 ≤ b → b < n + 1 → v.1 (x + 13) b = nI (endsN (laD D) b)) → lo = nI (lowBit n) → wX10_settles_178 (wX10_settles_119 x K Q (d + 1)) K Q x (nI n) lo (nI n) (x + 15) v := by
        intro v lo hfv hvx hv15 hv16 hv13 hlo
        unfold wX10_settles_178 wX10_settles_208
        rw [nI_clamp (show n < 2 ^ 31 by omega)]
        refine ⟨vp_in_nI (by omega) (by omega), fun a ha => ?_⟩
        have a26 : a.1 x 26 = nI (setP (laD D) n).length := by rw [ha, rI_ne (by omega), hvx]; exact h26
        rw [a26, nI_clamp (show (setP (laD D) n).length < 2 ^ 31 by omega)]
        refine ⟨vp_in_nI (by omega) (by omega), fun c hc => ⟨vp_in_nI (by omega) (by omega), ?_⟩⟩
        have c13 : c.1 (x + 13) n = nI (endsN (laD D) n) := by rw [hc, rI_ne (by omega), ha, rI_ne (by omega)]; exact hv13 n h1n (by omega)
        have c26 : c.1 x 26 = nI (setP (laD D) n).length := by rw [hc, rI_ne (by omega)]; exact a26
        rw [c13, c26]
        have go : ∀ (inc : Nat) (e : St), e = stI c x 26 (nI ((setP (laD D) n).length + inc)) → (setP (laD D) (n + 1)).length = (setP (laD D) n).length + inc → rowAt (c.1 (x + 16)) 0 (setP (laD D) (n + 1)) → wX10_settles_119 x K Q (d + 1) (nI (n + 1)) e := by
          intro inc e he hin hrow
          refine ih (n + 1) e (by omega) (by omega) (by rw [he, hc, ha]; exact ((hfv.I (by omega)).I (by omega)).I (by omega)) (fun j hj => ?_) (fun b b1 b2 => ⟨?_, ?_⟩) (by rw [he, rI_eq, hin]) (by rw [he, rI_ne (by omega)]; exact hrow)
          · rw [he, rI_nj hj, hc, rI_ne (by omega), ha, rI_ne (by omega), hvx]; exact hx j hj
          · rw [he, rI_ne (by omega), hc, rI_ne (by omega), ha, rI_ne (by omega)]; exact hv13 b b1 b2
          · rw [he, rI_ne (by omega), hc, rI_ne (by omega), ha]
            by_cases q : b = n
            · subst q; rw [rI_eq]; exact hlo
            · rw [rI_nj q, hv15]; exact (h1 b b1 (by omega)).2
        have c16 : ∀ j, c.1 (x + 16) j = if j = (setP (laD D) n).length then nI n else u.1 (x + 16) j := fun j => by
          rw [hc]
          by_cases q : j = (setP (laD D) n).length
          · subst q; rw [rI_eq, if_pos rfl]
          · rw [rI_nj q, if_neg q, ha, rI_ne (by omega), hv16]
        have base : rowAt (c.1 (x + 16)) 0 (setP (laD D) n) := hrw.cg (fun j hj => by rw [c16, if_neg (by omega)])
        refine ⟨fun z e he => ?_, fun z e he => ?_⟩
        · have z' : endsN (laD D) n = 0 := nI_inj (b := 0) (by omega) (by omega) z
          have hs : setP (laD D) (n + 1) = setP (laD D) n := by rw [setP_succ, if_pos z', List.append_nil]
          rw [show nI n + (1 : Int32) = nI (n + 1) from nI_add _ 1]
          refine go 0 e ?_ (by rw [hs]; rfl) (by rw [hs]; exact base)
          rw [he, show nI (setP (laD D) n).length + (0 : Int32) = nI ((setP (laD D) n).length + 0) from nI_add _ 0]
        · have z' : ¬ endsN (laD D) n = 0 := fun w => z (by rw [w]; rfl)
          have hs : setP (laD D) (n + 1) = setP (laD D) n ++ [n] := by rw [setP_succ, if_neg z']
          rw [show nI n + (1 : Int32) = nI (n + 1) from nI_add _ 1]
          refine go 1 e ?_ (by rw [hs, List.length_append]; rfl) (by
            rw [hs]
            exact rowAt.mk base (rowAt.one.mpr (by rw [Nat.zero_add, c16, if_pos rfl])))
          rw [he, show nI (setP (laD D) n).length + (1 : Int32) = nI ((setP (laD D) n).length + 1) from nI_add _ 1]
      have t1 : ∀ (val : Int32), val = nI (endsN (laD D) n) → wX10_settles_151 (wX10_settles_119 x K Q (d + 1)) K Q x (nI n) val (nI n) (x + 13) u := by
        intro val hval
        unfold wX10_settles_151
        rw [nI_clamp (show n < 2 ^ 31 by omega)]
        refine ⟨vp_in_nI (by omega) (by omega), fun v hv => ?_⟩
        have hfv : Fr (fun k => k = x ∨ k = x + 13 ∨ k = x + 15 ∨ k = x + 16) s3 v := by rw [hv]; exact hf.I (by omega)
        have hvx : ∀ j, v.1 x j = u.1 x j := fun j => by rw [hv, rI_ne (by omega)]
        have hv15 : v.1 (x + 15) = u.1 (x + 15) := by rw [hv]; exact rI_ne (by omega)
        have hv16 : v.1 (x + 16) = u.1 (x + 16) := by rw [hv]; exact rI_ne (by omega)
        have hv13 : ∀ b, 1 ≤ b → b < n + 1 → v.1 (x + 13) b = nI (endsN (laD D) b) := fun b b1 b2 => by
          rw [hv]
          by_cases q : b = n
          · subst q; rw [rI_eq]; exact hval
          · rw [rI_nj q]; exact (h1 b b1 (by omega)).1
        have lh := low_half (b := n) (by omega) h1n
        have eand : nI n &&& (1 : Int32) = nI (n % 2) := by
          rw [show (1 : Int32) = nI 1 from rfl, fa_and, Nat.and_one_is_mod]
        have esh : nI n >>> ((1 : Int32) &&& 31) = nI (n / 2) := by
          have := pk_shrN (n := n) (by omega) ((1 : Int32) &&& 31) 1 (by decide)
          rw [this]
        rw [eand, esh, nI_clamp (show n / 2 < 2 ^ 31 by omega)]
        refine ⟨fun z => ⟨vp_in_nI (by omega) (by omega), t2 v _ hfv hvx hv15 hv16 hv13 ?_⟩, fun z => t2 v _ hfv hvx hv15 hv16 hv13 ?_⟩
        · have z' : n % 2 = 0 := by
            have : ¬ n % 2 = 1 := fun w => z (by rw [w]; rfl)
            omega
          rw [hv15, (h1 (n / 2) (by omega) (by omega)).2, show (1 : Int32) = nI 1 from rfl, nI_add, lh.2 z']
        · have z' : n % 2 = 1 := nI_inj (b := 1) (by omega) (by omega) z
          rw [lh.1 z']
          rfl
      unfold wX10_settles_119
      rw [e2u, e1]
      refine ⟨fun z => absurd ((nI_leI (a := 64) (by omega) (by omega)).mp z) (by omega), fun _ => ⟨vp_in_nI (n := 1) (by omega) (by omega), fun z => t1 _ ?_, fun z => ?_⟩⟩
      · have z' := (nI_leI (by omega) (by omega)).mp z
        rw [ends_ge (la := laD D) z']
        rfl
      · have z' : n < 2 ^ D.2.1.length := by
          rcases Nat.lt_or_ge n (2 ^ D.2.1.length) with w | w
          · exact w
          · exact absurd ((nI_leI (by omega) (by omega)).mpr w) z
        have hlu : lanesM x D.2.1 u := fun l hl => by
          rw [hf.1 (x + 3) (by omega), hf.1 (x + 4) (by omega)]
          exact hl3 l hl
        refine sX10_endsOf o3.ls hlu z' (by omega) (t1 _ ?_)
        rw [endsV_eq o3 (by omega) (by omega)]
  refine ⟨_, lp1 _ ?_ 2 0 s rfl Fr.rf (fun j hj => by omega) rfl rfl⟩
  intro u1 hf1 a0 a1
  refine ⟨_, lp2 _ u1 ?_ 6 0 u1 rfl Fr.rf (fun c _ _ => ⟨fun l hl => by omega, fun l _ => rfl⟩)⟩
  intro u2 hf2 b2
  refine ⟨_, lp3 _ u2 ?_ 38 0 u2 rfl Fr.rf (fun j hj => by omega)⟩
  intro u3 hf3 b3 u4 hu4
  have hl4 : lanesM x D.2.1 u4 := fun l hl => by
    have := d3 l _ _ _ (laneG hl)
    rw [hu4, rI_ne (by omega), rI_ne (by omega), hf3.1 (x + 3) (by omega), hf3.1 (x + 4) (by omega), b2 3 (by omega) (by omega) l (by omega), b2 4 (by omega) (by omega) l (by omega), hf1.1 (x + 3) (by omega), hf1.1 (x + 4) (by omega)]
    exact ⟨this.1, this.2.1⟩
  have e21 : u4.1 (x + 2) 1 = nI D.2.1.length := by
    rw [hu4, rI_ne (by omega), hf3.1 (x + 2) (by omega), hf2.1 (x + 2) (by omega)]; exact a1
  have s1n : setP (laD D) 1 = [] := by
    rw [setP_succ, if_pos ends_0, List.append_nil]
    rfl
  refine ⟨_, lp4 _ u4 e21 hl4 ?_ 63 1 u4 (by omega) (by omega) Fr.rf (fun j _ => rfl) (fun b b1 b2 => by omega) (by rw [s1n, hu4, rI_eq]; rfl) (by rw [s1n]; exact rowAt.nil)⟩
  intro u5 hf5 hx5 w1 w2 w3
  intro c1 hc1 c2 hc2 c3 hc3
  refine ⟨vp_in_nI (n := 0) (by omega) (by omega), fun c4 hc4 => ⟨vp_in_nI (n := 1) (by omega) (by omega), fun c5 hc5 => ?_⟩⟩
  have hc4' : c4 = stI c3 (x + 9) 0 0 := hc4
  have hc5' : c5 = stI c4 (x + 9) 1 0 := hc5
  have hf4 : Fr (fun k => x ≤ k) u3 u4 := by rw [hu4]; exact Fr.rf.I (Nat.le_refl _)
  have hfc : Fr (fun k => k = x ∨ k = x + 9) u5 c5 := by
    rw [hc5', hc4', hc3, hc2, hc1]
    exact ((((Fr.rf.I (Or.inl rfl)).I (Or.inl rfl)).I (Or.inl rfl)).I (Or.inr rfl)).I (Or.inr rfl)
  have hfs4 : Fr (fun k => k = x ∨ (x + 2 ≤ k ∧ k ≤ x + 5) ∨ k = x + 7) s u4 := by
    rw [hu4]
    exact (((hf1.wk (by intro k; omega)).tr (hf2.wk (by intro k; omega))).tr (hf3.wk (by intro k; omega))).I (Or.inl rfl)
  have hall : Fr (fun k => k = x ∨ (x + 2 ≤ k ∧ k ≤ x + 5) ∨ k = x + 7 ∨ k = x + 9 ∨ k = x + 13 ∨ k = x + 15 ∨ k = x + 16) s c5 := ((hfs4.wk (by intro k; omega)).tr (hf5.wk (by intro k; omega))).tr (hfc.wk (by intro k; omega))
  have cc : ∀ k, k ≠ x → k ≠ x + 9 → c5.1 k = u5.1 k := fun k k1 k2 => hfc.1 k (by omega)
  have c54 : ∀ k, k ≠ x → k ≠ x + 9 → k ≠ x + 13 → k ≠ x + 15 → k ≠ x + 16 → c5.1 k = u4.1 k := fun k k1 k2 k3 k4 k5 => by rw [cc k k1 k2]; exact hf5.1 k (by omega)
  have cx : ∀ j, c5.1 x j = c3.1 x j := fun j => by rw [hc5', rI_ne (by omega), hc4', rI_ne (by omega)]
  refine hQ c5 (hall.wk (by intro k; omega)) ⟨⟨?_, rowAt.nil⟩, ⟨?_, ?_, fun l a b sp hl => ?_⟩, ?_, ⟨?_, fun j N hj => by simp at hj⟩, ⟨?_, ?_, fun N hN => (by cases hN), fun N hN => (by cases hN)⟩, ⟨?_, fun k l i hk => by simp at hk⟩, ⟨fun b b1 b2 => ?_, ?_, ?_, ?_⟩, by rw [hall.2]⟩
  · rw [cx, hc3, rI_nj (by omega), hc2, rI_nj (by omega), hc1, rI_eq]; rfl
  · rw [c54 (x + 2) (by omega) (by omega) (by omega) (by omega) (by omega), hu4, rI_ne (by omega), hf3.1 (x + 2) (by omega), hf2.1 (x + 2) (by omega)]; exact a0
  · rw [c54 (x + 2) (by omega) (by omega) (by omega) (by omega) (by omega)]; exact e21
  · have hll := (List.getElem?_eq_some_iff.mp hl).1
    have hll2 : l < D.2.1.length := hll
    have := d3 l a b sp hl
    have e : ∀ c, 3 ≤ c → c ≤ 5 → c5.1 (x + c) l = s.1 (x + c) (6 + l) := fun c c3' c5' => by
      rw [c54 (x + c) (by omega) (by omega) (by omega) (by omega) (by omega), hu4, rI_ne (by omega), hf3.1 (x + c) (by omega), b2 c c3' c5' l (by omega), hf1.1 (x + c) (by omega)]
    rw [e 3 (by omega) (by omega), e 4 (by omega) (by omega), e 5 (by omega) (by omega)]
    exact this
  · refine NowM.cp (o' := 0) dN (hok.2.W o3) (fun k hk => ?_)
    rw [Nat.zero_add, c54 (x + 7) (by omega) (by omega) (by omega) (by omega) (by omega), hu4, rI_ne (by omega), b3 k hk, hf2.1 (x + 6) (by omega), hf1.1 (x + 6) (by omega)]
  · rw [cx, hc3, rI_eq]; rfl
  · rw [hc5', rI_nj (by omega), hc4', rI_eq]; rfl
  · rw [hc5', rI_eq]; rfl
  · rw [cx, hc3, rI_nj (by omega), hc2, rI_eq]; rfl
  · rw [cc (x + 13) (by omega) (by omega), cc (x + 15) (by omega) (by omega)]; exact w1 b b1 b2
  · rw [cx, hc3, rI_nj (by omega), hc2, rI_nj (by omega), hc1, rI_nj (by omega)]; exact w2
  · rw [cc (x + 16) (by omega) (by omega)]; exact w3
  · rw [hall.1 (x + 14) (by omega)]; exact h14
theorem kX10_land {S : Sp} {Q : Int32 → St → Prop} (h : RM x S s) (hok : okSp S) (hQ : ∀ t, RM x (cLand S).2 t → Fr (fun k => x ≤ k) s t → Q (cLand S).1 t) : wX10_land x s Q := by
  obtain ⟨o1, o2, o3, -⟩ := id hok
  unfold cLand at hQ
  unfold wX10_land
  refine thM h (fun s' h' hf => ?_)
  intro a ha b hb
  have hfb : FrD x s' b := by
    rw [hb, ha]
    refine FrD.tr (t := stI s' x 8 (-1)) FrD.rf.f ?_
    exact FrD.X (FrX.I FrX.rf (by omega) (by omega))
  refine sX10_begins (fun u hfu hux hRu => ?_)
  have u8 : u.1 x 8 = -1 := by rw [hux, hb, rI_nj (by omega), ha, rI_eq]
  have u4 : u.1 x 4 = nI 0 := by rw [hux, hb, rI_eq]; rfl
  have hfsu : FrD x s' u := hfb.tr hfu
  have hT := h'.1
  refine sX10_advances (p := 0) (hT.frd hfsu) o1 o2 (by omega) u4 (fun v hfv hcv => ?_)
  have hfsv : FrD x s' v := hfsu.tr (FrD.X hfv)
  refine ⟨_, sX10_land_lp hT o1 o2 ?_ ?_ (S.1.length + 1) D0 0 0 v (by omega) (by omega) (by omega) okD0 (fun _ => rfl) rfl hfsv (by rw [hfv.2 8 (by omega)]; exact u8) hcv (hRu.frx hfv)⟩
  · intro w e i hfw hrd he hw8
    rw [hrd] at hQ
    unfold wX10_isWell
    rw [hw8]
    refine ⟨fun _ => ⟨fun z => absurd rfl z, fun _ => ?_⟩, fun z => absurd (nI_pos' (by omega)) z⟩
    have q := hQ w (h'.frd o3 hfw) (hf.tr (hfw.1.wk (by intro k; omega)))
    rw [hw8]
    exact q
  · intro w q hfw hrd hw8 hRw
    rw [hrd] at hQ
    unfold wX10_isWell
    rw [hw8]
    refine ⟨fun z => absurd z fa_neg, fun _ => ⟨fun _ => ?_, fun z => absurd z (by decide)⟩⟩
    refine sX10_settles (readS_ok hrd) hRw ?_ (fun y hfy hRy => ?_)
    · rw [hfw.1.1 (x + 14) (by omega)]; exact h'.2.2.2.2.2.2.1.2.2.2
    · rw [show w.2.1 x = S.2.2.2.2.2.2 from by rw [hfw.1.2]; exact h'.2.2.2.2.2.2.2] at hRy
      exact hQ y hRy ((hf.tr (hfw.1.wk (by intro k; omega))).tr hfy)
end STL
