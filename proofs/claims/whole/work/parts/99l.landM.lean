/-! the reference: its text read as a whole -/
section LDM
variable {x : Nat} {s : St} {T : List Nat}
theorem sX10_readsItem {D : Dt} {tk : Tk} {Q : St → Prop} (h : TextM x T s) (hT : T.length ≤ 120) (hT2 : ∀ a ∈ T, a ≤ 255) (hp : tk.2.2.2 ≤ T.length) (hw : s.1 x 8 = -1) (hc : CurM x (tok T tk.2.2.2) s) (hok : okD D) (hR : RdM x D s) (hk : (tk.1 = 108 ∧ D.2.1.length < 6 ∧ ItP x T s (laneS T D tk) Q) ∨ (tk.1 = 109 ∧ D.2.2.2.length < 4 ∧ ItP x T s (mapR T D 5 [] tk) Q) ∨ (tk.1 = 110 ∧ ItP x T s (placesS T D tk) Q)) : wX10_readsItem x (nI tk.1) s Q := by
  unfold wX10_readsItem
  rcases hk with ⟨k1, k2, k3⟩ | ⟨k1, k2, k3⟩ | ⟨k1, k3⟩
  · rw [k1]
    exact ⟨fun _ => ⟨fun z => absurd rfl z, fun _ => sX10_readsLane h hT hT2 hp hw hc hok k2 hR k3⟩, fun z => absurd z (by decide)⟩
  · rw [k1]
    exact ⟨fun _ => ⟨fun _ => sX10_readsMap h hT hT2 hp hw hc hok k2 hR k3, fun z => absurd z (by decide)⟩, fun z => absurd z (by decide)⟩
  · rw [k1]
    refine ⟨fun z => absurd rfl z, fun _ => ?_⟩
    have f1 := tok_facts hp
    have f2 := tok_facts (T := T) f1.2.2.1
    obtain ⟨hQ0, hQ1⟩ := k3
    unfold placesS at hQ0 hQ1
    generalize htok1 : tok T tk.2.2.2 = t1 at hQ0 hQ1 f1 f2 hc
    generalize htok2 : tok T t1.2.2.2 = t2 at hQ0 hQ1 f2
    refine sX10_numberW (lo := 2) (hi := 5) h hT hT2 hw hc (by omega) (by omega) (by omega) (by omega) (fun z1 u1 hf1 hc1 => ⟨vp_in_nI (n := 2) (by omega) (by omega), fun v hv => ?_⟩) (fun z1 u hu => ⟨vp_in_nI (n := 2) (by omega) (by omega), fun v hv => ?_⟩)
    · rw [z1, if_pos rfl] at hQ1
      rw [htok2] at hc1
      have hv2 : v = stI u1 (x + 2) 2 (nI t1.2.1) := hv
      have vx : v.1 x = u1.1 x := by rw [hv2]; exact rI_ne (by omega)
      have ne : ∀ k, k ≠ x + 2 → v.1 k = u1.1 k := fun k hk => by rw [hv2]; exact rI_ne hk
      have hRu := hR.frx hf1
      refine hQ1 v t2 (t1.2.1, D.2) (by rw [hv2]; exact (FrD.X hf1).m (by omega)) (by rw [vx, hf1.2 8 (by omega)]; exact hw) (by unfold CurM at *; rw [vx]; exact hc1) (by omega) (by omega) (by omega) ⟨by rw [hv2, rI_eq], by rw [hv2, rI_nj (by omega)]; exact hRu.2.1, fun l a b sp hl => by rw [ne (x + 3) (by omega), ne (x + 4) (by omega), ne (x + 5) (by omega)]; exact hRu.2.2.1 l a b sp hl, by rw [ne (x + 6) (by omega)]; exact hRu.2.2.2⟩ rfl
    · rw [z1] at hQ0
      have hv2 : v = stI u (x + 2) 2 0 := hv
      have hfu : FrD x s u := by rw [hu]; exact FrD.rf.f
      refine hQ0 v (by rw [hv2]; exact hfu.m (by omega)) rfl (show t1.2.2.1 ≤ 200 by omega) ?_
      rw [hv2, rI_ne (by omega), hu, rI_eq]
      rfl
theorem sX10_begins {Q : St → Prop} (hQ : ∀ u, FrD x s u → u.1 x = s.1 x → RdM x D0 u → Q u) : wX10_begins x s Q := by
  have lp : ∀ d k u, k + d = 38 → FrD x s u → u.1 x = s.1 x → u.1 (x + 2) 2 = nI 2 → u.1 (x + 2) 3 = nI 0 → (∀ j, j < k → u.1 (x + 6) j = 0) → wX10_begins_16 x Q (d + 1) (nI k) u := by
    intro d
    induction d with
    | zero =>
      intro k u hk hf hx h2 h3 h0
      have ek : k = 38 := by omega
      subst ek
      unfold wX10_begins_16
      refine ⟨fun _ => hQ u hf hx ⟨h2, h3, fun l a b sp hl => by simp [D0] at hl, fun j p hp => by simp [nwD, D0] at hp, ?_, fun m w hw => by simp [nwD, D0] at hw, rowAt.nil, ?_, ?_⟩, fun z => absurd (Int32.le_refl _) z⟩
      · exact h0 _ (by omega)
      · exact h0 _ (by omega)
      · exact h0 _ (by omega)
    | succ d ih =>
      intro k u hk hf hx h2 h3 h0
      unfold wX10_begins_16
      refine ⟨fun z => absurd ((nI_leI (a := 38) (by omega) (by omega)).mp z) (by omega), fun _ => ⟨vp_in_nI (by omega) (by omega), fun v hv => ?_⟩⟩
      rw [nI_clamp (by omega)] at hv
      rw [show nI k + (1 : Int32) = nI (k + 1) from (nI_succ _).symm]
      refine ih (k + 1) v (by omega) (by rw [hv]; exact hf.d) (by rw [hv, rI_ne (by omega)]; exact hx) (by rw [hv, rI_ne (by omega)]; exact h2) (by rw [hv, rI_ne (by omega)]; exact h3) (fun j hj => ?_)
      rw [hv]
      by_cases c : j = k
      · subst c; rw [rI_eq]
      · rw [rI_nj c]; exact h0 j (by omega)
  unfold wX10_begins
  refine ⟨vp_in_nI (n := 2) (by omega) (by omega), fun a ha => ⟨vp_in_nI (n := 3) (by omega) (by omega), fun b hb => ?_⟩⟩
  have ha2 : a = stI s (x + 2) 2 2 := ha
  have hb2 : b = stI a (x + 2) 3 0 := hb
  refine ⟨_, lp 38 0 b rfl (by rw [hb2, ha2]; exact (FrD.rf.m (by omega)).m (by omega)) (by rw [hb2, rI_ne (by omega), ha2, rI_ne (by omega)]) (by rw [hb2, rI_nj (by omega), ha2, rI_eq]; rfl) (by rw [hb2, rI_eq]; rfl) (fun j hj => by omega)⟩
theorem sX10_land_lp {K : Int32 → St → Prop} {Q : Int32 → St → Prop} (h : TextM x T s) (hT : T.length ≤ 120) (hT2 : ∀ a ∈ T, a ≤ 255) (hL : ∀ u e i, FrD x s u → readS T = Sum.inl e → e ≤ 200 → u.1 x 8 = nI e → K i u) (hR : ∀ u q, FrD x s u → readS T = Sum.inr q → u.1 x 8 = -1 → RdM x q.1 u → K (nI q.2) u) : ∀ (f : Nat) (D : Dt) (p i : Nat) (u : St), p ≤ T.length → T.length + 1 ≤ f + (tok T p).2.2.1 → i ≤ (tok T p).2.2.1 → okD D → (i = 0 → D = D0) → readS T = itemsS T f D (tok T p) i → FrD x s u → u.1 x 8 = -1 → CurM x (tok T p) u → RdM x D u → wX10_land_25 x K Q (f + 1) (nI i) u := by
  intro f
  induction f with
  | zero =>
    intro D p i v hp hf hi
    have := tok_facts hp
    omega
  | succ f ih =>
    intro D p i u hp hf hi hok hi0 hrd hfu h8 hc hRu
    have f1 := tok_facts hp
    have nx := itemS_nx (T := T) (D := D) (tk := tok T p) (i := i) f1.2.2.1 f1.2.1
    have hok2 : ∀ D2, (itemS T D (tok T p) i).1 = some D2 → okD D2 := fun D2 hz => itemS_ok hok hi0 hz
    unfold itemsS at hrd
    have l6 : D.2.1.length ≤ 6 := hok.1.2.2.1
    have m4 : D.2.2.2.length ≤ 4 := hok.2.2.2.1
    unfold wX10_land_25 wX10_isWell
    rw [h8]
    refine ⟨fun z => absurd z fa_neg, fun _ => ⟨fun z => absurd z (by decide), fun _ => ?_⟩⟩
    rw [hc.2.1]
    refine ⟨fun z => ?_, fun z => ?_⟩
    · have z' := rk_0.mp ((rkI (tok T p).1 0 (by omega)).mp z)
      rw [if_pos z'] at hrd
      exact hR u (D, i) hfu hrd h8 hRu
    have c0 : ¬ (tok T p).1 = 0 := fun y => z ((rkI (tok T p).1 0 (by omega)).mpr (rk_0.mpr y))
    rw [if_neg c0] at hrd
    have hs := f1.2.2.2.2.2.1 c0
    have hlt := tok_end hp c0
    generalize htk : tok T p = tk at *

    have fin0 : ∀ (e : Nat) (v : St), FrD x s v → e ≤ 200 → v.1 x 8 = nI e → readS T = Sum.inl e → ∀ c : Int32, wX10_takes x c v (fun r_153 s_153 => wX10_land_25 x K Q (f + 1) (nI i + (1 : Int32)) s_153) := by
      intro e v hfv he hv8 hre c
      refine sX10_takesF hv8 he ?_
      unfold wX10_land_25 wX10_isWell
      rw [hv8]
      exact ⟨fun _ => ⟨fun _ => hL v e _ hfv hre he hv8, fun y => absurd rfl y⟩, fun y => absurd (nI_pos' (by omega)) y⟩
    have end0 : ∀ (e : Nat) (v : St), FrD x s v → e ≤ 200 → v.1 x 8 = nI e → readS T = Sum.inl e → wX10_land_139 (wX10_land_25 x K Q (f + 1)) K Q x (nI i) v := by
      intro e v hfv he hv8 hre
      unfold wX10_land_139 wX10_land_153
      exact ⟨fun _ => fin0 e v hfv he hv8 hre 0, fun _ => fin0 e v hfv he hv8 hre 1⟩
    have end1 : ∀ (t : Tk) (D2 : Dt) (v : St), FrD x s v → v.1 x 8 = -1 → CurM x t v → t.2.2.2 ≤ T.length → t.2.2.1 ≤ t.2.2.2 → t.1 ≤ 110 → RdM x D2 v → itemS T D tk i = (if t.1 = 59 then (some D2, t) else (none, t)) → wX10_land_139 (wX10_land_25 x K Q (f + 1)) K Q x (nI i) v := by
      intro t D2 v hfv hv8 hcv ht1 ht2 ht3 hRv hit
      unfold wX10_land_139 wX10_land_153
      rw [hcv.2.1]
      refine ⟨fun y => ?_, fun y => ?_⟩
      · have y' : ¬ t.1 = 59 := fun w => y ((rkI t.1 3 (by omega)).mpr (rk_3.mpr w))
        rw [if_neg y'] at hit
        rw [hit] at hrd
        refine sX10_takes0 hv8 hcv.2.2.1 (fun w hw => ?_)
        have w8 : w.1 x 8 = nI t.2.2.1 := by rw [hw, rI_eq]
        unfold wX10_land_25 wX10_isWell
        rw [w8]
        exact ⟨fun _ => ⟨fun _ => hL w _ _ (by rw [hw]; exact hfv.f) hrd (by omega) w8, fun y => absurd rfl y⟩, fun y => absurd (nI_pos' (by omega)) y⟩
      · have y' := rk_3.mp ((rkI t.1 3 (by omega)).mp y)
        rw [if_pos y'] at hit
        rw [hit] at hrd nx hok2
        dsimp only at hrd nx
        refine sX10_takesT (h.frd hfv) hT hT2 hv8 (by decide) ht1 hcv.1 (fun w hfw hcw => ?_)
        have f2 := tok_facts (T := T) ht1
        rw [show nI i + (1 : Int32) = nI (i + 1) from (nI_succ _).symm]
        exact ih D2 t.2.2.2 (i + 1) w ht1 (by omega) (by omega) (hok2 D2 rfl) (fun q => by omega) hrd (hfv.tr (FrD.X hfw)) (by rw [hfw.2 8 (by omega)]; exact hv8) hcw (hRv.frx hfw)
    have no : itemS T D tk i = (none, tk) → wX10_land_122 (wX10_land_25 x K Q (f + 1)) K Q x (nI i) x u := by
      intro hit
      rw [hit] at hrd
      unfold wX10_land_122 wX10_land_123
      refine sX10_takes0 h8 hc.2.2.1 (fun v hv => ?_)
      have v8 : v.1 x 8 = nI tk.2.2.1 := by rw [hv, rI_eq]
      unfold wX10_isWell
      rw [v8]
      exact ⟨fun _ => ⟨fun _ => end0 _ v (by rw [hv]; exact hfu.f) (by omega) v8 hrd, fun y => absurd rfl y⟩, fun y => absurd (nI_pos' (by omega)) y⟩
    have yes : (∀ v, FrX x u v → (tk.1 = 108 ∧ D.2.1.length < 6 ∧ ItP x T v (laneS T D tk) (fun s_136 => wX10_land_139 (wX10_land_25 x K Q (f + 1)) K Q x (nI i) s_136)) ∨ (tk.1 = 109 ∧ D.2.2.2.length < 4 ∧ ItP x T v (mapR T D 5 [] tk) (fun s_136 => wX10_land_139 (wX10_land_25 x K Q (f + 1)) K Q x (nI i) s_136)) ∨ (tk.1 = 110 ∧ ItP x T v (placesS T D tk) (fun s_136 => wX10_land_139 (wX10_land_25 x K Q (f + 1)) K Q x (nI i) s_136))) → 59 ≤ tk.1 → wX10_land_123 (wX10_land_25 x K Q (f + 1)) K Q x (nI i) 1 x u := by
      intro hk h59
      unfold wX10_land_123
      refine sX10_takesT (h.frd hfu) hT hT2 h8 (by decide) (by omega) hc.1 (fun v hfv hcv => ?_)
      have v8 : v.1 x 8 = -1 := by rw [hfv.2 8 (by omega)]; exact h8
      unfold wX10_isWell
      rw [v8, hc.2.2.2.2 h59]
      refine ⟨fun y => absurd y fa_neg, fun _ => ⟨fun y => absurd y (by decide), fun _ => ?_⟩⟩
      exact sX10_readsItem (TextM.frx (h.frd hfu) hfv) hT hT2 (by omega) v8 hcv hok (hRu.frx hfv) (hk v hfv)
    have itp : ∀ (R : Option Dt × Tk), itemS T D tk i = R → ∀ v, FrX x u v → ItP x T v R (fun s_136 => wX10_land_139 (wX10_land_25 x K Q (f + 1)) K Q x (nI i) s_136) := by
      intro R hitR v hfv
      have hfsv : FrD x s v := hfu.tr (FrD.X hfv)
      refine ⟨fun w hfw hn hle hw8 => end0 _ w (hfsv.tr hfw) hle hw8 ?_, fun w t D2 hfw hw8 hcw a1 a2 a3 hRw hRe => end1 t D2 w (hfsv.tr hfw) hw8 hcw a1 a2 a3 hRw (hitR.trans hRe)⟩
      rw [hitR] at hrd
      cases hR2 : R with
      | mk r t =>
        rw [hR2] at hrd hn
        dsimp only at hn
        rw [hn] at hrd
        exact hrd
    have h104n : itemS T D tk i = (none, tk) → ∀ c : Int32, (c = 0 ∨ ¬ rk tk.1 = 1) → wX10_land_104 (wX10_land_25 x K Q (f + 1)) K Q x (nI i) c u := by
      intro hit c hcc
      unfold wX10_land_104
      rw [hc.2.1]
      refine ⟨fun _ => no hit, fun y => ⟨fun _ => no hit, fun y2 => ?_⟩⟩
      rcases hcc with w | w
      · exact absurd w y2
      · exact absurd ((rkI tk.1 1 (by omega)).mp y) w
    have e6 : u.1 (x + 6) ((6 : Int32).toNatClampNeg) = nI D.2.2.2.length := hRu.2.2.2.2.1
    have e3 : u.1 (x + 2) ((3 : Int32).toNatClampNeg) = nI D.2.1.length := hRu.2.1
    rw [e6, e3]
    by_cases hletter : tk.1 = 108 ∨ tk.1 = 109 ∨ tk.1 = 110
    · have h59 : 59 ≤ tk.1 := by omega
      have hrk : rk tk.1 = 1 := rk_1.mpr (by omega)
      rw [hc.2.2.2.2 h59]
      have h104y : wX10_land_123 (wX10_land_25 x K Q (f + 1)) K Q x (nI i) 1 x u → wX10_land_104 (wX10_land_25 x K Q (f + 1)) K Q x (nI i) 1 u := by
        intro hy
        unfold wX10_land_104
        rw [hc.2.1]
        exact ⟨fun y => absurd ((rkI tk.1 1 (by omega)).mpr hrk) y, fun _ => ⟨fun y => absurd y (by decide), fun _ => hy⟩⟩
      refine ⟨fun y1 => ⟨fun y2 => ⟨vp_in_nI (n := 6) (by omega) (by omega), fun y3 => ?_, fun y3 => ?_⟩, fun y2 => ⟨vp_in_nI (n := 3) (by omega) (by omega), fun y3 => ?_, fun y3 => ?_⟩⟩, fun y1 => ⟨fun y2 => ?_, fun y2 => ?_⟩⟩
      · have n1 : ¬ tk.1 = 110 := fun w => y1 (by rw [w]; rfl)
        have n2 : ¬ tk.1 = 108 := fun w => y2 (by rw [w]; rfl)
        have y3' := (nI_leI (a := 4) (by omega) (by omega)).mp y3
        refine h104n ?_ 0 (Or.inl rfl)
        unfold itemS
        rw [if_neg n2, if_pos (show tk.1 = 109 by omega), if_pos y3']
      · have n1 : ¬ tk.1 = 110 := fun w => y1 (by rw [w]; rfl)
        have n2 : ¬ tk.1 = 108 := fun w => y2 (by rw [w]; rfl)
        have y3' : ¬ 4 ≤ D.2.2.2.length := fun w => y3 ((nI_leI (a := 4) (by omega) (by omega)).mpr w)
        refine h104y (yes (fun v hfv => Or.inr (Or.inl ⟨by omega, by omega, itp _ ?_ v hfv⟩)) h59)
        unfold itemS
        rw [if_neg n2, if_pos (show tk.1 = 109 by omega), if_neg y3']
      · have n2 : tk.1 = 108 := nI_inj (b := 108) (by omega) (by omega) y2
        have y3' := (nI_leI (a := 6) (by omega) (by omega)).mp y3
        refine h104n ?_ 0 (Or.inl rfl)
        unfold itemS
        rw [if_pos n2, if_pos y3']
      · have n2 : tk.1 = 108 := nI_inj (b := 108) (by omega) (by omega) y2
        have y3' : ¬ 6 ≤ D.2.1.length := fun w => y3 ((nI_leI (a := 6) (by omega) (by omega)).mpr w)
        refine h104y (yes (fun v hfv => Or.inl ⟨n2, by omega, itp _ ?_ v hfv⟩) h59)
        unfold itemS
        rw [if_pos n2, if_neg y3']
      · have n1 : tk.1 = 110 := nI_inj (b := 110) (by omega) (by omega) y1
        refine h104n ?_ 0 (Or.inl rfl)
        unfold itemS
        rw [if_neg (by omega), if_neg (by omega), if_pos n1, if_neg (fun w => y2 (by rw [w]; rfl))]
      · have n1 : tk.1 = 110 := nI_inj (b := 110) (by omega) (by omega) y1
        have n2 : i = 0 := nI_inj (b := 0) (by omega) (by omega) y2
        refine h104y (yes (fun v hfv => Or.inr (Or.inr ⟨n1, itp _ ?_ v hfv⟩)) h59)
        unfold itemS
        rw [if_neg (by omega), if_neg (by omega), if_pos n1, if_pos n2]
    · have hit : itemS T D tk i = (none, tk) := by
        unfold itemS
        rw [if_neg (by omega), if_neg (by omega), if_neg (by omega)]
      have hk3 : tk.1 = 1 ∨ tk.1 = 2 ∨ tk.1 = 59 := by
        have hkk : (tok T p).1 = 0 ∨ (tok T p).1 = 1 ∨ (tok T p).1 = 2 ∨ (tok T p).1 = 110 ∨ (tok T p).1 = 108 ∨ (tok T p).1 = 109 ∨ (tok T p).1 = 59 := by
          unfold tok
          cases T.drop (p + spN (T.drop p)) with
          | nil => left; rfl
          | cons a r =>
            rw [tokA_cons]
            split
            · dsimp only; split <;> omega
            · dsimp only
              split
              · rename_i hl
                unfold isLt at hl
                have := of_decide_eq_true hl
                omega
              · omega
        rw [htk] at hkk
        omega
      have hrk : ¬ rk tk.1 = 1 := fun w => by have := rk_1.mp w; omega
      have any := fun c : Int32 => h104n hit c (Or.inr hrk)
      exact ⟨fun _ => ⟨fun _ => ⟨vp_in_nI (n := 6) (by omega) (by omega), fun _ => any 0, fun _ => any 1⟩, fun _ => ⟨vp_in_nI (n := 3) (by omega) (by omega), fun _ => any 0, fun _ => any 1⟩⟩, fun _ => ⟨fun _ => any 0, fun _ => any 1⟩⟩
end LDM
