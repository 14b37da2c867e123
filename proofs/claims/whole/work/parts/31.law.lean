/-! the law: its loop, over a step that holds an invariant; printed by program -/
/-- a call of the class and the same call of the reference answer alike, and lead to Q -/
def lwStep (k : Nat) (a b : Int32) (σ : St) (Q : St → Prop) : Prop := match k with
  | 0 => wX9_type a σ (fun r s1 => wX10_type 99 a s1 (fun r2 s2 => r = r2 ∧ Q s2))
  | 1 => wX9_clear  σ (fun r s1 => wX10_clear 99  s1 (fun r2 s2 => r = r2 ∧ Q s2))
  | 2 => wX9_land  σ (fun r s1 => wX10_land 99  s1 (fun r2 s2 => r = r2 ∧ Q s2))
  | 3 => wX9_lane a b σ (fun r s1 => wX10_lane 99 a b s1 (fun r2 s2 => r = r2 ∧ Q s2))
  | 4 => wX9_map a b σ (fun r s1 => wX10_map 99 a b s1 (fun r2 s2 => r = r2 ∧ Q s2))
  | 5 => wX9_place a b σ (fun r s1 => wX10_place 99 a b s1 (fun r2 s2 => r = r2 ∧ Q s2))
  | 6 => wX9_now a σ (fun r s1 => wX10_now 99 a s1 (fun r2 s2 => r = r2 ∧ Q s2))
  | 7 => wX9_names a σ (fun r s1 => wX10_names 99 a s1 (fun r2 s2 => r = r2 ∧ Q s2))
  | 8 => wX9_asks  σ (fun r s1 => wX10_asks 99  s1 (fun r2 s2 => r = r2 ∧ Q s2))
  | 9 => wX9_digs a b σ (fun r s1 => wX10_digs 99 a b s1 (fun r2 s2 => r = r2 ∧ Q s2))
  | 10 => wX9_burns a σ (fun r s1 => wX10_burns 99 a s1 (fun r2 s2 => r = r2 ∧ Q s2))
  | 11 => wX9_wipes  σ (fun r s1 => wX10_wipes 99  s1 (fun r2 s2 => r = r2 ∧ Q s2))
  | 12 => wX9_undo  σ (fun r s1 => wX10_undo 99  s1 (fun r2 s2 => r = r2 ∧ Q s2))
  | 13 => wX9_far a b σ (fun r s1 => wX10_far 99 a b s1 (fun r2 s2 => r = r2 ∧ Q s2))
  | 14 => wX9_by a b σ (fun r s1 => wX10_by 99 a b s1 (fun r2 s2 => r = r2 ∧ Q s2))
  | 15 => wX9_knot a σ (fun r s1 => wX10_knot 99 a s1 (fun r2 s2 => r = r2 ∧ Q s2))
  | 16 => wX9_asking a σ (fun r s1 => wX10_asking 99 a s1 (fun r2 s2 => r = r2 ∧ Q s2))
  | 17 => wX9_clash  σ (fun r s1 => wX10_clash 99  s1 (fun r2 s2 => r = r2 ∧ Q s2))
  | 18 => wX9_fire a σ (fun r s1 => wX10_fire 99 a s1 (fun r2 s2 => r = r2 ∧ Q s2))
  | 19 => wX9_spite a σ (fun r s1 => wX10_spite 99 a s1 (fun r2 s2 => r = r2 ∧ Q s2))
  | 20 => wX9_spiteful a σ (fun r s1 => wX10_spiteful 99 a s1 (fun r2 s2 => r = r2 ∧ Q s2))
  | 21 => wX9_odds a b σ (fun r s1 => wX10_odds 99 a b s1 (fun r2 s2 => r = r2 ∧ Q s2))
  | 22 => wX9_took a b σ (fun r s1 => wX10_took 99 a b s1 (fun r2 s2 => r = r2 ∧ Q s2))
  | 23 => wX9_forget  σ (fun r s1 => wX10_forget 99  s1 (fun r2 s2 => r = r2 ∧ Q s2))
  | 24 => wX9_can a σ (fun r s1 => wX10_can 99 a s1 (fun r2 s2 => r = r2 ∧ Q s2))
  | 25 => wX9_look  σ (fun r s1 => wX10_look 99  s1 (fun r2 s2 => r = r2 ∧ Q s2))
  | 26 => wX9_rate a b σ (fun r s1 => wX10_rate 99 a b s1 (fun r2 s2 => r = r2 ∧ Q s2))
  | 27 => wX9_keep a σ (fun r s1 => wX10_keep 99 a s1 (fun r2 s2 => r = r2 ∧ Q s2))
  | 28 => wX9_back a σ (fun r s1 => wX10_back 99 a s1 (fun r2 s2 => r = r2 ∧ Q s2))
  | 29 => wX9_count a σ (fun r s1 => wX10_count 99 a s1 (fun r2 s2 => r = r2 ∧ Q s2))
  | 30 => wX9_trace  σ (fun r s1 => wX10_trace 99  s1 (fun r2 s2 => r = r2 ∧ Q s2))
  | _ => Q σ
theorem lg_cmp_self (x : Int64) : lg_cmp x x = 0 := by simp [lg_cmp]
section GLW
variable {l : Launch} {V : Wv} {X : Mx} {cc : ByteArray} {own : String} {nL lev pc : Nat} {lv : List (Nat × Value)} {st : List Value} {σ : St}
/-- the script lies outside of what may change -/
def ScX (X : Mx) (b L : Nat) (xs : Nat → Int32) : Prop := va_X b L xs X.2.2.2.1 X.2.2.2.1.heap ∧ b < X.2.2.2.1.heap.size ∧ ¬ X.2.2.2.2.2.2.2.2.2.2.2 b
theorem g_aloadS (F : Fx V X cc own nL lev) {f : Fin 4} {i b : Nat} (d : decode cc pc = .ok (.aload_n f, 1)) (hi : (f : Nat) = i) (n : Nat) (h : lv[n]? = some (i, .ref b)) (k : G l V X nL (pc + 1) lv (.ref b :: st) σ) : G l V X nL pc lv st σ := fun H locs ls hP hS hl => lv_aload_n F.1 F.2.1 d hi (lv_at hl n h) (k H locs ls hP hS hl)
theorem g_sld (F : Fx V X cc own nL lev) {b L : Nat} {xs : Nat → Int32} {i : Int32} (hS : ScX X b L xs) (hin : vp_in i L) (d : decode cc pc = .ok (.iaload, 1)) (k : G l V X nL (pc + 1) lv (.int (xs i.toNatClampNeg) :: st) σ) : G l V X nL pc lv (.int i :: .ref b :: st) σ := fun H locs ls hP h1 hl => va_sld F.1 F.2.1 hS.1 hS.2.1 hS.2.2 h1 hin d (k H locs ls hP h1 hl)
theorem g_slen (F : Fx V X cc own nL lev) {b L : Nat} {xs : Nat → Int32} (hS : ScX X b L xs) (d : decode cc pc = .ok (.arraylength, 1)) (k : G l V X nL (pc + 1) lv (.int (nI L) :: st) σ) : G l V X nL pc lv (.ref b :: st) σ := fun H locs ls hP h1 hl => va_slen F.1 F.2.1 hS.1 hS.2.1 hS.2.2 h1 d (k H locs ls hP h1 hl)
end GLW
theorem ic_3' : Int32.ofInt 3 = 3 := by decide
section GLS
variable {l : Launch} {V : Wv} {X : Mx} {b L : Nat} {xs : Nat → Int32} {x3 : Int32} {σ : St} {Inv : St → Prop}
theorem lw_case_0 (F : Fx V X cL_law RL 4 60) (hV : V.2.1 = DESC) (hS : ScX X b L xs) (h1 : vp_in (x3 + (1 : Int32)) L) (h2 : vp_in (x3 + (2 : Int32)) L) (tail : ∀ s : St, Inv s → G l V X 4 886 [(0, .ref b), (1, rf V 0), (2, rf V 99), (3, .int x3)] [] s) (h : lwStep 0 (xs ((x3 + (1 : Int32)).toNatClampNeg)) (xs ((x3 + (2 : Int32)).toNatClampNeg)) σ Inv) : G l V X 4 172 [(0, .ref b), (1, rf V 0), (2, rf V 99), (3, .int x3)] [] σ := by
  change wX9_type (xs ((x3 + (1 : Int32)).toNatClampNeg)) σ (fun r s1 => wX10_type 99 (xs ((x3 + (1 : Int32)).toNatClampNeg)) s1 (fun r2 s2 => r = r2 ∧ Inv s2)) at h
  refine g_aload_n (pc := 172) F dL_law_172 rfl 1 rfl ?_
  refine g_aloadS (pc := 173) F dL_law_173 rfl 0 rfl ?_
  refine g_iload_n (pc := 174) F dL_law_174 rfl 3 rfl ?_
  refine g_iconst (pc := 175) F dL_law_175 ic_1 ?_
  refine g_iadd (pc := 176) F dL_law_176 ?_
  refine g_sld (pc := 177) F hS h1 dL_law_177 ?_
  refine g_callVi (pc := 178) F (mX9_type hV h) mvX9_type uL_13 (by decide) clX9 (sh_0 hV) rfl rfl (Nat.le_of_ble_eq_true rfl) dL_law_178 (fun r_1 s_1 h => ?_)
  refine g_aload_n (pc := 181) F dL_law_181 rfl 2 rfl ?_
  refine g_aloadS (pc := 182) F dL_law_182 rfl 0 rfl ?_
  refine g_iload_n (pc := 183) F dL_law_183 rfl 3 rfl ?_
  refine g_iconst (pc := 184) F dL_law_184 ic_1 ?_
  refine g_iadd (pc := 185) F dL_law_185 ?_
  refine g_sld (pc := 186) F hS h1 dL_law_186 ?_
  refine g_callVi (pc := 187) F (mX10_type (is_99 hV) h) mvX10_type uL_17 (by decide) clX10 (is_99 hV).1 rfl rfl (Nat.le_of_ble_eq_true rfl) dL_law_187 (fun r_2 s_2 h => ?_)
  refine g_icmp_eq (pc := 190) F 886 dL_law_190 (by decide) (fun c => ?_) (fun c => absurd h.1 c)
  exact tail _ h.2
theorem lw_case_1 (F : Fx V X cL_law RL 4 60) (hV : V.2.1 = DESC) (hS : ScX X b L xs) (h1 : vp_in (x3 + (1 : Int32)) L) (h2 : vp_in (x3 + (2 : Int32)) L) (tail : ∀ s : St, Inv s → G l V X 4 886 [(0, .ref b), (1, rf V 0), (2, rf V 99), (3, .int x3)] [] s) (h : lwStep 1 (xs ((x3 + (1 : Int32)).toNatClampNeg)) (xs ((x3 + (2 : Int32)).toNatClampNeg)) σ Inv) : G l V X 4 195 [(0, .ref b), (1, rf V 0), (2, rf V 99), (3, .int x3)] [] σ := by
  change wX9_clear  σ (fun r s1 => wX10_clear 99  s1 (fun r2 s2 => r = r2 ∧ Inv s2)) at h
  refine g_aload_n (pc := 195) F dL_law_195 rfl 1 rfl ?_
  refine g_callVi (pc := 196) F (mX9_clear hV h) mvX9_clear uL_18 (by decide) clX9 (sh_0 hV) rfl rfl (Nat.le_of_ble_eq_true rfl) dL_law_196 (fun r_1 s_1 h => ?_)
  refine g_aload_n (pc := 199) F dL_law_199 rfl 2 rfl ?_
  refine g_callVi (pc := 200) F (mX10_clear (is_99 hV) h) mvX10_clear uL_22 (by decide) clX10 (is_99 hV).1 rfl rfl (Nat.le_of_ble_eq_true rfl) dL_law_200 (fun r_2 s_2 h => ?_)
  refine g_icmp_eq (pc := 203) F 886 dL_law_203 (by decide) (fun c => ?_) (fun c => absurd h.1 c)
  exact tail _ h.2
theorem lw_case_2 (F : Fx V X cL_law RL 4 60) (hV : V.2.1 = DESC) (hS : ScX X b L xs) (h1 : vp_in (x3 + (1 : Int32)) L) (h2 : vp_in (x3 + (2 : Int32)) L) (tail : ∀ s : St, Inv s → G l V X 4 886 [(0, .ref b), (1, rf V 0), (2, rf V 99), (3, .int x3)] [] s) (h : lwStep 2 (xs ((x3 + (1 : Int32)).toNatClampNeg)) (xs ((x3 + (2 : Int32)).toNatClampNeg)) σ Inv) : G l V X 4 208 [(0, .ref b), (1, rf V 0), (2, rf V 99), (3, .int x3)] [] σ := by
  change wX9_land  σ (fun r s1 => wX10_land 99  s1 (fun r2 s2 => r = r2 ∧ Inv s2)) at h
  refine g_aload_n (pc := 208) F dL_law_208 rfl 1 rfl ?_
  refine g_callVi (pc := 209) F (mX9_land hV h) mvX9_land uL_23 (by decide) clX9 (sh_0 hV) rfl rfl (Nat.le_of_ble_eq_true rfl) dL_law_209 (fun r_1 s_1 h => ?_)
  refine g_aload_n (pc := 212) F dL_law_212 rfl 2 rfl ?_
  refine g_callVi (pc := 213) F (mX10_land (is_99 hV) h) mvX10_land uL_26 (by decide) clX10 (is_99 hV).1 rfl rfl (Nat.le_of_ble_eq_true rfl) dL_law_213 (fun r_2 s_2 h => ?_)
  refine g_icmp_eq (pc := 216) F 886 dL_law_216 (by decide) (fun c => ?_) (fun c => absurd h.1 c)
  exact tail _ h.2
theorem lw_case_3 (F : Fx V X cL_law RL 4 60) (hV : V.2.1 = DESC) (hS : ScX X b L xs) (h1 : vp_in (x3 + (1 : Int32)) L) (h2 : vp_in (x3 + (2 : Int32)) L) (tail : ∀ s : St, Inv s → G l V X 4 886 [(0, .ref b), (1, rf V 0), (2, rf V 99), (3, .int x3)] [] s) (h : lwStep 3 (xs ((x3 + (1 : Int32)).toNatClampNeg)) (xs ((x3 + (2 : Int32)).toNatClampNeg)) σ Inv) : G l V X 4 221 [(0, .ref b), (1, rf V 0), (2, rf V 99), (3, .int x3)] [] σ := by
  change wX9_lane (xs ((x3 + (1 : Int32)).toNatClampNeg)) (xs ((x3 + (2 : Int32)).toNatClampNeg)) σ (fun r s1 => wX10_lane 99 (xs ((x3 + (1 : Int32)).toNatClampNeg)) (xs ((x3 + (2 : Int32)).toNatClampNeg)) s1 (fun r2 s2 => r = r2 ∧ Inv s2)) at h
  refine g_aload_n (pc := 221) F dL_law_221 rfl 1 rfl ?_
  refine g_aloadS (pc := 222) F dL_law_222 rfl 0 rfl ?_
  refine g_iload_n (pc := 223) F dL_law_223 rfl 3 rfl ?_
  refine g_iconst (pc := 224) F dL_law_224 ic_1 ?_
  refine g_iadd (pc := 225) F dL_law_225 ?_
  refine g_sld (pc := 226) F hS h1 dL_law_226 ?_
  refine g_aloadS (pc := 227) F dL_law_227 rfl 0 rfl ?_
  refine g_iload_n (pc := 228) F dL_law_228 rfl 3 rfl ?_
  refine g_iconst (pc := 229) F dL_law_229 ic_2 ?_
  refine g_iadd (pc := 230) F dL_law_230 ?_
  refine g_sld (pc := 231) F hS h2 dL_law_231 ?_
  refine g_callVi (pc := 232) F (mX9_lane hV h) mvX9_lane uL_27 (by decide) clX9 (sh_0 hV) rfl rfl (Nat.le_of_ble_eq_true rfl) dL_law_232 (fun r_1 s_1 h => ?_)
  refine g_aload_n (pc := 235) F dL_law_235 rfl 2 rfl ?_
  refine g_aloadS (pc := 236) F dL_law_236 rfl 0 rfl ?_
  refine g_iload_n (pc := 237) F dL_law_237 rfl 3 rfl ?_
  refine g_iconst (pc := 238) F dL_law_238 ic_1 ?_
  refine g_iadd (pc := 239) F dL_law_239 ?_
  refine g_sld (pc := 240) F hS h1 dL_law_240 ?_
  refine g_aloadS (pc := 241) F dL_law_241 rfl 0 rfl ?_
  refine g_iload_n (pc := 242) F dL_law_242 rfl 3 rfl ?_
  refine g_iconst (pc := 243) F dL_law_243 ic_2 ?_
  refine g_iadd (pc := 244) F dL_law_244 ?_
  refine g_sld (pc := 245) F hS h2 dL_law_245 ?_
  refine g_callVi (pc := 246) F (mX10_lane (is_99 hV) h) mvX10_lane uL_31 (by decide) clX10 (is_99 hV).1 rfl rfl (Nat.le_of_ble_eq_true rfl) dL_law_246 (fun r_2 s_2 h => ?_)
  refine g_icmp_eq (pc := 249) F 886 dL_law_249 (by decide) (fun c => ?_) (fun c => absurd h.1 c)
  exact tail _ h.2
theorem lw_case_4 (F : Fx V X cL_law RL 4 60) (hV : V.2.1 = DESC) (hS : ScX X b L xs) (h1 : vp_in (x3 + (1 : Int32)) L) (h2 : vp_in (x3 + (2 : Int32)) L) (tail : ∀ s : St, Inv s → G l V X 4 886 [(0, .ref b), (1, rf V 0), (2, rf V 99), (3, .int x3)] [] s) (h : lwStep 4 (xs ((x3 + (1 : Int32)).toNatClampNeg)) (xs ((x3 + (2 : Int32)).toNatClampNeg)) σ Inv) : G l V X 4 254 [(0, .ref b), (1, rf V 0), (2, rf V 99), (3, .int x3)] [] σ := by
  change wX9_map (xs ((x3 + (1 : Int32)).toNatClampNeg)) (xs ((x3 + (2 : Int32)).toNatClampNeg)) σ (fun r s1 => wX10_map 99 (xs ((x3 + (1 : Int32)).toNatClampNeg)) (xs ((x3 + (2 : Int32)).toNatClampNeg)) s1 (fun r2 s2 => r = r2 ∧ Inv s2)) at h
  refine g_aload_n (pc := 254) F dL_law_254 rfl 1 rfl ?_
  refine g_aloadS (pc := 255) F dL_law_255 rfl 0 rfl ?_
  refine g_iload_n (pc := 256) F dL_law_256 rfl 3 rfl ?_
  refine g_iconst (pc := 257) F dL_law_257 ic_1 ?_
  refine g_iadd (pc := 258) F dL_law_258 ?_
  refine g_sld (pc := 259) F hS h1 dL_law_259 ?_
  refine g_aloadS (pc := 260) F dL_law_260 rfl 0 rfl ?_
  refine g_iload_n (pc := 261) F dL_law_261 rfl 3 rfl ?_
  refine g_iconst (pc := 262) F dL_law_262 ic_2 ?_
  refine g_iadd (pc := 263) F dL_law_263 ?_
  refine g_sld (pc := 264) F hS h2 dL_law_264 ?_
  refine g_callVi (pc := 265) F (mX9_map hV h) mvX9_map uL_32 (by decide) clX9 (sh_0 hV) rfl rfl (Nat.le_of_ble_eq_true rfl) dL_law_265 (fun r_1 s_1 h => ?_)
  refine g_aload_n (pc := 268) F dL_law_268 rfl 2 rfl ?_
  refine g_aloadS (pc := 269) F dL_law_269 rfl 0 rfl ?_
  refine g_iload_n (pc := 270) F dL_law_270 rfl 3 rfl ?_
  refine g_iconst (pc := 271) F dL_law_271 ic_1 ?_
  refine g_iadd (pc := 272) F dL_law_272 ?_
  refine g_sld (pc := 273) F hS h1 dL_law_273 ?_
  refine g_aloadS (pc := 274) F dL_law_274 rfl 0 rfl ?_
  refine g_iload_n (pc := 275) F dL_law_275 rfl 3 rfl ?_
  refine g_iconst (pc := 276) F dL_law_276 ic_2 ?_
  refine g_iadd (pc := 277) F dL_law_277 ?_
  refine g_sld (pc := 278) F hS h2 dL_law_278 ?_
  refine g_callVi (pc := 279) F (mX10_map (is_99 hV) h) mvX10_map uL_35 (by decide) clX10 (is_99 hV).1 rfl rfl (Nat.le_of_ble_eq_true rfl) dL_law_279 (fun r_2 s_2 h => ?_)
  refine g_icmp_eq (pc := 282) F 886 dL_law_282 (by decide) (fun c => ?_) (fun c => absurd h.1 c)
  exact tail _ h.2
theorem lw_case_5 (F : Fx V X cL_law RL 4 60) (hV : V.2.1 = DESC) (hS : ScX X b L xs) (h1 : vp_in (x3 + (1 : Int32)) L) (h2 : vp_in (x3 + (2 : Int32)) L) (tail : ∀ s : St, Inv s → G l V X 4 886 [(0, .ref b), (1, rf V 0), (2, rf V 99), (3, .int x3)] [] s) (h : lwStep 5 (xs ((x3 + (1 : Int32)).toNatClampNeg)) (xs ((x3 + (2 : Int32)).toNatClampNeg)) σ Inv) : G l V X 4 287 [(0, .ref b), (1, rf V 0), (2, rf V 99), (3, .int x3)] [] σ := by
  change wX9_place (xs ((x3 + (1 : Int32)).toNatClampNeg)) (xs ((x3 + (2 : Int32)).toNatClampNeg)) σ (fun r s1 => wX10_place 99 (xs ((x3 + (1 : Int32)).toNatClampNeg)) (xs ((x3 + (2 : Int32)).toNatClampNeg)) s1 (fun r2 s2 => r = r2 ∧ Inv s2)) at h
  refine g_aload_n (pc := 287) F dL_law_287 rfl 1 rfl ?_
  refine g_aloadS (pc := 288) F dL_law_288 rfl 0 rfl ?_
  refine g_iload_n (pc := 289) F dL_law_289 rfl 3 rfl ?_
  refine g_iconst (pc := 290) F dL_law_290 ic_1 ?_
  refine g_iadd (pc := 291) F dL_law_291 ?_
  refine g_sld (pc := 292) F hS h1 dL_law_292 ?_
  refine g_aloadS (pc := 293) F dL_law_293 rfl 0 rfl ?_
  refine g_iload_n (pc := 294) F dL_law_294 rfl 3 rfl ?_
  refine g_iconst (pc := 295) F dL_law_295 ic_2 ?_
  refine g_iadd (pc := 296) F dL_law_296 ?_
  refine g_sld (pc := 297) F hS h2 dL_law_297 ?_
  refine g_callVi (pc := 298) F (mX9_place hV h) mvX9_place uL_36 (by decide) clX9 (sh_0 hV) rfl rfl (Nat.le_of_ble_eq_true rfl) dL_law_298 (fun r_1 s_1 h => ?_)
  refine g_aload_n (pc := 301) F dL_law_301 rfl 2 rfl ?_
  refine g_aloadS (pc := 302) F dL_law_302 rfl 0 rfl ?_
  refine g_iload_n (pc := 303) F dL_law_303 rfl 3 rfl ?_
  refine g_iconst (pc := 304) F dL_law_304 ic_1 ?_
  refine g_iadd (pc := 305) F dL_law_305 ?_
  refine g_sld (pc := 306) F hS h1 dL_law_306 ?_
  refine g_aloadS (pc := 307) F dL_law_307 rfl 0 rfl ?_
  refine g_iload_n (pc := 308) F dL_law_308 rfl 3 rfl ?_
  refine g_iconst (pc := 309) F dL_law_309 ic_2 ?_
  refine g_iadd (pc := 310) F dL_law_310 ?_
  refine g_sld (pc := 311) F hS h2 dL_law_311 ?_
  refine g_callVi (pc := 312) F (mX10_place (is_99 hV) h) mvX10_place uL_39 (by decide) clX10 (is_99 hV).1 rfl rfl (Nat.le_of_ble_eq_true rfl) dL_law_312 (fun r_2 s_2 h => ?_)
  refine g_icmp_eq (pc := 315) F 886 dL_law_315 (by decide) (fun c => ?_) (fun c => absurd h.1 c)
  exact tail _ h.2
theorem lw_case_6 (F : Fx V X cL_law RL 4 60) (hV : V.2.1 = DESC) (hS : ScX X b L xs) (h1 : vp_in (x3 + (1 : Int32)) L) (h2 : vp_in (x3 + (2 : Int32)) L) (tail : ∀ s : St, Inv s → G l V X 4 886 [(0, .ref b), (1, rf V 0), (2, rf V 99), (3, .int x3)] [] s) (h : lwStep 6 (xs ((x3 + (1 : Int32)).toNatClampNeg)) (xs ((x3 + (2 : Int32)).toNatClampNeg)) σ Inv) : G l V X 4 320 [(0, .ref b), (1, rf V 0), (2, rf V 99), (3, .int x3)] [] σ := by
  change wX9_now (xs ((x3 + (1 : Int32)).toNatClampNeg)) σ (fun r s1 => wX10_now 99 (xs ((x3 + (1 : Int32)).toNatClampNeg)) s1 (fun r2 s2 => r = r2 ∧ Inv s2)) at h
  refine g_aload_n (pc := 320) F dL_law_320 rfl 1 rfl ?_
  refine g_aloadS (pc := 321) F dL_law_321 rfl 0 rfl ?_
  refine g_iload_n (pc := 322) F dL_law_322 rfl 3 rfl ?_
  refine g_iconst (pc := 323) F dL_law_323 ic_1 ?_
  refine g_iadd (pc := 324) F dL_law_324 ?_
  refine g_sld (pc := 325) F hS h1 dL_law_325 ?_
  refine g_callVi (pc := 326) F (mX9_now hV h) mvX9_now uL_40 (by decide) clX9 (sh_0 hV) rfl rfl (Nat.le_of_ble_eq_true rfl) dL_law_326 (fun r_1 s_1 h => ?_)
  refine g_aload_n (pc := 329) F dL_law_329 rfl 2 rfl ?_
  refine g_aloadS (pc := 330) F dL_law_330 rfl 0 rfl ?_
  refine g_iload_n (pc := 331) F dL_law_331 rfl 3 rfl ?_
  refine g_iconst (pc := 332) F dL_law_332 ic_1 ?_
  refine g_iadd (pc := 333) F dL_law_333 ?_
  refine g_sld (pc := 334) F hS h1 dL_law_334 ?_
  refine g_callVi (pc := 335) F (mX10_now (is_99 hV) h) mvX10_now uL_43 (by decide) clX10 (is_99 hV).1 rfl rfl (Nat.le_of_ble_eq_true rfl) dL_law_335 (fun r_2 s_2 h => ?_)
  refine g_icmp_eq (pc := 338) F 886 dL_law_338 (by decide) (fun c => ?_) (fun c => absurd h.1 c)
  exact tail _ h.2
theorem lw_case_7 (F : Fx V X cL_law RL 4 60) (hV : V.2.1 = DESC) (hS : ScX X b L xs) (h1 : vp_in (x3 + (1 : Int32)) L) (h2 : vp_in (x3 + (2 : Int32)) L) (tail : ∀ s : St, Inv s → G l V X 4 886 [(0, .ref b), (1, rf V 0), (2, rf V 99), (3, .int x3)] [] s) (h : lwStep 7 (xs ((x3 + (1 : Int32)).toNatClampNeg)) (xs ((x3 + (2 : Int32)).toNatClampNeg)) σ Inv) : G l V X 4 343 [(0, .ref b), (1, rf V 0), (2, rf V 99), (3, .int x3)] [] σ := by
  change wX9_names (xs ((x3 + (1 : Int32)).toNatClampNeg)) σ (fun r s1 => wX10_names 99 (xs ((x3 + (1 : Int32)).toNatClampNeg)) s1 (fun r2 s2 => r = r2 ∧ Inv s2)) at h
  refine g_aload_n (pc := 343) F dL_law_343 rfl 1 rfl ?_
  refine g_aloadS (pc := 344) F dL_law_344 rfl 0 rfl ?_
  refine g_iload_n (pc := 345) F dL_law_345 rfl 3 rfl ?_
  refine g_iconst (pc := 346) F dL_law_346 ic_1 ?_
  refine g_iadd (pc := 347) F dL_law_347 ?_
  refine g_sld (pc := 348) F hS h1 dL_law_348 ?_
  refine g_callVi (pc := 349) F (mX9_names hV h) mvX9_names uL_44 (by decide) clX9 (sh_0 hV) rfl rfl (Nat.le_of_ble_eq_true rfl) dL_law_349 (fun r_1 s_1 h => ?_)
  refine g_aload_n (pc := 352) F dL_law_352 rfl 2 rfl ?_
  refine g_aloadS (pc := 353) F dL_law_353 rfl 0 rfl ?_
  refine g_iload_n (pc := 354) F dL_law_354 rfl 3 rfl ?_
  refine g_iconst (pc := 355) F dL_law_355 ic_1 ?_
  refine g_iadd (pc := 356) F dL_law_356 ?_
  refine g_sld (pc := 357) F hS h1 dL_law_357 ?_
  refine g_callVi (pc := 358) F (mX10_names (is_99 hV) h) mvX10_names uL_47 (by decide) clX10 (is_99 hV).1 rfl rfl (Nat.le_of_ble_eq_true rfl) dL_law_358 (fun r_2 s_2 h => ?_)
  refine g_icmp_eq (pc := 361) F 886 dL_law_361 (by decide) (fun c => ?_) (fun c => absurd h.1 c)
  exact tail _ h.2
theorem lw_case_8 (F : Fx V X cL_law RL 4 60) (hV : V.2.1 = DESC) (hS : ScX X b L xs) (h1 : vp_in (x3 + (1 : Int32)) L) (h2 : vp_in (x3 + (2 : Int32)) L) (tail : ∀ s : St, Inv s → G l V X 4 886 [(0, .ref b), (1, rf V 0), (2, rf V 99), (3, .int x3)] [] s) (h : lwStep 8 (xs ((x3 + (1 : Int32)).toNatClampNeg)) (xs ((x3 + (2 : Int32)).toNatClampNeg)) σ Inv) : G l V X 4 366 [(0, .ref b), (1, rf V 0), (2, rf V 99), (3, .int x3)] [] σ := by
  change wX9_asks  σ (fun r s1 => wX10_asks 99  s1 (fun r2 s2 => r = r2 ∧ Inv s2)) at h
  refine g_aload_n (pc := 366) F dL_law_366 rfl 1 rfl ?_
  refine g_callVi (pc := 367) F (mX9_asks hV h) mvX9_asks uL_48 (by decide) clX9 (sh_0 hV) rfl rfl (Nat.le_of_ble_eq_true rfl) dL_law_367 (fun r_1 s_1 h => ?_)
  refine g_aload_n (pc := 370) F dL_law_370 rfl 2 rfl ?_
  refine g_callVi (pc := 371) F (mX10_asks (is_99 hV) h) mvX10_asks uL_51 (by decide) clX10 (is_99 hV).1 rfl rfl (Nat.le_of_ble_eq_true rfl) dL_law_371 (fun r_2 s_2 h => ?_)
  refine g_icmp_eq (pc := 374) F 886 dL_law_374 (by decide) (fun c => ?_) (fun c => absurd h.1 c)
  exact tail _ h.2
theorem lw_case_9 (F : Fx V X cL_law RL 4 60) (hV : V.2.1 = DESC) (hS : ScX X b L xs) (h1 : vp_in (x3 + (1 : Int32)) L) (h2 : vp_in (x3 + (2 : Int32)) L) (tail : ∀ s : St, Inv s → G l V X 4 886 [(0, .ref b), (1, rf V 0), (2, rf V 99), (3, .int x3)] [] s) (h : lwStep 9 (xs ((x3 + (1 : Int32)).toNatClampNeg)) (xs ((x3 + (2 : Int32)).toNatClampNeg)) σ Inv) : G l V X 4 379 [(0, .ref b), (1, rf V 0), (2, rf V 99), (3, .int x3)] [] σ := by
  change wX9_digs (xs ((x3 + (1 : Int32)).toNatClampNeg)) (xs ((x3 + (2 : Int32)).toNatClampNeg)) σ (fun r s1 => wX10_digs 99 (xs ((x3 + (1 : Int32)).toNatClampNeg)) (xs ((x3 + (2 : Int32)).toNatClampNeg)) s1 (fun r2 s2 => r = r2 ∧ Inv s2)) at h
  refine g_aload_n (pc := 379) F dL_law_379 rfl 1 rfl ?_
  refine g_aloadS (pc := 380) F dL_law_380 rfl 0 rfl ?_
  refine g_iload_n (pc := 381) F dL_law_381 rfl 3 rfl ?_
  refine g_iconst (pc := 382) F dL_law_382 ic_1 ?_
  refine g_iadd (pc := 383) F dL_law_383 ?_
  refine g_sld (pc := 384) F hS h1 dL_law_384 ?_
  refine g_aloadS (pc := 385) F dL_law_385 rfl 0 rfl ?_
  refine g_iload_n (pc := 386) F dL_law_386 rfl 3 rfl ?_
  refine g_iconst (pc := 387) F dL_law_387 ic_2 ?_
  refine g_iadd (pc := 388) F dL_law_388 ?_
  refine g_sld (pc := 389) F hS h2 dL_law_389 ?_
  refine g_callVi (pc := 390) F (mX9_digs hV h) mvX9_digs uL_52 (by decide) clX9 (sh_0 hV) rfl rfl (Nat.le_of_ble_eq_true rfl) dL_law_390 (fun r_1 s_1 h => ?_)
  refine g_aload_n (pc := 393) F dL_law_393 rfl 2 rfl ?_
  refine g_aloadS (pc := 394) F dL_law_394 rfl 0 rfl ?_
  refine g_iload_n (pc := 395) F dL_law_395 rfl 3 rfl ?_
  refine g_iconst (pc := 396) F dL_law_396 ic_1 ?_
  refine g_iadd (pc := 397) F dL_law_397 ?_
  refine g_sld (pc := 398) F hS h1 dL_law_398 ?_
  refine g_aloadS (pc := 399) F dL_law_399 rfl 0 rfl ?_
  refine g_iload_n (pc := 400) F dL_law_400 rfl 3 rfl ?_
  refine g_iconst (pc := 401) F dL_law_401 ic_2 ?_
  refine g_iadd (pc := 402) F dL_law_402 ?_
  refine g_sld (pc := 403) F hS h2 dL_law_403 ?_
  refine g_callVi (pc := 404) F (mX10_digs (is_99 hV) h) mvX10_digs uL_55 (by decide) clX10 (is_99 hV).1 rfl rfl (Nat.le_of_ble_eq_true rfl) dL_law_404 (fun r_2 s_2 h => ?_)
  refine g_icmp_eq (pc := 407) F 886 dL_law_407 (by decide) (fun c => ?_) (fun c => absurd h.1 c)
  exact tail _ h.2
theorem lw_case_10 (F : Fx V X cL_law RL 4 60) (hV : V.2.1 = DESC) (hS : ScX X b L xs) (h1 : vp_in (x3 + (1 : Int32)) L) (h2 : vp_in (x3 + (2 : Int32)) L) (tail : ∀ s : St, Inv s → G l V X 4 886 [(0, .ref b), (1, rf V 0), (2, rf V 99), (3, .int x3)] [] s) (h : lwStep 10 (xs ((x3 + (1 : Int32)).toNatClampNeg)) (xs ((x3 + (2 : Int32)).toNatClampNeg)) σ Inv) : G l V X 4 412 [(0, .ref b), (1, rf V 0), (2, rf V 99), (3, .int x3)] [] σ := by
  change wX9_burns (xs ((x3 + (1 : Int32)).toNatClampNeg)) σ (fun r s1 => wX10_burns 99 (xs ((x3 + (1 : Int32)).toNatClampNeg)) s1 (fun r2 s2 => r = r2 ∧ Inv s2)) at h
  refine g_aload_n (pc := 412) F dL_law_412 rfl 1 rfl ?_
  refine g_aloadS (pc := 413) F dL_law_413 rfl 0 rfl ?_
  refine g_iload_n (pc := 414) F dL_law_414 rfl 3 rfl ?_
  refine g_iconst (pc := 415) F dL_law_415 ic_1 ?_
  refine g_iadd (pc := 416) F dL_law_416 ?_
  refine g_sld (pc := 417) F hS h1 dL_law_417 ?_
  refine g_callVi (pc := 418) F (mX9_burns hV h) mvX9_burns uL_56 (by decide) clX9 (sh_0 hV) rfl rfl (Nat.le_of_ble_eq_true rfl) dL_law_418 (fun r_1 s_1 h => ?_)
  refine g_aload_n (pc := 421) F dL_law_421 rfl 2 rfl ?_
  refine g_aloadS (pc := 422) F dL_law_422 rfl 0 rfl ?_
  refine g_iload_n (pc := 423) F dL_law_423 rfl 3 rfl ?_
  refine g_iconst (pc := 424) F dL_law_424 ic_1 ?_
  refine g_iadd (pc := 425) F dL_law_425 ?_
  refine g_sld (pc := 426) F hS h1 dL_law_426 ?_
  refine g_callVi (pc := 427) F (mX10_burns (is_99 hV) h) mvX10_burns uL_59 (by decide) clX10 (is_99 hV).1 rfl rfl (Nat.le_of_ble_eq_true rfl) dL_law_427 (fun r_2 s_2 h => ?_)
  refine g_icmp_eq (pc := 430) F 886 dL_law_430 (by decide) (fun c => ?_) (fun c => absurd h.1 c)
  exact tail _ h.2
theorem lw_case_11 (F : Fx V X cL_law RL 4 60) (hV : V.2.1 = DESC) (hS : ScX X b L xs) (h1 : vp_in (x3 + (1 : Int32)) L) (h2 : vp_in (x3 + (2 : Int32)) L) (tail : ∀ s : St, Inv s → G l V X 4 886 [(0, .ref b), (1, rf V 0), (2, rf V 99), (3, .int x3)] [] s) (h : lwStep 11 (xs ((x3 + (1 : Int32)).toNatClampNeg)) (xs ((x3 + (2 : Int32)).toNatClampNeg)) σ Inv) : G l V X 4 435 [(0, .ref b), (1, rf V 0), (2, rf V 99), (3, .int x3)] [] σ := by
  change wX9_wipes  σ (fun r s1 => wX10_wipes 99  s1 (fun r2 s2 => r = r2 ∧ Inv s2)) at h
  refine g_aload_n (pc := 435) F dL_law_435 rfl 1 rfl ?_
  refine g_callVi (pc := 436) F (mX9_wipes hV h) mvX9_wipes uL_60 (by decide) clX9 (sh_0 hV) rfl rfl (Nat.le_of_ble_eq_true rfl) dL_law_436 (fun r_1 s_1 h => ?_)
  refine g_aload_n (pc := 439) F dL_law_439 rfl 2 rfl ?_
  refine g_callVi (pc := 440) F (mX10_wipes (is_99 hV) h) mvX10_wipes uL_63 (by decide) clX10 (is_99 hV).1 rfl rfl (Nat.le_of_ble_eq_true rfl) dL_law_440 (fun r_2 s_2 h => ?_)
  refine g_icmp_eq (pc := 443) F 886 dL_law_443 (by decide) (fun c => ?_) (fun c => absurd h.1 c)
  exact tail _ h.2
theorem lw_case_12 (F : Fx V X cL_law RL 4 60) (hV : V.2.1 = DESC) (hS : ScX X b L xs) (h1 : vp_in (x3 + (1 : Int32)) L) (h2 : vp_in (x3 + (2 : Int32)) L) (tail : ∀ s : St, Inv s → G l V X 4 886 [(0, .ref b), (1, rf V 0), (2, rf V 99), (3, .int x3)] [] s) (h : lwStep 12 (xs ((x3 + (1 : Int32)).toNatClampNeg)) (xs ((x3 + (2 : Int32)).toNatClampNeg)) σ Inv) : G l V X 4 448 [(0, .ref b), (1, rf V 0), (2, rf V 99), (3, .int x3)] [] σ := by
  change wX9_undo  σ (fun r s1 => wX10_undo 99  s1 (fun r2 s2 => r = r2 ∧ Inv s2)) at h
  refine g_aload_n (pc := 448) F dL_law_448 rfl 1 rfl ?_
  refine g_callVi (pc := 449) F (mX9_undo hV h) mvX9_undo uL_64 (by decide) clX9 (sh_0 hV) rfl rfl (Nat.le_of_ble_eq_true rfl) dL_law_449 (fun r_1 s_1 h => ?_)
  refine g_aload_n (pc := 452) F dL_law_452 rfl 2 rfl ?_
  refine g_callVi (pc := 453) F (mX10_undo (is_99 hV) h) mvX10_undo uL_67 (by decide) clX10 (is_99 hV).1 rfl rfl (Nat.le_of_ble_eq_true rfl) dL_law_453 (fun r_2 s_2 h => ?_)
  refine g_icmp_eq (pc := 456) F 886 dL_law_456 (by decide) (fun c => ?_) (fun c => absurd h.1 c)
  exact tail _ h.2
theorem lw_case_13 (F : Fx V X cL_law RL 4 60) (hV : V.2.1 = DESC) (hS : ScX X b L xs) (h1 : vp_in (x3 + (1 : Int32)) L) (h2 : vp_in (x3 + (2 : Int32)) L) (tail : ∀ s : St, Inv s → G l V X 4 886 [(0, .ref b), (1, rf V 0), (2, rf V 99), (3, .int x3)] [] s) (h : lwStep 13 (xs ((x3 + (1 : Int32)).toNatClampNeg)) (xs ((x3 + (2 : Int32)).toNatClampNeg)) σ Inv) : G l V X 4 461 [(0, .ref b), (1, rf V 0), (2, rf V 99), (3, .int x3)] [] σ := by
  change wX9_far (xs ((x3 + (1 : Int32)).toNatClampNeg)) (xs ((x3 + (2 : Int32)).toNatClampNeg)) σ (fun r s1 => wX10_far 99 (xs ((x3 + (1 : Int32)).toNatClampNeg)) (xs ((x3 + (2 : Int32)).toNatClampNeg)) s1 (fun r2 s2 => r = r2 ∧ Inv s2)) at h
  refine g_aload_n (pc := 461) F dL_law_461 rfl 1 rfl ?_
  refine g_aloadS (pc := 462) F dL_law_462 rfl 0 rfl ?_
  refine g_iload_n (pc := 463) F dL_law_463 rfl 3 rfl ?_
  refine g_iconst (pc := 464) F dL_law_464 ic_1 ?_
  refine g_iadd (pc := 465) F dL_law_465 ?_
  refine g_sld (pc := 466) F hS h1 dL_law_466 ?_
  refine g_aloadS (pc := 467) F dL_law_467 rfl 0 rfl ?_
  refine g_iload_n (pc := 468) F dL_law_468 rfl 3 rfl ?_
  refine g_iconst (pc := 469) F dL_law_469 ic_2 ?_
  refine g_iadd (pc := 470) F dL_law_470 ?_
  refine g_sld (pc := 471) F hS h2 dL_law_471 ?_
  refine g_callVi (pc := 472) F (mX9_far hV h) mvX9_far uL_68 (by decide) clX9 (sh_0 hV) rfl rfl (Nat.le_of_ble_eq_true rfl) dL_law_472 (fun r_1 s_1 h => ?_)
  refine g_aload_n (pc := 475) F dL_law_475 rfl 2 rfl ?_
  refine g_aloadS (pc := 476) F dL_law_476 rfl 0 rfl ?_
  refine g_iload_n (pc := 477) F dL_law_477 rfl 3 rfl ?_
  refine g_iconst (pc := 478) F dL_law_478 ic_1 ?_
  refine g_iadd (pc := 479) F dL_law_479 ?_
  refine g_sld (pc := 480) F hS h1 dL_law_480 ?_
  refine g_aloadS (pc := 481) F dL_law_481 rfl 0 rfl ?_
  refine g_iload_n (pc := 482) F dL_law_482 rfl 3 rfl ?_
  refine g_iconst (pc := 483) F dL_law_483 ic_2 ?_
  refine g_iadd (pc := 484) F dL_law_484 ?_
  refine g_sld (pc := 485) F hS h2 dL_law_485 ?_
  refine g_callVi (pc := 486) F (mX10_far (is_99 hV) h) mvX10_far uL_71 (by decide) clX10 (is_99 hV).1 rfl rfl (Nat.le_of_ble_eq_true rfl) dL_law_486 (fun r_2 s_2 h => ?_)
  refine g_icmp_eq (pc := 489) F 886 dL_law_489 (by decide) (fun c => ?_) (fun c => absurd h.1 c)
  exact tail _ h.2
theorem lw_case_14 (F : Fx V X cL_law RL 4 60) (hV : V.2.1 = DESC) (hS : ScX X b L xs) (h1 : vp_in (x3 + (1 : Int32)) L) (h2 : vp_in (x3 + (2 : Int32)) L) (tail : ∀ s : St, Inv s → G l V X 4 886 [(0, .ref b), (1, rf V 0), (2, rf V 99), (3, .int x3)] [] s) (h : lwStep 14 (xs ((x3 + (1 : Int32)).toNatClampNeg)) (xs ((x3 + (2 : Int32)).toNatClampNeg)) σ Inv) : G l V X 4 494 [(0, .ref b), (1, rf V 0), (2, rf V 99), (3, .int x3)] [] σ := by
  change wX9_by (xs ((x3 + (1 : Int32)).toNatClampNeg)) (xs ((x3 + (2 : Int32)).toNatClampNeg)) σ (fun r s1 => wX10_by 99 (xs ((x3 + (1 : Int32)).toNatClampNeg)) (xs ((x3 + (2 : Int32)).toNatClampNeg)) s1 (fun r2 s2 => r = r2 ∧ Inv s2)) at h
  refine g_aload_n (pc := 494) F dL_law_494 rfl 1 rfl ?_
  refine g_aloadS (pc := 495) F dL_law_495 rfl 0 rfl ?_
  refine g_iload_n (pc := 496) F dL_law_496 rfl 3 rfl ?_
  refine g_iconst (pc := 497) F dL_law_497 ic_1 ?_
  refine g_iadd (pc := 498) F dL_law_498 ?_
  refine g_sld (pc := 499) F hS h1 dL_law_499 ?_
  refine g_aloadS (pc := 500) F dL_law_500 rfl 0 rfl ?_
  refine g_iload_n (pc := 501) F dL_law_501 rfl 3 rfl ?_
  refine g_iconst (pc := 502) F dL_law_502 ic_2 ?_
  refine g_iadd (pc := 503) F dL_law_503 ?_
  refine g_sld (pc := 504) F hS h2 dL_law_504 ?_
  refine g_callVi (pc := 505) F (mX9_by hV h) mvX9_by uL_72 (by decide) clX9 (sh_0 hV) rfl rfl (Nat.le_of_ble_eq_true rfl) dL_law_505 (fun r_1 s_1 h => ?_)
  refine g_aload_n (pc := 508) F dL_law_508 rfl 2 rfl ?_
  refine g_aloadS (pc := 509) F dL_law_509 rfl 0 rfl ?_
  refine g_iload_n (pc := 510) F dL_law_510 rfl 3 rfl ?_
  refine g_iconst (pc := 511) F dL_law_511 ic_1 ?_
  refine g_iadd (pc := 512) F dL_law_512 ?_
  refine g_sld (pc := 513) F hS h1 dL_law_513 ?_
  refine g_aloadS (pc := 514) F dL_law_514 rfl 0 rfl ?_
  refine g_iload_n (pc := 515) F dL_law_515 rfl 3 rfl ?_
  refine g_iconst (pc := 516) F dL_law_516 ic_2 ?_
  refine g_iadd (pc := 517) F dL_law_517 ?_
  refine g_sld (pc := 518) F hS h2 dL_law_518 ?_
  refine g_callVi (pc := 519) F (mX10_by (is_99 hV) h) mvX10_by uL_75 (by decide) clX10 (is_99 hV).1 rfl rfl (Nat.le_of_ble_eq_true rfl) dL_law_519 (fun r_2 s_2 h => ?_)
  refine g_icmp_eq (pc := 522) F 886 dL_law_522 (by decide) (fun c => ?_) (fun c => absurd h.1 c)
  exact tail _ h.2
theorem lw_case_15 (F : Fx V X cL_law RL 4 60) (hV : V.2.1 = DESC) (hS : ScX X b L xs) (h1 : vp_in (x3 + (1 : Int32)) L) (h2 : vp_in (x3 + (2 : Int32)) L) (tail : ∀ s : St, Inv s → G l V X 4 886 [(0, .ref b), (1, rf V 0), (2, rf V 99), (3, .int x3)] [] s) (h : lwStep 15 (xs ((x3 + (1 : Int32)).toNatClampNeg)) (xs ((x3 + (2 : Int32)).toNatClampNeg)) σ Inv) : G l V X 4 527 [(0, .ref b), (1, rf V 0), (2, rf V 99), (3, .int x3)] [] σ := by
  change wX9_knot (xs ((x3 + (1 : Int32)).toNatClampNeg)) σ (fun r s1 => wX10_knot 99 (xs ((x3 + (1 : Int32)).toNatClampNeg)) s1 (fun r2 s2 => r = r2 ∧ Inv s2)) at h
  refine g_aload_n (pc := 527) F dL_law_527 rfl 1 rfl ?_
  refine g_aloadS (pc := 528) F dL_law_528 rfl 0 rfl ?_
  refine g_iload_n (pc := 529) F dL_law_529 rfl 3 rfl ?_
  refine g_iconst (pc := 530) F dL_law_530 ic_1 ?_
  refine g_iadd (pc := 531) F dL_law_531 ?_
  refine g_sld (pc := 532) F hS h1 dL_law_532 ?_
  refine g_callVi (pc := 533) F (mX9_knot hV h) mvX9_knot uL_76 (by decide) clX9 (sh_0 hV) rfl rfl (Nat.le_of_ble_eq_true rfl) dL_law_533 (fun r_1 s_1 h => ?_)
  refine g_aload_n (pc := 536) F dL_law_536 rfl 2 rfl ?_
  refine g_aloadS (pc := 537) F dL_law_537 rfl 0 rfl ?_
  refine g_iload_n (pc := 538) F dL_law_538 rfl 3 rfl ?_
  refine g_iconst (pc := 539) F dL_law_539 ic_1 ?_
  refine g_iadd (pc := 540) F dL_law_540 ?_
  refine g_sld (pc := 541) F hS h1 dL_law_541 ?_
  refine g_callVi (pc := 542) F (mX10_knot (is_99 hV) h) mvX10_knot uL_79 (by decide) clX10 (is_99 hV).1 rfl rfl (Nat.le_of_ble_eq_true rfl) dL_law_542 (fun r_2 s_2 h => ?_)
  refine g_icmp_eq (pc := 545) F 886 dL_law_545 (by decide) (fun c => ?_) (fun c => absurd h.1 c)
  exact tail _ h.2
theorem lw_case_16 (F : Fx V X cL_law RL 4 60) (hV : V.2.1 = DESC) (hS : ScX X b L xs) (h1 : vp_in (x3 + (1 : Int32)) L) (h2 : vp_in (x3 + (2 : Int32)) L) (tail : ∀ s : St, Inv s → G l V X 4 886 [(0, .ref b), (1, rf V 0), (2, rf V 99), (3, .int x3)] [] s) (h : lwStep 16 (xs ((x3 + (1 : Int32)).toNatClampNeg)) (xs ((x3 + (2 : Int32)).toNatClampNeg)) σ Inv) : G l V X 4 550 [(0, .ref b), (1, rf V 0), (2, rf V 99), (3, .int x3)] [] σ := by
  change wX9_asking (xs ((x3 + (1 : Int32)).toNatClampNeg)) σ (fun r s1 => wX10_asking 99 (xs ((x3 + (1 : Int32)).toNatClampNeg)) s1 (fun r2 s2 => r = r2 ∧ Inv s2)) at h
  refine g_aload_n (pc := 550) F dL_law_550 rfl 1 rfl ?_
  refine g_aloadS (pc := 551) F dL_law_551 rfl 0 rfl ?_
  refine g_iload_n (pc := 552) F dL_law_552 rfl 3 rfl ?_
  refine g_iconst (pc := 553) F dL_law_553 ic_1 ?_
  refine g_iadd (pc := 554) F dL_law_554 ?_
  refine g_sld (pc := 555) F hS h1 dL_law_555 ?_
  refine g_callVi (pc := 556) F (mX9_asking hV h) mvX9_asking uL_80 (by decide) clX9 (sh_0 hV) rfl rfl (Nat.le_of_ble_eq_true rfl) dL_law_556 (fun r_1 s_1 h => ?_)
  refine g_aload_n (pc := 559) F dL_law_559 rfl 2 rfl ?_
  refine g_aloadS (pc := 560) F dL_law_560 rfl 0 rfl ?_
  refine g_iload_n (pc := 561) F dL_law_561 rfl 3 rfl ?_
  refine g_iconst (pc := 562) F dL_law_562 ic_1 ?_
  refine g_iadd (pc := 563) F dL_law_563 ?_
  refine g_sld (pc := 564) F hS h1 dL_law_564 ?_
  refine g_callVi (pc := 565) F (mX10_asking (is_99 hV) h) mvX10_asking uL_83 (by decide) clX10 (is_99 hV).1 rfl rfl (Nat.le_of_ble_eq_true rfl) dL_law_565 (fun r_2 s_2 h => ?_)
  refine g_icmp_eq (pc := 568) F 886 dL_law_568 (by decide) (fun c => ?_) (fun c => absurd h.1 c)
  exact tail _ h.2
theorem lw_case_17 (F : Fx V X cL_law RL 4 60) (hV : V.2.1 = DESC) (hS : ScX X b L xs) (h1 : vp_in (x3 + (1 : Int32)) L) (h2 : vp_in (x3 + (2 : Int32)) L) (tail : ∀ s : St, Inv s → G l V X 4 886 [(0, .ref b), (1, rf V 0), (2, rf V 99), (3, .int x3)] [] s) (h : lwStep 17 (xs ((x3 + (1 : Int32)).toNatClampNeg)) (xs ((x3 + (2 : Int32)).toNatClampNeg)) σ Inv) : G l V X 4 573 [(0, .ref b), (1, rf V 0), (2, rf V 99), (3, .int x3)] [] σ := by
  change wX9_clash  σ (fun r s1 => wX10_clash 99  s1 (fun r2 s2 => r = r2 ∧ Inv s2)) at h
  refine g_aload_n (pc := 573) F dL_law_573 rfl 1 rfl ?_
  refine g_callVi (pc := 574) F (mX9_clash hV h) mvX9_clash uL_84 (by decide) clX9 (sh_0 hV) rfl rfl (Nat.le_of_ble_eq_true rfl) dL_law_574 (fun r_1 s_1 h => ?_)
  refine g_aload_n (pc := 577) F dL_law_577 rfl 2 rfl ?_
  refine g_callVi (pc := 578) F (mX10_clash (is_99 hV) h) mvX10_clash uL_87 (by decide) clX10 (is_99 hV).1 rfl rfl (Nat.le_of_ble_eq_true rfl) dL_law_578 (fun r_2 s_2 h => ?_)
  refine g_icmp_eq (pc := 581) F 886 dL_law_581 (by decide) (fun c => ?_) (fun c => absurd h.1 c)
  exact tail _ h.2
theorem lw_case_18 (F : Fx V X cL_law RL 4 60) (hV : V.2.1 = DESC) (hS : ScX X b L xs) (h1 : vp_in (x3 + (1 : Int32)) L) (h2 : vp_in (x3 + (2 : Int32)) L) (tail : ∀ s : St, Inv s → G l V X 4 886 [(0, .ref b), (1, rf V 0), (2, rf V 99), (3, .int x3)] [] s) (h : lwStep 18 (xs ((x3 + (1 : Int32)).toNatClampNeg)) (xs ((x3 + (2 : Int32)).toNatClampNeg)) σ Inv) : G l V X 4 586 [(0, .ref b), (1, rf V 0), (2, rf V 99), (3, .int x3)] [] σ := by
  change wX9_fire (xs ((x3 + (1 : Int32)).toNatClampNeg)) σ (fun r s1 => wX10_fire 99 (xs ((x3 + (1 : Int32)).toNatClampNeg)) s1 (fun r2 s2 => r = r2 ∧ Inv s2)) at h
  refine g_aload_n (pc := 586) F dL_law_586 rfl 1 rfl ?_
  refine g_aloadS (pc := 587) F dL_law_587 rfl 0 rfl ?_
  refine g_iload_n (pc := 588) F dL_law_588 rfl 3 rfl ?_
  refine g_iconst (pc := 589) F dL_law_589 ic_1 ?_
  refine g_iadd (pc := 590) F dL_law_590 ?_
  refine g_sld (pc := 591) F hS h1 dL_law_591 ?_
  refine g_callVi (pc := 592) F (mX9_fire hV h) mvX9_fire uL_88 (by decide) clX9 (sh_0 hV) rfl rfl (Nat.le_of_ble_eq_true rfl) dL_law_592 (fun r_1 s_1 h => ?_)
  refine g_aload_n (pc := 595) F dL_law_595 rfl 2 rfl ?_
  refine g_aloadS (pc := 596) F dL_law_596 rfl 0 rfl ?_
  refine g_iload_n (pc := 597) F dL_law_597 rfl 3 rfl ?_
  refine g_iconst (pc := 598) F dL_law_598 ic_1 ?_
  refine g_iadd (pc := 599) F dL_law_599 ?_
  refine g_sld (pc := 600) F hS h1 dL_law_600 ?_
  refine g_callVi (pc := 601) F (mX10_fire (is_99 hV) h) mvX10_fire uL_91 (by decide) clX10 (is_99 hV).1 rfl rfl (Nat.le_of_ble_eq_true rfl) dL_law_601 (fun r_2 s_2 h => ?_)
  refine g_icmp_eq (pc := 604) F 886 dL_law_604 (by decide) (fun c => ?_) (fun c => absurd h.1 c)
  exact tail _ h.2
theorem lw_case_19 (F : Fx V X cL_law RL 4 60) (hV : V.2.1 = DESC) (hS : ScX X b L xs) (h1 : vp_in (x3 + (1 : Int32)) L) (h2 : vp_in (x3 + (2 : Int32)) L) (tail : ∀ s : St, Inv s → G l V X 4 886 [(0, .ref b), (1, rf V 0), (2, rf V 99), (3, .int x3)] [] s) (h : lwStep 19 (xs ((x3 + (1 : Int32)).toNatClampNeg)) (xs ((x3 + (2 : Int32)).toNatClampNeg)) σ Inv) : G l V X 4 609 [(0, .ref b), (1, rf V 0), (2, rf V 99), (3, .int x3)] [] σ := by
  change wX9_spite (xs ((x3 + (1 : Int32)).toNatClampNeg)) σ (fun r s1 => wX10_spite 99 (xs ((x3 + (1 : Int32)).toNatClampNeg)) s1 (fun r2 s2 => r = r2 ∧ Inv s2)) at h
  refine g_aload_n (pc := 609) F dL_law_609 rfl 1 rfl ?_
  refine g_aloadS (pc := 610) F dL_law_610 rfl 0 rfl ?_
  refine g_iload_n (pc := 611) F dL_law_611 rfl 3 rfl ?_
  refine g_iconst (pc := 612) F dL_law_612 ic_1 ?_
  refine g_iadd (pc := 613) F dL_law_613 ?_
  refine g_sld (pc := 614) F hS h1 dL_law_614 ?_
  refine g_callVi (pc := 615) F (mX9_spite hV h) mvX9_spite uL_92 (by decide) clX9 (sh_0 hV) rfl rfl (Nat.le_of_ble_eq_true rfl) dL_law_615 (fun r_1 s_1 h => ?_)
  refine g_aload_n (pc := 618) F dL_law_618 rfl 2 rfl ?_
  refine g_aloadS (pc := 619) F dL_law_619 rfl 0 rfl ?_
  refine g_iload_n (pc := 620) F dL_law_620 rfl 3 rfl ?_
  refine g_iconst (pc := 621) F dL_law_621 ic_1 ?_
  refine g_iadd (pc := 622) F dL_law_622 ?_
  refine g_sld (pc := 623) F hS h1 dL_law_623 ?_
  refine g_callVi (pc := 624) F (mX10_spite (is_99 hV) h) mvX10_spite uL_95 (by decide) clX10 (is_99 hV).1 rfl rfl (Nat.le_of_ble_eq_true rfl) dL_law_624 (fun r_2 s_2 h => ?_)
  refine g_icmp_eq (pc := 627) F 886 dL_law_627 (by decide) (fun c => ?_) (fun c => absurd h.1 c)
  exact tail _ h.2
theorem lw_case_20 (F : Fx V X cL_law RL 4 60) (hV : V.2.1 = DESC) (hS : ScX X b L xs) (h1 : vp_in (x3 + (1 : Int32)) L) (h2 : vp_in (x3 + (2 : Int32)) L) (tail : ∀ s : St, Inv s → G l V X 4 886 [(0, .ref b), (1, rf V 0), (2, rf V 99), (3, .int x3)] [] s) (h : lwStep 20 (xs ((x3 + (1 : Int32)).toNatClampNeg)) (xs ((x3 + (2 : Int32)).toNatClampNeg)) σ Inv) : G l V X 4 632 [(0, .ref b), (1, rf V 0), (2, rf V 99), (3, .int x3)] [] σ := by
  change wX9_spiteful (xs ((x3 + (1 : Int32)).toNatClampNeg)) σ (fun r s1 => wX10_spiteful 99 (xs ((x3 + (1 : Int32)).toNatClampNeg)) s1 (fun r2 s2 => r = r2 ∧ Inv s2)) at h
  refine g_aload_n (pc := 632) F dL_law_632 rfl 1 rfl ?_
  refine g_aloadS (pc := 633) F dL_law_633 rfl 0 rfl ?_
  refine g_iload_n (pc := 634) F dL_law_634 rfl 3 rfl ?_
  refine g_iconst (pc := 635) F dL_law_635 ic_1 ?_
  refine g_iadd (pc := 636) F dL_law_636 ?_
  refine g_sld (pc := 637) F hS h1 dL_law_637 ?_
  refine g_callVi (pc := 638) F (mX9_spiteful hV h) mvX9_spiteful uL_96 (by decide) clX9 (sh_0 hV) rfl rfl (Nat.le_of_ble_eq_true rfl) dL_law_638 (fun r_1 s_1 h => ?_)
  refine g_aload_n (pc := 641) F dL_law_641 rfl 2 rfl ?_
  refine g_aloadS (pc := 642) F dL_law_642 rfl 0 rfl ?_
  refine g_iload_n (pc := 643) F dL_law_643 rfl 3 rfl ?_
  refine g_iconst (pc := 644) F dL_law_644 ic_1 ?_
  refine g_iadd (pc := 645) F dL_law_645 ?_
  refine g_sld (pc := 646) F hS h1 dL_law_646 ?_
  refine g_callVi (pc := 647) F (mX10_spiteful (is_99 hV) h) mvX10_spiteful uL_99 (by decide) clX10 (is_99 hV).1 rfl rfl (Nat.le_of_ble_eq_true rfl) dL_law_647 (fun r_2 s_2 h => ?_)
  refine g_icmp_eq (pc := 650) F 886 dL_law_650 (by decide) (fun c => ?_) (fun c => absurd h.1 c)
  exact tail _ h.2
theorem lw_case_21 (F : Fx V X cL_law RL 4 60) (hV : V.2.1 = DESC) (hS : ScX X b L xs) (h1 : vp_in (x3 + (1 : Int32)) L) (h2 : vp_in (x3 + (2 : Int32)) L) (tail : ∀ s : St, Inv s → G l V X 4 886 [(0, .ref b), (1, rf V 0), (2, rf V 99), (3, .int x3)] [] s) (h : lwStep 21 (xs ((x3 + (1 : Int32)).toNatClampNeg)) (xs ((x3 + (2 : Int32)).toNatClampNeg)) σ Inv) : G l V X 4 655 [(0, .ref b), (1, rf V 0), (2, rf V 99), (3, .int x3)] [] σ := by
  change wX9_odds (xs ((x3 + (1 : Int32)).toNatClampNeg)) (xs ((x3 + (2 : Int32)).toNatClampNeg)) σ (fun r s1 => wX10_odds 99 (xs ((x3 + (1 : Int32)).toNatClampNeg)) (xs ((x3 + (2 : Int32)).toNatClampNeg)) s1 (fun r2 s2 => r = r2 ∧ Inv s2)) at h
  refine g_aload_n (pc := 655) F dL_law_655 rfl 1 rfl ?_
  refine g_aloadS (pc := 656) F dL_law_656 rfl 0 rfl ?_
  refine g_iload_n (pc := 657) F dL_law_657 rfl 3 rfl ?_
  refine g_iconst (pc := 658) F dL_law_658 ic_1 ?_
  refine g_iadd (pc := 659) F dL_law_659 ?_
  refine g_sld (pc := 660) F hS h1 dL_law_660 ?_
  refine g_aloadS (pc := 661) F dL_law_661 rfl 0 rfl ?_
  refine g_iload_n (pc := 662) F dL_law_662 rfl 3 rfl ?_
  refine g_iconst (pc := 663) F dL_law_663 ic_2 ?_
  refine g_iadd (pc := 664) F dL_law_664 ?_
  refine g_sld (pc := 665) F hS h2 dL_law_665 ?_
  refine g_callVi (pc := 666) F (mX9_odds hV h) mvX9_odds uL_100 (by decide) clX9 (sh_0 hV) rfl rfl (Nat.le_of_ble_eq_true rfl) dL_law_666 (fun r_1 s_1 h => ?_)
  refine g_aload_n (pc := 669) F dL_law_669 rfl 2 rfl ?_
  refine g_aloadS (pc := 670) F dL_law_670 rfl 0 rfl ?_
  refine g_iload_n (pc := 671) F dL_law_671 rfl 3 rfl ?_
  refine g_iconst (pc := 672) F dL_law_672 ic_1 ?_
  refine g_iadd (pc := 673) F dL_law_673 ?_
  refine g_sld (pc := 674) F hS h1 dL_law_674 ?_
  refine g_aloadS (pc := 675) F dL_law_675 rfl 0 rfl ?_
  refine g_iload_n (pc := 676) F dL_law_676 rfl 3 rfl ?_
  refine g_iconst (pc := 677) F dL_law_677 ic_2 ?_
  refine g_iadd (pc := 678) F dL_law_678 ?_
  refine g_sld (pc := 679) F hS h2 dL_law_679 ?_
  refine g_callVi (pc := 680) F (mX10_odds (is_99 hV) h) mvX10_odds uL_103 (by decide) clX10 (is_99 hV).1 rfl rfl (Nat.le_of_ble_eq_true rfl) dL_law_680 (fun r_2 s_2 h => ?_)
  refine g_icmp_eq (pc := 683) F 886 dL_law_683 (by decide) (fun c => ?_) (fun c => absurd h.1 c)
  exact tail _ h.2
theorem lw_case_22 (F : Fx V X cL_law RL 4 60) (hV : V.2.1 = DESC) (hS : ScX X b L xs) (h1 : vp_in (x3 + (1 : Int32)) L) (h2 : vp_in (x3 + (2 : Int32)) L) (tail : ∀ s : St, Inv s → G l V X 4 886 [(0, .ref b), (1, rf V 0), (2, rf V 99), (3, .int x3)] [] s) (h : lwStep 22 (xs ((x3 + (1 : Int32)).toNatClampNeg)) (xs ((x3 + (2 : Int32)).toNatClampNeg)) σ Inv) : G l V X 4 688 [(0, .ref b), (1, rf V 0), (2, rf V 99), (3, .int x3)] [] σ := by
  change wX9_took (xs ((x3 + (1 : Int32)).toNatClampNeg)) (xs ((x3 + (2 : Int32)).toNatClampNeg)) σ (fun r s1 => wX10_took 99 (xs ((x3 + (1 : Int32)).toNatClampNeg)) (xs ((x3 + (2 : Int32)).toNatClampNeg)) s1 (fun r2 s2 => r = r2 ∧ Inv s2)) at h
  refine g_aload_n (pc := 688) F dL_law_688 rfl 1 rfl ?_
  refine g_aloadS (pc := 689) F dL_law_689 rfl 0 rfl ?_
  refine g_iload_n (pc := 690) F dL_law_690 rfl 3 rfl ?_
  refine g_iconst (pc := 691) F dL_law_691 ic_1 ?_
  refine g_iadd (pc := 692) F dL_law_692 ?_
  refine g_sld (pc := 693) F hS h1 dL_law_693 ?_
  refine g_aloadS (pc := 694) F dL_law_694 rfl 0 rfl ?_
  refine g_iload_n (pc := 695) F dL_law_695 rfl 3 rfl ?_
  refine g_iconst (pc := 696) F dL_law_696 ic_2 ?_
  refine g_iadd (pc := 697) F dL_law_697 ?_
  refine g_sld (pc := 698) F hS h2 dL_law_698 ?_
  refine g_callVi (pc := 699) F (mX9_took hV h) mvX9_took uL_104 (by decide) clX9 (sh_0 hV) rfl rfl (Nat.le_of_ble_eq_true rfl) dL_law_699 (fun r_1 s_1 h => ?_)
  refine g_aload_n (pc := 702) F dL_law_702 rfl 2 rfl ?_
  refine g_aloadS (pc := 703) F dL_law_703 rfl 0 rfl ?_
  refine g_iload_n (pc := 704) F dL_law_704 rfl 3 rfl ?_
  refine g_iconst (pc := 705) F dL_law_705 ic_1 ?_
  refine g_iadd (pc := 706) F dL_law_706 ?_
  refine g_sld (pc := 707) F hS h1 dL_law_707 ?_
  refine g_aloadS (pc := 708) F dL_law_708 rfl 0 rfl ?_
  refine g_iload_n (pc := 709) F dL_law_709 rfl 3 rfl ?_
  refine g_iconst (pc := 710) F dL_law_710 ic_2 ?_
  refine g_iadd (pc := 711) F dL_law_711 ?_
  refine g_sld (pc := 712) F hS h2 dL_law_712 ?_
  refine g_callVi (pc := 713) F (mX10_took (is_99 hV) h) mvX10_took uL_107 (by decide) clX10 (is_99 hV).1 rfl rfl (Nat.le_of_ble_eq_true rfl) dL_law_713 (fun r_2 s_2 h => ?_)
  refine g_icmp_eq (pc := 716) F 886 dL_law_716 (by decide) (fun c => ?_) (fun c => absurd h.1 c)
  exact tail _ h.2
theorem lw_case_23 (F : Fx V X cL_law RL 4 60) (hV : V.2.1 = DESC) (hS : ScX X b L xs) (h1 : vp_in (x3 + (1 : Int32)) L) (h2 : vp_in (x3 + (2 : Int32)) L) (tail : ∀ s : St, Inv s → G l V X 4 886 [(0, .ref b), (1, rf V 0), (2, rf V 99), (3, .int x3)] [] s) (h : lwStep 23 (xs ((x3 + (1 : Int32)).toNatClampNeg)) (xs ((x3 + (2 : Int32)).toNatClampNeg)) σ Inv) : G l V X 4 721 [(0, .ref b), (1, rf V 0), (2, rf V 99), (3, .int x3)] [] σ := by
  change wX9_forget  σ (fun r s1 => wX10_forget 99  s1 (fun r2 s2 => r = r2 ∧ Inv s2)) at h
  refine g_aload_n (pc := 721) F dL_law_721 rfl 1 rfl ?_
  refine g_callVi (pc := 722) F (mX9_forget hV h) mvX9_forget uL_108 (by decide) clX9 (sh_0 hV) rfl rfl (Nat.le_of_ble_eq_true rfl) dL_law_722 (fun r_1 s_1 h => ?_)
  refine g_aload_n (pc := 725) F dL_law_725 rfl 2 rfl ?_
  refine g_callVi (pc := 726) F (mX10_forget (is_99 hV) h) mvX10_forget uL_111 (by decide) clX10 (is_99 hV).1 rfl rfl (Nat.le_of_ble_eq_true rfl) dL_law_726 (fun r_2 s_2 h => ?_)
  refine g_icmp_eq (pc := 729) F 886 dL_law_729 (by decide) (fun c => ?_) (fun c => absurd h.1 c)
  exact tail _ h.2
theorem lw_case_24 (F : Fx V X cL_law RL 4 60) (hV : V.2.1 = DESC) (hS : ScX X b L xs) (h1 : vp_in (x3 + (1 : Int32)) L) (h2 : vp_in (x3 + (2 : Int32)) L) (tail : ∀ s : St, Inv s → G l V X 4 886 [(0, .ref b), (1, rf V 0), (2, rf V 99), (3, .int x3)] [] s) (h : lwStep 24 (xs ((x3 + (1 : Int32)).toNatClampNeg)) (xs ((x3 + (2 : Int32)).toNatClampNeg)) σ Inv) : G l V X 4 734 [(0, .ref b), (1, rf V 0), (2, rf V 99), (3, .int x3)] [] σ := by
  change wX9_can (xs ((x3 + (1 : Int32)).toNatClampNeg)) σ (fun r s1 => wX10_can 99 (xs ((x3 + (1 : Int32)).toNatClampNeg)) s1 (fun r2 s2 => r = r2 ∧ Inv s2)) at h
  refine g_aload_n (pc := 734) F dL_law_734 rfl 1 rfl ?_
  refine g_aloadS (pc := 735) F dL_law_735 rfl 0 rfl ?_
  refine g_iload_n (pc := 736) F dL_law_736 rfl 3 rfl ?_
  refine g_iconst (pc := 737) F dL_law_737 ic_1 ?_
  refine g_iadd (pc := 738) F dL_law_738 ?_
  refine g_sld (pc := 739) F hS h1 dL_law_739 ?_
  refine g_callVi (pc := 740) F (mX9_can hV h) mvX9_can uL_112 (by decide) clX9 (sh_0 hV) rfl rfl (Nat.le_of_ble_eq_true rfl) dL_law_740 (fun r_1 s_1 h => ?_)
  refine g_aload_n (pc := 743) F dL_law_743 rfl 2 rfl ?_
  refine g_aloadS (pc := 744) F dL_law_744 rfl 0 rfl ?_
  refine g_iload_n (pc := 745) F dL_law_745 rfl 3 rfl ?_
  refine g_iconst (pc := 746) F dL_law_746 ic_1 ?_
  refine g_iadd (pc := 747) F dL_law_747 ?_
  refine g_sld (pc := 748) F hS h1 dL_law_748 ?_
  refine g_callVi (pc := 749) F (mX10_can (is_99 hV) h) mvX10_can uL_115 (by decide) clX10 (is_99 hV).1 rfl rfl (Nat.le_of_ble_eq_true rfl) dL_law_749 (fun r_2 s_2 h => ?_)
  refine g_icmp_eq (pc := 752) F 886 dL_law_752 (by decide) (fun c => ?_) (fun c => absurd h.1 c)
  exact tail _ h.2
theorem lw_case_25 (F : Fx V X cL_law RL 4 60) (hV : V.2.1 = DESC) (hS : ScX X b L xs) (h1 : vp_in (x3 + (1 : Int32)) L) (h2 : vp_in (x3 + (2 : Int32)) L) (tail : ∀ s : St, Inv s → G l V X 4 886 [(0, .ref b), (1, rf V 0), (2, rf V 99), (3, .int x3)] [] s) (h : lwStep 25 (xs ((x3 + (1 : Int32)).toNatClampNeg)) (xs ((x3 + (2 : Int32)).toNatClampNeg)) σ Inv) : G l V X 4 757 [(0, .ref b), (1, rf V 0), (2, rf V 99), (3, .int x3)] [] σ := by
  change wX9_look  σ (fun r s1 => wX10_look 99  s1 (fun r2 s2 => r = r2 ∧ Inv s2)) at h
  refine g_aload_n (pc := 757) F dL_law_757 rfl 1 rfl ?_
  refine g_callVi (pc := 758) F (mX9_look hV h) mvX9_look uL_116 (by decide) clX9 (sh_0 hV) rfl rfl (Nat.le_of_ble_eq_true rfl) dL_law_758 (fun r_1 s_1 h => ?_)
  refine g_aload_n (pc := 761) F dL_law_761 rfl 2 rfl ?_
  refine g_callVi (pc := 762) F (mX10_look (is_99 hV) h) mvX10_look uL_119 (by decide) clX10 (is_99 hV).1 rfl rfl (Nat.le_of_ble_eq_true rfl) dL_law_762 (fun r_2 s_2 h => ?_)
  refine g_icmp_eq (pc := 765) F 886 dL_law_765 (by decide) (fun c => ?_) (fun c => absurd h.1 c)
  exact tail _ h.2
theorem lw_case_26 (F : Fx V X cL_law RL 4 60) (hV : V.2.1 = DESC) (hS : ScX X b L xs) (h1 : vp_in (x3 + (1 : Int32)) L) (h2 : vp_in (x3 + (2 : Int32)) L) (tail : ∀ s : St, Inv s → G l V X 4 886 [(0, .ref b), (1, rf V 0), (2, rf V 99), (3, .int x3)] [] s) (h : lwStep 26 (xs ((x3 + (1 : Int32)).toNatClampNeg)) (xs ((x3 + (2 : Int32)).toNatClampNeg)) σ Inv) : G l V X 4 770 [(0, .ref b), (1, rf V 0), (2, rf V 99), (3, .int x3)] [] σ := by
  change wX9_rate (xs ((x3 + (1 : Int32)).toNatClampNeg)) (xs ((x3 + (2 : Int32)).toNatClampNeg)) σ (fun r s1 => wX10_rate 99 (xs ((x3 + (1 : Int32)).toNatClampNeg)) (xs ((x3 + (2 : Int32)).toNatClampNeg)) s1 (fun r2 s2 => r = r2 ∧ Inv s2)) at h
  refine g_aload_n (pc := 770) F dL_law_770 rfl 1 rfl ?_
  refine g_aloadS (pc := 771) F dL_law_771 rfl 0 rfl ?_
  refine g_iload_n (pc := 772) F dL_law_772 rfl 3 rfl ?_
  refine g_iconst (pc := 773) F dL_law_773 ic_1 ?_
  refine g_iadd (pc := 774) F dL_law_774 ?_
  refine g_sld (pc := 775) F hS h1 dL_law_775 ?_
  refine g_aloadS (pc := 776) F dL_law_776 rfl 0 rfl ?_
  refine g_iload_n (pc := 777) F dL_law_777 rfl 3 rfl ?_
  refine g_iconst (pc := 778) F dL_law_778 ic_2 ?_
  refine g_iadd (pc := 779) F dL_law_779 ?_
  refine g_sld (pc := 780) F hS h2 dL_law_780 ?_
  refine g_callVi (pc := 781) F (mX9_rate hV h) mvX9_rate uL_120 (by decide) clX9 (sh_0 hV) rfl rfl (Nat.le_of_ble_eq_true rfl) dL_law_781 (fun r_1 s_1 h => ?_)
  refine g_aload_n (pc := 784) F dL_law_784 rfl 2 rfl ?_
  refine g_aloadS (pc := 785) F dL_law_785 rfl 0 rfl ?_
  refine g_iload_n (pc := 786) F dL_law_786 rfl 3 rfl ?_
  refine g_iconst (pc := 787) F dL_law_787 ic_1 ?_
  refine g_iadd (pc := 788) F dL_law_788 ?_
  refine g_sld (pc := 789) F hS h1 dL_law_789 ?_
  refine g_aloadS (pc := 790) F dL_law_790 rfl 0 rfl ?_
  refine g_iload_n (pc := 791) F dL_law_791 rfl 3 rfl ?_
  refine g_iconst (pc := 792) F dL_law_792 ic_2 ?_
  refine g_iadd (pc := 793) F dL_law_793 ?_
  refine g_sld (pc := 794) F hS h2 dL_law_794 ?_
  refine g_callVi (pc := 795) F (mX10_rate (is_99 hV) h) mvX10_rate uL_123 (by decide) clX10 (is_99 hV).1 rfl rfl (Nat.le_of_ble_eq_true rfl) dL_law_795 (fun r_2 s_2 h => ?_)
  refine g_icmp_eq (pc := 798) F 886 dL_law_798 (by decide) (fun c => ?_) (fun c => absurd h.1 c)
  exact tail _ h.2
theorem lw_case_27 (F : Fx V X cL_law RL 4 60) (hV : V.2.1 = DESC) (hS : ScX X b L xs) (h1 : vp_in (x3 + (1 : Int32)) L) (h2 : vp_in (x3 + (2 : Int32)) L) (tail : ∀ s : St, Inv s → G l V X 4 886 [(0, .ref b), (1, rf V 0), (2, rf V 99), (3, .int x3)] [] s) (h : lwStep 27 (xs ((x3 + (1 : Int32)).toNatClampNeg)) (xs ((x3 + (2 : Int32)).toNatClampNeg)) σ Inv) : G l V X 4 803 [(0, .ref b), (1, rf V 0), (2, rf V 99), (3, .int x3)] [] σ := by
  change wX9_keep (xs ((x3 + (1 : Int32)).toNatClampNeg)) σ (fun r s1 => wX10_keep 99 (xs ((x3 + (1 : Int32)).toNatClampNeg)) s1 (fun r2 s2 => r = r2 ∧ Inv s2)) at h
  refine g_aload_n (pc := 803) F dL_law_803 rfl 1 rfl ?_
  refine g_aloadS (pc := 804) F dL_law_804 rfl 0 rfl ?_
  refine g_iload_n (pc := 805) F dL_law_805 rfl 3 rfl ?_
  refine g_iconst (pc := 806) F dL_law_806 ic_1 ?_
  refine g_iadd (pc := 807) F dL_law_807 ?_
  refine g_sld (pc := 808) F hS h1 dL_law_808 ?_
  refine g_callVi (pc := 809) F (mX9_keep hV h) mvX9_keep uL_124 (by decide) clX9 (sh_0 hV) rfl rfl (Nat.le_of_ble_eq_true rfl) dL_law_809 (fun r_1 s_1 h => ?_)
  refine g_aload_n (pc := 812) F dL_law_812 rfl 2 rfl ?_
  refine g_aloadS (pc := 813) F dL_law_813 rfl 0 rfl ?_
  refine g_iload_n (pc := 814) F dL_law_814 rfl 3 rfl ?_
  refine g_iconst (pc := 815) F dL_law_815 ic_1 ?_
  refine g_iadd (pc := 816) F dL_law_816 ?_
  refine g_sld (pc := 817) F hS h1 dL_law_817 ?_
  refine g_callVi (pc := 818) F (mX10_keep (is_99 hV) h) mvX10_keep uL_127 (by decide) clX10 (is_99 hV).1 rfl rfl (Nat.le_of_ble_eq_true rfl) dL_law_818 (fun r_2 s_2 h => ?_)
  refine g_icmp_eq (pc := 821) F 886 dL_law_821 (by decide) (fun c => ?_) (fun c => absurd h.1 c)
  exact tail _ h.2
theorem lw_case_28 (F : Fx V X cL_law RL 4 60) (hV : V.2.1 = DESC) (hS : ScX X b L xs) (h1 : vp_in (x3 + (1 : Int32)) L) (h2 : vp_in (x3 + (2 : Int32)) L) (tail : ∀ s : St, Inv s → G l V X 4 886 [(0, .ref b), (1, rf V 0), (2, rf V 99), (3, .int x3)] [] s) (h : lwStep 28 (xs ((x3 + (1 : Int32)).toNatClampNeg)) (xs ((x3 + (2 : Int32)).toNatClampNeg)) σ Inv) : G l V X 4 826 [(0, .ref b), (1, rf V 0), (2, rf V 99), (3, .int x3)] [] σ := by
  change wX9_back (xs ((x3 + (1 : Int32)).toNatClampNeg)) σ (fun r s1 => wX10_back 99 (xs ((x3 + (1 : Int32)).toNatClampNeg)) s1 (fun r2 s2 => r = r2 ∧ Inv s2)) at h
  refine g_aload_n (pc := 826) F dL_law_826 rfl 1 rfl ?_
  refine g_aloadS (pc := 827) F dL_law_827 rfl 0 rfl ?_
  refine g_iload_n (pc := 828) F dL_law_828 rfl 3 rfl ?_
  refine g_iconst (pc := 829) F dL_law_829 ic_1 ?_
  refine g_iadd (pc := 830) F dL_law_830 ?_
  refine g_sld (pc := 831) F hS h1 dL_law_831 ?_
  refine g_callVi (pc := 832) F (mX9_back hV h) mvX9_back uL_128 (by decide) clX9 (sh_0 hV) rfl rfl (Nat.le_of_ble_eq_true rfl) dL_law_832 (fun r_1 s_1 h => ?_)
  refine g_aload_n (pc := 835) F dL_law_835 rfl 2 rfl ?_
  refine g_aloadS (pc := 836) F dL_law_836 rfl 0 rfl ?_
  refine g_iload_n (pc := 837) F dL_law_837 rfl 3 rfl ?_
  refine g_iconst (pc := 838) F dL_law_838 ic_1 ?_
  refine g_iadd (pc := 839) F dL_law_839 ?_
  refine g_sld (pc := 840) F hS h1 dL_law_840 ?_
  refine g_callVi (pc := 841) F (mX10_back (is_99 hV) h) mvX10_back uL_131 (by decide) clX10 (is_99 hV).1 rfl rfl (Nat.le_of_ble_eq_true rfl) dL_law_841 (fun r_2 s_2 h => ?_)
  refine g_icmp_eq (pc := 844) F 886 dL_law_844 (by decide) (fun c => ?_) (fun c => absurd h.1 c)
  exact tail _ h.2
theorem lw_case_29 (F : Fx V X cL_law RL 4 60) (hV : V.2.1 = DESC) (hS : ScX X b L xs) (h1 : vp_in (x3 + (1 : Int32)) L) (h2 : vp_in (x3 + (2 : Int32)) L) (tail : ∀ s : St, Inv s → G l V X 4 886 [(0, .ref b), (1, rf V 0), (2, rf V 99), (3, .int x3)] [] s) (h : lwStep 29 (xs ((x3 + (1 : Int32)).toNatClampNeg)) (xs ((x3 + (2 : Int32)).toNatClampNeg)) σ Inv) : G l V X 4 849 [(0, .ref b), (1, rf V 0), (2, rf V 99), (3, .int x3)] [] σ := by
  change wX9_count (xs ((x3 + (1 : Int32)).toNatClampNeg)) σ (fun r s1 => wX10_count 99 (xs ((x3 + (1 : Int32)).toNatClampNeg)) s1 (fun r2 s2 => r = r2 ∧ Inv s2)) at h
  refine g_aload_n (pc := 849) F dL_law_849 rfl 1 rfl ?_
  refine g_aloadS (pc := 850) F dL_law_850 rfl 0 rfl ?_
  refine g_iload_n (pc := 851) F dL_law_851 rfl 3 rfl ?_
  refine g_iconst (pc := 852) F dL_law_852 ic_1 ?_
  refine g_iadd (pc := 853) F dL_law_853 ?_
  refine g_sld (pc := 854) F hS h1 dL_law_854 ?_
  refine g_callVi (pc := 855) F (mX9_count hV h) mvX9_count uL_132 (by decide) clX9 (sh_0 hV) rfl rfl (Nat.le_of_ble_eq_true rfl) dL_law_855 (fun r_1 s_1 h => ?_)
  refine g_aload_n (pc := 858) F dL_law_858 rfl 2 rfl ?_
  refine g_aloadS (pc := 859) F dL_law_859 rfl 0 rfl ?_
  refine g_iload_n (pc := 860) F dL_law_860 rfl 3 rfl ?_
  refine g_iconst (pc := 861) F dL_law_861 ic_1 ?_
  refine g_iadd (pc := 862) F dL_law_862 ?_
  refine g_sld (pc := 863) F hS h1 dL_law_863 ?_
  refine g_callVi (pc := 864) F (mX10_count (is_99 hV) h) mvX10_count uL_135 (by decide) clX10 (is_99 hV).1 rfl rfl (Nat.le_of_ble_eq_true rfl) dL_law_864 (fun r_2 s_2 h => ?_)
  refine g_icmp_eq (pc := 867) F 886 dL_law_867 (by decide) (fun c => ?_) (fun c => absurd h.1 c)
  exact tail _ h.2
theorem lw_case_30 (F : Fx V X cL_law RL 4 60) (hV : V.2.1 = DESC) (hS : ScX X b L xs) (h1 : vp_in (x3 + (1 : Int32)) L) (h2 : vp_in (x3 + (2 : Int32)) L) (tail : ∀ s : St, Inv s → G l V X 4 886 [(0, .ref b), (1, rf V 0), (2, rf V 99), (3, .int x3)] [] s) (h : lwStep 30 (xs ((x3 + (1 : Int32)).toNatClampNeg)) (xs ((x3 + (2 : Int32)).toNatClampNeg)) σ Inv) : G l V X 4 872 [(0, .ref b), (1, rf V 0), (2, rf V 99), (3, .int x3)] [] σ := by
  change wX9_trace  σ (fun r s1 => wX10_trace 99  s1 (fun r2 s2 => r = r2 ∧ Inv s2)) at h
  refine g_aload_n (pc := 872) F dL_law_872 rfl 1 rfl ?_
  refine g_callVl (pc := 873) F (mX9_trace hV h) mvX9_trace uL_136 (by decide) clX9 (sh_0 hV) rfl rfl (Nat.le_of_ble_eq_true rfl) dL_law_873 (fun r_1 s_1 h => ?_)
  refine g_aload_n (pc := 876) F dL_law_876 rfl 2 rfl ?_
  refine g_callVl (pc := 877) F (mX10_trace (is_99 hV) h) mvX10_trace uL_140 (by decide) clX10 (is_99 hV).1 rfl rfl (Nat.le_of_ble_eq_true rfl) dL_law_877 (fun r_2 s_2 h => ?_)
  refine g_lcmp (pc := 880) F dL_law_880 ?_
  refine g_if_eq (pc := 881) F 886 dL_law_881 (by decide) (fun c => ?_) (fun c => absurd (by rw [h.1]; exact lg_cmp_self _) c)
  exact tail _ h.2
end GLS
set_option maxHeartbeats 4000000 in
set_option maxRecDepth 100000 in
theorem lw_switch {l : Launch} {V : Wv} {X : Mx} {b L : Nat} {xs : Nat → Int32} {x3 v : Int32} {σ : St} {Inv : St → Prop} (F : Fx V X cL_law RL 4 60) (hV : V.2.1 = DESC) (hS : ScX X b L xs) (h1 : vp_in (x3 + (1 : Int32)) L) (h2 : vp_in (x3 + (2 : Int32)) L) (tail : ∀ s : St, Inv s → G l V X 4 886 [(0, .ref b), (1, rf V 0), (2, rf V 99), (3, .int x3)] [] s) (hI : ∀ (k : Nat) (a b : Int32), lwStep k a b σ Inv) : G l V X 4 32 [(0, .ref b), (1, rf V 0), (2, rf V 99), (3, .int x3)] [.int v] σ := by
  by_cases c0 : v = (0 : Int32)
  · exact g_tabIn (o := 140) (pc := 32) F 172 dL_law_32 (by rw [c0]; decide) (by rw [c0]; decide) (by rw [c0]; rfl) (by decide) (lw_case_0 F hV hS h1 h2 tail (hI 0 _ _))
  by_cases c1 : v = (1 : Int32)
  · exact g_tabIn (o := 163) (pc := 32) F 195 dL_law_32 (by rw [c1]; decide) (by rw [c1]; decide) (by rw [c1]; rfl) (by decide) (lw_case_1 F hV hS h1 h2 tail (hI 1 _ _))
  by_cases c2 : v = (2 : Int32)
  · exact g_tabIn (o := 176) (pc := 32) F 208 dL_law_32 (by rw [c2]; decide) (by rw [c2]; decide) (by rw [c2]; rfl) (by decide) (lw_case_2 F hV hS h1 h2 tail (hI 2 _ _))
  by_cases c3 : v = (3 : Int32)
  · exact g_tabIn (o := 189) (pc := 32) F 221 dL_law_32 (by rw [c3]; decide) (by rw [c3]; decide) (by rw [c3]; rfl) (by decide) (lw_case_3 F hV hS h1 h2 tail (hI 3 _ _))
  by_cases c4 : v = (4 : Int32)
  · exact g_tabIn (o := 222) (pc := 32) F 254 dL_law_32 (by rw [c4]; decide) (by rw [c4]; decide) (by rw [c4]; rfl) (by decide) (lw_case_4 F hV hS h1 h2 tail (hI 4 _ _))
  by_cases c5 : v = (5 : Int32)
  · exact g_tabIn (o := 255) (pc := 32) F 287 dL_law_32 (by rw [c5]; decide) (by rw [c5]; decide) (by rw [c5]; rfl) (by decide) (lw_case_5 F hV hS h1 h2 tail (hI 5 _ _))
  by_cases c6 : v = (6 : Int32)
  · exact g_tabIn (o := 288) (pc := 32) F 320 dL_law_32 (by rw [c6]; decide) (by rw [c6]; decide) (by rw [c6]; rfl) (by decide) (lw_case_6 F hV hS h1 h2 tail (hI 6 _ _))
  by_cases c7 : v = (7 : Int32)
  · exact g_tabIn (o := 311) (pc := 32) F 343 dL_law_32 (by rw [c7]; decide) (by rw [c7]; decide) (by rw [c7]; rfl) (by decide) (lw_case_7 F hV hS h1 h2 tail (hI 7 _ _))
  by_cases c8 : v = (8 : Int32)
  · exact g_tabIn (o := 334) (pc := 32) F 366 dL_law_32 (by rw [c8]; decide) (by rw [c8]; decide) (by rw [c8]; rfl) (by decide) (lw_case_8 F hV hS h1 h2 tail (hI 8 _ _))
  by_cases c9 : v = (9 : Int32)
  · exact g_tabIn (o := 347) (pc := 32) F 379 dL_law_32 (by rw [c9]; decide) (by rw [c9]; decide) (by rw [c9]; rfl) (by decide) (lw_case_9 F hV hS h1 h2 tail (hI 9 _ _))
  by_cases c10 : v = (10 : Int32)
  · exact g_tabIn (o := 380) (pc := 32) F 412 dL_law_32 (by rw [c10]; decide) (by rw [c10]; decide) (by rw [c10]; rfl) (by decide) (lw_case_10 F hV hS h1 h2 tail (hI 10 _ _))
  by_cases c11 : v = (11 : Int32)
  · exact g_tabIn (o := 403) (pc := 32) F 435 dL_law_32 (by rw [c11]; decide) (by rw [c11]; decide) (by rw [c11]; rfl) (by decide) (lw_case_11 F hV hS h1 h2 tail (hI 11 _ _))
  by_cases c12 : v = (12 : Int32)
  · exact g_tabIn (o := 416) (pc := 32) F 448 dL_law_32 (by rw [c12]; decide) (by rw [c12]; decide) (by rw [c12]; rfl) (by decide) (lw_case_12 F hV hS h1 h2 tail (hI 12 _ _))
  by_cases c13 : v = (13 : Int32)
  · exact g_tabIn (o := 429) (pc := 32) F 461 dL_law_32 (by rw [c13]; decide) (by rw [c13]; decide) (by rw [c13]; rfl) (by decide) (lw_case_13 F hV hS h1 h2 tail (hI 13 _ _))
  by_cases c14 : v = (14 : Int32)
  · exact g_tabIn (o := 462) (pc := 32) F 494 dL_law_32 (by rw [c14]; decide) (by rw [c14]; decide) (by rw [c14]; rfl) (by decide) (lw_case_14 F hV hS h1 h2 tail (hI 14 _ _))
  by_cases c15 : v = (15 : Int32)
  · exact g_tabIn (o := 495) (pc := 32) F 527 dL_law_32 (by rw [c15]; decide) (by rw [c15]; decide) (by rw [c15]; rfl) (by decide) (lw_case_15 F hV hS h1 h2 tail (hI 15 _ _))
  by_cases c16 : v = (16 : Int32)
  · exact g_tabIn (o := 518) (pc := 32) F 550 dL_law_32 (by rw [c16]; decide) (by rw [c16]; decide) (by rw [c16]; rfl) (by decide) (lw_case_16 F hV hS h1 h2 tail (hI 16 _ _))
  by_cases c17 : v = (17 : Int32)
  · exact g_tabIn (o := 541) (pc := 32) F 573 dL_law_32 (by rw [c17]; decide) (by rw [c17]; decide) (by rw [c17]; rfl) (by decide) (lw_case_17 F hV hS h1 h2 tail (hI 17 _ _))
  by_cases c18 : v = (18 : Int32)
  · exact g_tabIn (o := 554) (pc := 32) F 586 dL_law_32 (by rw [c18]; decide) (by rw [c18]; decide) (by rw [c18]; rfl) (by decide) (lw_case_18 F hV hS h1 h2 tail (hI 18 _ _))
  by_cases c19 : v = (19 : Int32)
  · exact g_tabIn (o := 577) (pc := 32) F 609 dL_law_32 (by rw [c19]; decide) (by rw [c19]; decide) (by rw [c19]; rfl) (by decide) (lw_case_19 F hV hS h1 h2 tail (hI 19 _ _))
  by_cases c20 : v = (20 : Int32)
  · exact g_tabIn (o := 600) (pc := 32) F 632 dL_law_32 (by rw [c20]; decide) (by rw [c20]; decide) (by rw [c20]; rfl) (by decide) (lw_case_20 F hV hS h1 h2 tail (hI 20 _ _))
  by_cases c21 : v = (21 : Int32)
  · exact g_tabIn (o := 623) (pc := 32) F 655 dL_law_32 (by rw [c21]; decide) (by rw [c21]; decide) (by rw [c21]; rfl) (by decide) (lw_case_21 F hV hS h1 h2 tail (hI 21 _ _))
  by_cases c22 : v = (22 : Int32)
  · exact g_tabIn (o := 656) (pc := 32) F 688 dL_law_32 (by rw [c22]; decide) (by rw [c22]; decide) (by rw [c22]; rfl) (by decide) (lw_case_22 F hV hS h1 h2 tail (hI 22 _ _))
  by_cases c23 : v = (23 : Int32)
  · exact g_tabIn (o := 689) (pc := 32) F 721 dL_law_32 (by rw [c23]; decide) (by rw [c23]; decide) (by rw [c23]; rfl) (by decide) (lw_case_23 F hV hS h1 h2 tail (hI 23 _ _))
  by_cases c24 : v = (24 : Int32)
  · exact g_tabIn (o := 702) (pc := 32) F 734 dL_law_32 (by rw [c24]; decide) (by rw [c24]; decide) (by rw [c24]; rfl) (by decide) (lw_case_24 F hV hS h1 h2 tail (hI 24 _ _))
  by_cases c25 : v = (25 : Int32)
  · exact g_tabIn (o := 725) (pc := 32) F 757 dL_law_32 (by rw [c25]; decide) (by rw [c25]; decide) (by rw [c25]; rfl) (by decide) (lw_case_25 F hV hS h1 h2 tail (hI 25 _ _))
  by_cases c26 : v = (26 : Int32)
  · exact g_tabIn (o := 738) (pc := 32) F 770 dL_law_32 (by rw [c26]; decide) (by rw [c26]; decide) (by rw [c26]; rfl) (by decide) (lw_case_26 F hV hS h1 h2 tail (hI 26 _ _))
  by_cases c27 : v = (27 : Int32)
  · exact g_tabIn (o := 771) (pc := 32) F 803 dL_law_32 (by rw [c27]; decide) (by rw [c27]; decide) (by rw [c27]; rfl) (by decide) (lw_case_27 F hV hS h1 h2 tail (hI 27 _ _))
  by_cases c28 : v = (28 : Int32)
  · exact g_tabIn (o := 794) (pc := 32) F 826 dL_law_32 (by rw [c28]; decide) (by rw [c28]; decide) (by rw [c28]; rfl) (by decide) (lw_case_28 F hV hS h1 h2 tail (hI 28 _ _))
  by_cases c29 : v = (29 : Int32)
  · exact g_tabIn (o := 817) (pc := 32) F 849 dL_law_32 (by rw [c29]; decide) (by rw [c29]; decide) (by rw [c29]; rfl) (by decide) (lw_case_29 F hV hS h1 h2 tail (hI 29 _ _))
  by_cases c30 : v = (30 : Int32)
  · exact g_tabIn (o := 840) (pc := 32) F 872 dL_law_32 (by rw [c30]; decide) (by rw [c30]; decide) (by rw [c30]; rfl) (by decide) (lw_case_30 F hV hS h1 h2 tail (hI 30 _ _))
  refine g_tabOut (pc := 32) F 886 dL_law_32 ?_ (by decide) ?_
  · have e0 := lv_neT c0 (show ((0 : Int32)).toInt = 0 from rfl); have e1 := lv_neT c1 (show ((1 : Int32)).toInt = 1 from rfl); have e2 := lv_neT c2 (show ((2 : Int32)).toInt = 2 from rfl); have e3 := lv_neT c3 (show ((3 : Int32)).toInt = 3 from rfl); have e4 := lv_neT c4 (show ((4 : Int32)).toInt = 4 from rfl); have e5 := lv_neT c5 (show ((5 : Int32)).toInt = 5 from rfl); have e6 := lv_neT c6 (show ((6 : Int32)).toInt = 6 from rfl); have e7 := lv_neT c7 (show ((7 : Int32)).toInt = 7 from rfl); have e8 := lv_neT c8 (show ((8 : Int32)).toInt = 8 from rfl); have e9 := lv_neT c9 (show ((9 : Int32)).toInt = 9 from rfl); have e10 := lv_neT c10 (show ((10 : Int32)).toInt = 10 from rfl); have e11 := lv_neT c11 (show ((11 : Int32)).toInt = 11 from rfl); have e12 := lv_neT c12 (show ((12 : Int32)).toInt = 12 from rfl); have e13 := lv_neT c13 (show ((13 : Int32)).toInt = 13 from rfl); have e14 := lv_neT c14 (show ((14 : Int32)).toInt = 14 from rfl); have e15 := lv_neT c15 (show ((15 : Int32)).toInt = 15 from rfl); have e16 := lv_neT c16 (show ((16 : Int32)).toInt = 16 from rfl); have e17 := lv_neT c17 (show ((17 : Int32)).toInt = 17 from rfl); have e18 := lv_neT c18 (show ((18 : Int32)).toInt = 18 from rfl); have e19 := lv_neT c19 (show ((19 : Int32)).toInt = 19 from rfl); have e20 := lv_neT c20 (show ((20 : Int32)).toInt = 20 from rfl); have e21 := lv_neT c21 (show ((21 : Int32)).toInt = 21 from rfl); have e22 := lv_neT c22 (show ((22 : Int32)).toInt = 22 from rfl); have e23 := lv_neT c23 (show ((23 : Int32)).toInt = 23 from rfl); have e24 := lv_neT c24 (show ((24 : Int32)).toInt = 24 from rfl); have e25 := lv_neT c25 (show ((25 : Int32)).toInt = 25 from rfl); have e26 := lv_neT c26 (show ((26 : Int32)).toInt = 26 from rfl); have e27 := lv_neT c27 (show ((27 : Int32)).toInt = 27 from rfl); have e28 := lv_neT c28 (show ((28 : Int32)).toInt = 28 from rfl); have e29 := lv_neT c29 (show ((29 : Int32)).toInt = 29 from rfl); have e30 := lv_neT c30 (show ((30 : Int32)).toInt = 30 from rfl); omega
  · exact tail _ (hI 31 0 0)
set_option maxHeartbeats 4000000 in
set_option maxRecDepth 100000 in
/-- the loop: i ints are read -/
theorem lw_loop {l : Launch} {V : Wv} {X : Mx} {b L : Nat} {xs : Nat → Int32} {Inv : St → Prop} (hL : L ≤ 192) (F : Fx V X cL_law RL 4 60) (hV : V.2.1 = DESC) (hS : ScX X b L xs) (hI : ∀ (σ : St) (k : Nat) (a b : Int32), Inv σ → lwStep k a b σ Inv) (hE : ∀ (σ : St) (lv : List (Nat × Value)), G l V X 4 893 lv [.int 1] σ) :
    ∀ (n i : Nat) (σ : St), L + 3 ≤ i + n → i ≤ L + 2 → Inv σ → G l V X 4 18 [(0, .ref b), (1, rf V 0), (2, rf V 99), (3, .int (nI i))] [] σ := by
  intro n
  induction n with
  | zero => intro i σ h1 h2; omega
  | succ n ih =>
    intro i σ h1 h2 hi
    refine g_iload_n (pc := 18) F dL_law_18 rfl 3 rfl ?_
    refine g_aloadS (pc := 19) F dL_law_19 rfl 0 rfl ?_
    refine g_slen (pc := 20) F hS dL_law_20 ?_
    refine g_iconst (pc := 21) F dL_law_21 ic_3' ?_
    refine g_isub (pc := 22) F dL_law_22 ?_
    have e1 : (nI L - 3).toInt = (L : Int) - 3 := by
      have := pk_sub_toInt (a := L) (b := 3) (by omega) (by omega)
      exact this
    have e2 : (nI i).toInt = (i : Int) := nI_toInt (by omega)
    refine g_icmp_gt (pc := 23) F 892 dL_law_23 (by decide) (fun c => ?_) (fun c => ?_)
    · refine g_iconst (pc := 892) F dL_law_892 ic_1 ?_
      exact hE _ _
    · rw [Int32.lt_iff_toInt_lt, e1, e2] at c
      have hlt : i + 2 < L := by omega
      have t1 : nI i + 1 = nI (i + 1) := nI_1 i
      have t2 : nI i + 2 = nI (i + 2) := nI_add i 2
      have t3 : nI i + 3 = nI (i + 3) := nI_add i 3
      refine g_aloadS (pc := 26) F dL_law_26 rfl 0 rfl ?_
      refine g_iload_n (pc := 27) F dL_law_27 rfl 3 rfl ?_
      refine g_sld (pc := 28) F hS (vp_in_nI (show i < L by omega) (by omega)) dL_law_28 ?_
      refine g_bipush (pc := 29) F dL_law_29 (v := 31) (by decide) ?_
      refine g_iand (pc := 31) F dL_law_31 ?_
      refine lw_switch F hV hS (by rw [t1]; exact vp_in_nI (by omega) (by omega)) (by rw [t2]; exact vp_in_nI hlt (by omega)) (fun s hs => ?_) (fun k a b => hI σ k a b hi)
      refine g_iinc (pc := 886) (lv' := [(_, _), (_, _), (_, _), (_, _)]) F dL_law_886 3 rfl (congrArg _ ic_3') (by decide) rfl ?_
      refine g_goto (pc := 889) F 18 dL_law_889 (by decide) ?_
      rw [t3]
      exact g_weak [1, 2, 3, 0] rfl (ih (i + 3) s (by omega) (by omega) hs)
