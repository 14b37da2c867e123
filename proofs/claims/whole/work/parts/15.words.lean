/-! words of the tables, by their places: printed by program -/
def lw_u : List Cond := lw_tbl.filter goodWord
theorem uw {w : Cond} {i : Nat} (h : lw_tbl[i]? = some w) (hg : goodWord w = true) : w ∈ lw_u := List.mem_filter.mpr ⟨List.mem_of_getElem? h, hg⟩
theorem uiniL : Cond.initialized RL ∈ lw_u := uw (i := 74) (by decide +kernel) rfl
theorem uiniX9 : Cond.initialized RX9 ∈ lw_u := uw (i := 75) (by decide +kernel) rfl
theorem uiniX7 : Cond.initialized RX7 ∈ lw_u := uw (i := 76) (by decide +kernel) rfl
theorem uiniX1 : Cond.initialized RX1 ∈ lw_u := uw (i := 77) (by decide +kernel) rfl
theorem uiniX2 : Cond.initialized RX2 ∈ lw_u := uw (i := 78) (by decide +kernel) rfl
theorem uiniX8 : Cond.initialized RX8 ∈ lw_u := uw (i := 79) (by decide +kernel) rfl
theorem uiniX3 : Cond.initialized RX3 ∈ lw_u := uw (i := 80) (by decide +kernel) rfl
theorem uiniX4 : Cond.initialized RX4 ∈ lw_u := uw (i := 81) (by decide +kernel) rfl
theorem uiniX0 : Cond.initialized RX0 ∈ lw_u := uw (i := 82) (by decide +kernel) rfl
theorem uiniX5 : Cond.initialized RX5 ∈ lw_u := uw (i := 83) (by decide +kernel) rfl
theorem uiniX6 : Cond.initialized RX6 ∈ lw_u := uw (i := 84) (by decide +kernel) rfl
theorem uiniX10 : Cond.initialized RX10 ∈ lw_u := uw (i := 85) (by decide +kernel) rfl
theorem uiniJ10 : Cond.initialized RJ10 ∈ lw_u := uw (i := 86) (by decide +kernel) rfl
theorem uiniJ9 : Cond.initialized RJ9 ∈ lw_u := uw (i := 87) (by decide +kernel) rfl
theorem uiniJ6 : Cond.initialized RJ6 ∈ lw_u := uw (i := 88) (by decide +kernel) rfl
theorem unat : Cond.native arraycopyName ∈ lw_u := uw (i := 506) (by decide +kernel) rfl
theorem ustat_yX7_isDigit : Cond.static yX7_isDigit ∈ lw_u := uw (i := 438) (by decide +kernel) rfl
theorem ustat_yX8_walk : Cond.static yX8_walk ∈ lw_u := uw (i := 498) (by decide +kernel) rfl
theorem ustat_arraycopyName : Cond.static arraycopyName ∈ lw_u := uw (i := 505) (by decide +kernel) rfl
theorem ustat_Lib_Math_min_name : Cond.static Lib.Math.min.name ∈ lw_u := uw (i := 567) (by decide +kernel) rfl
theorem ustat_yJ6_bitCount_0f7a4 : Cond.static yJ6_bitCount_0f7a4 ∈ lw_u := uw (i := 645) (by decide +kernel) rfl
theorem ustat_yX4_goCheapest : Cond.static yX4_goCheapest ∈ lw_u := uw (i := 655) (by decide +kernel) rfl
theorem ustat_Lib_Math_max_name : Cond.static Lib.Math.max.name ∈ lw_u := uw (i := 663) (by decide +kernel) rfl
theorem ustat_yX4_goFirst : Cond.static yX4_goFirst ∈ lw_u := uw (i := 678) (by decide +kernel) rfl
theorem ustat_Lib_Math_abs_name : Cond.static Lib.Math.abs.name ∈ lw_u := uw (i := 681) (by decide +kernel) rfl
theorem ustat_yX9_commonDivisor : Cond.static yX9_commonDivisor ∈ lw_u := uw (i := 803) (by decide +kernel) rfl
theorem ustat_yX10_in : Cond.static yX10_in ∈ lw_u := uw (i := 1015) (by decide +kernel) rfl
theorem ustat_yX10_apart : Cond.static yX10_apart ∈ lw_u := uw (i := 1139) (by decide +kernel) rfl
theorem ustat_yX10_endsBetween : Cond.static yX10_endsBetween ∈ lw_u := uw (i := 1179) (by decide +kernel) rfl
theorem ustat_yX10_ones : Cond.static yX10_ones ∈ lw_u := uw (i := 1198) (by decide +kernel) rfl
theorem ustat_yX10_gcd : Cond.static yX10_gcd ∈ lw_u := uw (i := 1229) (by decide +kernel) rfl
theorem ucode_min : Cond.code Lib.Math.min.name Lib.Math.min.code 2 (some .int) ∈ lw_u := uw (i := 568) (by decide +kernel) rfl
theorem ucode_max : Cond.code Lib.Math.max.name Lib.Math.max.code 2 (some .int) ∈ lw_u := uw (i := 664) (by decide +kernel) rfl
theorem ucode_abs : Cond.code Lib.Math.abs.name Lib.Math.abs.code 1 (some .int) ∈ lw_u := uw (i := 682) (by decide +kernel) rfl
theorem cwX0 : ∀ w ∈ u_ws RX0 TX0 3, w ∈ lw_u := by decide +kernel
theorem cwX1 : ∀ w ∈ u_ws RX1 TX1 6, w ∈ lw_u := by decide +kernel
theorem cwX2 : ∀ w ∈ u_ws RX2 TX2 5, w ∈ lw_u := by decide +kernel
theorem cwX3 : ∀ w ∈ u_ws RX3 TX3 3, w ∈ lw_u := by decide +kernel
theorem cwX4 : ∀ w ∈ u_ws RX4 TX4 9, w ∈ lw_u := by decide +kernel
theorem cwX5 : ∀ w ∈ u_ws RX5 TX5 4, w ∈ lw_u := by decide +kernel
theorem cwX6 : ∀ w ∈ u_ws RX6 TX6 7, w ∈ lw_u := by decide +kernel
theorem cwX7 : ∀ w ∈ u_ws RX7 TX7 6, w ∈ lw_u := by decide +kernel
theorem cwX8 : ∀ w ∈ u_ws RX8 TX8 8, w ∈ lw_u := by decide +kernel
theorem cwX9 : ∀ w ∈ u_ws RX9 TX9 14, w ∈ lw_u := by decide +kernel
theorem cwX10 : ∀ w ∈ u_ws RX10 TX10 35, w ∈ lw_u := by decide +kernel
theorem uL_7 : Cond.classLink RL 7 RX9 ∈ lw_u := uw (i := 89) (by decide +kernel) rfl
theorem uinstX9 : Cond.instantiable RX9 14 ∈ lw_u := uw (i := 90) (by decide +kernel) rfl
theorem uL_9 : Cond.methodLink RL 9 yX9_init ∈ lw_u := uw (i := 91) (by decide +kernel) rfl
theorem uX9_3 : Cond.methodLink RX9 3 objectInit ∈ lw_u := uw (i := 94) (by decide +kernel) rfl
theorem uX9_9 : Cond.classLink RX9 9 RX7 ∈ lw_u := uw (i := 97) (by decide +kernel) rfl
theorem uinstX7 : Cond.instantiable RX7 6 ∈ lw_u := uw (i := 98) (by decide +kernel) rfl
theorem uX9_11 : Cond.methodLinkNest RX9 11 yX7_init "AskedMaps" ∈ lw_tbl := List.mem_of_getElem? (i := 99) (by decide +kernel)
theorem uX7_3 : Cond.methodLink RX7 3 objectInit ∈ lw_u := uw (i := 102) (by decide +kernel) rfl
theorem uX7_9 : Cond.fieldLink RX7 9 "AskedMaps$Text" "size" "I" ∈ lw_u := uw (i := 103) (by decide +kernel) rfl
theorem uX9_94 : Cond.fieldLink RX9 94 "AskedMaps$Text" "size" "I" ∈ lw_u := uw (i := 104) (by decide +kernel) rfl
theorem uX7_15 : Cond.fieldLink RX7 15 "AskedMaps$Text" "letters" "[I" ∈ lw_u := uw (i := 105) (by decide +kernel) rfl
theorem uX7_19 : Cond.fieldLink RX7 19 "AskedMaps$Text" "start" "I" ∈ lw_u := uw (i := 106) (by decide +kernel) rfl
theorem uX7_22 : Cond.fieldLink RX7 22 "AskedMaps$Text" "next" "I" ∈ lw_u := uw (i := 107) (by decide +kernel) rfl
theorem uX7_25 : Cond.fieldLink RX7 25 "AskedMaps$Text" "token" "I" ∈ lw_u := uw (i := 108) (by decide +kernel) rfl
theorem uX7_28 : Cond.fieldLink RX7 28 "AskedMaps$Text" "value" "I" ∈ lw_u := uw (i := 109) (by decide +kernel) rfl
theorem uX9_16 : Cond.classLink RX9 16 RX1 ∈ lw_u := uw (i := 124) (by decide +kernel) rfl
theorem uinstX1 : Cond.instantiable RX1 6 ∈ lw_u := uw (i := 125) (by decide +kernel) rfl
theorem uX9_18 : Cond.methodLink RX9 18 yX1_init ∈ lw_u := uw (i := 126) (by decide +kernel) rfl
theorem uX1_3 : Cond.methodLink RX1 3 objectInit ∈ lw_u := uw (i := 129) (by decide +kernel) rfl
theorem uX1_24 : Cond.methodLink RX1 24 yX1_empty ∈ lw_u := uw (i := 130) (by decide +kernel) rfl
theorem uX1_27 : Cond.fieldLink RX1 27 "AskedMaps$Ground" "places" "I" ∈ lw_u := uw (i := 134) (by decide +kernel) rfl
theorem uX8_37 : Cond.fieldLink RX8 37 "AskedMaps$Ground" "places" "I" ∈ lw_u := uw (i := 135) (by decide +kernel) rfl
theorem uX7_63 : Cond.fieldLink RX7 63 "AskedMaps$Ground" "places" "I" ∈ lw_u := uw (i := 136) (by decide +kernel) rfl
theorem uX9_168 : Cond.fieldLink RX9 168 "AskedMaps$Ground" "places" "I" ∈ lw_u := uw (i := 137) (by decide +kernel) rfl
theorem uX4_42 : Cond.fieldLink RX4 42 "AskedMaps$Ground" "lanes" "I" ∈ lw_u := uw (i := 138) (by decide +kernel) rfl
theorem uX1_31 : Cond.fieldLink RX1 31 "AskedMaps$Ground" "lanes" "I" ∈ lw_u := uw (i := 139) (by decide +kernel) rfl
theorem uX7_42 : Cond.fieldLink RX7 42 "AskedMaps$Ground" "lanes" "I" ∈ lw_u := uw (i := 140) (by decide +kernel) rfl
theorem uX9_171 : Cond.fieldLink RX9 171 "AskedMaps$Ground" "lanes" "I" ∈ lw_u := uw (i := 141) (by decide +kernel) rfl
theorem uX1_9 : Cond.fieldLink RX1 9 "AskedMaps$Ground" "first" "[I" ∈ lw_u := uw (i := 142) (by decide +kernel) rfl
theorem uX9_124 : Cond.fieldLink RX9 124 "AskedMaps$Ground" "first" "[I" ∈ lw_u := uw (i := 143) (by decide +kernel) rfl
theorem uX1_15 : Cond.fieldLink RX1 15 "AskedMaps$Ground" "second" "[I" ∈ lw_u := uw (i := 144) (by decide +kernel) rfl
theorem uX9_128 : Cond.fieldLink RX9 128 "AskedMaps$Ground" "second" "[I" ∈ lw_u := uw (i := 145) (by decide +kernel) rfl
theorem uX1_18 : Cond.fieldLink RX1 18 "AskedMaps$Ground" "spades" "[I" ∈ lw_u := uw (i := 146) (by decide +kernel) rfl
theorem uX4_51 : Cond.fieldLink RX4 51 "AskedMaps$Ground" "spades" "[I" ∈ lw_u := uw (i := 147) (by decide +kernel) rfl
theorem uX9_134 : Cond.fieldLink RX9 134 "AskedMaps$Ground" "spades" "[I" ∈ lw_u := uw (i := 148) (by decide +kernel) rfl
theorem uX1_21 : Cond.fieldLink RX1 21 "AskedMaps$Ground" "joins" "[I" ∈ lw_u := uw (i := 149) (by decide +kernel) rfl
theorem uX9_26 : Cond.classLink RX9 26 RX2 ∈ lw_u := uw (i := 163) (by decide +kernel) rfl
theorem uinstX2 : Cond.instantiable RX2 5 ∈ lw_u := uw (i := 164) (by decide +kernel) rfl
theorem uX9_28 : Cond.methodLinkNest RX9 28 yX2_init "AskedMaps" ∈ lw_tbl := List.mem_of_getElem? (i := 165) (by decide +kernel)
theorem uX2_3 : Cond.methodLink RX2 3 objectInit ∈ lw_u := uw (i := 168) (by decide +kernel) rfl
theorem uX2_9 : Cond.fieldLink RX2 9 "AskedMaps$Now" "lengths" "[I" ∈ lw_u := uw (i := 169) (by decide +kernel) rfl
theorem uX9_131 : Cond.fieldLink RX9 131 "AskedMaps$Now" "lengths" "[I" ∈ lw_u := uw (i := 170) (by decide +kernel) rfl
theorem uX7_74 : Cond.fieldLink RX7 74 "AskedMaps$Now" "lengths" "[I" ∈ lw_u := uw (i := 171) (by decide +kernel) rfl
theorem uX2_15 : Cond.fieldLink RX2 15 "AskedMaps$Now" "sizes" "[I" ∈ lw_u := uw (i := 172) (by decide +kernel) rfl
theorem uX9_144 : Cond.fieldLink RX9 144 "AskedMaps$Now" "sizes" "[I" ∈ lw_u := uw (i := 173) (by decide +kernel) rfl
theorem uX7_81 : Cond.fieldLink RX7 81 "AskedMaps$Now" "sizes" "[I" ∈ lw_u := uw (i := 174) (by decide +kernel) rfl
theorem uX2_18 : Cond.fieldLink RX2 18 "AskedMaps$Now" "spots" "[I" ∈ lw_u := uw (i := 175) (by decide +kernel) rfl
theorem uX2_21 : Cond.fieldLink RX2 21 "AskedMaps$Now" "maps" "I" ∈ lw_u := uw (i := 176) (by decide +kernel) rfl
theorem uX7_51 : Cond.fieldLink RX7 51 "AskedMaps$Now" "maps" "I" ∈ lw_u := uw (i := 177) (by decide +kernel) rfl
theorem uX9_174 : Cond.fieldLink RX9 174 "AskedMaps$Now" "maps" "I" ∈ lw_u := uw (i := 178) (by decide +kernel) rfl
theorem uX2_25 : Cond.fieldLink RX2 25 "AskedMaps$Now" "dug" "I" ∈ lw_u := uw (i := 179) (by decide +kernel) rfl
theorem uX9_162 : Cond.fieldLink RX9 162 "AskedMaps$Now" "dug" "I" ∈ lw_u := uw (i := 180) (by decide +kernel) rfl
theorem uX9_36 : Cond.classLink RX9 36 RX8 ∈ lw_u := uw (i := 192) (by decide +kernel) rfl
theorem uinstX8 : Cond.instantiable RX8 8 ∈ lw_u := uw (i := 193) (by decide +kernel) rfl
theorem uX9_38 : Cond.methodLinkNest RX9 38 yX8_init "AskedMaps" ∈ lw_tbl := List.mem_of_getElem? (i := 194) (by decide +kernel)
theorem uX8_3 : Cond.methodLink RX8 3 objectInit ∈ lw_u := uw (i := 197) (by decide +kernel) rfl
theorem uX8_9 : Cond.fieldLink RX8 9 "AskedMaps$Ways" "many" "I" ∈ lw_u := uw (i := 198) (by decide +kernel) rfl
theorem uX4_52 : Cond.fieldLink RX4 52 "AskedMaps$Ways" "many" "I" ∈ lw_u := uw (i := 199) (by decide +kernel) rfl
theorem uX6_34 : Cond.fieldLink RX6 34 "AskedMaps$Ways" "many" "I" ∈ lw_u := uw (i := 200) (by decide +kernel) rfl
theorem uX9_269 : Cond.fieldLink RX9 269 "AskedMaps$Ways" "many" "I" ∈ lw_u := uw (i := 201) (by decide +kernel) rfl
theorem uX8_15 : Cond.fieldLink RX8 15 "AskedMaps$Ways" "spots" "[I" ∈ lw_u := uw (i := 202) (by decide +kernel) rfl
theorem uX8_19 : Cond.fieldLink RX8 19 "AskedMaps$Ways" "sizes" "[I" ∈ lw_u := uw (i := 203) (by decide +kernel) rfl
theorem uX8_22 : Cond.fieldLink RX8 22 "AskedMaps$Ways" "ends" "[I" ∈ lw_u := uw (i := 204) (by decide +kernel) rfl
theorem uX4_61 : Cond.fieldLink RX4 61 "AskedMaps$Ways" "ends" "[I" ∈ lw_u := uw (i := 205) (by decide +kernel) rfl
theorem uX8_25 : Cond.fieldLink RX8 25 "AskedMaps$Ways" "laneBits" "[I" ∈ lw_u := uw (i := 206) (by decide +kernel) rfl
theorem uX4_64 : Cond.fieldLink RX4 64 "AskedMaps$Ways" "laneBits" "[I" ∈ lw_u := uw (i := 207) (by decide +kernel) rfl
theorem uX6_37 : Cond.fieldLink RX6 37 "AskedMaps$Ways" "laneBits" "[I" ∈ lw_u := uw (i := 208) (by decide +kernel) rfl
theorem uX8_28 : Cond.fieldLink RX8 28 "AskedMaps$Ways" "lengths" "[I" ∈ lw_u := uw (i := 209) (by decide +kernel) rfl
theorem uX8_31 : Cond.fieldLink RX8 31 "AskedMaps$Ways" "least" "[I" ∈ lw_u := uw (i := 210) (by decide +kernel) rfl
theorem uX8_34 : Cond.fieldLink RX8 34 "AskedMaps$Ways" "trail" "[I" ∈ lw_u := uw (i := 211) (by decide +kernel) rfl
theorem uX9_43 : Cond.classLink RX9 43 RX3 ∈ lw_u := uw (i := 229) (by decide +kernel) rfl
theorem uinstX3 : Cond.instantiable RX3 3 ∈ lw_u := uw (i := 230) (by decide +kernel) rfl
theorem uX9_45 : Cond.methodLink RX9 45 yX3_init ∈ lw_u := uw (i := 231) (by decide +kernel) rfl
theorem uX3_3 : Cond.methodLink RX3 3 objectInit ∈ lw_u := uw (i := 234) (by decide +kernel) rfl
theorem uX3_9 : Cond.classLink RX3 9 RX2 ∈ lw_u := uw (i := 235) (by decide +kernel) rfl
theorem uX3_24 : Cond.methodLinkNest RX3 24 yX2_init "AskedMaps" ∈ lw_tbl := List.mem_of_getElem? (i := 237) (by decide +kernel)
theorem uX3_11 : Cond.fieldLink RX3 11 "AskedMaps$Past" "rows" "[LAskedMaps$Now;" ∈ lw_u := uw (i := 238) (by decide +kernel) rfl
theorem uX3_17 : Cond.fieldLink RX3 17 "AskedMaps$Past" "next" "I" ∈ lw_u := uw (i := 239) (by decide +kernel) rfl
theorem uX3_21 : Cond.fieldLink RX3 21 "AskedMaps$Past" "known" "I" ∈ lw_u := uw (i := 240) (by decide +kernel) rfl
theorem uX9_165 : Cond.fieldLink RX9 165 "AskedMaps$Past" "known" "I" ∈ lw_u := uw (i := 241) (by decide +kernel) rfl
theorem uX9_58 : Cond.classLink RX9 58 RX4 ∈ lw_u := uw (i := 249) (by decide +kernel) rfl
theorem uinstX4 : Cond.instantiable RX4 9 ∈ lw_u := uw (i := 250) (by decide +kernel) rfl
theorem uX9_60 : Cond.methodLinkNest RX9 60 yX4_init "AskedMaps" ∈ lw_tbl := List.mem_of_getElem? (i := 251) (by decide +kernel)
theorem uX4_3 : Cond.methodLink RX4 3 objectInit ∈ lw_u := uw (i := 254) (by decide +kernel) rfl
theorem uX4_28 : Cond.classLink RX4 28 "[[I" ∈ lw_u := uw (i := 255) (by decide +kernel) rfl
theorem uX4_9 : Cond.fieldLink RX4 9 "AskedMaps$Search" "lanes" "I" ∈ lw_u := uw (i := 257) (by decide +kernel) rfl
theorem uX4_15 : Cond.fieldLink RX4 15 "AskedMaps$Search" "bonds" "I" ∈ lw_u := uw (i := 258) (by decide +kernel) rfl
theorem uX4_18 : Cond.fieldLink RX4 18 "AskedMaps$Search" "least" "I" ∈ lw_u := uw (i := 259) (by decide +kernel) rfl
theorem uX4_21 : Cond.fieldLink RX4 21 "AskedMaps$Search" "mine" "[I" ∈ lw_u := uw (i := 260) (by decide +kernel) rfl
theorem uX4_25 : Cond.fieldLink RX4 25 "AskedMaps$Search" "rivals" "[I" ∈ lw_u := uw (i := 261) (by decide +kernel) rfl
theorem uX4_30 : Cond.fieldLink RX4 30 "AskedMaps$Search" "excess" "[[I" ∈ lw_u := uw (i := 262) (by decide +kernel) rfl
theorem uX4_33 : Cond.fieldLink RX4 33 "AskedMaps$Search" "lengths" "[I" ∈ lw_u := uw (i := 263) (by decide +kernel) rfl
theorem uX4_36 : Cond.fieldLink RX4 36 "AskedMaps$Search" "spades" "[I" ∈ lw_u := uw (i := 264) (by decide +kernel) rfl
theorem uX4_39 : Cond.fieldLink RX4 39 "AskedMaps$Search" "chosen" "[I" ∈ lw_u := uw (i := 265) (by decide +kernel) rfl
theorem uX9_305 : Cond.fieldLink RX9 305 "AskedMaps$Search" "chosen" "[I" ∈ lw_u := uw (i := 266) (by decide +kernel) rfl
theorem uX9_65 : Cond.classLink RX9 65 RX0 ∈ lw_u := uw (i := 286) (by decide +kernel) rfl
theorem uinstX0 : Cond.instantiable RX0 3 ∈ lw_u := uw (i := 287) (by decide +kernel) rfl
theorem uX9_67 : Cond.methodLinkNest RX9 67 yX0_init "AskedMaps" ∈ lw_tbl := List.mem_of_getElem? (i := 288) (by decide +kernel)
theorem uX0_3 : Cond.methodLink RX0 3 objectInit ∈ lw_u := uw (i := 291) (by decide +kernel) rfl
theorem uX0_9 : Cond.fieldLink RX0 9 "AskedMaps$Asked" "known" "Z" ∈ lw_u := uw (i := 292) (by decide +kernel) rfl
theorem uX9_240 : Cond.fieldLink RX9 240 "AskedMaps$Asked" "known" "Z" ∈ lw_u := uw (i := 293) (by decide +kernel) rfl
theorem uX0_15 : Cond.fieldLink RX0 15 "AskedMaps$Asked" "cost" "I" ∈ lw_u := uw (i := 294) (by decide +kernel) rfl
theorem uX9_304 : Cond.fieldLink RX9 304 "AskedMaps$Asked" "cost" "I" ∈ lw_u := uw (i := 295) (by decide +kernel) rfl
theorem uX0_19 : Cond.fieldLink RX0 19 "AskedMaps$Asked" "lengths" "[I" ∈ lw_u := uw (i := 296) (by decide +kernel) rfl
theorem uX9_208 : Cond.fieldLink RX9 208 "AskedMaps$Asked" "lengths" "[I" ∈ lw_u := uw (i := 297) (by decide +kernel) rfl
theorem uX9_72 : Cond.classLink RX9 72 RX5 ∈ lw_u := uw (i := 305) (by decide +kernel) rfl
theorem uinstX5 : Cond.instantiable RX5 4 ∈ lw_u := uw (i := 306) (by decide +kernel) rfl
theorem uX9_74 : Cond.methodLinkNest RX9 74 yX5_init "AskedMaps" ∈ lw_tbl := List.mem_of_getElem? (i := 307) (by decide +kernel)
theorem uX5_3 : Cond.methodLink RX5 3 objectInit ∈ lw_u := uw (i := 310) (by decide +kernel) rfl
theorem uX5_9 : Cond.fieldLink RX5 9 "AskedMaps$Spited" "known" "Z" ∈ lw_u := uw (i := 311) (by decide +kernel) rfl
theorem uX9_243 : Cond.fieldLink RX9 243 "AskedMaps$Spited" "known" "Z" ∈ lw_u := uw (i := 312) (by decide +kernel) rfl
theorem uX5_15 : Cond.fieldLink RX5 15 "AskedMaps$Spited" "cost" "I" ∈ lw_u := uw (i := 313) (by decide +kernel) rfl
theorem uX9_275 : Cond.fieldLink RX9 275 "AskedMaps$Spited" "cost" "I" ∈ lw_u := uw (i := 314) (by decide +kernel) rfl
theorem uX5_19 : Cond.fieldLink RX5 19 "AskedMaps$Spited" "way" "I" ∈ lw_u := uw (i := 315) (by decide +kernel) rfl
theorem uX9_281 : Cond.fieldLink RX9 281 "AskedMaps$Spited" "way" "I" ∈ lw_u := uw (i := 316) (by decide +kernel) rfl
theorem uX5_22 : Cond.fieldLink RX5 22 "AskedMaps$Spited" "impossible" "I" ∈ lw_u := uw (i := 317) (by decide +kernel) rfl
theorem uX9_278 : Cond.fieldLink RX9 278 "AskedMaps$Spited" "impossible" "I" ∈ lw_u := uw (i := 318) (by decide +kernel) rfl
theorem uX9_79 : Cond.classLink RX9 79 RX6 ∈ lw_u := uw (i := 328) (by decide +kernel) rfl
theorem uinstX6 : Cond.instantiable RX6 7 ∈ lw_u := uw (i := 329) (by decide +kernel) rfl
theorem uX9_81 : Cond.methodLinkNest RX9 81 yX6_init "AskedMaps" ∈ lw_tbl := List.mem_of_getElem? (i := 330) (by decide +kernel)
theorem uX6_3 : Cond.methodLink RX6 3 objectInit ∈ lw_u := uw (i := 333) (by decide +kernel) rfl
theorem uX6_9 : Cond.fieldLink RX6 9 "AskedMaps$Stranger" "many" "I" ∈ lw_u := uw (i := 334) (by decide +kernel) rfl
theorem uX9_322 : Cond.fieldLink RX9 322 "AskedMaps$Stranger" "many" "I" ∈ lw_u := uw (i := 335) (by decide +kernel) rfl
theorem uX6_15 : Cond.fieldLink RX6 15 "AskedMaps$Stranger" "takenBits" "I" ∈ lw_u := uw (i := 336) (by decide +kernel) rfl
theorem uX6_18 : Cond.fieldLink RX6 18 "AskedMaps$Stranger" "leftBits" "I" ∈ lw_u := uw (i := 337) (by decide +kernel) rfl
theorem uX6_21 : Cond.fieldLink RX6 21 "AskedMaps$Stranger" "fitting" "I" ∈ lw_u := uw (i := 338) (by decide +kernel) rfl
theorem uX9_327 : Cond.fieldLink RX9 327 "AskedMaps$Stranger" "fitting" "I" ∈ lw_u := uw (i := 339) (by decide +kernel) rfl
theorem uX6_24 : Cond.fieldLink RX6 24 "AskedMaps$Stranger" "inAll" "I" ∈ lw_u := uw (i := 340) (by decide +kernel) rfl
theorem uX9_330 : Cond.fieldLink RX9 330 "AskedMaps$Stranger" "inAll" "I" ∈ lw_u := uw (i := 341) (by decide +kernel) rfl
theorem uX6_27 : Cond.fieldLink RX6 27 "AskedMaps$Stranger" "inSome" "I" ∈ lw_u := uw (i := 342) (by decide +kernel) rfl
theorem uX9_333 : Cond.fieldLink RX9 333 "AskedMaps$Stranger" "inSome" "I" ∈ lw_u := uw (i := 343) (by decide +kernel) rfl
theorem uX6_30 : Cond.fieldLink RX6 30 "AskedMaps$Stranger" "byLane" "[I" ∈ lw_u := uw (i := 344) (by decide +kernel) rfl
theorem uX9_336 : Cond.fieldLink RX9 336 "AskedMaps$Stranger" "byLane" "[I" ∈ lw_u := uw (i := 345) (by decide +kernel) rfl
theorem uX9_12 : Cond.fieldLink RX9 12 "AskedMaps" "text" "LAskedMaps$Text;" ∈ lw_u := uw (i := 361) (by decide +kernel) rfl
theorem uX9_19 : Cond.fieldLink RX9 19 "AskedMaps" "ground" "LAskedMaps$Ground;" ∈ lw_u := uw (i := 362) (by decide +kernel) rfl
theorem uX9_23 : Cond.fieldLink RX9 23 "AskedMaps" "otherGround" "LAskedMaps$Ground;" ∈ lw_u := uw (i := 363) (by decide +kernel) rfl
theorem uX9_29 : Cond.fieldLink RX9 29 "AskedMaps" "current" "LAskedMaps$Now;" ∈ lw_u := uw (i := 364) (by decide +kernel) rfl
theorem uX9_33 : Cond.fieldLink RX9 33 "AskedMaps" "toldNow" "LAskedMaps$Now;" ∈ lw_u := uw (i := 365) (by decide +kernel) rfl
theorem uX9_39 : Cond.fieldLink RX9 39 "AskedMaps" "ways" "LAskedMaps$Ways;" ∈ lw_u := uw (i := 366) (by decide +kernel) rfl
theorem uX9_46 : Cond.fieldLink RX9 46 "AskedMaps" "past" "LAskedMaps$Past;" ∈ lw_u := uw (i := 367) (by decide +kernel) rfl
theorem uX9_50 : Cond.fieldLink RX9 50 "AskedMaps" "images" "[LAskedMaps$Now;" ∈ lw_u := uw (i := 368) (by decide +kernel) rfl
theorem uX9_54 : Cond.fieldLink RX9 54 "AskedMaps" "imagesKept" "I" ∈ lw_u := uw (i := 369) (by decide +kernel) rfl
theorem uX9_61 : Cond.fieldLink RX9 61 "AskedMaps" "search" "LAskedMaps$Search;" ∈ lw_u := uw (i := 370) (by decide +kernel) rfl
theorem uX9_68 : Cond.fieldLink RX9 68 "AskedMaps" "asked" "LAskedMaps$Asked;" ∈ lw_u := uw (i := 371) (by decide +kernel) rfl
theorem uX9_75 : Cond.fieldLink RX9 75 "AskedMaps" "spited" "LAskedMaps$Spited;" ∈ lw_u := uw (i := 372) (by decide +kernel) rfl
theorem uX9_82 : Cond.fieldLink RX9 82 "AskedMaps" "stranger" "LAskedMaps$Stranger;" ∈ lw_u := uw (i := 373) (by decide +kernel) rfl
theorem uX9_86 : Cond.fieldLink RX9 86 "AskedMaps" "traced" "J" ∈ lw_u := uw (i := 374) (by decide +kernel) rfl
theorem uL_13 : Cond.methodLink RL 13 yX9_type ∈ lw_u := uw (i := 404) (by decide +kernel) rfl
theorem uX9_90 : Cond.methodLink RX9 90 yX7_add ∈ lw_u := uw (i := 408) (by decide +kernel) rfl
theorem uL_18 : Cond.methodLink RL 18 yX9_clear ∈ lw_u := uw (i := 412) (by decide +kernel) rfl
theorem uX9_97 : Cond.methodLink RX9 97 yX7_empty ∈ lw_u := uw (i := 416) (by decide +kernel) rfl
theorem uL_23 : Cond.methodLink RL 23 yX9_land ∈ lw_u := uw (i := 420) (by decide +kernel) rfl
theorem uX9_101 : Cond.methodLink RX9 101 yX1_empty ∈ lw_u := uw (i := 424) (by decide +kernel) rfl
theorem uX9_103 : Cond.methodLink RX9 103 yX2_empty ∈ lw_u := uw (i := 425) (by decide +kernel) rfl
theorem uX9_104 : Cond.methodLink RX9 104 yX7_read ∈ lw_u := uw (i := 429) (by decide +kernel) rfl
theorem uX7_31 : Cond.methodLink RX7 31 yX7_step ∈ lw_u := uw (i := 433) (by decide +kernel) rfl
theorem uX7_92 : Cond.methodLink RX7 92 yX7_isDigit ∈ lw_u := uw (i := 437) (by decide +kernel) rfl
theorem uX7_96 : Cond.methodLink RX7 96 yX7_numberToken ∈ lw_u := uw (i := 440) (by decide +kernel) rfl
theorem uX7_100 : Cond.methodLink RX7 100 yX7_letterToken ∈ lw_u := uw (i := 444) (by decide +kernel) rfl
theorem uX7_34 : Cond.methodLink RX7 34 yX7_readItem ∈ lw_u := uw (i := 448) (by decide +kernel) rfl
theorem uX7_38 : Cond.methodLink RX7 38 yX7_readPlaces ∈ lw_u := uw (i := 452) (by decide +kernel) rfl
theorem uX7_59 : Cond.methodLink RX7 59 yX7_stepTo ∈ lw_u := uw (i := 456) (by decide +kernel) rfl
theorem uX7_66 : Cond.methodLink RX7 66 yX7_stepToEnd ∈ lw_u := uw (i := 460) (by decide +kernel) rfl
theorem uX7_47 : Cond.methodLink RX7 47 yX7_readLane ∈ lw_u := uw (i := 464) (by decide +kernel) rfl
theorem uX7_70 : Cond.methodLink RX7 70 yX1_laneBetween ∈ lw_u := uw (i := 468) (by decide +kernel) rfl
theorem uX7_77 : Cond.methodLink RX7 77 yX1_addLane ∈ lw_u := uw (i := 472) (by decide +kernel) rfl
theorem uX7_56 : Cond.methodLink RX7 56 yX7_readMap ∈ lw_u := uw (i := 476) (by decide +kernel) rfl
theorem uX7_84 : Cond.methodLink RX7 84 yX2_fits ∈ lw_u := uw (i := 480) (by decide +kernel) rfl
theorem uX2_34 : Cond.methodLink RX2 34 yX2_placeAt ∈ lw_u := uw (i := 484) (by decide +kernel) rfl
theorem uX2_38 : Cond.methodLink RX2 38 yX1_laneBetween ∈ lw_u := uw (i := 488) (by decide +kernel) rfl
theorem uX7_88 : Cond.methodLink RX7 88 yX2_append ∈ lw_u := uw (i := 489) (by decide +kernel) rfl
theorem uX9_108 : Cond.methodLink RX9 108 yX8_find ∈ lw_u := uw (i := 493) (by decide +kernel) rfl
theorem uX8_42 : Cond.methodLink RX8 42 yX8_walk ∈ lw_u := uw (i := 497) (by decide +kernel) rfl
theorem uX8_46 : Cond.methodLink RX8 46 yX8_addTrail ∈ lw_u := uw (i := 500) (by decide +kernel) rfl
theorem uX8_58 : Cond.methodLink RX8 58 arraycopyName ∈ lw_u := uw (i := 504) (by decide +kernel) rfl
theorem uX8_50 : Cond.methodLink RX8 50 yX1_laneBetween ∈ lw_u := uw (i := 507) (by decide +kernel) rfl
theorem uX8_54 : Cond.methodLink RX8 54 yX8_onTrail ∈ lw_u := uw (i := 508) (by decide +kernel) rfl
theorem uX9_112 : Cond.methodLink RX9 112 yX2_become ∈ lw_u := uw (i := 512) (by decide +kernel) rfl
theorem uX2_28 : Cond.methodLink RX2 28 arraycopyName ∈ lw_u := uw (i := 516) (by decide +kernel) rfl
theorem uX9_116 : Cond.methodLink RX9 116 yX3_empty ∈ lw_u := uw (i := 517) (by decide +kernel) rfl
theorem uX9_117 : Cond.methodLink RX9 117 yX6_empty ∈ lw_u := uw (i := 521) (by decide +kernel) rfl
theorem uX9_118 : Cond.methodLink RX9 118 yX9_forgetAnswers ∈ lw_u := uw (i := 525) (by decide +kernel) rfl
theorem uL_27 : Cond.methodLink RL 27 yX9_lane ∈ lw_u := uw (i := 529) (by decide +kernel) rfl
theorem uX9_121 : Cond.methodLink RX9 121 yX9_isLane ∈ lw_u := uw (i := 533) (by decide +kernel) rfl
theorem uX9_137 : Cond.methodLink RX9 137 yX9_mapsBy ∈ lw_u := uw (i := 537) (by decide +kernel) rfl
theorem uX9_147 : Cond.methodLink RX9 147 yX2_lanesOf ∈ lw_u := uw (i := 541) (by decide +kernel) rfl
theorem uL_32 : Cond.methodLink RL 32 yX9_map ∈ lw_u := uw (i := 545) (by decide +kernel) rfl
theorem uX9_141 : Cond.methodLink RX9 141 yX9_isMap ∈ lw_u := uw (i := 549) (by decide +kernel) rfl
theorem uX9_151 : Cond.methodLink RX9 151 yX1_lengthOf ∈ lw_u := uw (i := 553) (by decide +kernel) rfl
theorem uX9_155 : Cond.methodLink RX9 155 yX9_heldMaps ∈ lw_u := uw (i := 557) (by decide +kernel) rfl
theorem uX9_177 : Cond.methodLink RX9 177 yX8_measure ∈ lw_u := uw (i := 561) (by decide +kernel) rfl
theorem uX8_64 : Cond.methodLink RX8 64 yX1_lengthOf ∈ lw_u := uw (i := 565) (by decide +kernel) rfl
theorem uX8_68 : Cond.methodLink RX8 68 Lib.Math.min.name ∈ lw_u := uw (i := 566) (by decide +kernel) rfl
theorem uX9_181 : Cond.methodLink RX9 181 yX8_wayBy ∈ lw_u := uw (i := 569) (by decide +kernel) rfl
theorem uX9_184 : Cond.methodLink RX9 184 yX8_isShortest ∈ lw_u := uw (i := 573) (by decide +kernel) rfl
theorem uL_36 : Cond.methodLink RL 36 yX9_place ∈ lw_u := uw (i := 577) (by decide +kernel) rfl
theorem uX9_158 : Cond.methodLink RX9 158 yX2_placeAt ∈ lw_u := uw (i := 581) (by decide +kernel) rfl
theorem uL_40 : Cond.methodLink RL 40 yX9_now ∈ lw_u := uw (i := 582) (by decide +kernel) rfl
theorem uL_44 : Cond.methodLink RL 44 yX9_names ∈ lw_u := uw (i := 586) (by decide +kernel) rfl
theorem uX9_187 : Cond.methodLink RX9 187 yX9_isPlace ∈ lw_u := uw (i := 590) (by decide +kernel) rfl
theorem uX9_190 : Cond.methodLink RX9 190 yX2_fits ∈ lw_u := uw (i := 594) (by decide +kernel) rfl
theorem uX9_194 : Cond.methodLink RX9 194 yX9_beforeChange ∈ lw_u := uw (i := 595) (by decide +kernel) rfl
theorem uX9_237 : Cond.methodLink RX9 237 yX3_remember ∈ lw_u := uw (i := 599) (by decide +kernel) rfl
theorem uX3_25 : Cond.methodLink RX3 25 yX2_become ∈ lw_u := uw (i := 603) (by decide +kernel) rfl
theorem uX3_29 : Cond.methodLink RX3 29 Lib.Math.min.name ∈ lw_u := uw (i := 604) (by decide +kernel) rfl
theorem uX9_197 : Cond.methodLink RX9 197 yX2_append ∈ lw_u := uw (i := 605) (by decide +kernel) rfl
theorem uL_48 : Cond.methodLink RL 48 yX9_asks ∈ lw_u := uw (i := 606) (by decide +kernel) rfl
theorem uX9_201 : Cond.methodLink RX9 201 yX9_draftIsWay ∈ lw_u := uw (i := 610) (by decide +kernel) rfl
theorem uX9_205 : Cond.methodLink RX9 205 yX9_askedCost ∈ lw_u := uw (i := 614) (by decide +kernel) rfl
theorem uX9_258 : Cond.methodLink RX9 258 yX9_allMaps ∈ lw_u := uw (i := 618) (by decide +kernel) rfl
theorem uX9_261 : Cond.methodLink RX9 261 yX9_waysOf ∈ lw_u := uw (i := 622) (by decide +kernel) rfl
theorem uX9_291 : Cond.methodLink RX9 291 yX8_bitBy ∈ lw_u := uw (i := 626) (by decide +kernel) rfl
theorem uX8_80 : Cond.methodLink RX8 80 yX8_wayBy ∈ lw_u := uw (i := 630) (by decide +kernel) rfl
theorem uX9_265 : Cond.methodLink RX9 265 yX9_costOf ∈ lw_u := uw (i := 631) (by decide +kernel) rfl
theorem uX9_294 : Cond.methodLink RX9 294 yX4_begin ∈ lw_u := uw (i := 635) (by decide +kernel) rfl
theorem uX4_45 : Cond.methodLink RX4 45 arraycopyName ∈ lw_u := uw (i := 639) (by decide +kernel) rfl
theorem uX4_57 : Cond.methodLink RX4 57 yX4_bindWay ∈ lw_u := uw (i := 640) (by decide +kernel) rfl
theorem uX4_67 : Cond.methodLink RX4 67 yJ6_bitCount_0f7a4 ∈ lw_u := uw (i := 644) (by decide +kernel) rfl
theorem uJ6_265 : Cond.constant RJ6 265 (1431655765) ∈ lw_u := uw (i := 647) (by decide +kernel) rfl
theorem uJ6_266 : Cond.constant RJ6 266 (858993459) ∈ lw_u := uw (i := 648) (by decide +kernel) rfl
theorem uJ6_267 : Cond.constant RJ6 267 (252645135) ∈ lw_u := uw (i := 649) (by decide +kernel) rfl
theorem uX9_298 : Cond.methodLink RX9 298 yX4_leastCost ∈ lw_u := uw (i := 650) (by decide +kernel) rfl
theorem uX4_73 : Cond.methodLink RX4 73 yX4_goCheapest ∈ lw_u := uw (i := 654) (by decide +kernel) rfl
theorem uX4_81 : Cond.methodLink RX4 81 Lib.Math.min.name ∈ lw_u := uw (i := 657) (by decide +kernel) rfl
theorem uX4_87 : Cond.methodLink RX4 87 yX4_lowest ∈ lw_u := uw (i := 658) (by decide +kernel) rfl
theorem uX4_100 : Cond.methodLink RX4 100 Lib.Math.max.name ∈ lw_u := uw (i := 662) (by decide +kernel) rfl
theorem uX4_90 : Cond.methodLink RX4 90 yX4_highest ∈ lw_u := uw (i := 665) (by decide +kernel) rfl
theorem uX4_93 : Cond.methodLink RX4 93 yX4_choose ∈ lw_u := uw (i := 669) (by decide +kernel) rfl
theorem uX9_301 : Cond.methodLink RX9 301 yX4_findFirst ∈ lw_u := uw (i := 673) (by decide +kernel) rfl
theorem uX4_77 : Cond.methodLink RX4 77 yX4_goFirst ∈ lw_u := uw (i := 677) (by decide +kernel) rfl
theorem uX4_97 : Cond.methodLink RX4 97 Lib.Math.abs.name ∈ lw_u := uw (i := 680) (by decide +kernel) rfl
theorem uX9_209 : Cond.methodLink RX9 209 arraycopyName ∈ lw_u := uw (i := 683) (by decide +kernel) rfl
theorem uX9_215 : Cond.methodLink RX9 215 yX9_addDug ∈ lw_u := uw (i := 684) (by decide +kernel) rfl
theorem uX9_233 : Cond.constant RX9 233 (99999) ∈ lw_u := uw (i := 688) (by decide +kernel) rfl
theorem uX9_234 : Cond.methodLink RX9 234 Lib.Math.min.name ∈ lw_u := uw (i := 689) (by decide +kernel) rfl
theorem uX9_219 : Cond.methodLink RX9 219 yX2_draftToMap ∈ lw_u := uw (i := 690) (by decide +kernel) rfl
theorem uX2_43 : Cond.methodLink RX2 43 yX2_copyRow ∈ lw_u := uw (i := 694) (by decide +kernel) rfl
theorem uL_52 : Cond.methodLink RL 52 yX9_digs ∈ lw_u := uw (i := 698) (by decide +kernel) rfl
theorem uX9_222 : Cond.methodLink RX9 222 Lib.Math.abs.name ∈ lw_u := uw (i := 702) (by decide +kernel) rfl
theorem uL_56 : Cond.methodLink RL 56 yX9_burns ∈ lw_u := uw (i := 703) (by decide +kernel) rfl
theorem uX9_227 : Cond.methodLink RX9 227 yX2_dropMap ∈ lw_u := uw (i := 707) (by decide +kernel) rfl
theorem uL_60 : Cond.methodLink RL 60 yX9_wipes ∈ lw_u := uw (i := 711) (by decide +kernel) rfl
theorem uL_64 : Cond.methodLink RL 64 yX9_undo ∈ lw_u := uw (i := 715) (by decide +kernel) rfl
theorem uX9_230 : Cond.methodLink RX9 230 yX3_restore ∈ lw_u := uw (i := 719) (by decide +kernel) rfl
theorem uL_68 : Cond.methodLink RL 68 yX9_far ∈ lw_u := uw (i := 723) (by decide +kernel) rfl
theorem uX9_244 : Cond.methodLink RX9 244 yX8_leastBetween ∈ lw_u := uw (i := 727) (by decide +kernel) rfl
theorem uX8_73 : Cond.methodLink RX8 73 Lib.Math.max.name ∈ lw_u := uw (i := 731) (by decide +kernel) rfl
theorem uL_72 : Cond.methodLink RL 72 yX9_by ∈ lw_u := uw (i := 732) (by decide +kernel) rfl
theorem uX9_247 : Cond.methodLink RX9 247 yX8_shortestBetween ∈ lw_u := uw (i := 736) (by decide +kernel) rfl
theorem uX8_76 : Cond.methodLink RX8 76 yX8_isShortest ∈ lw_u := uw (i := 740) (by decide +kernel) rfl
theorem uL_76 : Cond.methodLink RL 76 yX9_knot ∈ lw_u := uw (i := 741) (by decide +kernel) rfl
theorem uL_80 : Cond.methodLink RL 80 yX9_asking ∈ lw_u := uw (i := 745) (by decide +kernel) rfl
theorem uL_84 : Cond.methodLink RL 84 yX9_clash ∈ lw_u := uw (i := 749) (by decide +kernel) rfl
theorem uX9_250 : Cond.methodLink RX9 250 yX9_standing ∈ lw_u := uw (i := 753) (by decide +kernel) rfl
theorem uX9_308 : Cond.methodLink RX9 308 yX9_canHold ∈ lw_u := uw (i := 757) (by decide +kernel) rfl
theorem uX9_312 : Cond.methodLink RX9 312 yX9_partsStand ∈ lw_u := uw (i := 761) (by decide +kernel) rfl
theorem uX9_253 : Cond.methodLink RX9 253 yJ6_bitCount_0f7a4 ∈ lw_u := uw (i := 765) (by decide +kernel) rfl
theorem uL_88 : Cond.methodLink RL 88 yX9_fire ∈ lw_u := uw (i := 766) (by decide +kernel) rfl
theorem uL_92 : Cond.methodLink RL 92 yX9_spite ∈ lw_u := uw (i := 770) (by decide +kernel) rfl
theorem uX9_272 : Cond.methodLink RX9 272 yX9_findSpite ∈ lw_u := uw (i := 774) (by decide +kernel) rfl
theorem uX9_316 : Cond.methodLink RX9 316 yX5_empty ∈ lw_u := uw (i := 778) (by decide +kernel) rfl
theorem uX9_317 : Cond.methodLink RX9 317 yX5_see ∈ lw_u := uw (i := 782) (by decide +kernel) rfl
theorem uL_96 : Cond.methodLink RL 96 yX9_spiteful ∈ lw_u := uw (i := 786) (by decide +kernel) rfl
theorem uX9_284 : Cond.methodLink RX9 284 yX8_placeAt ∈ lw_u := uw (i := 790) (by decide +kernel) rfl
theorem uL_100 : Cond.methodLink RL 100 yX9_odds ∈ lw_u := uw (i := 794) (by decide +kernel) rfl
theorem uX9_285 : Cond.methodLink RX9 285 yX9_chances ∈ lw_u := uw (i := 798) (by decide +kernel) rfl
theorem uX9_288 : Cond.methodLink RX9 288 yX9_commonDivisor ∈ lw_u := uw (i := 802) (by decide +kernel) rfl
theorem uL_104 : Cond.methodLink RL 104 yX9_took ∈ lw_u := uw (i := 805) (by decide +kernel) rfl
theorem uX9_320 : Cond.methodLink RX9 320 yX6_add ∈ lw_u := uw (i := 809) (by decide +kernel) rfl
theorem uL_108 : Cond.methodLink RL 108 yX9_forget ∈ lw_u := uw (i := 813) (by decide +kernel) rfl
theorem uL_112 : Cond.methodLink RL 112 yX9_can ∈ lw_u := uw (i := 817) (by decide +kernel) rfl
theorem uX9_323 : Cond.methodLink RX9 323 yX6_guess ∈ lw_u := uw (i := 821) (by decide +kernel) rfl
theorem uX6_40 : Cond.methodLink RX6 40 yX8_isShortest ∈ lw_u := uw (i := 825) (by decide +kernel) rfl
theorem uX6_44 : Cond.methodLink RX6 44 yX6_addFitting ∈ lw_u := uw (i := 826) (by decide +kernel) rfl
theorem uL_116 : Cond.methodLink RL 116 yX9_look ∈ lw_u := uw (i := 830) (by decide +kernel) rfl
theorem uX9_339 : Cond.methodLink RX9 339 Lib.Math.max.name ∈ lw_u := uw (i := 834) (by decide +kernel) rfl
theorem uL_120 : Cond.methodLink RL 120 yX9_rate ∈ lw_u := uw (i := 835) (by decide +kernel) rfl
theorem uX9_342 : Cond.constant RX9 342 (-1000000) ∈ lw_u := uw (i := 839) (by decide +kernel) rfl
theorem uX9_343 : Cond.methodLink RX9 343 yX9_asLane ∈ lw_u := uw (i := 840) (by decide +kernel) rfl
theorem uX9_346 : Cond.methodLink RX9 346 yX9_asBrook ∈ lw_u := uw (i := 844) (by decide +kernel) rfl
theorem uX9_361 : Cond.constantLong RX9 361 (10) ∈ lw_u := uw (i := 848) (by decide +kernel) rfl
theorem uX9_349 : Cond.methodLink RX9 349 yX9_asCart ∈ lw_u := uw (i := 849) (by decide +kernel) rfl
theorem uX9_363 : Cond.constantLong RX9 363 (100) ∈ lw_u := uw (i := 853) (by decide +kernel) rfl
theorem uX9_352 : Cond.methodLink RX9 352 yX9_asParlour ∈ lw_u := uw (i := 854) (by decide +kernel) rfl
theorem uX9_365 : Cond.constantLong RX9 365 (1000) ∈ lw_u := uw (i := 858) (by decide +kernel) rfl
theorem uX9_355 : Cond.methodLink RX9 355 yX9_asHome ∈ lw_u := uw (i := 859) (by decide +kernel) rfl
theorem uX9_367 : Cond.constantLong RX9 367 (10000) ∈ lw_u := uw (i := 863) (by decide +kernel) rfl
theorem uX9_358 : Cond.methodLink RX9 358 yX9_asSea ∈ lw_u := uw (i := 864) (by decide +kernel) rfl
theorem uX9_369 : Cond.constantLong RX9 369 (100000) ∈ lw_u := uw (i := 868) (by decide +kernel) rfl
theorem uL_124 : Cond.methodLink RL 124 yX9_keep ∈ lw_u := uw (i := 869) (by decide +kernel) rfl
theorem uL_128 : Cond.methodLink RL 128 yX9_back ∈ lw_u := uw (i := 873) (by decide +kernel) rfl
theorem uL_132 : Cond.methodLink RL 132 yX9_count ∈ lw_u := uw (i := 877) (by decide +kernel) rfl
theorem uL_136 : Cond.methodLink RL 136 yX9_trace ∈ lw_u := uw (i := 881) (by decide +kernel) rfl
theorem uL_10 : Cond.classLink RL 10 RX10 ∈ lw_u := uw (i := 885) (by decide +kernel) rfl
theorem uinstX10 : Cond.instantiable RX10 35 ∈ lw_u := uw (i := 886) (by decide +kernel) rfl
theorem uL_12 : Cond.methodLink RL 12 yX10_init ∈ lw_u := uw (i := 887) (by decide +kernel) rfl
theorem uX10_1 : Cond.methodLink RX10 1 objectInit ∈ lw_u := uw (i := 890) (by decide +kernel) rfl
theorem uX10_83 : Cond.methodLink RX10 83 yX10_begins ∈ lw_u := uw (i := 891) (by decide +kernel) rfl
theorem uX10_86 : Cond.methodLink RX10 86 yX10_settles ∈ lw_u := uw (i := 895) (by decide +kernel) rfl
theorem uX10_155 : Cond.methodLink RX10 155 yX10_endsOf ∈ lw_u := uw (i := 899) (by decide +kernel) rfl
theorem uX10_89 : Cond.fieldLink RX10 89 "AskedMapsModel" "thrown" "I" ∈ lw_u := uw (i := 903) (by decide +kernel) rfl
theorem uX10_243 : Cond.fieldLink RX10 243 "AskedMapsModel" "trace" "J" ∈ lw_u := uw (i := 904) (by decide +kernel) rfl
theorem uX10_7 : Cond.fieldLink RX10 7 "AskedMapsModel" "text" "[I" ∈ lw_u := uw (i := 905) (by decide +kernel) rfl
theorem uX10_97 : Cond.fieldLink RX10 97 "AskedMapsModel" "typed" "I" ∈ lw_u := uw (i := 906) (by decide +kernel) rfl
theorem uX10_100 : Cond.fieldLink RX10 100 "AskedMapsModel" "next" "I" ∈ lw_u := uw (i := 907) (by decide +kernel) rfl
theorem uX10_110 : Cond.fieldLink RX10 110 "AskedMapsModel" "token" "I" ∈ lw_u := uw (i := 908) (by decide +kernel) rfl
theorem uX10_107 : Cond.fieldLink RX10 107 "AskedMapsModel" "place" "I" ∈ lw_u := uw (i := 909) (by decide +kernel) rfl
theorem uX10_113 : Cond.fieldLink RX10 113 "AskedMapsModel" "value" "I" ∈ lw_u := uw (i := 910) (by decide +kernel) rfl
theorem uX10_116 : Cond.fieldLink RX10 116 "AskedMapsModel" "fault" "I" ∈ lw_u := uw (i := 911) (by decide +kernel) rfl
theorem uX10_13 : Cond.fieldLink RX10 13 "AskedMapsModel" "many" "[I" ∈ lw_u := uw (i := 912) (by decide +kernel) rfl
theorem uX10_16 : Cond.fieldLink RX10 16 "AskedMapsModel" "one" "[I" ∈ lw_u := uw (i := 913) (by decide +kernel) rfl
theorem uX10_19 : Cond.fieldLink RX10 19 "AskedMapsModel" "other" "[I" ∈ lw_u := uw (i := 914) (by decide +kernel) rfl
theorem uX10_22 : Cond.fieldLink RX10 22 "AskedMapsModel" "spades" "[I" ∈ lw_u := uw (i := 915) (by decide +kernel) rfl
theorem uX10_25 : Cond.fieldLink RX10 25 "AskedMapsModel" "draft" "[I" ∈ lw_u := uw (i := 916) (by decide +kernel) rfl
theorem uX10_28 : Cond.fieldLink RX10 28 "AskedMapsModel" "s" "[I" ∈ lw_u := uw (i := 917) (by decide +kernel) rfl
theorem uX10_31 : Cond.fieldLink RX10 31 "AskedMapsModel" "kept" "[I" ∈ lw_u := uw (i := 918) (by decide +kernel) rfl
theorem uX10_34 : Cond.fieldLink RX10 34 "AskedMapsModel" "isKept" "[Z" ∈ lw_u := uw (i := 919) (by decide +kernel) rfl
theorem uX10_38 : Cond.fieldLink RX10 38 "AskedMapsModel" "undos" "[I" ∈ lw_u := uw (i := 920) (by decide +kernel) rfl
theorem uX10_161 : Cond.fieldLink RX10 161 "AskedMapsModel" "undoMany" "I" ∈ lw_u := uw (i := 921) (by decide +kernel) rfl
theorem uX10_41 : Cond.fieldLink RX10 41 "AskedMapsModel" "tookLane" "[I" ∈ lw_u := uw (i := 922) (by decide +kernel) rfl
theorem uX10_44 : Cond.fieldLink RX10 44 "AskedMapsModel" "tookIs" "[I" ∈ lw_u := uw (i := 923) (by decide +kernel) rfl
theorem uX10_158 : Cond.fieldLink RX10 158 "AskedMapsModel" "tookMany" "I" ∈ lw_u := uw (i := 924) (by decide +kernel) rfl
theorem uX10_47 : Cond.fieldLink RX10 47 "AskedMapsModel" "ends" "[I" ∈ lw_u := uw (i := 925) (by decide +kernel) rfl
theorem uX10_50 : Cond.fieldLink RX10 50 "AskedMapsModel" "lengthOf" "[I" ∈ lw_u := uw (i := 926) (by decide +kernel) rfl
theorem uX10_53 : Cond.fieldLink RX10 53 "AskedMapsModel" "lowest" "[I" ∈ lw_u := uw (i := 927) (by decide +kernel) rfl
theorem uX10_56 : Cond.fieldLink RX10 56 "AskedMapsModel" "ways" "[I" ∈ lw_u := uw (i := 928) (by decide +kernel) rfl
theorem uX10_152 : Cond.fieldLink RX10 152 "AskedMapsModel" "wayMany" "I" ∈ lw_u := uw (i := 929) (by decide +kernel) rfl
theorem uX10_59 : Cond.fieldLink RX10 59 "AskedMapsModel" "mapSet" "[I" ∈ lw_u := uw (i := 930) (by decide +kernel) rfl
theorem uX10_62 : Cond.fieldLink RX10 62 "AskedMapsModel" "least" "[I" ∈ lw_u := uw (i := 931) (by decide +kernel) rfl
theorem uX10_65 : Cond.fieldLink RX10 65 "AskedMapsModel" "trial" "[I" ∈ lw_u := uw (i := 932) (by decide +kernel) rfl
theorem uX10_68 : Cond.fieldLink RX10 68 "AskedMapsModel" "costBy" "[I" ∈ lw_u := uw (i := 933) (by decide +kernel) rfl
theorem uX10_71 : Cond.fieldLink RX10 71 "AskedMapsModel" "cheapest" "[I" ∈ lw_u := uw (i := 934) (by decide +kernel) rfl
theorem uX10_74 : Cond.fieldLink RX10 74 "AskedMapsModel" "spite" "[I" ∈ lw_u := uw (i := 935) (by decide +kernel) rfl
theorem uX10_77 : Cond.fieldLink RX10 77 "AskedMapsModel" "row" "[I" ∈ lw_u := uw (i := 936) (by decide +kernel) rfl
theorem uX10_80 : Cond.fieldLink RX10 80 "AskedMapsModel" "best" "[I" ∈ lw_u := uw (i := 937) (by decide +kernel) rfl
theorem uL_17 : Cond.methodLink RL 17 yX10_type ∈ lw_u := uw (i := 1010) (by decide +kernel) rfl
theorem uX10_93 : Cond.methodLink RX10 93 yX10_in ∈ lw_u := uw (i := 1014) (by decide +kernel) rfl
theorem uL_22 : Cond.methodLink RL 22 yX10_clear ∈ lw_u := uw (i := 1017) (by decide +kernel) rfl
theorem uL_26 : Cond.methodLink RL 26 yX10_land ∈ lw_u := uw (i := 1021) (by decide +kernel) rfl
theorem uX10_123 : Cond.methodLink RX10 123 yX10_advances ∈ lw_u := uw (i := 1025) (by decide +kernel) rfl
theorem uX10_103 : Cond.methodLink RX10 103 yX10_letterAt ∈ lw_u := uw (i := 1029) (by decide +kernel) rfl
theorem uX10_119 : Cond.methodLink RX10 119 yX10_isWell ∈ lw_u := uw (i := 1033) (by decide +kernel) rfl
theorem uX10_126 : Cond.methodLink RX10 126 yX10_takes ∈ lw_u := uw (i := 1037) (by decide +kernel) rfl
theorem uX10_148 : Cond.methodLink RX10 148 yX10_readsItem ∈ lw_u := uw (i := 1041) (by decide +kernel) rfl
theorem uX10_130 : Cond.methodLink RX10 130 yX10_number ∈ lw_u := uw (i := 1045) (by decide +kernel) rfl
theorem uX10_142 : Cond.methodLink RX10 142 yX10_readsLane ∈ lw_u := uw (i := 1049) (by decide +kernel) rfl
theorem uX10_134 : Cond.methodLink RX10 134 yX10_laneOf ∈ lw_u := uw (i := 1053) (by decide +kernel) rfl
theorem uX10_145 : Cond.methodLink RX10 145 yX10_readsMap ∈ lw_u := uw (i := 1057) (by decide +kernel) rfl
theorem uX10_138 : Cond.methodLink RX10 138 yX10_canBeNext ∈ lw_u := uw (i := 1061) (by decide +kernel) rfl
theorem uL_31 : Cond.methodLink RL 31 yX10_lane ∈ lw_u := uw (i := 1065) (by decide +kernel) rfl
theorem uX10_171 : Cond.methodLink RX10 171 yX10_isLane ∈ lw_u := uw (i := 1069) (by decide +kernel) rfl
theorem uX10_175 : Cond.methodLink RX10 175 yX10_mapsBy ∈ lw_u := uw (i := 1073) (by decide +kernel) rfl
theorem uX10_168 : Cond.methodLink RX10 168 yX10_mapLanes ∈ lw_u := uw (i := 1077) (by decide +kernel) rfl
theorem uX10_164 : Cond.methodLink RX10 164 yX10_lanesOf ∈ lw_u := uw (i := 1081) (by decide +kernel) rfl
theorem uL_35 : Cond.methodLink RL 35 yX10_map ∈ lw_u := uw (i := 1085) (by decide +kernel) rfl
theorem uX10_178 : Cond.methodLink RX10 178 yX10_isMap ∈ lw_u := uw (i := 1089) (by decide +kernel) rfl
theorem uX10_181 : Cond.methodLink RX10 181 yX10_measures ∈ lw_u := uw (i := 1093) (by decide +kernel) rfl
theorem uX10_167 : Cond.constant RX10 167 (1000000) ∈ lw_u := uw (i := 1097) (by decide +kernel) rfl
theorem uX10_185 : Cond.methodLink RX10 185 yX10_holds ∈ lw_u := uw (i := 1098) (by decide +kernel) rfl
theorem uL_39 : Cond.methodLink RL 39 yX10_place ∈ lw_u := uw (i := 1102) (by decide +kernel) rfl
theorem uL_43 : Cond.methodLink RL 43 yX10_now ∈ lw_u := uw (i := 1106) (by decide +kernel) rfl
theorem uL_47 : Cond.methodLink RL 47 yX10_names ∈ lw_u := uw (i := 1110) (by decide +kernel) rfl
theorem uX10_188 : Cond.methodLink RX10 188 yX10_isPlace ∈ lw_u := uw (i := 1114) (by decide +kernel) rfl
theorem uX10_191 : Cond.methodLink RX10 191 yX10_notes ∈ lw_u := uw (i := 1118) (by decide +kernel) rfl
theorem uL_51 : Cond.methodLink RL 51 yX10_asks ∈ lw_u := uw (i := 1122) (by decide +kernel) rfl
theorem uX10_195 : Cond.methodLink RX10 195 yX10_draftLanes ∈ lw_u := uw (i := 1126) (by decide +kernel) rfl
theorem uX10_199 : Cond.methodLink RX10 199 yX10_scans ∈ lw_u := uw (i := 1130) (by decide +kernel) rfl
theorem uX10_217 : Cond.methodLink RX10 217 yX10_scansOne ∈ lw_u := uw (i := 1134) (by decide +kernel) rfl
theorem uX10_211 : Cond.methodLink RX10 211 yX10_apart ∈ lw_u := uw (i := 1138) (by decide +kernel) rfl
theorem uX10_202 : Cond.methodLink RX10 202 yX10_allMaps ∈ lw_u := uw (i := 1141) (by decide +kernel) rfl
theorem uX10_220 : Cond.methodLink RX10 220 yX10_steps ∈ lw_u := uw (i := 1145) (by decide +kernel) rfl
theorem uX10_205 : Cond.methodLink RX10 205 yX10_costOf ∈ lw_u := uw (i := 1149) (by decide +kernel) rfl
theorem uX10_208 : Cond.methodLink RX10 208 yX10_digsFor ∈ lw_u := uw (i := 1153) (by decide +kernel) rfl
theorem uX10_194 : Cond.constant RX10 194 (99999) ∈ lw_u := uw (i := 1157) (by decide +kernel) rfl
theorem uL_55 : Cond.methodLink RL 55 yX10_digs ∈ lw_u := uw (i := 1158) (by decide +kernel) rfl
theorem uL_59 : Cond.methodLink RL 59 yX10_burns ∈ lw_u := uw (i := 1162) (by decide +kernel) rfl
theorem uL_63 : Cond.methodLink RL 63 yX10_wipes ∈ lw_u := uw (i := 1166) (by decide +kernel) rfl
theorem uL_67 : Cond.methodLink RL 67 yX10_undo ∈ lw_u := uw (i := 1170) (by decide +kernel) rfl
theorem uL_71 : Cond.methodLink RL 71 yX10_far ∈ lw_u := uw (i := 1174) (by decide +kernel) rfl
theorem uX10_214 : Cond.methodLink RX10 214 yX10_endsBetween ∈ lw_u := uw (i := 1178) (by decide +kernel) rfl
theorem uL_75 : Cond.methodLink RL 75 yX10_by ∈ lw_u := uw (i := 1181) (by decide +kernel) rfl
theorem uL_79 : Cond.methodLink RL 79 yX10_knot ∈ lw_u := uw (i := 1185) (by decide +kernel) rfl
theorem uL_83 : Cond.methodLink RL 83 yX10_asking ∈ lw_u := uw (i := 1189) (by decide +kernel) rfl
theorem uL_87 : Cond.methodLink RL 87 yX10_clash ∈ lw_u := uw (i := 1193) (by decide +kernel) rfl
theorem uX10_223 : Cond.methodLink RX10 223 yX10_ones ∈ lw_u := uw (i := 1197) (by decide +kernel) rfl
theorem uL_91 : Cond.methodLink RL 91 yX10_fire ∈ lw_u := uw (i := 1200) (by decide +kernel) rfl
theorem uL_95 : Cond.methodLink RL 95 yX10_spite ∈ lw_u := uw (i := 1204) (by decide +kernel) rfl
theorem uX10_233 : Cond.methodLink RX10 233 yX10_spiteSet ∈ lw_u := uw (i := 1208) (by decide +kernel) rfl
theorem uX10_226 : Cond.methodLink RX10 226 yX10_reads ∈ lw_u := uw (i := 1212) (by decide +kernel) rfl
theorem uX10_229 : Cond.methodLink RX10 229 yX10_isAhead ∈ lw_u := uw (i := 1216) (by decide +kernel) rfl
theorem uL_99 : Cond.methodLink RL 99 yX10_spiteful ∈ lw_u := uw (i := 1220) (by decide +kernel) rfl
theorem uL_103 : Cond.methodLink RL 103 yX10_odds ∈ lw_u := uw (i := 1224) (by decide +kernel) rfl
theorem uX10_236 : Cond.methodLink RX10 236 yX10_gcd ∈ lw_u := uw (i := 1228) (by decide +kernel) rfl
theorem uL_107 : Cond.methodLink RL 107 yX10_took ∈ lw_u := uw (i := 1231) (by decide +kernel) rfl
theorem uL_111 : Cond.methodLink RL 111 yX10_forget ∈ lw_u := uw (i := 1235) (by decide +kernel) rfl
theorem uL_115 : Cond.methodLink RL 115 yX10_can ∈ lw_u := uw (i := 1239) (by decide +kernel) rfl
theorem uX10_239 : Cond.methodLink RX10 239 yX10_mayBe ∈ lw_u := uw (i := 1243) (by decide +kernel) rfl
theorem uL_119 : Cond.methodLink RL 119 yX10_look ∈ lw_u := uw (i := 1247) (by decide +kernel) rfl
theorem uL_123 : Cond.methodLink RL 123 yX10_rate ∈ lw_u := uw (i := 1251) (by decide +kernel) rfl
theorem uX10_242 : Cond.constant RX10 242 (-1000000) ∈ lw_u := uw (i := 1255) (by decide +kernel) rfl
theorem uX10_247 : Cond.constantLong RX10 247 (11) ∈ lw_u := uw (i := 1256) (by decide +kernel) rfl
theorem uX10_249 : Cond.constantLong RX10 249 (101) ∈ lw_u := uw (i := 1257) (by decide +kernel) rfl
theorem uX10_251 : Cond.constantLong RX10 251 (1011) ∈ lw_u := uw (i := 1258) (by decide +kernel) rfl
theorem uX10_253 : Cond.constantLong RX10 253 (10101) ∈ lw_u := uw (i := 1259) (by decide +kernel) rfl
theorem uX10_255 : Cond.constantLong RX10 255 (100001) ∈ lw_u := uw (i := 1260) (by decide +kernel) rfl
theorem uL_127 : Cond.methodLink RL 127 yX10_keep ∈ lw_u := uw (i := 1261) (by decide +kernel) rfl
theorem uL_131 : Cond.methodLink RL 131 yX10_back ∈ lw_u := uw (i := 1265) (by decide +kernel) rfl
theorem uL_135 : Cond.methodLink RL 135 yX10_count ∈ lw_u := uw (i := 1269) (by decide +kernel) rfl
theorem uL_140 : Cond.methodLink RL 140 yX10_trace ∈ lw_u := uw (i := 1273) (by decide +kernel) rfl
