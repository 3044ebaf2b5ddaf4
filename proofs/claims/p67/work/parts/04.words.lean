/-! the words: each by its place in the tables -/
theorem wd_213 : (Cond.code yX0_init cX0_init 1 none : Cond) ∈ WALL := wall_t (tw_1 _ (List.mem_of_getElem? (i := 179) (by rfl))) rfl
theorem wd_214 : (Cond.methodLink RX0 3 objectInit : Cond) ∈ WALL := wall_t (tw_1 _ (List.mem_of_getElem? (i := 180) (by decide +kernel))) rfl
theorem wd_70 : (Cond.instanceMethod objectInit : Cond) ∈ WALL := wall_t (tw_1 _ (List.mem_of_getElem? (i := 36) (by decide +kernel))) rfl
theorem wd_71 : (Cond.code objectInit ⟨#[0xb1]⟩ 1 none : Cond) ∈ WALL := wall_t (tw_1 _ (List.mem_of_getElem? (i := 37) (by rfl))) rfl
theorem wd_146 : (Cond.arrayClass .int : Cond) ∈ WALL := wall_t (tw_1 _ (List.mem_of_getElem? (i := 112) (by decide +kernel))) rfl
theorem wd_215 : (Cond.fieldLink RX0 9 "ParetoDesk$Choices" "weight" "[I" : Cond) ∈ WALL := wall_t (tw_1 _ (List.mem_of_getElem? (i := 181) (by decide +kernel))) rfl
theorem wd_218 : (Cond.fieldLink RX0 15 "ParetoDesk$Choices" "gain" "[I" : Cond) ∈ WALL := wall_t (tw_1 _ (List.mem_of_getElem? (i := 184) (by decide +kernel))) rfl
theorem wd_223 : (Cond.fieldLink RX0 18 "ParetoDesk$Choices" "joy" "[I" : Cond) ∈ WALL := wall_t (tw_1 _ (List.mem_of_getElem? (i := 189) (by decide +kernel))) rfl
theorem wd_228 : (Cond.fieldLink RX0 21 "ParetoDesk$Choices" "barred" "[I" : Cond) ∈ WALL := wall_t (tw_1 _ (List.mem_of_getElem? (i := 194) (by decide +kernel))) rfl
theorem wd_229 : (Cond.fieldLink RX0 24 "ParetoDesk$Choices" "needed" "[I" : Cond) ∈ WALL := wall_t (tw_1 _ (List.mem_of_getElem? (i := 195) (by decide +kernel))) rfl
theorem wd_1040 : (Cond.code yX0_build cX0_build 5 none : Cond) ∈ WALL := wall_t (tw_5 _ (List.mem_of_getElem? (i := 46) (by rfl))) rfl
theorem wd_92 : (Cond.fieldLink RX0 27 "ParetoDesk$Setup" "limit" "I" : Cond) ∈ WALL := wall_t (tw_1 _ (List.mem_of_getElem? (i := 58) (by decide +kernel))) rfl
theorem wd_234 : (Cond.fieldLink RX0 33 "ParetoDesk$Choices" "limit" "I" : Cond) ∈ WALL := wall_t (tw_1 _ (List.mem_of_getElem? (i := 200) (by decide +kernel))) rfl
theorem wd_95 : (Cond.fieldLink RX0 34 "ParetoDesk$Setup" "mustSet" "I" : Cond) ∈ WALL := wall_t (tw_1 _ (List.mem_of_getElem? (i := 61) (by decide +kernel))) rfl
theorem wd_235 : (Cond.fieldLink RX0 37 "ParetoDesk$Choices" "mustSet" "I" : Cond) ∈ WALL := wall_t (tw_1 _ (List.mem_of_getElem? (i := 201) (by decide +kernel))) rfl
theorem wd_99 : (Cond.fieldLink RX0 38 "ParetoDesk$Setup" "neverSet" "I" : Cond) ∈ WALL := wall_t (tw_1 _ (List.mem_of_getElem? (i := 65) (by decide +kernel))) rfl
theorem wd_236 : (Cond.fieldLink RX0 41 "ParetoDesk$Choices" "neverSet" "I" : Cond) ∈ WALL := wall_t (tw_1 _ (List.mem_of_getElem? (i := 202) (by decide +kernel))) rfl
theorem wd_231 : (Cond.fieldLink RX0 42 "ParetoDesk$Choices" "sets" "I" : Cond) ∈ WALL := wall_t (tw_1 _ (List.mem_of_getElem? (i := 197) (by decide +kernel))) rfl
theorem wd_85 : (Cond.fieldLink RX0 45 "ParetoDesk$Setup" "items" "I" : Cond) ∈ WALL := wall_t (tw_1 _ (List.mem_of_getElem? (i := 51) (by decide +kernel))) rfl
theorem wd_106 : (Cond.fieldLink RX0 48 "ParetoDesk$Setup" "weight" "[I" : Cond) ∈ WALL := wall_t (tw_1 _ (List.mem_of_getElem? (i := 72) (by decide +kernel))) rfl
theorem wd_109 : (Cond.fieldLink RX0 49 "ParetoDesk$Setup" "gain" "[I" : Cond) ∈ WALL := wall_t (tw_1 _ (List.mem_of_getElem? (i := 75) (by decide +kernel))) rfl
theorem wd_112 : (Cond.fieldLink RX0 50 "ParetoDesk$Setup" "joy" "[I" : Cond) ∈ WALL := wall_t (tw_1 _ (List.mem_of_getElem? (i := 78) (by decide +kernel))) rfl
theorem wd_115 : (Cond.fieldLink RX0 51 "ParetoDesk$Setup" "bars" "[I" : Cond) ∈ WALL := wall_t (tw_1 _ (List.mem_of_getElem? (i := 81) (by decide +kernel))) rfl
theorem wd_119 : (Cond.fieldLink RX0 54 "ParetoDesk$Setup" "needs" "[I" : Cond) ∈ WALL := wall_t (tw_1 _ (List.mem_of_getElem? (i := 85) (by decide +kernel))) rfl
theorem wd_531 : (Cond.code yJ6_bitCount_0f7a4 cJ6_bitCount_0f7a4 1 (some .int) : Cond) ∈ WALL := wall_t (tw_3 _ (List.mem_of_getElem? (i := 17) (by rfl))) rfl
theorem wd_532 : (Cond.constant RJ6 265 (1431655765) : Cond) ∈ WALL := wall_t (tw_3 _ (List.mem_of_getElem? (i := 18) (by decide +kernel))) rfl
theorem wd_533 : (Cond.constant RJ6 266 (858993459) : Cond) ∈ WALL := wall_t (tw_3 _ (List.mem_of_getElem? (i := 19) (by decide +kernel))) rfl
theorem wd_534 : (Cond.constant RJ6 267 (252645135) : Cond) ∈ WALL := wall_t (tw_3 _ (List.mem_of_getElem? (i := 20) (by decide +kernel))) rfl
theorem wd_1055 : (Cond.code yX0_reasonBesideWeight cX0_reasonBesideWeight 2 (some .int) : Cond) ∈ WALL := wall_t (tw_5 _ (List.mem_of_getElem? (i := 61) (by rfl))) rfl
theorem wd_1056 : (Cond.methodLink RX0 61 yJ6_bitCount_0f7a4 : Cond) ∈ WALL := wall_t (tw_5 _ (List.mem_of_getElem? (i := 62) (by decide +kernel))) rfl
theorem wd_530 : (Cond.static yJ6_bitCount_0f7a4 : Cond) ∈ WALL := wall_t (tw_3 _ (List.mem_of_getElem? (i := 16) (by decide +kernel))) rfl
theorem wd_57 : (Cond.initialized RJ6 : Cond) ∈ WALL := wall_t (tw_1 _ (List.mem_of_getElem? (i := 23) (by decide +kernel))) rfl
theorem wd_1051 : (Cond.code yX0_reason cX0_reason 3 (some .int) : Cond) ∈ WALL := wall_t (tw_5 _ (List.mem_of_getElem? (i := 57) (by rfl))) rfl
theorem wd_1052 : (Cond.methodLink RX0 57 yX0_reasonBesideWeight : Cond) ∈ WALL := wall_t (tw_5 _ (List.mem_of_getElem? (i := 58) (by decide +kernel))) rfl
theorem wd_1054 : (Cond.instanceMethod yX0_reasonBesideWeight : Cond) ∈ WALL := wall_t (tw_5 _ (List.mem_of_getElem? (i := 60) (by decide +kernel))) rfl
theorem wd_19 : (Cond.selects RX0 yX0_reasonBesideWeight yX0_reasonBesideWeight : Cond) ∈ WALL := wall_at (i := 19) (by decide +kernel) rfl
theorem wd_40 : (Cond.initialized RX0 : Cond) ∈ WALL := wall_t (tw_1 _ (List.mem_of_getElem? (i := 6) (by decide +kernel))) rfl
theorem wd_382 : (Cond.code yX1_init cX1_init 1 none : Cond) ∈ WALL := wall_t (tw_2 _ (List.mem_of_getElem? (i := 108) (by rfl))) rfl
theorem wd_383 : (Cond.methodLink RX1 3 objectInit : Cond) ∈ WALL := wall_t (tw_2 _ (List.mem_of_getElem? (i := 109) (by decide +kernel))) rfl
theorem wd_275 : (Cond.code yX2_init cX2_init 1 none : Cond) ∈ WALL := wall_t (tw_2 _ (List.mem_of_getElem? (i := 1) (by rfl))) rfl
theorem wd_276 : (Cond.methodLink RX2 3 objectInit : Cond) ∈ WALL := wall_t (tw_2 _ (List.mem_of_getElem? (i := 2) (by decide +kernel))) rfl
theorem wd_277 : (Cond.fieldLink RX2 9 "ParetoDesk$Frontier" "gain" "[I" : Cond) ∈ WALL := wall_t (tw_2 _ (List.mem_of_getElem? (i := 3) (by decide +kernel))) rfl
theorem wd_279 : (Cond.fieldLink RX2 15 "ParetoDesk$Frontier" "joy" "[I" : Cond) ∈ WALL := wall_t (tw_2 _ (List.mem_of_getElem? (i := 5) (by decide +kernel))) rfl
theorem wd_281 : (Cond.fieldLink RX2 18 "ParetoDesk$Frontier" "choice" "[I" : Cond) ∈ WALL := wall_t (tw_2 _ (List.mem_of_getElem? (i := 7) (by decide +kernel))) rfl
theorem wd_283 : (Cond.fieldLink RX2 21 "ParetoDesk$Frontier" "times" "[I" : Cond) ∈ WALL := wall_t (tw_2 _ (List.mem_of_getElem? (i := 9) (by decide +kernel))) rfl
theorem wd_285 : (Cond.fieldLink RX2 24 "ParetoDesk$Frontier" "light" "[I" : Cond) ∈ WALL := wall_t (tw_2 _ (List.mem_of_getElem? (i := 11) (by decide +kernel))) rfl
theorem wd_287 : (Cond.fieldLink RX2 27 "ParetoDesk$Frontier" "mark" "[I" : Cond) ∈ WALL := wall_t (tw_2 _ (List.mem_of_getElem? (i := 13) (by decide +kernel))) rfl
theorem wd_289 : (Cond.fieldLink RX2 30 "ParetoDesk$Frontier" "vertexPoint" "[I" : Cond) ∈ WALL := wall_t (tw_2 _ (List.mem_of_getElem? (i := 15) (by decide +kernel))) rfl
theorem wd_290 : (Cond.fieldLink RX2 33 "ParetoDesk$Frontier" "pointAt" "[I" : Cond) ∈ WALL := wall_t (tw_2 _ (List.mem_of_getElem? (i := 16) (by decide +kernel))) rfl
theorem wd_208 : (Cond.arrayClass .boolean : Cond) ∈ WALL := wall_t (tw_1 _ (List.mem_of_getElem? (i := 174) (by decide +kernel))) rfl
theorem wd_291 : (Cond.fieldLink RX2 36 "ParetoDesk$Frontier" "reached" "[Z" : Cond) ∈ WALL := wall_t (tw_2 _ (List.mem_of_getElem? (i := 17) (by decide +kernel))) rfl
theorem wd_1072 : (Cond.code yX9_areaBelow cX9_areaBelow 4 (some .int) : Cond) ∈ WALL := wall_t (tw_5 _ (List.mem_of_getElem? (i := 78) (by rfl))) rfl
theorem wd_262 : (Cond.fieldLink RX9 9 "ParetoDesk$Stairs" "joyAt" "[I" : Cond) ∈ WALL := wall_t (tw_1 _ (List.mem_of_getElem? (i := 228) (by decide +kernel))) rfl
theorem wd_1076 : (Cond.code yX2_readPoints cX2_readPoints 3 none : Cond) ∈ WALL := wall_t (tw_5 _ (List.mem_of_getElem? (i := 82) (by rfl))) rfl
theorem wd_292 : (Cond.fieldLink RX2 67 "ParetoDesk$Frontier" "size" "I" : Cond) ∈ WALL := wall_t (tw_2 _ (List.mem_of_getElem? (i := 18) (by decide +kernel))) rfl
theorem wd_263 : (Cond.fieldLink RX2 70 "ParetoDesk$Stairs" "joyAt" "[I" : Cond) ∈ WALL := wall_t (tw_1 _ (List.mem_of_getElem? (i := 229) (by decide +kernel))) rfl
theorem wd_1084 : (Cond.code yX2_pointWithPair cX2_pointWithPair 4 (some .int) : Cond) ∈ WALL := wall_t (tw_5 _ (List.mem_of_getElem? (i := 90) (by rfl))) rfl
theorem wd_233 : (Cond.fieldLink RX2 73 "ParetoDesk$Choices" "sets" "I" : Cond) ∈ WALL := wall_t (tw_1 _ (List.mem_of_getElem? (i := 199) (by decide +kernel))) rfl
theorem wd_220 : (Cond.fieldLink RX2 78 "ParetoDesk$Choices" "gain" "[I" : Cond) ∈ WALL := wall_t (tw_1 _ (List.mem_of_getElem? (i := 186) (by decide +kernel))) rfl
theorem wd_226 : (Cond.fieldLink RX2 79 "ParetoDesk$Choices" "joy" "[I" : Cond) ∈ WALL := wall_t (tw_1 _ (List.mem_of_getElem? (i := 192) (by decide +kernel))) rfl
theorem wd_216 : (Cond.fieldLink RX2 87 "ParetoDesk$Choices" "weight" "[I" : Cond) ∈ WALL := wall_t (tw_1 _ (List.mem_of_getElem? (i := 182) (by decide +kernel))) rfl
theorem wd_1081 : (Cond.methodLink RX2 80 yX2_pointWithPair : Cond) ∈ WALL := wall_t (tw_5 _ (List.mem_of_getElem? (i := 87) (by decide +kernel))) rfl
theorem wd_1082 : (Cond.instanceMethod yX2_pointWithPair : Cond) ∈ WALL := wall_t (tw_5 _ (List.mem_of_getElem? (i := 88) (by decide +kernel))) rfl
theorem wd_1083 : (Cond.selects RX2 yX2_pointWithPair yX2_pointWithPair : Cond) ∈ WALL := wall_t (tw_5 _ (List.mem_of_getElem? (i := 89) (by decide +kernel))) rfl
theorem wd_42 : (Cond.initialized RX2 : Cond) ∈ WALL := wall_t (tw_1 _ (List.mem_of_getElem? (i := 8) (by decide +kernel))) rfl
theorem wd_1085 : (Cond.methodLink RX2 84 yX0_reason : Cond) ∈ WALL := wall_t (tw_5 _ (List.mem_of_getElem? (i := 91) (by decide +kernel))) rfl
theorem wd_1049 : (Cond.instanceMethod yX0_reason : Cond) ∈ WALL := wall_t (tw_5 _ (List.mem_of_getElem? (i := 55) (by decide +kernel))) rfl
theorem wd_1050 : (Cond.selects RX0 yX0_reason yX0_reason : Cond) ∈ WALL := wall_t (tw_5 _ (List.mem_of_getElem? (i := 56) (by decide +kernel))) rfl
theorem wd_1080 : (Cond.code yX2_readChoices cX2_readChoices 5 none : Cond) ∈ WALL := wall_t (tw_5 _ (List.mem_of_getElem? (i := 86) (by rfl))) rfl
theorem wd_1097 : (Cond.code yX2_gainWon cX2_gainWon 3 (some .int) : Cond) ∈ WALL := wall_t (tw_5 _ (List.mem_of_getElem? (i := 103) (by rfl))) rfl
theorem wd_1101 : (Cond.code yX2_joyLost cX2_joyLost 3 (some .int) : Cond) ∈ WALL := wall_t (tw_5 _ (List.mem_of_getElem? (i := 107) (by rfl))) rfl
theorem wd_1093 : (Cond.code yX2_heightOver cX2_heightOver 4 (some .int) : Cond) ∈ WALL := wall_t (tw_5 _ (List.mem_of_getElem? (i := 99) (by rfl))) rfl
theorem wd_1094 : (Cond.methodLink RX2 97 yX2_gainWon : Cond) ∈ WALL := wall_t (tw_5 _ (List.mem_of_getElem? (i := 100) (by decide +kernel))) rfl
theorem wd_1095 : (Cond.instanceMethod yX2_gainWon : Cond) ∈ WALL := wall_t (tw_5 _ (List.mem_of_getElem? (i := 101) (by decide +kernel))) rfl
theorem wd_1096 : (Cond.selects RX2 yX2_gainWon yX2_gainWon : Cond) ∈ WALL := wall_t (tw_5 _ (List.mem_of_getElem? (i := 102) (by decide +kernel))) rfl
theorem wd_1098 : (Cond.methodLink RX2 100 yX2_joyLost : Cond) ∈ WALL := wall_t (tw_5 _ (List.mem_of_getElem? (i := 104) (by decide +kernel))) rfl
theorem wd_1099 : (Cond.instanceMethod yX2_joyLost : Cond) ∈ WALL := wall_t (tw_5 _ (List.mem_of_getElem? (i := 105) (by decide +kernel))) rfl
theorem wd_1100 : (Cond.selects RX2 yX2_joyLost yX2_joyLost : Cond) ∈ WALL := wall_t (tw_5 _ (List.mem_of_getElem? (i := 106) (by decide +kernel))) rfl
theorem wd_1089 : (Cond.code yX2_findVertices cX2_findVertices 2 none : Cond) ∈ WALL := wall_t (tw_5 _ (List.mem_of_getElem? (i := 95) (by rfl))) rfl
theorem wd_294 : (Cond.fieldLink RX2 90 "ParetoDesk$Frontier" "vertexCount" "I" : Cond) ∈ WALL := wall_t (tw_2 _ (List.mem_of_getElem? (i := 20) (by decide +kernel))) rfl
theorem wd_1090 : (Cond.methodLink RX2 93 yX2_heightOver : Cond) ∈ WALL := wall_t (tw_5 _ (List.mem_of_getElem? (i := 96) (by decide +kernel))) rfl
theorem wd_1092 : (Cond.instanceMethod yX2_heightOver : Cond) ∈ WALL := wall_t (tw_5 _ (List.mem_of_getElem? (i := 98) (by decide +kernel))) rfl
theorem wd_25 : (Cond.selects RX2 yX2_heightOver yX2_heightOver : Cond) ∈ WALL := wall_at (i := 25) (by decide +kernel) rfl
theorem wd_1105 : (Cond.code yX2_markSupported cX2_markSupported 5 none : Cond) ∈ WALL := wall_t (tw_5 _ (List.mem_of_getElem? (i := 111) (by rfl))) rfl
theorem wd_264 : (Cond.fieldLink RX2 40 "ParetoDesk$Stairs" "allowedCount" "I" : Cond) ∈ WALL := wall_t (tw_1 _ (List.mem_of_getElem? (i := 230) (by decide +kernel))) rfl
theorem wd_295 : (Cond.fieldLink RX2 46 "ParetoDesk$Frontier" "allowedCount" "I" : Cond) ∈ WALL := wall_t (tw_2 _ (List.mem_of_getElem? (i := 21) (by decide +kernel))) rfl
theorem wd_297 : (Cond.fieldLink RX2 51 "ParetoDesk$Frontier" "areaBelow" "I" : Cond) ∈ WALL := wall_t (tw_2 _ (List.mem_of_getElem? (i := 23) (by decide +kernel))) rfl
theorem wd_1069 : (Cond.methodLink RX2 47 yX9_areaBelow : Cond) ∈ WALL := wall_t (tw_5 _ (List.mem_of_getElem? (i := 75) (by decide +kernel))) rfl
theorem wd_1070 : (Cond.instanceMethod yX9_areaBelow : Cond) ∈ WALL := wall_t (tw_5 _ (List.mem_of_getElem? (i := 76) (by decide +kernel))) rfl
theorem wd_1071 : (Cond.selects RX9 yX9_areaBelow yX9_areaBelow : Cond) ∈ WALL := wall_t (tw_5 _ (List.mem_of_getElem? (i := 77) (by decide +kernel))) rfl
theorem wd_41 : (Cond.initialized RX9 : Cond) ∈ WALL := wall_t (tw_1 _ (List.mem_of_getElem? (i := 7) (by decide +kernel))) rfl
theorem wd_1073 : (Cond.methodLink RX2 53 yX2_readPoints : Cond) ∈ WALL := wall_t (tw_5 _ (List.mem_of_getElem? (i := 79) (by decide +kernel))) rfl
theorem wd_1075 : (Cond.instanceMethod yX2_readPoints : Cond) ∈ WALL := wall_t (tw_5 _ (List.mem_of_getElem? (i := 81) (by decide +kernel))) rfl
theorem wd_22 : (Cond.selects RX2 yX2_readPoints yX2_readPoints : Cond) ∈ WALL := wall_at (i := 22) (by decide +kernel) rfl
theorem wd_1077 : (Cond.methodLink RX2 57 yX2_readChoices : Cond) ∈ WALL := wall_t (tw_5 _ (List.mem_of_getElem? (i := 83) (by decide +kernel))) rfl
theorem wd_1079 : (Cond.instanceMethod yX2_readChoices : Cond) ∈ WALL := wall_t (tw_5 _ (List.mem_of_getElem? (i := 85) (by decide +kernel))) rfl
theorem wd_23 : (Cond.selects RX2 yX2_readChoices yX2_readChoices : Cond) ∈ WALL := wall_at (i := 23) (by decide +kernel) rfl
theorem wd_1086 : (Cond.methodLink RX2 61 yX2_findVertices : Cond) ∈ WALL := wall_t (tw_5 _ (List.mem_of_getElem? (i := 92) (by decide +kernel))) rfl
theorem wd_1088 : (Cond.instanceMethod yX2_findVertices : Cond) ∈ WALL := wall_t (tw_5 _ (List.mem_of_getElem? (i := 94) (by decide +kernel))) rfl
theorem wd_24 : (Cond.selects RX2 yX2_findVertices yX2_findVertices : Cond) ∈ WALL := wall_at (i := 24) (by decide +kernel) rfl
theorem wd_1102 : (Cond.methodLink RX2 64 yX2_markSupported : Cond) ∈ WALL := wall_t (tw_5 _ (List.mem_of_getElem? (i := 108) (by decide +kernel))) rfl
theorem wd_1104 : (Cond.instanceMethod yX2_markSupported : Cond) ∈ WALL := wall_t (tw_5 _ (List.mem_of_getElem? (i := 110) (by decide +kernel))) rfl
theorem wd_26 : (Cond.selects RX2 yX2_markSupported yX2_markSupported : Cond) ∈ WALL := wall_at (i := 26) (by decide +kernel) rfl
theorem wd_1068 : (Cond.code yX2_build cX2_build 4 none : Cond) ∈ WALL := wall_t (tw_5 _ (List.mem_of_getElem? (i := 74) (by rfl))) rfl
theorem wd_1208 : (Cond.code yX2_beats cX2_beats 4 (some .boolean) : Cond) ∈ WALL := wall_t (tw_5 _ (List.mem_of_getElem? (i := 214) (by rfl))) rfl
theorem wd_348 : (Cond.code yX3_init cX3_init 1 none : Cond) ∈ WALL := wall_t (tw_2 _ (List.mem_of_getElem? (i := 74) (by rfl))) rfl
theorem wd_349 : (Cond.methodLink RX3 3 objectInit : Cond) ∈ WALL := wall_t (tw_2 _ (List.mem_of_getElem? (i := 75) (by decide +kernel))) rfl
theorem wd_350 : (Cond.fieldLink RX3 9 "ParetoDesk$Layers" "layer" "[I" : Cond) ∈ WALL := wall_t (tw_2 _ (List.mem_of_getElem? (i := 76) (by decide +kernel))) rfl
theorem wd_352 : (Cond.fieldLink RX3 15 "ParetoDesk$Layers" "size" "[I" : Cond) ∈ WALL := wall_t (tw_2 _ (List.mem_of_getElem? (i := 78) (by decide +kernel))) rfl
theorem wd_356 : (Cond.fieldLink RX3 18 "ParetoDesk$Layers" "topJoy" "[I" : Cond) ∈ WALL := wall_t (tw_2 _ (List.mem_of_getElem? (i := 82) (by decide +kernel))) rfl
theorem wd_357 : (Cond.fieldLink RX3 21 "ParetoDesk$Layers" "firstOfJoy" "[I" : Cond) ∈ WALL := wall_t (tw_2 _ (List.mem_of_getElem? (i := 83) (by decide +kernel))) rfl
theorem wd_358 : (Cond.fieldLink RX3 24 "ParetoDesk$Layers" "nextOfJoy" "[I" : Cond) ∈ WALL := wall_t (tw_2 _ (List.mem_of_getElem? (i := 84) (by decide +kernel))) rfl
theorem wd_359 : (Cond.fieldLink RX3 27 "ParetoDesk$Layers" "firstOfGain" "[I" : Cond) ∈ WALL := wall_t (tw_2 _ (List.mem_of_getElem? (i := 85) (by decide +kernel))) rfl
theorem wd_360 : (Cond.fieldLink RX3 30 "ParetoDesk$Layers" "nextOfGain" "[I" : Cond) ∈ WALL := wall_t (tw_2 _ (List.mem_of_getElem? (i := 86) (by decide +kernel))) rfl
theorem wd_1047 : (Cond.code yJ7_fill_53178 cJ7_fill_53178 4 none : Cond) ∈ WALL := wall_t (tw_5 _ (List.mem_of_getElem? (i := 53) (by rfl))) rfl
theorem wd_1166 : (Cond.code yX3_putAhead cX3_putAhead 4 none : Cond) ∈ WALL := wall_t (tw_5 _ (List.mem_of_getElem? (i := 172) (by rfl))) rfl
theorem wd_232 : (Cond.fieldLink RX3 54 "ParetoDesk$Choices" "sets" "I" : Cond) ∈ WALL := wall_t (tw_1 _ (List.mem_of_getElem? (i := 198) (by decide +kernel))) rfl
theorem wd_225 : (Cond.fieldLink RX3 63 "ParetoDesk$Choices" "joy" "[I" : Cond) ∈ WALL := wall_t (tw_1 _ (List.mem_of_getElem? (i := 191) (by decide +kernel))) rfl
theorem wd_1162 : (Cond.methodLink RX3 48 yJ7_fill_53178 : Cond) ∈ WALL := wall_t (tw_5 _ (List.mem_of_getElem? (i := 168) (by decide +kernel))) rfl
theorem wd_1046 : (Cond.static yJ7_fill_53178 : Cond) ∈ WALL := wall_t (tw_5 _ (List.mem_of_getElem? (i := 52) (by decide +kernel))) rfl
theorem wd_52 : (Cond.initialized RJ7 : Cond) ∈ WALL := wall_t (tw_1 _ (List.mem_of_getElem? (i := 18) (by decide +kernel))) rfl
theorem wd_1163 : (Cond.methodLink RX3 59 yX0_reason : Cond) ∈ WALL := wall_t (tw_5 _ (List.mem_of_getElem? (i := 169) (by decide +kernel))) rfl
theorem wd_1164 : (Cond.methodLink RX3 66 yX3_putAhead : Cond) ∈ WALL := wall_t (tw_5 _ (List.mem_of_getElem? (i := 170) (by decide +kernel))) rfl
theorem wd_1165 : (Cond.static yX3_putAhead : Cond) ∈ WALL := wall_t (tw_5 _ (List.mem_of_getElem? (i := 171) (by decide +kernel))) rfl
theorem wd_44 : (Cond.initialized RX3 : Cond) ∈ WALL := wall_t (tw_1 _ (List.mem_of_getElem? (i := 10) (by decide +kernel))) rfl
theorem wd_1161 : (Cond.code yX3_sortByJoy cX3_sortByJoy 4 none : Cond) ∈ WALL := wall_t (tw_5 _ (List.mem_of_getElem? (i := 167) (by rfl))) rfl
theorem wd_1170 : (Cond.code yX3_sortByGain cX3_sortByGain 5 none : Cond) ∈ WALL := wall_t (tw_5 _ (List.mem_of_getElem? (i := 176) (by rfl))) rfl
theorem wd_221 : (Cond.fieldLink RX3 70 "ParetoDesk$Choices" "gain" "[I" : Cond) ∈ WALL := wall_t (tw_1 _ (List.mem_of_getElem? (i := 187) (by decide +kernel))) rfl
theorem wd_1182 : (Cond.code yX3_firstLayerBelow cX3_firstLayerBelow 6 (some .int) : Cond) ∈ WALL := wall_t (tw_5 _ (List.mem_of_getElem? (i := 188) (by rfl))) rfl
theorem wd_354 : (Cond.fieldLink RX3 33 "ParetoDesk$Layers" "count" "I" : Cond) ∈ WALL := wall_t (tw_2 _ (List.mem_of_getElem? (i := 80) (by decide +kernel))) rfl
theorem wd_1178 : (Cond.code yX3_placePair cX3_placePair 3 (some .int) : Cond) ∈ WALL := wall_t (tw_5 _ (List.mem_of_getElem? (i := 184) (by rfl))) rfl
theorem wd_1179 : (Cond.methodLink RX3 77 yX3_firstLayerBelow : Cond) ∈ WALL := wall_t (tw_5 _ (List.mem_of_getElem? (i := 185) (by decide +kernel))) rfl
theorem wd_1181 : (Cond.instanceMethod yX3_firstLayerBelow : Cond) ∈ WALL := wall_t (tw_5 _ (List.mem_of_getElem? (i := 187) (by decide +kernel))) rfl
theorem wd_33 : (Cond.selects RX3 yX3_firstLayerBelow yX3_firstLayerBelow : Cond) ∈ WALL := wall_at (i := 33) (by decide +kernel) rfl
theorem wd_1174 : (Cond.code yX3_placeGain cX3_placeGain 7 none : Cond) ∈ WALL := wall_t (tw_5 _ (List.mem_of_getElem? (i := 180) (by rfl))) rfl
theorem wd_1175 : (Cond.methodLink RX3 73 yX3_placePair : Cond) ∈ WALL := wall_t (tw_5 _ (List.mem_of_getElem? (i := 181) (by decide +kernel))) rfl
theorem wd_1177 : (Cond.instanceMethod yX3_placePair : Cond) ∈ WALL := wall_t (tw_5 _ (List.mem_of_getElem? (i := 183) (by decide +kernel))) rfl
theorem wd_32 : (Cond.selects RX3 yX3_placePair yX3_placePair : Cond) ∈ WALL := wall_at (i := 32) (by decide +kernel) rfl
theorem wd_1158 : (Cond.methodLink RX3 37 yX3_sortByJoy : Cond) ∈ WALL := wall_t (tw_5 _ (List.mem_of_getElem? (i := 164) (by decide +kernel))) rfl
theorem wd_1160 : (Cond.instanceMethod yX3_sortByJoy : Cond) ∈ WALL := wall_t (tw_5 _ (List.mem_of_getElem? (i := 166) (by decide +kernel))) rfl
theorem wd_29 : (Cond.selects RX3 yX3_sortByJoy yX3_sortByJoy : Cond) ∈ WALL := wall_at (i := 29) (by decide +kernel) rfl
theorem wd_1167 : (Cond.methodLink RX3 41 yX3_sortByGain : Cond) ∈ WALL := wall_t (tw_5 _ (List.mem_of_getElem? (i := 173) (by decide +kernel))) rfl
theorem wd_1169 : (Cond.instanceMethod yX3_sortByGain : Cond) ∈ WALL := wall_t (tw_5 _ (List.mem_of_getElem? (i := 175) (by decide +kernel))) rfl
theorem wd_30 : (Cond.selects RX3 yX3_sortByGain yX3_sortByGain : Cond) ∈ WALL := wall_at (i := 30) (by decide +kernel) rfl
theorem wd_1171 : (Cond.methodLink RX3 45 yX3_placeGain : Cond) ∈ WALL := wall_t (tw_5 _ (List.mem_of_getElem? (i := 177) (by decide +kernel))) rfl
theorem wd_1173 : (Cond.instanceMethod yX3_placeGain : Cond) ∈ WALL := wall_t (tw_5 _ (List.mem_of_getElem? (i := 179) (by decide +kernel))) rfl
theorem wd_31 : (Cond.selects RX3 yX3_placeGain yX3_placeGain : Cond) ∈ WALL := wall_at (i := 31) (by decide +kernel) rfl
theorem wd_1157 : (Cond.code yX3_build cX3_build 4 none : Cond) ∈ WALL := wall_t (tw_5 _ (List.mem_of_getElem? (i := 163) (by rfl))) rfl
theorem wd_200 : (Cond.code yX4_init cX4_init 1 none : Cond) ∈ WALL := wall_t (tw_1 _ (List.mem_of_getElem? (i := 166) (by rfl))) rfl
theorem wd_201 : (Cond.methodLink RX4 3 objectInit : Cond) ∈ WALL := wall_t (tw_1 _ (List.mem_of_getElem? (i := 167) (by decide +kernel))) rfl
theorem wd_145 : (Cond.arrayClass .byte : Cond) ∈ WALL := wall_t (tw_1 _ (List.mem_of_getElem? (i := 111) (by decide +kernel))) rfl
theorem wd_202 : (Cond.fieldLink RX4 9 "ParetoDesk$Output" "bytes" "[B" : Cond) ∈ WALL := wall_t (tw_1 _ (List.mem_of_getElem? (i := 168) (by decide +kernel))) rfl
theorem wd_82 : (Cond.code yX8_init cX8_init 1 none : Cond) ∈ WALL := wall_t (tw_1 _ (List.mem_of_getElem? (i := 48) (by rfl))) rfl
theorem wd_83 : (Cond.methodLink RX8 3 objectInit : Cond) ∈ WALL := wall_t (tw_1 _ (List.mem_of_getElem? (i := 49) (by decide +kernel))) rfl
theorem wd_88 : (Cond.fieldLink RX8 9 "ParetoDesk$Setup" "capacity" "I" : Cond) ∈ WALL := wall_t (tw_1 _ (List.mem_of_getElem? (i := 54) (by decide +kernel))) rfl
theorem wd_91 : (Cond.fieldLink RX8 15 "ParetoDesk$Setup" "limit" "I" : Cond) ∈ WALL := wall_t (tw_1 _ (List.mem_of_getElem? (i := 57) (by decide +kernel))) rfl
theorem wd_105 : (Cond.fieldLink RX8 18 "ParetoDesk$Setup" "weight" "[I" : Cond) ∈ WALL := wall_t (tw_1 _ (List.mem_of_getElem? (i := 71) (by decide +kernel))) rfl
theorem wd_108 : (Cond.fieldLink RX8 22 "ParetoDesk$Setup" "gain" "[I" : Cond) ∈ WALL := wall_t (tw_1 _ (List.mem_of_getElem? (i := 74) (by decide +kernel))) rfl
theorem wd_111 : (Cond.fieldLink RX8 25 "ParetoDesk$Setup" "joy" "[I" : Cond) ∈ WALL := wall_t (tw_1 _ (List.mem_of_getElem? (i := 77) (by decide +kernel))) rfl
theorem wd_114 : (Cond.fieldLink RX8 28 "ParetoDesk$Setup" "bars" "[I" : Cond) ∈ WALL := wall_t (tw_1 _ (List.mem_of_getElem? (i := 80) (by decide +kernel))) rfl
theorem wd_118 : (Cond.fieldLink RX8 31 "ParetoDesk$Setup" "needs" "[I" : Cond) ∈ WALL := wall_t (tw_1 _ (List.mem_of_getElem? (i := 84) (by decide +kernel))) rfl
theorem wd_76 : (Cond.code yX5_init cX5_init 1 none : Cond) ∈ WALL := wall_t (tw_1 _ (List.mem_of_getElem? (i := 42) (by rfl))) rfl
theorem wd_77 : (Cond.methodLink RX5 3 objectInit : Cond) ∈ WALL := wall_t (tw_1 _ (List.mem_of_getElem? (i := 43) (by decide +kernel))) rfl
theorem wd_78 : (Cond.classLink RX5 9 RX8 : Cond) ∈ WALL := wall_t (tw_1 _ (List.mem_of_getElem? (i := 44) (by decide +kernel))) rfl
theorem wd_79 : (Cond.instantiable RX8 11 : Cond) ∈ WALL := wall_t (tw_1 _ (List.mem_of_getElem? (i := 45) (by decide +kernel))) rfl
theorem wd_37 : (Cond.initialized RX8 : Cond) ∈ WALL := wall_t (tw_1 _ (List.mem_of_getElem? (i := 3) (by decide +kernel))) rfl
theorem wd_147 : (Cond.fieldLink RX5 12 "ParetoDesk$Parser" "draft" "LParetoDesk$Setup;" : Cond) ∈ WALL := wall_t (tw_1 _ (List.mem_of_getElem? (i := 113) (by decide +kernel))) rfl
theorem wd_151 : (Cond.fieldLink RX5 18 "ParetoDesk$Parser" "place" "I" : Cond) ∈ WALL := wall_t (tw_1 _ (List.mem_of_getElem? (i := 117) (by decide +kernel))) rfl
theorem wd_153 : (Cond.fieldLink RX5 22 "ParetoDesk$Parser" "text" "[B" : Cond) ∈ WALL := wall_t (tw_1 _ (List.mem_of_getElem? (i := 119) (by decide +kernel))) rfl
theorem wd_81 : (Cond.instanceMethod yX8_init : Cond) ∈ WALL := wall_t (tw_1 _ (List.mem_of_getElem? (i := 47) (by decide +kernel))) rfl
theorem wd_894 : (Cond.code yX8_clear cX8_clear 1 none : Cond) ∈ WALL := wall_t (tw_4 _ (List.mem_of_getElem? (i := 140) (by rfl))) rfl
theorem wd_84 : (Cond.fieldLink RX8 34 "ParetoDesk$Setup" "items" "I" : Cond) ∈ WALL := wall_t (tw_1 _ (List.mem_of_getElem? (i := 50) (by decide +kernel))) rfl
theorem wd_96 : (Cond.fieldLink RX8 43 "ParetoDesk$Setup" "mustSet" "I" : Cond) ∈ WALL := wall_t (tw_1 _ (List.mem_of_getElem? (i := 62) (by decide +kernel))) rfl
theorem wd_100 : (Cond.fieldLink RX8 46 "ParetoDesk$Setup" "neverSet" "I" : Cond) ∈ WALL := wall_t (tw_1 _ (List.mem_of_getElem? (i := 66) (by decide +kernel))) rfl
theorem wd_103 : (Cond.fieldLink RX8 49 "ParetoDesk$Setup" "hand" "I" : Cond) ∈ WALL := wall_t (tw_1 _ (List.mem_of_getElem? (i := 69) (by decide +kernel))) rfl
theorem wd_901 : (Cond.code yX5_isLetter cX5_isLetter 1 (some .boolean) : Cond) ∈ WALL := wall_t (tw_4 _ (List.mem_of_getElem? (i := 147) (by rfl))) rfl
theorem wd_904 : (Cond.code yX5_isDigit cX5_isDigit 1 (some .boolean) : Cond) ∈ WALL := wall_t (tw_4 _ (List.mem_of_getElem? (i := 150) (by rfl))) rfl
theorem wd_898 : (Cond.code yX5_advance cX5_advance 1 none : Cond) ∈ WALL := wall_t (tw_4 _ (List.mem_of_getElem? (i := 144) (by rfl))) rfl
theorem wd_157 : (Cond.fieldLink RX5 35 "ParetoDesk$Parser" "next" "I" : Cond) ∈ WALL := wall_t (tw_1 _ (List.mem_of_getElem? (i := 123) (by decide +kernel))) rfl
theorem wd_154 : (Cond.fieldLink RX5 32 "ParetoDesk$Parser" "length" "I" : Cond) ∈ WALL := wall_t (tw_1 _ (List.mem_of_getElem? (i := 120) (by decide +kernel))) rfl
theorem wd_156 : (Cond.fieldLink RX5 57 "ParetoDesk$Parser" "start" "I" : Cond) ∈ WALL := wall_t (tw_1 _ (List.mem_of_getElem? (i := 122) (by decide +kernel))) rfl
theorem wd_158 : (Cond.fieldLink RX5 60 "ParetoDesk$Parser" "value" "I" : Cond) ∈ WALL := wall_t (tw_1 _ (List.mem_of_getElem? (i := 124) (by decide +kernel))) rfl
theorem wd_155 : (Cond.fieldLink RX5 51 "ParetoDesk$Parser" "kind" "I" : Cond) ∈ WALL := wall_t (tw_1 _ (List.mem_of_getElem? (i := 121) (by decide +kernel))) rfl
theorem wd_905 : (Cond.constant RX5 70 (100000) : Cond) ∈ WALL := wall_t (tw_4 _ (List.mem_of_getElem? (i := 151) (by decide +kernel))) rfl
theorem wd_906 : (Cond.methodLink RX5 71 Lib.Math.min.name : Cond) ∈ WALL := wall_t (tw_4 _ (List.mem_of_getElem? (i := 152) (by decide +kernel))) rfl
theorem wd_645 : (Cond.static Lib.Math.min.name : Cond) ∈ WALL := wall_t (tw_3 _ (List.mem_of_getElem? (i := 131) (by decide +kernel))) rfl
theorem wd_51 : (Cond.initialized "java/lang/Math" : Cond) ∈ WALL := wall_t (tw_1 _ (List.mem_of_getElem? (i := 17) (by decide +kernel))) rfl
theorem wd_646_0 : (Cond.code Lib.Math.min.name Lib.Math.min.code 2 (some .int) : Cond) ∈ WALL := wall_t (tw_3 _ (List.mem_of_getElem? (i := 132) (by rfl))) rfl
theorem wd_899 : (Cond.methodLink RX5 63 yX5_isLetter : Cond) ∈ WALL := wall_t (tw_4 _ (List.mem_of_getElem? (i := 145) (by decide +kernel))) rfl
theorem wd_900 : (Cond.static yX5_isLetter : Cond) ∈ WALL := wall_t (tw_4 _ (List.mem_of_getElem? (i := 146) (by decide +kernel))) rfl
theorem wd_36 : (Cond.initialized RX5 : Cond) ∈ WALL := wall_t (tw_1 _ (List.mem_of_getElem? (i := 2) (by decide +kernel))) rfl
theorem wd_902 : (Cond.methodLink RX5 67 yX5_isDigit : Cond) ∈ WALL := wall_t (tw_4 _ (List.mem_of_getElem? (i := 148) (by decide +kernel))) rfl
theorem wd_903 : (Cond.static yX5_isDigit : Cond) ∈ WALL := wall_t (tw_4 _ (List.mem_of_getElem? (i := 149) (by decide +kernel))) rfl
theorem wd_586 : (Cond.code yJ0_coder_7d493 cJ0_coder_7d493 1 (some .byte) : Cond) ∈ WALL := wall_t (tw_3 _ (List.mem_of_getElem? (i := 72) (by rfl))) rfl
theorem wd_587 : (Cond.fieldLink RJ0 38 "java/lang/String" "COMPACT_STRINGS" "Z" : Cond) ∈ WALL := wall_t (tw_3 _ (List.mem_of_getElem? (i := 73) (by decide +kernel))) rfl
theorem wd_811 : (Cond.fieldLink RJ0 15 "java/lang/String" "coder" "B" : Cond) ∈ WALL := wall_t (tw_4 _ (List.mem_of_getElem? (i := 57) (by decide +kernel))) rfl
theorem wd_582 : (Cond.code yJ0_length_8abf5 cJ0_length_8abf5 1 (some .int) : Cond) ∈ WALL := wall_t (tw_3 _ (List.mem_of_getElem? (i := 68) (by rfl))) rfl
theorem wd_810 : (Cond.fieldLink RJ0 9 "java/lang/String" "value" "[B" : Cond) ∈ WALL := wall_t (tw_4 _ (List.mem_of_getElem? (i := 56) (by decide +kernel))) rfl
theorem wd_583 : (Cond.methodLink RJ0 335 yJ0_coder_7d493 : Cond) ∈ WALL := wall_t (tw_3 _ (List.mem_of_getElem? (i := 69) (by decide +kernel))) rfl
theorem wd_584 : (Cond.instanceMethod yJ0_coder_7d493 : Cond) ∈ WALL := wall_t (tw_3 _ (List.mem_of_getElem? (i := 70) (by decide +kernel))) rfl
theorem wd_585 : (Cond.selects RJ0 yJ0_coder_7d493 yJ0_coder_7d493 : Cond) ∈ WALL := wall_t (tw_3 _ (List.mem_of_getElem? (i := 71) (by decide +kernel))) rfl
theorem wd_48 : (Cond.initialized RJ0 : Cond) ∈ WALL := wall_t (tw_1 _ (List.mem_of_getElem? (i := 14) (by decide +kernel))) rfl
theorem wd_835 : (Cond.code yJ0_isLatin1_aae02 cJ0_isLatin1_aae02 1 (some .boolean) : Cond) ∈ WALL := wall_t (tw_4 _ (List.mem_of_getElem? (i := 81) (by rfl))) rfl
theorem wd_844 : (Cond.code yJ3_checkIndex_8e157 cJ3_checkIndex_8e157 3 (some .int) : Cond) ∈ WALL := wall_t (tw_4 _ (List.mem_of_getElem? (i := 90) (by rfl))) rfl
theorem wd_841 : (Cond.code yJ0_checkIndex_df160 cJ0_checkIndex_df160 2 none : Cond) ∈ WALL := wall_t (tw_4 _ (List.mem_of_getElem? (i := 87) (by rfl))) rfl
theorem wd_666 : (Cond.fieldLink RJ0 1053 "jdk/internal/util/Preconditions" "SIOOBE_FORMATTER" "Ljava/util/function/BiFunction;" : Cond) ∈ WALL := wall_t (tw_3 _ (List.mem_of_getElem? (i := 152) (by decide +kernel))) rfl
theorem wd_842 : (Cond.methodLink RJ0 1059 yJ3_checkIndex_8e157 : Cond) ∈ WALL := wall_t (tw_4 _ (List.mem_of_getElem? (i := 88) (by decide +kernel))) rfl
theorem wd_843 : (Cond.static yJ3_checkIndex_8e157 : Cond) ∈ WALL := wall_t (tw_4 _ (List.mem_of_getElem? (i := 89) (by decide +kernel))) rfl
theorem wd_54 : (Cond.initialized RJ3 : Cond) ∈ WALL := wall_t (tw_1 _ (List.mem_of_getElem? (i := 20) (by decide +kernel))) rfl
theorem wd_838 : (Cond.code yJ1_charAt_3b067 cJ1_charAt_3b067 2 (some .char) : Cond) ∈ WALL := wall_t (tw_4 _ (List.mem_of_getElem? (i := 84) (by rfl))) rfl
theorem wd_839 : (Cond.methodLink RJ1 9 yJ0_checkIndex_df160 : Cond) ∈ WALL := wall_t (tw_4 _ (List.mem_of_getElem? (i := 85) (by decide +kernel))) rfl
theorem wd_840 : (Cond.static yJ0_checkIndex_df160 : Cond) ∈ WALL := wall_t (tw_4 _ (List.mem_of_getElem? (i := 86) (by decide +kernel))) rfl
theorem wd_662 : (Cond.code yJ2_length_9d52b cJ2_length_9d52b 1 (some .int) : Cond) ∈ WALL := wall_t (tw_3 _ (List.mem_of_getElem? (i := 148) (by rfl))) rfl
theorem wd_850 : (Cond.code yJ2_checkIndex_2214a cJ2_checkIndex_2214a 2 none : Cond) ∈ WALL := wall_t (tw_4 _ (List.mem_of_getElem? (i := 96) (by rfl))) rfl
theorem wd_660 : (Cond.methodLink RJ2 48 yJ2_length_9d52b : Cond) ∈ WALL := wall_t (tw_3 _ (List.mem_of_getElem? (i := 146) (by decide +kernel))) rfl
theorem wd_661 : (Cond.static yJ2_length_9d52b : Cond) ∈ WALL := wall_t (tw_3 _ (List.mem_of_getElem? (i := 147) (by decide +kernel))) rfl
theorem wd_49 : (Cond.initialized RJ2 : Cond) ∈ WALL := wall_t (tw_1 _ (List.mem_of_getElem? (i := 15) (by decide +kernel))) rfl
theorem wd_851 : (Cond.methodLink RJ2 414 yJ0_checkIndex_df160 : Cond) ∈ WALL := wall_t (tw_4 _ (List.mem_of_getElem? (i := 97) (by decide +kernel))) rfl
theorem wd_805 : (Cond.code yJ2_getChar_3b067 cJ2_getChar_3b067 2 (some .char) : Cond) ∈ WALL := wall_t (tw_4 _ (List.mem_of_getElem? (i := 51) (by rfl))) rfl
theorem wd_674 : (Cond.fieldLink RJ2 44 "java/lang/StringUTF16" "$assertionsDisabled" "Z" : Cond) ∈ WALL := wall_t (tw_3 _ (List.mem_of_getElem? (i := 160) (by decide +kernel))) rfl
theorem wd_676 : (Cond.fieldLink RJ2 59 "java/lang/StringUTF16" "HI_BYTE_SHIFT" "I" : Cond) ∈ WALL := wall_t (tw_3 _ (List.mem_of_getElem? (i := 162) (by decide +kernel))) rfl
theorem wd_678 : (Cond.fieldLink RJ2 63 "java/lang/StringUTF16" "LO_BYTE_SHIFT" "I" : Cond) ∈ WALL := wall_t (tw_3 _ (List.mem_of_getElem? (i := 164) (by decide +kernel))) rfl
theorem wd_847 : (Cond.code yJ2_charAt_3b067 cJ2_charAt_3b067 2 (some .char) : Cond) ∈ WALL := wall_t (tw_4 _ (List.mem_of_getElem? (i := 93) (by rfl))) rfl
theorem wd_848 : (Cond.methodLink RJ2 67 yJ2_checkIndex_2214a : Cond) ∈ WALL := wall_t (tw_4 _ (List.mem_of_getElem? (i := 94) (by decide +kernel))) rfl
theorem wd_849 : (Cond.static yJ2_checkIndex_2214a : Cond) ∈ WALL := wall_t (tw_4 _ (List.mem_of_getElem? (i := 95) (by decide +kernel))) rfl
theorem wd_803 : (Cond.methodLink RJ2 71 yJ2_getChar_3b067 : Cond) ∈ WALL := wall_t (tw_4 _ (List.mem_of_getElem? (i := 49) (by decide +kernel))) rfl
theorem wd_804 : (Cond.static yJ2_getChar_3b067 : Cond) ∈ WALL := wall_t (tw_4 _ (List.mem_of_getElem? (i := 50) (by decide +kernel))) rfl
theorem wd_832 : (Cond.methodLink RJ0 492 yJ0_isLatin1_aae02 : Cond) ∈ WALL := wall_t (tw_4 _ (List.mem_of_getElem? (i := 78) (by decide +kernel))) rfl
theorem wd_833 : (Cond.instanceMethod yJ0_isLatin1_aae02 : Cond) ∈ WALL := wall_t (tw_4 _ (List.mem_of_getElem? (i := 79) (by decide +kernel))) rfl
theorem wd_834 : (Cond.selects RJ0 yJ0_isLatin1_aae02 yJ0_isLatin1_aae02 : Cond) ∈ WALL := wall_t (tw_4 _ (List.mem_of_getElem? (i := 80) (by decide +kernel))) rfl
theorem wd_836 : (Cond.methodLink RJ0 495 yJ1_charAt_3b067 : Cond) ∈ WALL := wall_t (tw_4 _ (List.mem_of_getElem? (i := 82) (by decide +kernel))) rfl
theorem wd_837 : (Cond.static yJ1_charAt_3b067 : Cond) ∈ WALL := wall_t (tw_4 _ (List.mem_of_getElem? (i := 83) (by decide +kernel))) rfl
theorem wd_55 : (Cond.initialized RJ1 : Cond) ∈ WALL := wall_t (tw_1 _ (List.mem_of_getElem? (i := 21) (by decide +kernel))) rfl
theorem wd_845 : (Cond.methodLink RJ0 498 yJ2_charAt_3b067 : Cond) ∈ WALL := wall_t (tw_4 _ (List.mem_of_getElem? (i := 91) (by decide +kernel))) rfl
theorem wd_846 : (Cond.static yJ2_charAt_3b067 : Cond) ∈ WALL := wall_t (tw_4 _ (List.mem_of_getElem? (i := 92) (by decide +kernel))) rfl
theorem wd_831 : (Cond.code yJ0_charAt_5068e cJ0_charAt_5068e 2 (some .char) : Cond) ∈ WALL := wall_t (tw_4 _ (List.mem_of_getElem? (i := 77) (by rfl))) rfl
theorem wd_920 : (Cond.methodLink RX5 77 yJ0_length_8abf5 : Cond) ∈ WALL := wall_t (tw_4 _ (List.mem_of_getElem? (i := 166) (by decide +kernel))) rfl
theorem wd_580 : (Cond.instanceMethod yJ0_length_8abf5 : Cond) ∈ WALL := wall_t (tw_3 _ (List.mem_of_getElem? (i := 66) (by decide +kernel))) rfl
theorem wd_581 : (Cond.selects RJ0 yJ0_length_8abf5 yJ0_length_8abf5 : Cond) ∈ WALL := wall_t (tw_3 _ (List.mem_of_getElem? (i := 67) (by decide +kernel))) rfl
theorem wd_921 : (Cond.methodLink RX5 82 yJ0_charAt_5068e : Cond) ∈ WALL := wall_t (tw_4 _ (List.mem_of_getElem? (i := 167) (by decide +kernel))) rfl
theorem wd_829 : (Cond.instanceMethod yJ0_charAt_5068e : Cond) ∈ WALL := wall_t (tw_4 _ (List.mem_of_getElem? (i := 75) (by decide +kernel))) rfl
theorem wd_830 : (Cond.selects RJ0 yJ0_charAt_5068e yJ0_charAt_5068e : Cond) ∈ WALL := wall_t (tw_4 _ (List.mem_of_getElem? (i := 76) (by decide +kernel))) rfl
theorem wd_919 : (Cond.code yX5_isWord cX5_isWord 3 (some .boolean) : Cond) ∈ WALL := wall_t (tw_4 _ (List.mem_of_getElem? (i := 165) (by rfl))) rfl
theorem wd_925 : (Cond.code yX5_fail cX5_fail 2 (some .boolean) : Cond) ∈ WALL := wall_t (tw_4 _ (List.mem_of_getElem? (i := 171) (by rfl))) rfl
theorem wd_149 : (Cond.fieldLink RX5 38 "ParetoDesk$Parser" "code" "I" : Cond) ∈ WALL := wall_t (tw_1 _ (List.mem_of_getElem? (i := 115) (by decide +kernel))) rfl
theorem wd_916 : (Cond.methodLink RX5 86 yX5_isWord : Cond) ∈ WALL := wall_t (tw_4 _ (List.mem_of_getElem? (i := 162) (by decide +kernel))) rfl
theorem wd_918 : (Cond.instanceMethod yX5_isWord : Cond) ∈ WALL := wall_t (tw_4 _ (List.mem_of_getElem? (i := 164) (by decide +kernel))) rfl
theorem wd_7 : (Cond.selects RX5 yX5_isWord yX5_isWord : Cond) ∈ WALL := wall_at (i := 7) (by decide +kernel) rfl
theorem wd_922 : (Cond.methodLink RX5 90 yX5_fail : Cond) ∈ WALL := wall_t (tw_4 _ (List.mem_of_getElem? (i := 168) (by decide +kernel))) rfl
theorem wd_924 : (Cond.instanceMethod yX5_fail : Cond) ∈ WALL := wall_t (tw_4 _ (List.mem_of_getElem? (i := 170) (by decide +kernel))) rfl
theorem wd_8 : (Cond.selects RX5 yX5_fail yX5_fail : Cond) ∈ WALL := wall_at (i := 8) (by decide +kernel) rfl
theorem wd_895 : (Cond.methodLink RX5 44 yX5_advance : Cond) ∈ WALL := wall_t (tw_4 _ (List.mem_of_getElem? (i := 141) (by decide +kernel))) rfl
theorem wd_897 : (Cond.instanceMethod yX5_advance : Cond) ∈ WALL := wall_t (tw_4 _ (List.mem_of_getElem? (i := 143) (by decide +kernel))) rfl
theorem wd_4 : (Cond.selects RX5 yX5_advance yX5_advance : Cond) ∈ WALL := wall_at (i := 4) (by decide +kernel) rfl
theorem wd_915 : (Cond.code yX5_passWord cX5_passWord 2 (some .boolean) : Cond) ∈ WALL := wall_t (tw_4 _ (List.mem_of_getElem? (i := 161) (by rfl))) rfl
theorem wd_933 : (Cond.code yX5_checkNumber cX5_checkNumber 2 (some .boolean) : Cond) ∈ WALL := wall_t (tw_4 _ (List.mem_of_getElem? (i := 179) (by rfl))) rfl
theorem wd_930 : (Cond.methodLink RX5 94 yX5_checkNumber : Cond) ∈ WALL := wall_t (tw_4 _ (List.mem_of_getElem? (i := 176) (by decide +kernel))) rfl
theorem wd_932 : (Cond.instanceMethod yX5_checkNumber : Cond) ∈ WALL := wall_t (tw_4 _ (List.mem_of_getElem? (i := 178) (by decide +kernel))) rfl
theorem wd_10 : (Cond.selects RX5 yX5_checkNumber yX5_checkNumber : Cond) ∈ WALL := wall_at (i := 10) (by decide +kernel) rfl
theorem wd_929 : (Cond.code yX5_passNumber cX5_passNumber 3 (some .int) : Cond) ∈ WALL := wall_t (tw_4 _ (List.mem_of_getElem? (i := 175) (by rfl))) rfl
theorem wd_938 : (Cond.code yX5_passEnd cX5_passEnd 1 (some .boolean) : Cond) ∈ WALL := wall_t (tw_4 _ (List.mem_of_getElem? (i := 184) (by rfl))) rfl
theorem wd_90 : (Cond.fieldLink RX5 106 "ParetoDesk$Setup" "capacity" "I" : Cond) ∈ WALL := wall_t (tw_1 _ (List.mem_of_getElem? (i := 56) (by decide +kernel))) rfl
theorem wd_94 : (Cond.fieldLink RX5 110 "ParetoDesk$Setup" "limit" "I" : Cond) ∈ WALL := wall_t (tw_1 _ (List.mem_of_getElem? (i := 60) (by decide +kernel))) rfl
theorem wd_912 : (Cond.methodLink RX5 99 yX5_passWord : Cond) ∈ WALL := wall_t (tw_4 _ (List.mem_of_getElem? (i := 158) (by decide +kernel))) rfl
theorem wd_914 : (Cond.instanceMethod yX5_passWord : Cond) ∈ WALL := wall_t (tw_4 _ (List.mem_of_getElem? (i := 160) (by decide +kernel))) rfl
theorem wd_6 : (Cond.selects RX5 yX5_passWord yX5_passWord : Cond) ∈ WALL := wall_at (i := 6) (by decide +kernel) rfl
theorem wd_926 : (Cond.methodLink RX5 102 yX5_passNumber : Cond) ∈ WALL := wall_t (tw_4 _ (List.mem_of_getElem? (i := 172) (by decide +kernel))) rfl
theorem wd_928 : (Cond.instanceMethod yX5_passNumber : Cond) ∈ WALL := wall_t (tw_4 _ (List.mem_of_getElem? (i := 174) (by decide +kernel))) rfl
theorem wd_9 : (Cond.selects RX5 yX5_passNumber yX5_passNumber : Cond) ∈ WALL := wall_at (i := 9) (by decide +kernel) rfl
theorem wd_935 : (Cond.methodLink RX5 112 yX5_passEnd : Cond) ∈ WALL := wall_t (tw_4 _ (List.mem_of_getElem? (i := 181) (by decide +kernel))) rfl
theorem wd_937 : (Cond.instanceMethod yX5_passEnd : Cond) ∈ WALL := wall_t (tw_4 _ (List.mem_of_getElem? (i := 183) (by decide +kernel))) rfl
theorem wd_11 : (Cond.selects RX5 yX5_passEnd yX5_passEnd : Cond) ∈ WALL := wall_at (i := 11) (by decide +kernel) rfl
theorem wd_910 : (Cond.code yX5_readFrame cX5_readFrame 1 (some .boolean) : Cond) ∈ WALL := wall_t (tw_4 _ (List.mem_of_getElem? (i := 156) (by rfl))) rfl
theorem wd_954 : (Cond.code yX8_addLast cX8_addLast 4 none : Cond) ∈ WALL := wall_t (tw_4 _ (List.mem_of_getElem? (i := 200) (by rfl))) rfl
theorem wd_87 : (Cond.fieldLink RX5 135 "ParetoDesk$Setup" "items" "I" : Cond) ∈ WALL := wall_t (tw_1 _ (List.mem_of_getElem? (i := 53) (by decide +kernel))) rfl
theorem wd_951 : (Cond.methodLink RX5 144 yX8_addLast : Cond) ∈ WALL := wall_t (tw_4 _ (List.mem_of_getElem? (i := 197) (by decide +kernel))) rfl
theorem wd_952 : (Cond.instanceMethod yX8_addLast : Cond) ∈ WALL := wall_t (tw_4 _ (List.mem_of_getElem? (i := 198) (by decide +kernel))) rfl
theorem wd_953 : (Cond.selects RX8 yX8_addLast yX8_addLast : Cond) ∈ WALL := wall_t (tw_4 _ (List.mem_of_getElem? (i := 199) (by decide +kernel))) rfl
theorem wd_947 : (Cond.code yX5_readItem cX5_readItem 4 (some .boolean) : Cond) ∈ WALL := wall_t (tw_4 _ (List.mem_of_getElem? (i := 193) (by rfl))) rfl
theorem wd_963 : (Cond.code yX10_hasBit cX10_hasBit 2 (some .boolean) : Cond) ∈ WALL := wall_t (tw_4 _ (List.mem_of_getElem? (i := 209) (by rfl))) rfl
theorem wd_966 : (Cond.code yX10_withBit cX10_withBit 3 (some .int) : Cond) ∈ WALL := wall_t (tw_4 _ (List.mem_of_getElem? (i := 212) (by rfl))) rfl
theorem wd_117 : (Cond.fieldLink RX5 148 "ParetoDesk$Setup" "bars" "[I" : Cond) ∈ WALL := wall_t (tw_1 _ (List.mem_of_getElem? (i := 83) (by decide +kernel))) rfl
theorem wd_121 : (Cond.fieldLink RX5 152 "ParetoDesk$Setup" "needs" "[I" : Cond) ∈ WALL := wall_t (tw_1 _ (List.mem_of_getElem? (i := 87) (by decide +kernel))) rfl
theorem wd_962 : (Cond.static yX10_hasBit : Cond) ∈ WALL := wall_t (tw_4 _ (List.mem_of_getElem? (i := 208) (by decide +kernel))) rfl
theorem wd_35 : (Cond.initialized RX10 : Cond) ∈ WALL := wall_t (tw_1 _ (List.mem_of_getElem? (i := 1) (by decide +kernel))) rfl
theorem wd_965 : (Cond.static yX10_withBit : Cond) ∈ WALL := wall_t (tw_4 _ (List.mem_of_getElem? (i := 211) (by decide +kernel))) rfl
theorem wd_960 : (Cond.code yX5_readPair cX5_readPair 5 (some .boolean) : Cond) ∈ WALL := wall_t (tw_4 _ (List.mem_of_getElem? (i := 206) (by rfl))) rfl
theorem wd_98 : (Cond.fieldLink RX5 163 "ParetoDesk$Setup" "mustSet" "I" : Cond) ∈ WALL := wall_t (tw_1 _ (List.mem_of_getElem? (i := 64) (by decide +kernel))) rfl
theorem wd_102 : (Cond.fieldLink RX5 166 "ParetoDesk$Setup" "neverSet" "I" : Cond) ∈ WALL := wall_t (tw_1 _ (List.mem_of_getElem? (i := 68) (by decide +kernel))) rfl
theorem wd_972 : (Cond.code yX5_readSingle cX5_readSingle 3 (some .boolean) : Cond) ∈ WALL := wall_t (tw_4 _ (List.mem_of_getElem? (i := 218) (by rfl))) rfl
theorem wd_944 : (Cond.methodLink RX5 117 yX5_readItem : Cond) ∈ WALL := wall_t (tw_4 _ (List.mem_of_getElem? (i := 190) (by decide +kernel))) rfl
theorem wd_946 : (Cond.instanceMethod yX5_readItem : Cond) ∈ WALL := wall_t (tw_4 _ (List.mem_of_getElem? (i := 192) (by decide +kernel))) rfl
theorem wd_13 : (Cond.selects RX5 yX5_readItem yX5_readItem : Cond) ∈ WALL := wall_at (i := 13) (by decide +kernel) rfl
theorem wd_957 : (Cond.methodLink RX5 124 yX5_readPair : Cond) ∈ WALL := wall_t (tw_4 _ (List.mem_of_getElem? (i := 203) (by decide +kernel))) rfl
theorem wd_959 : (Cond.instanceMethod yX5_readPair : Cond) ∈ WALL := wall_t (tw_4 _ (List.mem_of_getElem? (i := 205) (by decide +kernel))) rfl
theorem wd_14 : (Cond.selects RX5 yX5_readPair yX5_readPair : Cond) ∈ WALL := wall_at (i := 14) (by decide +kernel) rfl
theorem wd_969 : (Cond.methodLink RX5 132 yX5_readSingle : Cond) ∈ WALL := wall_t (tw_4 _ (List.mem_of_getElem? (i := 215) (by decide +kernel))) rfl
theorem wd_971 : (Cond.instanceMethod yX5_readSingle : Cond) ∈ WALL := wall_t (tw_4 _ (List.mem_of_getElem? (i := 217) (by decide +kernel))) rfl
theorem wd_15 : (Cond.selects RX5 yX5_readSingle yX5_readSingle : Cond) ∈ WALL := wall_at (i := 15) (by decide +kernel) rfl
theorem wd_942 : (Cond.code yX5_readStatement cX5_readStatement 1 (some .boolean) : Cond) ∈ WALL := wall_t (tw_4 _ (List.mem_of_getElem? (i := 188) (by rfl))) rfl
theorem wd_890 : (Cond.methodLink RX5 26 arraycopyName : Cond) ∈ WALL := wall_t (tw_4 _ (List.mem_of_getElem? (i := 136) (by decide +kernel))) rfl
theorem wd_557 : (Cond.native arraycopyName : Cond) ∈ WALL := wall_t (tw_3 _ (List.mem_of_getElem? (i := 43) (by decide +kernel))) rfl
theorem wd_556 : (Cond.static arraycopyName : Cond) ∈ WALL := wall_t (tw_3 _ (List.mem_of_getElem? (i := 42) (by decide +kernel))) rfl
theorem wd_53 : (Cond.initialized "java/lang/System" : Cond) ∈ WALL := wall_t (tw_1 _ (List.mem_of_getElem? (i := 19) (by decide +kernel))) rfl
theorem wd_891 : (Cond.methodLink RX5 41 yX8_clear : Cond) ∈ WALL := wall_t (tw_4 _ (List.mem_of_getElem? (i := 137) (by decide +kernel))) rfl
theorem wd_892 : (Cond.instanceMethod yX8_clear : Cond) ∈ WALL := wall_t (tw_4 _ (List.mem_of_getElem? (i := 138) (by decide +kernel))) rfl
theorem wd_893 : (Cond.selects RX8 yX8_clear yX8_clear : Cond) ∈ WALL := wall_t (tw_4 _ (List.mem_of_getElem? (i := 139) (by decide +kernel))) rfl
theorem wd_907 : (Cond.methodLink RX5 47 yX5_readFrame : Cond) ∈ WALL := wall_t (tw_4 _ (List.mem_of_getElem? (i := 153) (by decide +kernel))) rfl
theorem wd_909 : (Cond.instanceMethod yX5_readFrame : Cond) ∈ WALL := wall_t (tw_4 _ (List.mem_of_getElem? (i := 155) (by decide +kernel))) rfl
theorem wd_5 : (Cond.selects RX5 yX5_readFrame yX5_readFrame : Cond) ∈ WALL := wall_at (i := 5) (by decide +kernel) rfl
theorem wd_939 : (Cond.methodLink RX5 54 yX5_readStatement : Cond) ∈ WALL := wall_t (tw_4 _ (List.mem_of_getElem? (i := 185) (by decide +kernel))) rfl
theorem wd_941 : (Cond.instanceMethod yX5_readStatement : Cond) ∈ WALL := wall_t (tw_4 _ (List.mem_of_getElem? (i := 187) (by decide +kernel))) rfl
theorem wd_12 : (Cond.selects RX5 yX5_readStatement yX5_readStatement : Cond) ∈ WALL := wall_at (i := 12) (by decide +kernel) rfl
theorem wd_889 : (Cond.code yX5_parse cX5_parse 5 (some .boolean) : Cond) ∈ WALL := wall_t (tw_4 _ (List.mem_of_getElem? (i := 135) (by rfl))) rfl
theorem wd_184 : (Cond.code yX6_init cX6_init 2 none : Cond) ∈ WALL := wall_t (tw_1 _ (List.mem_of_getElem? (i := 150) (by rfl))) rfl
theorem wd_185 : (Cond.methodLink RX6 3 objectInit : Cond) ∈ WALL := wall_t (tw_1 _ (List.mem_of_getElem? (i := 151) (by decide +kernel))) rfl
theorem wd_186 : (Cond.classLink RX6 9 RX8 : Cond) ∈ WALL := wall_t (tw_1 _ (List.mem_of_getElem? (i := 152) (by decide +kernel))) rfl
theorem wd_189 : (Cond.fieldLink RX6 11 "ParetoDesk$Past" "setups" "[LParetoDesk$Setup;" : Cond) ∈ WALL := wall_t (tw_1 _ (List.mem_of_getElem? (i := 155) (by decide +kernel))) rfl
theorem wd_550 : (Cond.code yX6_forgetOldest cX6_forgetOldest 3 none : Cond) ∈ WALL := wall_t (tw_3 _ (List.mem_of_getElem? (i := 36) (by rfl))) rfl
theorem wd_190 : (Cond.fieldLink RX6 18 "ParetoDesk$Past" "count" "I" : Cond) ∈ WALL := wall_t (tw_1 _ (List.mem_of_getElem? (i := 156) (by decide +kernel))) rfl
theorem wd_554 : (Cond.code yX8_copyFrom cX8_copyFrom 2 none : Cond) ∈ WALL := wall_t (tw_3 _ (List.mem_of_getElem? (i := 40) (by rfl))) rfl
theorem wd_555 : (Cond.methodLink RX8 52 arraycopyName : Cond) ∈ WALL := wall_t (tw_3 _ (List.mem_of_getElem? (i := 41) (by decide +kernel))) rfl
theorem wd_547 : (Cond.methodLink RX6 22 yX6_forgetOldest : Cond) ∈ WALL := wall_t (tw_3 _ (List.mem_of_getElem? (i := 33) (by decide +kernel))) rfl
theorem wd_549 : (Cond.instanceMethod yX6_forgetOldest : Cond) ∈ WALL := wall_t (tw_3 _ (List.mem_of_getElem? (i := 35) (by decide +kernel))) rfl
theorem wd_1 : (Cond.selects RX6 yX6_forgetOldest yX6_forgetOldest : Cond) ∈ WALL := wall_at (i := 1) (by decide +kernel) rfl
theorem wd_38 : (Cond.initialized RX6 : Cond) ∈ WALL := wall_t (tw_1 _ (List.mem_of_getElem? (i := 4) (by decide +kernel))) rfl
theorem wd_551 : (Cond.methodLink RX6 25 yX8_copyFrom : Cond) ∈ WALL := wall_t (tw_3 _ (List.mem_of_getElem? (i := 37) (by decide +kernel))) rfl
theorem wd_552 : (Cond.instanceMethod yX8_copyFrom : Cond) ∈ WALL := wall_t (tw_3 _ (List.mem_of_getElem? (i := 38) (by decide +kernel))) rfl
theorem wd_553 : (Cond.selects RX8 yX8_copyFrom yX8_copyFrom : Cond) ∈ WALL := wall_t (tw_3 _ (List.mem_of_getElem? (i := 39) (by decide +kernel))) rfl
theorem wd_546 : (Cond.code yX6_push cX6_push 2 none : Cond) ∈ WALL := wall_t (tw_3 _ (List.mem_of_getElem? (i := 32) (by rfl))) rfl
theorem wd_330 : (Cond.code yX7_init cX7_init 1 none : Cond) ∈ WALL := wall_t (tw_2 _ (List.mem_of_getElem? (i := 56) (by rfl))) rfl
theorem wd_331 : (Cond.methodLink RX7 3 objectInit : Cond) ∈ WALL := wall_t (tw_2 _ (List.mem_of_getElem? (i := 57) (by decide +kernel))) rfl
theorem wd_332 : (Cond.fieldLink RX7 9 "ParetoDesk$Search" "from" "[I" : Cond) ∈ WALL := wall_t (tw_2 _ (List.mem_of_getElem? (i := 58) (by decide +kernel))) rfl
theorem wd_333 : (Cond.fieldLink RX7 15 "ParetoDesk$Search" "to" "[I" : Cond) ∈ WALL := wall_t (tw_2 _ (List.mem_of_getElem? (i := 59) (by decide +kernel))) rfl
theorem wd_334 : (Cond.fieldLink RX7 18 "ParetoDesk$Search" "found" "[I" : Cond) ∈ WALL := wall_t (tw_2 _ (List.mem_of_getElem? (i := 60) (by decide +kernel))) rfl
theorem wd_993 : (Cond.code yX8_hasItem cX8_hasItem 2 (some .boolean) : Cond) ∈ WALL := wall_t (tw_4 _ (List.mem_of_getElem? (i := 239) (by rfl))) rfl
theorem wd_1031 : (Cond.code yX8_everyItem cX8_everyItem 1 (some .int) : Cond) ∈ WALL := wall_t (tw_5 _ (List.mem_of_getElem? (i := 37) (by rfl))) rfl
theorem wd_528 : (Cond.code yX8_countBits cX8_countBits 4 (some .int) : Cond) ∈ WALL := wall_t (tw_3 _ (List.mem_of_getElem? (i := 14) (by rfl))) rfl
theorem wd_529 : (Cond.methodLink RX8 37 yJ6_bitCount_0f7a4 : Cond) ∈ WALL := wall_t (tw_3 _ (List.mem_of_getElem? (i := 15) (by decide +kernel))) rfl
theorem wd_260 : (Cond.code yX9_init cX9_init 1 none : Cond) ∈ WALL := wall_t (tw_1 _ (List.mem_of_getElem? (i := 226) (by rfl))) rfl
theorem wd_261 : (Cond.methodLink RX9 3 objectInit : Cond) ∈ WALL := wall_t (tw_1 _ (List.mem_of_getElem? (i := 227) (by decide +kernel))) rfl
theorem wd_1060 : (Cond.code yX9_keepGreatest cX9_keepGreatest 3 none : Cond) ∈ WALL := wall_t (tw_5 _ (List.mem_of_getElem? (i := 66) (by rfl))) rfl
theorem wd_1064 : (Cond.code yX9_dropBeaten cX9_dropBeaten 3 none : Cond) ∈ WALL := wall_t (tw_5 _ (List.mem_of_getElem? (i := 70) (by rfl))) rfl
theorem wd_265 : (Cond.fieldLink RX9 21 "ParetoDesk$Stairs" "allowedCount" "I" : Cond) ∈ WALL := wall_t (tw_1 _ (List.mem_of_getElem? (i := 231) (by decide +kernel))) rfl
theorem wd_230 : (Cond.fieldLink RX9 25 "ParetoDesk$Choices" "sets" "I" : Cond) ∈ WALL := wall_t (tw_1 _ (List.mem_of_getElem? (i := 196) (by decide +kernel))) rfl
theorem wd_219 : (Cond.fieldLink RX9 34 "ParetoDesk$Choices" "gain" "[I" : Cond) ∈ WALL := wall_t (tw_1 _ (List.mem_of_getElem? (i := 185) (by decide +kernel))) rfl
theorem wd_224 : (Cond.fieldLink RX9 37 "ParetoDesk$Choices" "joy" "[I" : Cond) ∈ WALL := wall_t (tw_1 _ (List.mem_of_getElem? (i := 190) (by decide +kernel))) rfl
theorem wd_1045 : (Cond.methodLink RX9 15 yJ7_fill_53178 : Cond) ∈ WALL := wall_t (tw_5 _ (List.mem_of_getElem? (i := 51) (by decide +kernel))) rfl
theorem wd_1048 : (Cond.methodLink RX9 30 yX0_reason : Cond) ∈ WALL := wall_t (tw_5 _ (List.mem_of_getElem? (i := 54) (by decide +kernel))) rfl
theorem wd_1057 : (Cond.methodLink RX9 40 yX9_keepGreatest : Cond) ∈ WALL := wall_t (tw_5 _ (List.mem_of_getElem? (i := 63) (by decide +kernel))) rfl
theorem wd_1059 : (Cond.instanceMethod yX9_keepGreatest : Cond) ∈ WALL := wall_t (tw_5 _ (List.mem_of_getElem? (i := 65) (by decide +kernel))) rfl
theorem wd_20 : (Cond.selects RX9 yX9_keepGreatest yX9_keepGreatest : Cond) ∈ WALL := wall_at (i := 20) (by decide +kernel) rfl
theorem wd_1061 : (Cond.methodLink RX9 44 yX9_dropBeaten : Cond) ∈ WALL := wall_t (tw_5 _ (List.mem_of_getElem? (i := 67) (by decide +kernel))) rfl
theorem wd_1063 : (Cond.instanceMethod yX9_dropBeaten : Cond) ∈ WALL := wall_t (tw_5 _ (List.mem_of_getElem? (i := 69) (by decide +kernel))) rfl
theorem wd_21 : (Cond.selects RX9 yX9_dropBeaten yX9_dropBeaten : Cond) ∈ WALL := wall_at (i := 21) (by decide +kernel) rfl
theorem wd_1044 : (Cond.code yX9_build cX9_build 5 none : Cond) ∈ WALL := wall_t (tw_5 _ (List.mem_of_getElem? (i := 50) (by rfl))) rfl
theorem wd_69 : (Cond.methodLink RX10 3 objectInit : Cond) ∈ WALL := wall_t (tw_1 _ (List.mem_of_getElem? (i := 35) (by decide +kernel))) rfl
theorem wd_393 : (Cond.fieldLink RX10 9 "ParetoDesk" "input" "[B" : Cond) ∈ WALL := wall_t (tw_2 _ (List.mem_of_getElem? (i := 119) (by decide +kernel))) rfl
theorem wd_72 : (Cond.classLink RX10 13 RX5 : Cond) ∈ WALL := wall_t (tw_1 _ (List.mem_of_getElem? (i := 38) (by decide +kernel))) rfl
theorem wd_73 : (Cond.instantiable RX5 9 : Cond) ∈ WALL := wall_t (tw_1 _ (List.mem_of_getElem? (i := 39) (by decide +kernel))) rfl
theorem wd_395 : (Cond.fieldLink RX10 16 "ParetoDesk" "parser" "LParetoDesk$Parser;" : Cond) ∈ WALL := wall_t (tw_2 _ (List.mem_of_getElem? (i := 121) (by decide +kernel))) rfl
theorem wd_397 : (Cond.fieldLink RX10 20 "ParetoDesk" "parsePosition" "I" : Cond) ∈ WALL := wall_t (tw_2 _ (List.mem_of_getElem? (i := 123) (by decide +kernel))) rfl
theorem wd_178 : (Cond.classLink RX10 24 RX8 : Cond) ∈ WALL := wall_t (tw_1 _ (List.mem_of_getElem? (i := 144) (by decide +kernel))) rfl
theorem wd_398 : (Cond.fieldLink RX10 27 "ParetoDesk" "now" "LParetoDesk$Setup;" : Cond) ∈ WALL := wall_t (tw_2 _ (List.mem_of_getElem? (i := 124) (by decide +kernel))) rfl
theorem wd_180 : (Cond.classLink RX10 31 RX6 : Cond) ∈ WALL := wall_t (tw_1 _ (List.mem_of_getElem? (i := 146) (by decide +kernel))) rfl
theorem wd_181 : (Cond.instantiable RX6 2 : Cond) ∈ WALL := wall_t (tw_1 _ (List.mem_of_getElem? (i := 147) (by decide +kernel))) rfl
theorem wd_399 : (Cond.fieldLink RX10 34 "ParetoDesk" "past" "LParetoDesk$Past;" : Cond) ∈ WALL := wall_t (tw_2 _ (List.mem_of_getElem? (i := 125) (by decide +kernel))) rfl
theorem wd_400 : (Cond.fieldLink RX10 38 "ParetoDesk" "slots" "[LParetoDesk$Setup;" : Cond) ∈ WALL := wall_t (tw_2 _ (List.mem_of_getElem? (i := 126) (by decide +kernel))) rfl
theorem wd_401 : (Cond.fieldLink RX10 42 "ParetoDesk" "slotUsed" "[Z" : Cond) ∈ WALL := wall_t (tw_2 _ (List.mem_of_getElem? (i := 127) (by decide +kernel))) rfl
theorem wd_196 : (Cond.classLink RX10 46 RX4 : Cond) ∈ WALL := wall_t (tw_1 _ (List.mem_of_getElem? (i := 162) (by decide +kernel))) rfl
theorem wd_197 : (Cond.instantiable RX4 2 : Cond) ∈ WALL := wall_t (tw_1 _ (List.mem_of_getElem? (i := 163) (by decide +kernel))) rfl
theorem wd_39 : (Cond.initialized RX4 : Cond) ∈ WALL := wall_t (tw_1 _ (List.mem_of_getElem? (i := 5) (by decide +kernel))) rfl
theorem wd_402 : (Cond.fieldLink RX10 49 "ParetoDesk" "output" "LParetoDesk$Output;" : Cond) ∈ WALL := wall_t (tw_2 _ (List.mem_of_getElem? (i := 128) (by decide +kernel))) rfl
theorem wd_209 : (Cond.classLink RX10 53 RX0 : Cond) ∈ WALL := wall_t (tw_1 _ (List.mem_of_getElem? (i := 175) (by decide +kernel))) rfl
theorem wd_210 : (Cond.instantiable RX0 9 : Cond) ∈ WALL := wall_t (tw_1 _ (List.mem_of_getElem? (i := 176) (by decide +kernel))) rfl
theorem wd_403 : (Cond.fieldLink RX10 56 "ParetoDesk" "choices" "LParetoDesk$Choices;" : Cond) ∈ WALL := wall_t (tw_2 _ (List.mem_of_getElem? (i := 129) (by decide +kernel))) rfl
theorem wd_256 : (Cond.classLink RX10 60 RX9 : Cond) ∈ WALL := wall_t (tw_1 _ (List.mem_of_getElem? (i := 222) (by decide +kernel))) rfl
theorem wd_257 : (Cond.instantiable RX9 2 : Cond) ∈ WALL := wall_t (tw_1 _ (List.mem_of_getElem? (i := 223) (by decide +kernel))) rfl
theorem wd_404 : (Cond.fieldLink RX10 63 "ParetoDesk" "stairs" "LParetoDesk$Stairs;" : Cond) ∈ WALL := wall_t (tw_2 _ (List.mem_of_getElem? (i := 130) (by decide +kernel))) rfl
theorem wd_271 : (Cond.classLink RX10 67 RX2 : Cond) ∈ WALL := wall_t (tw_1 _ (List.mem_of_getElem? (i := 237) (by decide +kernel))) rfl
theorem wd_272 : (Cond.instantiable RX2 13 : Cond) ∈ WALL := wall_t (tw_1 _ (List.mem_of_getElem? (i := 238) (by decide +kernel))) rfl
theorem wd_405 : (Cond.fieldLink RX10 70 "ParetoDesk" "frontier" "LParetoDesk$Frontier;" : Cond) ∈ WALL := wall_t (tw_2 _ (List.mem_of_getElem? (i := 131) (by decide +kernel))) rfl
theorem wd_326 : (Cond.classLink RX10 74 RX7 : Cond) ∈ WALL := wall_t (tw_2 _ (List.mem_of_getElem? (i := 52) (by decide +kernel))) rfl
theorem wd_327 : (Cond.instantiable RX7 4 : Cond) ∈ WALL := wall_t (tw_2 _ (List.mem_of_getElem? (i := 53) (by decide +kernel))) rfl
theorem wd_43 : (Cond.initialized RX7 : Cond) ∈ WALL := wall_t (tw_1 _ (List.mem_of_getElem? (i := 9) (by decide +kernel))) rfl
theorem wd_406 : (Cond.fieldLink RX10 77 "ParetoDesk" "search" "LParetoDesk$Search;" : Cond) ∈ WALL := wall_t (tw_2 _ (List.mem_of_getElem? (i := 132) (by decide +kernel))) rfl
theorem wd_344 : (Cond.classLink RX10 81 RX3 : Cond) ∈ WALL := wall_t (tw_2 _ (List.mem_of_getElem? (i := 70) (by decide +kernel))) rfl
theorem wd_345 : (Cond.instantiable RX3 8 : Cond) ∈ WALL := wall_t (tw_2 _ (List.mem_of_getElem? (i := 71) (by decide +kernel))) rfl
theorem wd_407 : (Cond.fieldLink RX10 84 "ParetoDesk" "layering" "LParetoDesk$Layers;" : Cond) ∈ WALL := wall_t (tw_2 _ (List.mem_of_getElem? (i := 133) (by decide +kernel))) rfl
theorem wd_378 : (Cond.classLink RX10 88 RX1 : Cond) ∈ WALL := wall_t (tw_2 _ (List.mem_of_getElem? (i := 104) (by decide +kernel))) rfl
theorem wd_379 : (Cond.instantiable RX1 4 : Cond) ∈ WALL := wall_t (tw_2 _ (List.mem_of_getElem? (i := 105) (by decide +kernel))) rfl
theorem wd_45 : (Cond.initialized RX1 : Cond) ∈ WALL := wall_t (tw_1 _ (List.mem_of_getElem? (i := 11) (by decide +kernel))) rfl
theorem wd_408 : (Cond.fieldLink RX10 91 "ParetoDesk" "climber" "LParetoDesk$Climber;" : Cond) ∈ WALL := wall_t (tw_2 _ (List.mem_of_getElem? (i := 134) (by decide +kernel))) rfl
theorem wd_75 : (Cond.instanceMethod yX5_init : Cond) ∈ WALL := wall_t (tw_1 _ (List.mem_of_getElem? (i := 41) (by decide +kernel))) rfl
theorem wd_182 : (Cond.methodLink RX10 33 yX6_init : Cond) ∈ WALL := wall_t (tw_1 _ (List.mem_of_getElem? (i := 148) (by decide +kernel))) rfl
theorem wd_183 : (Cond.instanceMethod yX6_init : Cond) ∈ WALL := wall_t (tw_1 _ (List.mem_of_getElem? (i := 149) (by decide +kernel))) rfl
theorem wd_199 : (Cond.instanceMethod yX4_init : Cond) ∈ WALL := wall_t (tw_1 _ (List.mem_of_getElem? (i := 165) (by decide +kernel))) rfl
theorem wd_212 : (Cond.instanceMethod yX0_init : Cond) ∈ WALL := wall_t (tw_1 _ (List.mem_of_getElem? (i := 178) (by decide +kernel))) rfl
theorem wd_259 : (Cond.instanceMethod yX9_init : Cond) ∈ WALL := wall_t (tw_1 _ (List.mem_of_getElem? (i := 225) (by decide +kernel))) rfl
theorem wd_274 : (Cond.instanceMethod yX2_init : Cond) ∈ WALL := wall_t (tw_2 _ (List.mem_of_getElem? (i := 0) (by decide +kernel))) rfl
theorem wd_329 : (Cond.instanceMethod yX7_init : Cond) ∈ WALL := wall_t (tw_2 _ (List.mem_of_getElem? (i := 55) (by decide +kernel))) rfl
theorem wd_347 : (Cond.instanceMethod yX3_init : Cond) ∈ WALL := wall_t (tw_2 _ (List.mem_of_getElem? (i := 73) (by decide +kernel))) rfl
theorem wd_381 : (Cond.instanceMethod yX1_init : Cond) ∈ WALL := wall_t (tw_2 _ (List.mem_of_getElem? (i := 107) (by decide +kernel))) rfl
theorem wd_68 : (Cond.code yX10_init cX10_init 2 none : Cond) ∈ WALL := wall_t (tw_1 _ (List.mem_of_getElem? (i := 34) (by rfl))) rfl
theorem wd_875 : (Cond.code yX10_putInput cX10_putInput 3 none : Cond) ∈ WALL := wall_t (tw_4 _ (List.mem_of_getElem? (i := 121) (by rfl))) rfl
theorem wd_394 : (Cond.fieldLink RX10 95 "ParetoDesk" "inputLength" "I" : Cond) ∈ WALL := wall_t (tw_2 _ (List.mem_of_getElem? (i := 120) (by decide +kernel))) rfl
theorem wd_855 : (Cond.code yX10_append cX10_append 6 (some .int) : Cond) ∈ WALL := wall_t (tw_4 _ (List.mem_of_getElem? (i := 101) (by rfl))) rfl
theorem wd_856 : (Cond.classLink RX10 98 "java/lang/IllegalStateException" : Cond) ∈ WALL := wall_t (tw_4 _ (List.mem_of_getElem? (i := 102) (by decide +kernel))) rfl
theorem wd_61 : (Cond.initialized "java/lang/IllegalStateException" : Cond) ∈ WALL := wall_t (tw_1 _ (List.mem_of_getElem? (i := 27) (by decide +kernel))) rfl
theorem wd_872 : (Cond.methodLink RX10 105 yX10_putInput : Cond) ∈ WALL := wall_t (tw_4 _ (List.mem_of_getElem? (i := 118) (by decide +kernel))) rfl
theorem wd_874 : (Cond.instanceMethod yX10_putInput : Cond) ∈ WALL := wall_t (tw_4 _ (List.mem_of_getElem? (i := 120) (by decide +kernel))) rfl
theorem wd_3 : (Cond.selects RX10 yX10_putInput yX10_putInput : Cond) ∈ WALL := wall_at (i := 3) (by decide +kernel) rfl
theorem wd_880 : (Cond.code yX10_truncate cX10_truncate 2 none : Cond) ∈ WALL := wall_t (tw_4 _ (List.mem_of_getElem? (i := 126) (by rfl))) rfl
theorem wd_458 : (Cond.classLink RX10 109 "java/lang/IllegalArgumentException" : Cond) ∈ WALL := wall_t (tw_2 _ (List.mem_of_getElem? (i := 184) (by decide +kernel))) rfl
theorem wd_62 : (Cond.initialized "java/lang/IllegalArgumentException" : Cond) ∈ WALL := wall_t (tw_1 _ (List.mem_of_getElem? (i := 28) (by decide +kernel))) rfl
theorem wd_561 : (Cond.code yX10_markChanged cX10_markChanged 1 none : Cond) ∈ WALL := wall_t (tw_3 _ (List.mem_of_getElem? (i := 47) (by rfl))) rfl
theorem wd_409 : (Cond.fieldLink RX10 395 "ParetoDesk" "frontierFresh" "Z" : Cond) ∈ WALL := wall_t (tw_2 _ (List.mem_of_getElem? (i := 135) (by decide +kernel))) rfl
theorem wd_410 : (Cond.fieldLink RX10 399 "ParetoDesk" "searchFresh" "Z" : Cond) ∈ WALL := wall_t (tw_2 _ (List.mem_of_getElem? (i := 136) (by decide +kernel))) rfl
theorem wd_411 : (Cond.fieldLink RX10 402 "ParetoDesk" "layersFresh" "Z" : Cond) ∈ WALL := wall_t (tw_2 _ (List.mem_of_getElem? (i := 137) (by decide +kernel))) rfl
theorem wd_150 : (Cond.fieldLink RX10 118 "ParetoDesk$Parser" "code" "I" : Cond) ∈ WALL := wall_t (tw_1 _ (List.mem_of_getElem? (i := 116) (by decide +kernel))) rfl
theorem wd_396 : (Cond.fieldLink RX10 121 "ParetoDesk" "parseCode" "I" : Cond) ∈ WALL := wall_t (tw_2 _ (List.mem_of_getElem? (i := 122) (by decide +kernel))) rfl
theorem wd_152 : (Cond.fieldLink RX10 124 "ParetoDesk$Parser" "place" "I" : Cond) ∈ WALL := wall_t (tw_1 _ (List.mem_of_getElem? (i := 118) (by decide +kernel))) rfl
theorem wd_148 : (Cond.fieldLink RX10 131 "ParetoDesk$Parser" "draft" "LParetoDesk$Setup;" : Cond) ∈ WALL := wall_t (tw_1 _ (List.mem_of_getElem? (i := 114) (by decide +kernel))) rfl
theorem wd_86 : (Cond.fieldLink RX10 140 "ParetoDesk$Setup" "items" "I" : Cond) ∈ WALL := wall_t (tw_1 _ (List.mem_of_getElem? (i := 52) (by decide +kernel))) rfl
theorem wd_886 : (Cond.methodLink RX10 114 yX5_parse : Cond) ∈ WALL := wall_t (tw_4 _ (List.mem_of_getElem? (i := 132) (by decide +kernel))) rfl
theorem wd_887 : (Cond.instanceMethod yX5_parse : Cond) ∈ WALL := wall_t (tw_4 _ (List.mem_of_getElem? (i := 133) (by decide +kernel))) rfl
theorem wd_888 : (Cond.selects RX5 yX5_parse yX5_parse : Cond) ∈ WALL := wall_t (tw_4 _ (List.mem_of_getElem? (i := 134) (by decide +kernel))) rfl
theorem wd_543 : (Cond.methodLink RX10 127 yX6_push : Cond) ∈ WALL := wall_t (tw_3 _ (List.mem_of_getElem? (i := 29) (by decide +kernel))) rfl
theorem wd_544 : (Cond.instanceMethod yX6_push : Cond) ∈ WALL := wall_t (tw_3 _ (List.mem_of_getElem? (i := 30) (by decide +kernel))) rfl
theorem wd_545 : (Cond.selects RX6 yX6_push yX6_push : Cond) ∈ WALL := wall_t (tw_3 _ (List.mem_of_getElem? (i := 31) (by decide +kernel))) rfl
theorem wd_973 : (Cond.methodLink RX10 134 yX8_copyFrom : Cond) ∈ WALL := wall_t (tw_4 _ (List.mem_of_getElem? (i := 219) (by decide +kernel))) rfl
theorem wd_558 : (Cond.methodLink RX10 137 yX10_markChanged : Cond) ∈ WALL := wall_t (tw_3 _ (List.mem_of_getElem? (i := 44) (by decide +kernel))) rfl
theorem wd_560 : (Cond.instanceMethod yX10_markChanged : Cond) ∈ WALL := wall_t (tw_3 _ (List.mem_of_getElem? (i := 46) (by decide +kernel))) rfl
theorem wd_2 : (Cond.selects RX10 yX10_markChanged yX10_markChanged : Cond) ∈ WALL := wall_at (i := 2) (by decide +kernel) rfl
theorem wd_885 : (Cond.code yX10_load cX10_load 2 (some .int) : Cond) ∈ WALL := wall_t (tw_4 _ (List.mem_of_getElem? (i := 131) (by rfl))) rfl
theorem wd_977 : (Cond.code yX10_errorCode cX10_errorCode 1 (some .int) : Cond) ∈ WALL := wall_t (tw_4 _ (List.mem_of_getElem? (i := 223) (by rfl))) rfl
theorem wd_981 : (Cond.code yX10_errorPosition cX10_errorPosition 1 (some .int) : Cond) ∈ WALL := wall_t (tw_4 _ (List.mem_of_getElem? (i := 227) (by rfl))) rfl
theorem wd_457 : (Cond.code yX10_requireWhat cX10_requireWhat 2 none : Cond) ∈ WALL := wall_t (tw_2 _ (List.mem_of_getElem? (i := 183) (by rfl))) rfl
theorem wd_89 : (Cond.fieldLink RX10 147 "ParetoDesk$Setup" "capacity" "I" : Cond) ∈ WALL := wall_t (tw_1 _ (List.mem_of_getElem? (i := 55) (by decide +kernel))) rfl
theorem wd_93 : (Cond.fieldLink RX10 150 "ParetoDesk$Setup" "limit" "I" : Cond) ∈ WALL := wall_t (tw_1 _ (List.mem_of_getElem? (i := 59) (by decide +kernel))) rfl
theorem wd_116 : (Cond.fieldLink RX10 153 "ParetoDesk$Setup" "bars" "[I" : Cond) ∈ WALL := wall_t (tw_1 _ (List.mem_of_getElem? (i := 82) (by decide +kernel))) rfl
theorem wd_120 : (Cond.fieldLink RX10 161 "ParetoDesk$Setup" "needs" "[I" : Cond) ∈ WALL := wall_t (tw_1 _ (List.mem_of_getElem? (i := 86) (by decide +kernel))) rfl
theorem wd_97 : (Cond.fieldLink RX10 164 "ParetoDesk$Setup" "mustSet" "I" : Cond) ∈ WALL := wall_t (tw_1 _ (List.mem_of_getElem? (i := 63) (by decide +kernel))) rfl
theorem wd_101 : (Cond.fieldLink RX10 167 "ParetoDesk$Setup" "neverSet" "I" : Cond) ∈ WALL := wall_t (tw_1 _ (List.mem_of_getElem? (i := 67) (by decide +kernel))) rfl
theorem wd_104 : (Cond.fieldLink RX10 170 "ParetoDesk$Setup" "hand" "I" : Cond) ∈ WALL := wall_t (tw_1 _ (List.mem_of_getElem? (i := 70) (by decide +kernel))) rfl
theorem wd_455 : (Cond.methodLink RX10 143 yX10_requireWhat : Cond) ∈ WALL := wall_t (tw_2 _ (List.mem_of_getElem? (i := 181) (by decide +kernel))) rfl
theorem wd_456 : (Cond.static yX10_requireWhat : Cond) ∈ WALL := wall_t (tw_2 _ (List.mem_of_getElem? (i := 182) (by decide +kernel))) rfl
theorem wd_525 : (Cond.methodLink RX10 157 yX8_countBits : Cond) ∈ WALL := wall_t (tw_3 _ (List.mem_of_getElem? (i := 11) (by decide +kernel))) rfl
theorem wd_526 : (Cond.instanceMethod yX8_countBits : Cond) ∈ WALL := wall_t (tw_3 _ (List.mem_of_getElem? (i := 12) (by decide +kernel))) rfl
theorem wd_527 : (Cond.selects RX8 yX8_countBits yX8_countBits : Cond) ∈ WALL := wall_t (tw_3 _ (List.mem_of_getElem? (i := 13) (by decide +kernel))) rfl
theorem wd_454 : (Cond.code yX10_property cX10_property 2 (some .int) : Cond) ∈ WALL := wall_t (tw_2 _ (List.mem_of_getElem? (i := 180) (by rfl))) rfl
theorem wd_989 : (Cond.code yX10_requireItem cX10_requireItem 2 none : Cond) ∈ WALL := wall_t (tw_4 _ (List.mem_of_getElem? (i := 235) (by rfl))) rfl
theorem wd_994 : (Cond.classLink RX10 240 "java/lang/IndexOutOfBoundsException" : Cond) ∈ WALL := wall_t (tw_5 _ (List.mem_of_getElem? (i := 0) (by decide +kernel))) rfl
theorem wd_63 : (Cond.initialized "java/lang/IndexOutOfBoundsException" : Cond) ∈ WALL := wall_t (tw_1 _ (List.mem_of_getElem? (i := 29) (by decide +kernel))) rfl
theorem wd_990 : (Cond.methodLink RX10 416 yX8_hasItem : Cond) ∈ WALL := wall_t (tw_4 _ (List.mem_of_getElem? (i := 236) (by decide +kernel))) rfl
theorem wd_991 : (Cond.instanceMethod yX8_hasItem : Cond) ∈ WALL := wall_t (tw_4 _ (List.mem_of_getElem? (i := 237) (by decide +kernel))) rfl
theorem wd_992 : (Cond.selects RX8 yX8_hasItem yX8_hasItem : Cond) ∈ WALL := wall_t (tw_4 _ (List.mem_of_getElem? (i := 238) (by decide +kernel))) rfl
theorem wd_985 : (Cond.code yX10_item cX10_item 3 (some .int) : Cond) ∈ WALL := wall_t (tw_4 _ (List.mem_of_getElem? (i := 231) (by rfl))) rfl
theorem wd_107 : (Cond.fieldLink RX10 176 "ParetoDesk$Setup" "weight" "[I" : Cond) ∈ WALL := wall_t (tw_1 _ (List.mem_of_getElem? (i := 73) (by decide +kernel))) rfl
theorem wd_110 : (Cond.fieldLink RX10 179 "ParetoDesk$Setup" "gain" "[I" : Cond) ∈ WALL := wall_t (tw_1 _ (List.mem_of_getElem? (i := 76) (by decide +kernel))) rfl
theorem wd_113 : (Cond.fieldLink RX10 182 "ParetoDesk$Setup" "joy" "[I" : Cond) ∈ WALL := wall_t (tw_1 _ (List.mem_of_getElem? (i := 79) (by decide +kernel))) rfl
theorem wd_986 : (Cond.methodLink RX10 173 yX10_requireItem : Cond) ∈ WALL := wall_t (tw_4 _ (List.mem_of_getElem? (i := 232) (by decide +kernel))) rfl
theorem wd_988 : (Cond.instanceMethod yX10_requireItem : Cond) ∈ WALL := wall_t (tw_4 _ (List.mem_of_getElem? (i := 234) (by decide +kernel))) rfl
theorem wd_16 : (Cond.selects RX10 yX10_requireItem yX10_requireItem : Cond) ∈ WALL := wall_at (i := 16) (by decide +kernel) rfl
theorem wd_1027 : (Cond.code yX10_requireSet cX10_requireSet 2 none : Cond) ∈ WALL := wall_t (tw_5 _ (List.mem_of_getElem? (i := 33) (by rfl))) rfl
theorem wd_1028 : (Cond.methodLink RX10 282 yX8_everyItem : Cond) ∈ WALL := wall_t (tw_5 _ (List.mem_of_getElem? (i := 34) (by decide +kernel))) rfl
theorem wd_1029 : (Cond.instanceMethod yX8_everyItem : Cond) ∈ WALL := wall_t (tw_5 _ (List.mem_of_getElem? (i := 35) (by decide +kernel))) rfl
theorem wd_1030 : (Cond.selects RX8 yX8_everyItem yX8_everyItem : Cond) ∈ WALL := wall_t (tw_5 _ (List.mem_of_getElem? (i := 36) (by decide +kernel))) rfl
theorem wd_1037 : (Cond.methodLink RX10 405 yX0_build : Cond) ∈ WALL := wall_t (tw_5 _ (List.mem_of_getElem? (i := 43) (by decide +kernel))) rfl
theorem wd_1038 : (Cond.instanceMethod yX0_build : Cond) ∈ WALL := wall_t (tw_5 _ (List.mem_of_getElem? (i := 44) (by decide +kernel))) rfl
theorem wd_1039 : (Cond.selects RX0 yX0_build yX0_build : Cond) ∈ WALL := wall_t (tw_5 _ (List.mem_of_getElem? (i := 45) (by decide +kernel))) rfl
theorem wd_1041 : (Cond.methodLink RX10 290 yX9_build : Cond) ∈ WALL := wall_t (tw_5 _ (List.mem_of_getElem? (i := 47) (by decide +kernel))) rfl
theorem wd_1042 : (Cond.instanceMethod yX9_build : Cond) ∈ WALL := wall_t (tw_5 _ (List.mem_of_getElem? (i := 48) (by decide +kernel))) rfl
theorem wd_1043 : (Cond.selects RX9 yX9_build yX9_build : Cond) ∈ WALL := wall_t (tw_5 _ (List.mem_of_getElem? (i := 49) (by decide +kernel))) rfl
theorem wd_1065 : (Cond.methodLink RX10 407 yX2_build : Cond) ∈ WALL := wall_t (tw_5 _ (List.mem_of_getElem? (i := 71) (by decide +kernel))) rfl
theorem wd_1066 : (Cond.instanceMethod yX2_build : Cond) ∈ WALL := wall_t (tw_5 _ (List.mem_of_getElem? (i := 72) (by decide +kernel))) rfl
theorem wd_1067 : (Cond.selects RX2 yX2_build yX2_build : Cond) ∈ WALL := wall_t (tw_5 _ (List.mem_of_getElem? (i := 73) (by decide +kernel))) rfl
theorem wd_1036 : (Cond.code yX10_refreshFrontier cX10_refreshFrontier 1 none : Cond) ∈ WALL := wall_t (tw_5 _ (List.mem_of_getElem? (i := 42) (by rfl))) rfl
theorem wd_1024 : (Cond.methodLink RX10 185 yX10_requireSet : Cond) ∈ WALL := wall_t (tw_5 _ (List.mem_of_getElem? (i := 30) (by decide +kernel))) rfl
theorem wd_1026 : (Cond.instanceMethod yX10_requireSet : Cond) ∈ WALL := wall_t (tw_5 _ (List.mem_of_getElem? (i := 32) (by decide +kernel))) rfl
theorem wd_17 : (Cond.selects RX10 yX10_requireSet yX10_requireSet : Cond) ∈ WALL := wall_at (i := 17) (by decide +kernel) rfl
theorem wd_1033 : (Cond.methodLink RX10 188 yX10_refreshFrontier : Cond) ∈ WALL := wall_t (tw_5 _ (List.mem_of_getElem? (i := 39) (by decide +kernel))) rfl
theorem wd_1035 : (Cond.instanceMethod yX10_refreshFrontier : Cond) ∈ WALL := wall_t (tw_5 _ (List.mem_of_getElem? (i := 41) (by decide +kernel))) rfl
theorem wd_18 : (Cond.selects RX10 yX10_refreshFrontier yX10_refreshFrontier : Cond) ∈ WALL := wall_at (i := 18) (by decide +kernel) rfl
theorem wd_1106 : (Cond.methodLink RX10 191 yX0_reason : Cond) ∈ WALL := wall_t (tw_5 _ (List.mem_of_getElem? (i := 112) (by decide +kernel))) rfl
theorem wd_1023 : (Cond.code yX10_refusal cX10_refusal 2 (some .int) : Cond) ∈ WALL := wall_t (tw_5 _ (List.mem_of_getElem? (i := 29) (by rfl))) rfl
theorem wd_217 : (Cond.fieldLink RX10 195 "ParetoDesk$Choices" "weight" "[I" : Cond) ∈ WALL := wall_t (tw_1 _ (List.mem_of_getElem? (i := 183) (by decide +kernel))) rfl
theorem wd_222 : (Cond.fieldLink RX10 196 "ParetoDesk$Choices" "gain" "[I" : Cond) ∈ WALL := wall_t (tw_1 _ (List.mem_of_getElem? (i := 188) (by decide +kernel))) rfl
theorem wd_227 : (Cond.fieldLink RX10 197 "ParetoDesk$Choices" "joy" "[I" : Cond) ∈ WALL := wall_t (tw_1 _ (List.mem_of_getElem? (i := 193) (by decide +kernel))) rfl
theorem wd_1110 : (Cond.code yX10_sum cX10_sum 3 (some .int) : Cond) ∈ WALL := wall_t (tw_5 _ (List.mem_of_getElem? (i := 116) (by rfl))) rfl
theorem wd_296 : (Cond.fieldLink RX10 198 "ParetoDesk$Frontier" "allowedCount" "I" : Cond) ∈ WALL := wall_t (tw_2 _ (List.mem_of_getElem? (i := 22) (by decide +kernel))) rfl
theorem wd_1114 : (Cond.code yX10_allowed cX10_allowed 1 (some .int) : Cond) ∈ WALL := wall_t (tw_5 _ (List.mem_of_getElem? (i := 120) (by rfl))) rfl
theorem wd_293 : (Cond.fieldLink RX10 201 "ParetoDesk$Frontier" "size" "I" : Cond) ∈ WALL := wall_t (tw_2 _ (List.mem_of_getElem? (i := 19) (by decide +kernel))) rfl
theorem wd_1118 : (Cond.code yX10_points cX10_points 1 (some .int) : Cond) ∈ WALL := wall_t (tw_5 _ (List.mem_of_getElem? (i := 124) (by rfl))) rfl
theorem wd_1129 : (Cond.code yX10_requirePoint cX10_requirePoint 2 none : Cond) ∈ WALL := wall_t (tw_5 _ (List.mem_of_getElem? (i := 135) (by rfl))) rfl
theorem wd_278 : (Cond.fieldLink RX10 207 "ParetoDesk$Frontier" "gain" "[I" : Cond) ∈ WALL := wall_t (tw_2 _ (List.mem_of_getElem? (i := 4) (by decide +kernel))) rfl
theorem wd_280 : (Cond.fieldLink RX10 208 "ParetoDesk$Frontier" "joy" "[I" : Cond) ∈ WALL := wall_t (tw_2 _ (List.mem_of_getElem? (i := 6) (by decide +kernel))) rfl
theorem wd_282 : (Cond.fieldLink RX10 209 "ParetoDesk$Frontier" "choice" "[I" : Cond) ∈ WALL := wall_t (tw_2 _ (List.mem_of_getElem? (i := 8) (by decide +kernel))) rfl
theorem wd_284 : (Cond.fieldLink RX10 212 "ParetoDesk$Frontier" "times" "[I" : Cond) ∈ WALL := wall_t (tw_2 _ (List.mem_of_getElem? (i := 10) (by decide +kernel))) rfl
theorem wd_288 : (Cond.fieldLink RX10 215 "ParetoDesk$Frontier" "mark" "[I" : Cond) ∈ WALL := wall_t (tw_2 _ (List.mem_of_getElem? (i := 14) (by decide +kernel))) rfl
theorem wd_1126 : (Cond.methodLink RX10 204 yX10_requirePoint : Cond) ∈ WALL := wall_t (tw_5 _ (List.mem_of_getElem? (i := 132) (by decide +kernel))) rfl
theorem wd_1128 : (Cond.instanceMethod yX10_requirePoint : Cond) ∈ WALL := wall_t (tw_5 _ (List.mem_of_getElem? (i := 134) (by decide +kernel))) rfl
theorem wd_27 : (Cond.selects RX10 yX10_requirePoint yX10_requirePoint : Cond) ∈ WALL := wall_at (i := 27) (by decide +kernel) rfl
theorem wd_1125 : (Cond.code yX10_point cX10_point 3 (some .int) : Cond) ∈ WALL := wall_t (tw_5 _ (List.mem_of_getElem? (i := 131) (by rfl))) rfl
theorem wd_286 : (Cond.fieldLink RX10 218 "ParetoDesk$Frontier" "light" "[I" : Cond) ∈ WALL := wall_t (tw_2 _ (List.mem_of_getElem? (i := 12) (by decide +kernel))) rfl
theorem wd_1134 : (Cond.code yX10_lightest cX10_lightest 2 (some .int) : Cond) ∈ WALL := wall_t (tw_5 _ (List.mem_of_getElem? (i := 140) (by rfl))) rfl
theorem wd_1200 : (Cond.methodLink RX10 221 yX2_pointWithPair : Cond) ∈ WALL := wall_t (tw_5 _ (List.mem_of_getElem? (i := 206) (by decide +kernel))) rfl
theorem wd_1199 : (Cond.code yX10_pointOf cX10_pointOf 2 (some .int) : Cond) ∈ WALL := wall_t (tw_5 _ (List.mem_of_getElem? (i := 205) (by rfl))) rfl
theorem wd_1205 : (Cond.methodLink RX10 224 yX2_beats : Cond) ∈ WALL := wall_t (tw_5 _ (List.mem_of_getElem? (i := 211) (by decide +kernel))) rfl
theorem wd_1206 : (Cond.instanceMethod yX2_beats : Cond) ∈ WALL := wall_t (tw_5 _ (List.mem_of_getElem? (i := 212) (by decide +kernel))) rfl
theorem wd_1207 : (Cond.selects RX2 yX2_beats yX2_beats : Cond) ∈ WALL := wall_t (tw_5 _ (List.mem_of_getElem? (i := 213) (by decide +kernel))) rfl
theorem wd_1204 : (Cond.code yX10_beatenBy cX10_beatenBy 3 (some .int) : Cond) ∈ WALL := wall_t (tw_5 _ (List.mem_of_getElem? (i := 210) (by rfl))) rfl
theorem wd_1212 : (Cond.code yX10_beating cX10_beating 5 (some .int) : Cond) ∈ WALL := wall_t (tw_5 _ (List.mem_of_getElem? (i := 218) (by rfl))) rfl
theorem wd_1216 : (Cond.code yX10_joyFor cX10_joyFor 3 (some .int) : Cond) ∈ WALL := wall_t (tw_5 _ (List.mem_of_getElem? (i := 222) (by rfl))) rfl
theorem wd_1220 : (Cond.code yX10_gainFor cX10_gainFor 3 (some .int) : Cond) ∈ WALL := wall_t (tw_5 _ (List.mem_of_getElem? (i := 226) (by rfl))) rfl
theorem wd_298 : (Cond.fieldLink RX10 279 "ParetoDesk$Frontier" "areaBelow" "I" : Cond) ∈ WALL := wall_t (tw_2 _ (List.mem_of_getElem? (i := 24) (by decide +kernel))) rfl
theorem wd_1138 : (Cond.code yX10_area cX10_area 1 (some .int) : Cond) ∈ WALL := wall_t (tw_5 _ (List.mem_of_getElem? (i := 144) (by rfl))) rfl
theorem wd_1154 : (Cond.methodLink RX10 413 yX3_build : Cond) ∈ WALL := wall_t (tw_5 _ (List.mem_of_getElem? (i := 160) (by decide +kernel))) rfl
theorem wd_1155 : (Cond.instanceMethod yX3_build : Cond) ∈ WALL := wall_t (tw_5 _ (List.mem_of_getElem? (i := 161) (by decide +kernel))) rfl
theorem wd_1156 : (Cond.selects RX3 yX3_build yX3_build : Cond) ∈ WALL := wall_t (tw_5 _ (List.mem_of_getElem? (i := 162) (by decide +kernel))) rfl
theorem wd_1153 : (Cond.code yX10_refreshLayers cX10_refreshLayers 1 none : Cond) ∈ WALL := wall_t (tw_5 _ (List.mem_of_getElem? (i := 159) (by rfl))) rfl
theorem wd_355 : (Cond.fieldLink RX10 315 "ParetoDesk$Layers" "count" "I" : Cond) ∈ WALL := wall_t (tw_2 _ (List.mem_of_getElem? (i := 81) (by decide +kernel))) rfl
theorem wd_1150 : (Cond.methodLink RX10 312 yX10_refreshLayers : Cond) ∈ WALL := wall_t (tw_5 _ (List.mem_of_getElem? (i := 156) (by decide +kernel))) rfl
theorem wd_1152 : (Cond.instanceMethod yX10_refreshLayers : Cond) ∈ WALL := wall_t (tw_5 _ (List.mem_of_getElem? (i := 158) (by decide +kernel))) rfl
theorem wd_28 : (Cond.selects RX10 yX10_refreshLayers yX10_refreshLayers : Cond) ∈ WALL := wall_at (i := 28) (by decide +kernel) rfl
theorem wd_1187 : (Cond.code yX10_layers cX10_layers 1 (some .int) : Cond) ∈ WALL := wall_t (tw_5 _ (List.mem_of_getElem? (i := 193) (by rfl))) rfl
theorem wd_353 : (Cond.fieldLink RX10 318 "ParetoDesk$Layers" "size" "[I" : Cond) ∈ WALL := wall_t (tw_2 _ (List.mem_of_getElem? (i := 79) (by decide +kernel))) rfl
theorem wd_1149 : (Cond.code yX10_layerSize cX10_layerSize 2 (some .int) : Cond) ∈ WALL := wall_t (tw_5 _ (List.mem_of_getElem? (i := 155) (by rfl))) rfl
theorem wd_351 : (Cond.fieldLink RX10 320 "ParetoDesk$Layers" "layer" "[I" : Cond) ∈ WALL := wall_t (tw_2 _ (List.mem_of_getElem? (i := 77) (by decide +kernel))) rfl
theorem wd_1191 : (Cond.code yX10_layerOf cX10_layerOf 2 (some .int) : Cond) ∈ WALL := wall_t (tw_5 _ (List.mem_of_getElem? (i := 197) (by rfl))) rfl
theorem wd_1142 : (Cond.code yX10_share cX10_share 1 (some .double) : Cond) ∈ WALL := wall_t (tw_5 _ (List.mem_of_getElem? (i := 148) (by rfl))) rfl
theorem wd_541 : (Cond.code yX10_requireCapacity cX10_requireCapacity 1 none : Cond) ∈ WALL := wall_t (tw_3 _ (List.mem_of_getElem? (i := 27) (by rfl))) rfl
theorem wd_539 : (Cond.methodLink RX10 297 yX10_requireCapacity : Cond) ∈ WALL := wall_t (tw_3 _ (List.mem_of_getElem? (i := 25) (by decide +kernel))) rfl
theorem wd_540 : (Cond.static yX10_requireCapacity : Cond) ∈ WALL := wall_t (tw_3 _ (List.mem_of_getElem? (i := 26) (by decide +kernel))) rfl
theorem wd_538 : (Cond.code yX10_setCapacity cX10_setCapacity 3 (some .int) : Cond) ∈ WALL := wall_t (tw_3 _ (List.mem_of_getElem? (i := 24) (by rfl))) rfl
theorem wd_597 : (Cond.code yJ2_newBytesLength_0f7a4 cJ2_newBytesLength_0f7a4 1 (some .int) : Cond) ∈ WALL := wall_t (tw_3 _ (List.mem_of_getElem? (i := 83) (by rfl))) rfl
theorem wd_598 : (Cond.constant RJ2 20 (1073741823) : Cond) ∈ WALL := wall_t (tw_3 _ (List.mem_of_getElem? (i := 84) (by decide +kernel))) rfl
theorem wd_595 : (Cond.methodLink RJ2 11 yJ2_newBytesLength_0f7a4 : Cond) ∈ WALL := wall_t (tw_3 _ (List.mem_of_getElem? (i := 81) (by decide +kernel))) rfl
theorem wd_596 : (Cond.static yJ2_newBytesLength_0f7a4 : Cond) ∈ WALL := wall_t (tw_3 _ (List.mem_of_getElem? (i := 82) (by decide +kernel))) rfl
theorem wd_633 : (Cond.code yJ8_hugeLength_7cf53 cJ8_hugeLength_7cf53 3 (some .int) : Cond) ∈ WALL := wall_t (tw_3 _ (List.mem_of_getElem? (i := 119) (by rfl))) rfl
theorem wd_630 : (Cond.constant RJ8 200 (2147483639) : Cond) ∈ WALL := wall_t (tw_3 _ (List.mem_of_getElem? (i := 116) (by decide +kernel))) rfl
theorem wd_626 : (Cond.code yJ8_newLength_cabcc cJ8_newLength_cabcc 4 (some .int) : Cond) ∈ WALL := wall_t (tw_3 _ (List.mem_of_getElem? (i := 112) (by rfl))) rfl
theorem wd_627 : (Cond.methodLink RJ8 194 Lib.Math.max.name : Cond) ∈ WALL := wall_t (tw_3 _ (List.mem_of_getElem? (i := 113) (by decide +kernel))) rfl
theorem wd_628 : (Cond.static Lib.Math.max.name : Cond) ∈ WALL := wall_t (tw_3 _ (List.mem_of_getElem? (i := 114) (by decide +kernel))) rfl
theorem wd_629_0 : (Cond.code Lib.Math.max.name Lib.Math.max.code 2 (some .int) : Cond) ∈ WALL := wall_t (tw_3 _ (List.mem_of_getElem? (i := 115) (by rfl))) rfl
theorem wd_631 : (Cond.methodLink RJ8 201 yJ8_hugeLength_7cf53 : Cond) ∈ WALL := wall_t (tw_3 _ (List.mem_of_getElem? (i := 117) (by decide +kernel))) rfl
theorem wd_632 : (Cond.static yJ8_hugeLength_7cf53 : Cond) ∈ WALL := wall_t (tw_3 _ (List.mem_of_getElem? (i := 118) (by decide +kernel))) rfl
theorem wd_50 : (Cond.initialized RJ8 : Cond) ∈ WALL := wall_t (tw_1 _ (List.mem_of_getElem? (i := 16) (by decide +kernel))) rfl
theorem wd_623 : (Cond.code yJ5_newCapacity_0f7a4 cJ5_newCapacity_0f7a4 6 (some .int) : Cond) ∈ WALL := wall_t (tw_3 _ (List.mem_of_getElem? (i := 109) (by rfl))) rfl
theorem wd_713 : (Cond.fieldLink RJ5 15 "java/lang/AbstractStringBuilder" "value" "[B" : Cond) ∈ WALL := wall_t (tw_3 _ (List.mem_of_getElem? (i := 199) (by decide +kernel))) rfl
theorem wd_714 : (Cond.fieldLink RJ5 22 "java/lang/AbstractStringBuilder" "coder" "B" : Cond) ∈ WALL := wall_t (tw_3 _ (List.mem_of_getElem? (i := 200) (by decide +kernel))) rfl
theorem wd_590 : (Cond.constant RJ5 39 (2147483647) : Cond) ∈ WALL := wall_t (tw_3 _ (List.mem_of_getElem? (i := 76) (by decide +kernel))) rfl
theorem wd_624 : (Cond.methodLink RJ5 114 yJ8_newLength_cabcc : Cond) ∈ WALL := wall_t (tw_3 _ (List.mem_of_getElem? (i := 110) (by decide +kernel))) rfl
theorem wd_625 : (Cond.static yJ8_newLength_cabcc : Cond) ∈ WALL := wall_t (tw_3 _ (List.mem_of_getElem? (i := 111) (by decide +kernel))) rfl
theorem wd_638 : (Cond.sameMethod "[B" "java/lang/Object" "clone" "()Ljava/lang/Object;" : Cond) ∈ WALL := wall_t (tw_3 _ (List.mem_of_getElem? (i := 124) (by decide +kernel))) rfl
theorem wd_643 : (Cond.classLink RJ7 311 "[B" : Cond) ∈ WALL := wall_t (tw_3 _ (List.mem_of_getElem? (i := 129) (by decide +kernel))) rfl
theorem wd_644 : (Cond.methodLink RJ7 304 Lib.Math.min.name : Cond) ∈ WALL := wall_t (tw_3 _ (List.mem_of_getElem? (i := 130) (by decide +kernel))) rfl
theorem wd_647 : (Cond.methodLink RJ7 150 arraycopyName : Cond) ∈ WALL := wall_t (tw_3 _ (List.mem_of_getElem? (i := 133) (by decide +kernel))) rfl
theorem wd_1224 : (Cond.sameMethod "java/lang/AbstractStringBuilder" "java/lang/AbstractStringBuilder" "newCapacity" "(I)I" : Cond) ∈ WALL := wall_t (tw_5 _ (List.mem_of_getElem? (i := 230) (by decide +kernel))) rfl
theorem wd_622 : (Cond.instanceMethod yJ5_newCapacity_0f7a4 : Cond) ∈ WALL := wall_t (tw_3 _ (List.mem_of_getElem? (i := 108) (by decide +kernel))) rfl
theorem wd_46 : (Cond.initialized RJ5 : Cond) ∈ WALL := wall_t (tw_1 _ (List.mem_of_getElem? (i := 12) (by decide +kernel))) rfl
theorem wd_634 : (Cond.methodLink RJ5 108 yJ7_copyOf_9075b : Cond) ∈ WALL := wall_t (tw_3 _ (List.mem_of_getElem? (i := 120) (by decide +kernel))) rfl
theorem wd_635 : (Cond.static yJ7_copyOf_9075b : Cond) ∈ WALL := wall_t (tw_3 _ (List.mem_of_getElem? (i := 121) (by decide +kernel))) rfl
theorem wd_619 : (Cond.code yJ5_ensureCapacityInternal_d00df cJ5_ensureCapacityInternal_d00df 3 none : Cond) ∈ WALL := wall_t (tw_3 _ (List.mem_of_getElem? (i := 105) (by rfl))) rfl
theorem wd_652 : (Cond.code yJ5_isLatin1_aae02 cJ5_isLatin1_aae02 1 (some .boolean) : Cond) ∈ WALL := wall_t (tw_3 _ (List.mem_of_getElem? (i := 138) (by rfl))) rfl
theorem wd_653 : (Cond.fieldLink RJ5 18 "java/lang/String" "COMPACT_STRINGS" "Z" : Cond) ∈ WALL := wall_t (tw_3 _ (List.mem_of_getElem? (i := 139) (by decide +kernel))) rfl
theorem wd_670 : (Cond.code yJ3_checkFromToIndex_8c36e cJ3_checkFromToIndex_8c36e 4 (some .int) : Cond) ∈ WALL := wall_t (tw_3 _ (List.mem_of_getElem? (i := 156) (by rfl))) rfl
theorem wd_665 : (Cond.code yJ0_checkBoundsBeginEnd_23922 cJ0_checkBoundsBeginEnd_23922 3 none : Cond) ∈ WALL := wall_t (tw_3 _ (List.mem_of_getElem? (i := 151) (by rfl))) rfl
theorem wd_668 : (Cond.methodLink RJ0 1062 yJ3_checkFromToIndex_8c36e : Cond) ∈ WALL := wall_t (tw_3 _ (List.mem_of_getElem? (i := 154) (by decide +kernel))) rfl
theorem wd_669 : (Cond.static yJ3_checkFromToIndex_8c36e : Cond) ∈ WALL := wall_t (tw_3 _ (List.mem_of_getElem? (i := 155) (by decide +kernel))) rfl
theorem wd_659 : (Cond.code yJ2_checkBoundsBeginEnd_d044e cJ2_checkBoundsBeginEnd_d044e 3 none : Cond) ∈ WALL := wall_t (tw_3 _ (List.mem_of_getElem? (i := 145) (by rfl))) rfl
theorem wd_663 : (Cond.methodLink RJ2 241 yJ0_checkBoundsBeginEnd_23922 : Cond) ∈ WALL := wall_t (tw_3 _ (List.mem_of_getElem? (i := 149) (by decide +kernel))) rfl
theorem wd_664 : (Cond.static yJ0_checkBoundsBeginEnd_23922 : Cond) ∈ WALL := wall_t (tw_3 _ (List.mem_of_getElem? (i := 150) (by decide +kernel))) rfl
theorem wd_673 : (Cond.code yJ2_putChar_b72d1 cJ2_putChar_b72d1 3 none : Cond) ∈ WALL := wall_t (tw_3 _ (List.mem_of_getElem? (i := 159) (by rfl))) rfl
theorem wd_656 : (Cond.code yJ2_putCharsAt_cd4e5 cJ2_putCharsAt_cd4e5 7 (some .int) : Cond) ∈ WALL := wall_t (tw_3 _ (List.mem_of_getElem? (i := 142) (by rfl))) rfl
theorem wd_657 : (Cond.methodLink RJ2 96 yJ2_checkBoundsBeginEnd_d044e : Cond) ∈ WALL := wall_t (tw_3 _ (List.mem_of_getElem? (i := 143) (by decide +kernel))) rfl
theorem wd_658 : (Cond.static yJ2_checkBoundsBeginEnd_d044e : Cond) ∈ WALL := wall_t (tw_3 _ (List.mem_of_getElem? (i := 144) (by decide +kernel))) rfl
theorem wd_671 : (Cond.methodLink RJ2 111 yJ2_putChar_b72d1 : Cond) ∈ WALL := wall_t (tw_3 _ (List.mem_of_getElem? (i := 157) (by decide +kernel))) rfl
theorem wd_672 : (Cond.static yJ2_putChar_b72d1 : Cond) ∈ WALL := wall_t (tw_3 _ (List.mem_of_getElem? (i := 158) (by decide +kernel))) rfl
theorem wd_716 : (Cond.fieldLink RJ5 79 "java/lang/AbstractStringBuilder" "count" "I" : Cond) ∈ WALL := wall_t (tw_3 _ (List.mem_of_getElem? (i := 202) (by decide +kernel))) rfl
theorem wd_1223 : (Cond.sameMethod "java/lang/AbstractStringBuilder" "java/lang/AbstractStringBuilder" "ensureCapacityInternal" "(I)V" : Cond) ∈ WALL := wall_t (tw_5 _ (List.mem_of_getElem? (i := 229) (by decide +kernel))) rfl
theorem wd_618 : (Cond.instanceMethod yJ5_ensureCapacityInternal_d00df : Cond) ∈ WALL := wall_t (tw_3 _ (List.mem_of_getElem? (i := 104) (by decide +kernel))) rfl
theorem wd_650 : (Cond.sameMethod "java/lang/AbstractStringBuilder" "java/lang/AbstractStringBuilder" "isLatin1" "()Z" : Cond) ∈ WALL := wall_t (tw_3 _ (List.mem_of_getElem? (i := 136) (by decide +kernel))) rfl
theorem wd_649 : (Cond.instanceMethod yJ5_isLatin1_aae02 : Cond) ∈ WALL := wall_t (tw_3 _ (List.mem_of_getElem? (i := 135) (by decide +kernel))) rfl
theorem wd_654 : (Cond.methodLink RJ5 226 yJ2_putCharsAt_cd4e5 : Cond) ∈ WALL := wall_t (tw_3 _ (List.mem_of_getElem? (i := 140) (by decide +kernel))) rfl
theorem wd_655 : (Cond.static yJ2_putCharsAt_cd4e5 : Cond) ∈ WALL := wall_t (tw_3 _ (List.mem_of_getElem? (i := 141) (by decide +kernel))) rfl
theorem wd_706 : (Cond.code yJ3_checkFromIndexSize_8c36e cJ3_checkFromIndexSize_8c36e 4 (some .int) : Cond) ∈ WALL := wall_t (tw_3 _ (List.mem_of_getElem? (i := 192) (by rfl))) rfl
theorem wd_703 : (Cond.code yJ0_checkBoundsOffCount_cabcc cJ0_checkBoundsOffCount_cabcc 3 (some .int) : Cond) ∈ WALL := wall_t (tw_3 _ (List.mem_of_getElem? (i := 189) (by rfl))) rfl
theorem wd_704 : (Cond.methodLink RJ0 1065 yJ3_checkFromIndexSize_8c36e : Cond) ∈ WALL := wall_t (tw_3 _ (List.mem_of_getElem? (i := 190) (by decide +kernel))) rfl
theorem wd_705 : (Cond.static yJ3_checkFromIndexSize_8c36e : Cond) ∈ WALL := wall_t (tw_3 _ (List.mem_of_getElem? (i := 191) (by decide +kernel))) rfl
theorem wd_700 : (Cond.code yJ2_checkBoundsOffCount_d044e cJ2_checkBoundsOffCount_d044e 3 none : Cond) ∈ WALL := wall_t (tw_3 _ (List.mem_of_getElem? (i := 186) (by rfl))) rfl
theorem wd_701 : (Cond.methodLink RJ2 419 yJ0_checkBoundsOffCount_cabcc : Cond) ∈ WALL := wall_t (tw_3 _ (List.mem_of_getElem? (i := 187) (by decide +kernel))) rfl
theorem wd_702 : (Cond.static yJ0_checkBoundsOffCount_cabcc : Cond) ∈ WALL := wall_t (tw_3 _ (List.mem_of_getElem? (i := 188) (by decide +kernel))) rfl
theorem wd_697 : (Cond.code yJ2_inflate_0e8fd cJ2_inflate_0e8fd 6 none : Cond) ∈ WALL := wall_t (tw_3 _ (List.mem_of_getElem? (i := 183) (by rfl))) rfl
theorem wd_698 : (Cond.methodLink RJ2 173 yJ2_checkBoundsOffCount_d044e : Cond) ∈ WALL := wall_t (tw_3 _ (List.mem_of_getElem? (i := 184) (by decide +kernel))) rfl
theorem wd_699 : (Cond.static yJ2_checkBoundsOffCount_d044e : Cond) ∈ WALL := wall_t (tw_3 _ (List.mem_of_getElem? (i := 185) (by decide +kernel))) rfl
theorem wd_695 : (Cond.methodLink RJ1 240 yJ2_inflate_0e8fd : Cond) ∈ WALL := wall_t (tw_3 _ (List.mem_of_getElem? (i := 181) (by decide +kernel))) rfl
theorem wd_696 : (Cond.static yJ2_inflate_0e8fd : Cond) ∈ WALL := wall_t (tw_3 _ (List.mem_of_getElem? (i := 182) (by decide +kernel))) rfl
theorem wd_694 : (Cond.code yJ1_inflate_0e8fd cJ1_inflate_0e8fd 5 none : Cond) ∈ WALL := wall_t (tw_3 _ (List.mem_of_getElem? (i := 180) (by rfl))) rfl
theorem wd_592 : (Cond.methodLink RJ5 26 yJ2_newBytesFor_77867 : Cond) ∈ WALL := wall_t (tw_3 _ (List.mem_of_getElem? (i := 78) (by decide +kernel))) rfl
theorem wd_593 : (Cond.static yJ2_newBytesFor_77867 : Cond) ∈ WALL := wall_t (tw_3 _ (List.mem_of_getElem? (i := 79) (by decide +kernel))) rfl
theorem wd_692 : (Cond.methodLink RJ5 125 yJ1_inflate_0e8fd : Cond) ∈ WALL := wall_t (tw_3 _ (List.mem_of_getElem? (i := 178) (by decide +kernel))) rfl
theorem wd_693 : (Cond.static yJ1_inflate_0e8fd : Cond) ∈ WALL := wall_t (tw_3 _ (List.mem_of_getElem? (i := 179) (by decide +kernel))) rfl
theorem wd_691 : (Cond.code yJ5_inflate_da8c8 cJ5_inflate_da8c8 2 none : Cond) ∈ WALL := wall_t (tw_3 _ (List.mem_of_getElem? (i := 177) (by rfl))) rfl
theorem wd_591 : (Cond.methodLink RJ5 40 yJ0_coder_7d493 : Cond) ∈ WALL := wall_t (tw_3 _ (List.mem_of_getElem? (i := 77) (by decide +kernel))) rfl
theorem wd_1227 : (Cond.sameMethod "java/lang/AbstractStringBuilder" "java/lang/AbstractStringBuilder" "inflate" "()V" : Cond) ∈ WALL := wall_t (tw_5 _ (List.mem_of_getElem? (i := 233) (by decide +kernel))) rfl
theorem wd_690 : (Cond.instanceMethod yJ5_inflate_da8c8 : Cond) ∈ WALL := wall_t (tw_3 _ (List.mem_of_getElem? (i := 176) (by decide +kernel))) rfl
theorem wd_687 : (Cond.code yJ5_inflateIfNeededFor_a7421 cJ5_inflateIfNeededFor_a7421 2 none : Cond) ∈ WALL := wall_t (tw_3 _ (List.mem_of_getElem? (i := 173) (by rfl))) rfl
theorem wd_711 : (Cond.methodLink RJ0 212 arraycopyName : Cond) ∈ WALL := wall_t (tw_3 _ (List.mem_of_getElem? (i := 197) (by decide +kernel))) rfl
theorem wd_712 : (Cond.methodLink RJ0 106 yJ1_inflate_0e8fd : Cond) ∈ WALL := wall_t (tw_3 _ (List.mem_of_getElem? (i := 198) (by decide +kernel))) rfl
theorem wd_710 : (Cond.code yJ0_getBytes_840e7 cJ0_getBytes_840e7 4 none : Cond) ∈ WALL := wall_t (tw_3 _ (List.mem_of_getElem? (i := 196) (by rfl))) rfl
theorem wd_1226 : (Cond.sameMethod "java/lang/AbstractStringBuilder" "java/lang/AbstractStringBuilder" "inflateIfNeededFor" "(Ljava/lang/String;)V" : Cond) ∈ WALL := wall_t (tw_5 _ (List.mem_of_getElem? (i := 232) (by decide +kernel))) rfl
theorem wd_686 : (Cond.instanceMethod yJ5_inflateIfNeededFor_a7421 : Cond) ∈ WALL := wall_t (tw_3 _ (List.mem_of_getElem? (i := 172) (by decide +kernel))) rfl
theorem wd_707 : (Cond.methodLink RJ5 399 yJ0_getBytes_840e7 : Cond) ∈ WALL := wall_t (tw_3 _ (List.mem_of_getElem? (i := 193) (by decide +kernel))) rfl
theorem wd_708 : (Cond.instanceMethod yJ0_getBytes_840e7 : Cond) ∈ WALL := wall_t (tw_3 _ (List.mem_of_getElem? (i := 194) (by decide +kernel))) rfl
theorem wd_709 : (Cond.selects RJ0 yJ0_getBytes_840e7 yJ0_getBytes_840e7 : Cond) ∈ WALL := wall_t (tw_3 _ (List.mem_of_getElem? (i := 195) (by decide +kernel))) rfl
theorem wd_683 : (Cond.code yJ5_putStringAt_47b60 cJ5_putStringAt_47b60 3 none : Cond) ∈ WALL := wall_t (tw_3 _ (List.mem_of_getElem? (i := 169) (by rfl))) rfl
theorem wd_1222 : (Cond.sameMethod "java/lang/AbstractStringBuilder" "java/lang/AbstractStringBuilder" "appendNull" "()Ljava/lang/AbstractStringBuilder;" : Cond) ∈ WALL := wall_t (tw_5 _ (List.mem_of_getElem? (i := 228) (by decide +kernel))) rfl
theorem wd_614 : (Cond.instanceMethod yJ5_appendNull_278bc : Cond) ∈ WALL := wall_t (tw_3 _ (List.mem_of_getElem? (i := 100) (by decide +kernel))) rfl
theorem wd_579 : (Cond.methodLink RJ5 32 yJ0_length_8abf5 : Cond) ∈ WALL := wall_t (tw_3 _ (List.mem_of_getElem? (i := 65) (by decide +kernel))) rfl
theorem wd_1225 : (Cond.sameMethod "java/lang/AbstractStringBuilder" "java/lang/AbstractStringBuilder" "putStringAt" "(ILjava/lang/String;)V" : Cond) ∈ WALL := wall_t (tw_5 _ (List.mem_of_getElem? (i := 231) (by decide +kernel))) rfl
theorem wd_682 : (Cond.instanceMethod yJ5_putStringAt_47b60 : Cond) ∈ WALL := wall_t (tw_3 _ (List.mem_of_getElem? (i := 168) (by decide +kernel))) rfl
theorem wd_609 : (Cond.methodLink RJ4 29 yJ5_append_cf1ce : Cond) ∈ WALL := wall_t (tw_3 _ (List.mem_of_getElem? (i := 95) (by decide +kernel))) rfl
theorem wd_601 : (Cond.sameMethod "java/lang/AbstractStringBuilder" "java/lang/AbstractStringBuilder" "append" "(Ljava/lang/String;)Ljava/lang/AbstractStringBuilder;" : Cond) ∈ WALL := wall_t (tw_3 _ (List.mem_of_getElem? (i := 87) (by decide +kernel))) rfl
theorem wd_610 : (Cond.superclass RJ4 RJ5 : Cond) ∈ WALL := wall_t (tw_3 _ (List.mem_of_getElem? (i := 96) (by decide +kernel))) rfl
theorem wd_600 : (Cond.instanceMethod yJ5_append_cf1ce : Cond) ∈ WALL := wall_t (tw_3 _ (List.mem_of_getElem? (i := 86) (by decide +kernel))) rfl
theorem wd_605 : (Cond.methodLink RJ4 23 yJ4_append_15ec4 : Cond) ∈ WALL := wall_t (tw_3 _ (List.mem_of_getElem? (i := 91) (by decide +kernel))) rfl
theorem wd_606 : (Cond.instanceMethod yJ4_append_15ec4 : Cond) ∈ WALL := wall_t (tw_3 _ (List.mem_of_getElem? (i := 92) (by decide +kernel))) rfl
theorem wd_607 : (Cond.selects RJ4 yJ4_append_15ec4 yJ4_append_15ec4 : Cond) ∈ WALL := wall_t (tw_3 _ (List.mem_of_getElem? (i := 93) (by decide +kernel))) rfl
theorem wd_47 : (Cond.initialized RJ4 : Cond) ∈ WALL := wall_t (tw_1 _ (List.mem_of_getElem? (i := 13) (by decide +kernel))) rfl
theorem wd_578 : (Cond.methodLink RJ5 3 objectInit : Cond) ∈ WALL := wall_t (tw_3 _ (List.mem_of_getElem? (i := 64) (by decide +kernel))) rfl
theorem wd_589 : (Cond.constant RJ5 38 (2147483631) : Cond) ∈ WALL := wall_t (tw_3 _ (List.mem_of_getElem? (i := 75) (by decide +kernel))) rfl
theorem wd_603 : (Cond.instanceMethod yJ4_append_cf1ce : Cond) ∈ WALL := wall_t (tw_3 _ (List.mem_of_getElem? (i := 89) (by decide +kernel))) rfl
theorem wd_577 : (Cond.code yJ5_init_a7421 cJ5_init_a7421 5 none : Cond) ∈ WALL := wall_t (tw_3 _ (List.mem_of_getElem? (i := 63) (by rfl))) rfl
theorem wd_786 : (Cond.code yJ5_length_8abf5 cJ5_length_8abf5 1 (some .int) : Cond) ∈ WALL := wall_t (tw_4 _ (List.mem_of_getElem? (i := 32) (by rfl))) rfl
theorem wd_734 : (Cond.code yJ6_stringSize_0f7a4 cJ6_stringSize_0f7a4 4 (some .int) : Cond) ∈ WALL := wall_t (tw_3 _ (List.mem_of_getElem? (i := 220) (by rfl))) rfl
theorem wd_737 : (Cond.code yJ6_getChars_ba4f3 cJ6_getChars_ba4f3 7 (some .int) : Cond) ∈ WALL := wall_t (tw_3 _ (List.mem_of_getElem? (i := 223) (by rfl))) rfl
theorem wd_738 : (Cond.fieldLink RJ6 83 "java/lang/Integer" "DigitOnes" "[B" : Cond) ∈ WALL := wall_t (tw_3 _ (List.mem_of_getElem? (i := 224) (by decide +kernel))) rfl
theorem wd_740 : (Cond.fieldLink RJ6 87 "java/lang/Integer" "DigitTens" "[B" : Cond) ∈ WALL := wall_t (tw_3 _ (List.mem_of_getElem? (i := 226) (by decide +kernel))) rfl
theorem wd_747 : (Cond.code yJ2_getChars_ba4f3 cJ2_getChars_ba4f3 7 (some .int) : Cond) ∈ WALL := wall_t (tw_3 _ (List.mem_of_getElem? (i := 233) (by rfl))) rfl
theorem wd_748 : (Cond.fieldLink RJ2 403 "java/lang/Integer" "DigitOnes" "[B" : Cond) ∈ WALL := wall_t (tw_3 _ (List.mem_of_getElem? (i := 234) (by decide +kernel))) rfl
theorem wd_749 : (Cond.fieldLink RJ2 407 "java/lang/Integer" "DigitTens" "[B" : Cond) ∈ WALL := wall_t (tw_3 _ (List.mem_of_getElem? (i := 235) (by decide +kernel))) rfl
theorem wd_745 : (Cond.methodLink RJ2 393 yJ2_getChars_ba4f3 : Cond) ∈ WALL := wall_t (tw_3 _ (List.mem_of_getElem? (i := 231) (by decide +kernel))) rfl
theorem wd_746 : (Cond.static yJ2_getChars_ba4f3 : Cond) ∈ WALL := wall_t (tw_3 _ (List.mem_of_getElem? (i := 232) (by decide +kernel))) rfl
theorem wd_744 : (Cond.code yJ2_getChars_46870 cJ2_getChars_46870 5 (some .int) : Cond) ∈ WALL := wall_t (tw_3 _ (List.mem_of_getElem? (i := 230) (by rfl))) rfl
theorem wd_732 : (Cond.methodLink RJ5 245 yJ6_stringSize_0f7a4 : Cond) ∈ WALL := wall_t (tw_3 _ (List.mem_of_getElem? (i := 218) (by decide +kernel))) rfl
theorem wd_733 : (Cond.static yJ6_stringSize_0f7a4 : Cond) ∈ WALL := wall_t (tw_3 _ (List.mem_of_getElem? (i := 219) (by decide +kernel))) rfl
theorem wd_735 : (Cond.methodLink RJ5 248 yJ6_getChars_ba4f3 : Cond) ∈ WALL := wall_t (tw_3 _ (List.mem_of_getElem? (i := 221) (by decide +kernel))) rfl
theorem wd_736 : (Cond.static yJ6_getChars_ba4f3 : Cond) ∈ WALL := wall_t (tw_3 _ (List.mem_of_getElem? (i := 222) (by decide +kernel))) rfl
theorem wd_742 : (Cond.methodLink RJ5 251 yJ2_getChars_46870 : Cond) ∈ WALL := wall_t (tw_3 _ (List.mem_of_getElem? (i := 228) (by decide +kernel))) rfl
theorem wd_743 : (Cond.static yJ2_getChars_46870 : Cond) ∈ WALL := wall_t (tw_3 _ (List.mem_of_getElem? (i := 229) (by decide +kernel))) rfl
theorem wd_629_1 : (Cond.code yJ9_max_7cf53 cJ9_max_7cf53 2 (some .int) : Cond) ∈ WALL := wall_t (tw_3 _ (List.mem_of_getElem? (i := 115) (by rfl))) rfl
theorem wd_646_1 : (Cond.code yJ9_min_7cf53 cJ9_min_7cf53 2 (some .int) : Cond) ∈ WALL := wall_t (tw_3 _ (List.mem_of_getElem? (i := 132) (by rfl))) rfl
theorem wd_784 : (Cond.code yJ4_length_8abf5 cJ4_length_8abf5 1 (some .int) : Cond) ∈ WALL := wall_t (tw_4 _ (List.mem_of_getElem? (i := 30) (by rfl))) rfl
theorem wd_785 : (Cond.methodLink RJ4 343 yJ5_length_8abf5 : Cond) ∈ WALL := wall_t (tw_4 _ (List.mem_of_getElem? (i := 31) (by decide +kernel))) rfl
theorem wd_781 : (Cond.sameMethod "java/lang/AbstractStringBuilder" "java/lang/AbstractStringBuilder" "length" "()I" : Cond) ∈ WALL := wall_t (tw_4 _ (List.mem_of_getElem? (i := 27) (by decide +kernel))) rfl
theorem wd_780 : (Cond.instanceMethod yJ5_length_8abf5 : Cond) ∈ WALL := wall_t (tw_4 _ (List.mem_of_getElem? (i := 26) (by decide +kernel))) rfl
theorem wd_796 : (Cond.code yJ7_checkLength_df160 cJ7_checkLength_df160 2 none : Cond) ∈ WALL := wall_t (tw_4 _ (List.mem_of_getElem? (i := 42) (by rfl))) rfl
theorem wd_794 : (Cond.methodLink RJ7 343 yJ7_checkLength_df160 : Cond) ∈ WALL := wall_t (tw_4 _ (List.mem_of_getElem? (i := 40) (by decide +kernel))) rfl
theorem wd_795 : (Cond.static yJ7_checkLength_df160 : Cond) ∈ WALL := wall_t (tw_4 _ (List.mem_of_getElem? (i := 41) (by decide +kernel))) rfl
theorem wd_791 : (Cond.methodLink RJ7 339 yJ7_copyOfRangeByte_39247 : Cond) ∈ WALL := wall_t (tw_4 _ (List.mem_of_getElem? (i := 37) (by decide +kernel))) rfl
theorem wd_792 : (Cond.static yJ7_copyOfRangeByte_39247 : Cond) ∈ WALL := wall_t (tw_4 _ (List.mem_of_getElem? (i := 38) (by decide +kernel))) rfl
theorem wd_802 : (Cond.code yJ2_compress_5af95 cJ2_compress_5af95 7 (some .int) : Cond) ∈ WALL := wall_t (tw_4 _ (List.mem_of_getElem? (i := 48) (by rfl))) rfl
theorem wd_800 : (Cond.methodLink RJ2 123 yJ2_compress_5af95 : Cond) ∈ WALL := wall_t (tw_4 _ (List.mem_of_getElem? (i := 46) (by decide +kernel))) rfl
theorem wd_801 : (Cond.static yJ2_compress_5af95 : Cond) ∈ WALL := wall_t (tw_4 _ (List.mem_of_getElem? (i := 47) (by decide +kernel))) rfl
theorem wd_806 : (Cond.methodLink RJ2 126 yJ7_copyOfRange_39247 : Cond) ∈ WALL := wall_t (tw_4 _ (List.mem_of_getElem? (i := 52) (by decide +kernel))) rfl
theorem wd_789 : (Cond.static yJ7_copyOfRange_39247 : Cond) ∈ WALL := wall_t (tw_4 _ (List.mem_of_getElem? (i := 35) (by decide +kernel))) rfl
theorem wd_809 : (Cond.code yJ2_coderFromArrayLen_85cad cJ2_coderFromArrayLen_85cad 2 (some .byte) : Cond) ∈ WALL := wall_t (tw_4 _ (List.mem_of_getElem? (i := 55) (by rfl))) rfl
theorem wd_773 : (Cond.methodLink RJ0 1 objectInit : Cond) ∈ WALL := wall_t (tw_4 _ (List.mem_of_getElem? (i := 19) (by decide +kernel))) rfl
theorem wd_715 : (Cond.fieldLink RJ0 1048 "java/lang/AbstractStringBuilder" "maybeLatin1" "Z" : Cond) ∈ WALL := wall_t (tw_3 _ (List.mem_of_getElem? (i := 201) (by decide +kernel))) rfl
theorem wd_776 : (Cond.sameMethod "java/lang/AbstractStringBuilder" "java/lang/AbstractStringBuilder" "getValue" "()[B" : Cond) ∈ WALL := wall_t (tw_4 _ (List.mem_of_getElem? (i := 22) (by decide +kernel))) rfl
theorem wd_775 : (Cond.instanceMethod yJ5_getValue_6d5f1 : Cond) ∈ WALL := wall_t (tw_4 _ (List.mem_of_getElem? (i := 21) (by decide +kernel))) rfl
theorem wd_783 : (Cond.instanceMethod yJ4_length_8abf5 : Cond) ∈ WALL := wall_t (tw_4 _ (List.mem_of_getElem? (i := 29) (by decide +kernel))) rfl
theorem wd_788 : (Cond.methodLink RJ0 54 yJ7_copyOfRange_39247 : Cond) ∈ WALL := wall_t (tw_4 _ (List.mem_of_getElem? (i := 34) (by decide +kernel))) rfl
theorem wd_797 : (Cond.methodLink RJ0 1051 yJ2_compress_39247 : Cond) ∈ WALL := wall_t (tw_4 _ (List.mem_of_getElem? (i := 43) (by decide +kernel))) rfl
theorem wd_798 : (Cond.static yJ2_compress_39247 : Cond) ∈ WALL := wall_t (tw_4 _ (List.mem_of_getElem? (i := 44) (by decide +kernel))) rfl
theorem wd_807 : (Cond.methodLink RJ0 47 yJ2_coderFromArrayLen_85cad : Cond) ∈ WALL := wall_t (tw_4 _ (List.mem_of_getElem? (i := 53) (by decide +kernel))) rfl
theorem wd_808 : (Cond.static yJ2_coderFromArrayLen_85cad : Cond) ∈ WALL := wall_t (tw_4 _ (List.mem_of_getElem? (i := 54) (by decide +kernel))) rfl
theorem wd_772 : (Cond.code yJ0_init_db425 cJ0_init_db425 5 none : Cond) ∈ WALL := wall_t (tw_4 _ (List.mem_of_getElem? (i := 18) (by rfl))) rfl
theorem wd_770 : (Cond.methodLink RJ0 489 yJ0_init_db425 : Cond) ∈ WALL := wall_t (tw_4 _ (List.mem_of_getElem? (i := 16) (by decide +kernel))) rfl
theorem wd_771 : (Cond.instanceMethod yJ0_init_db425 : Cond) ∈ WALL := wall_t (tw_4 _ (List.mem_of_getElem? (i := 17) (by decide +kernel))) rfl
theorem wd_769 : (Cond.code yJ0_init_81219 cJ0_init_81219 2 none : Cond) ∈ WALL := wall_t (tw_4 _ (List.mem_of_getElem? (i := 15) (by rfl))) rfl
theorem wd_575 : (Cond.methodLink RJ4 7 yJ5_init_a7421 : Cond) ∈ WALL := wall_t (tw_3 _ (List.mem_of_getElem? (i := 61) (by decide +kernel))) rfl
theorem wd_576 : (Cond.instanceMethod yJ5_init_a7421 : Cond) ∈ WALL := wall_t (tw_3 _ (List.mem_of_getElem? (i := 62) (by decide +kernel))) rfl
theorem wd_574 : (Cond.code yJ4_init_a7421 cJ4_init_a7421 2 none : Cond) ∈ WALL := wall_t (tw_3 _ (List.mem_of_getElem? (i := 60) (by rfl))) rfl
theorem wd_729 : (Cond.methodLink RJ4 53 yJ5_append_c97b9 : Cond) ∈ WALL := wall_t (tw_3 _ (List.mem_of_getElem? (i := 215) (by decide +kernel))) rfl
theorem wd_1228 : (Cond.sameMethod "java/lang/AbstractStringBuilder" "java/lang/AbstractStringBuilder" "append" "(I)Ljava/lang/AbstractStringBuilder;" : Cond) ∈ WALL := wall_t (tw_5 _ (List.mem_of_getElem? (i := 234) (by decide +kernel))) rfl
theorem wd_730 : (Cond.instanceMethod yJ5_append_c97b9 : Cond) ∈ WALL := wall_t (tw_3 _ (List.mem_of_getElem? (i := 216) (by decide +kernel))) rfl
theorem wd_765 : (Cond.classLink RJ4 18 RJ0 : Cond) ∈ WALL := wall_t (tw_4 _ (List.mem_of_getElem? (i := 11) (by decide +kernel))) rfl
theorem wd_766 : (Cond.instantiable RJ0 4 : Cond) ∈ WALL := wall_t (tw_4 _ (List.mem_of_getElem? (i := 12) (by decide +kernel))) rfl
theorem wd_767 : (Cond.methodLink RJ4 137 yJ0_init_81219 : Cond) ∈ WALL := wall_t (tw_4 _ (List.mem_of_getElem? (i := 13) (by decide +kernel))) rfl
theorem wd_768 : (Cond.instanceMethod yJ0_init_81219 : Cond) ∈ WALL := wall_t (tw_4 _ (List.mem_of_getElem? (i := 14) (by decide +kernel))) rfl
theorem wd_564 : (Cond.code yL_draw cL_draw 3 (some .int) : Cond) ∈ WALL := wall_t (tw_3 _ (List.mem_of_getElem? (i := 50) (by rfl))) rfl
theorem wd_565 : (Cond.constant RL 7 (2147483647) : Cond) ∈ WALL := wall_t (tw_3 _ (List.mem_of_getElem? (i := 51) (by decide +kernel))) rfl
theorem wd_824 : (Cond.methodLink RL 8 yJ0_length_8abf5 : Cond) ∈ WALL := wall_t (tw_4 _ (List.mem_of_getElem? (i := 70) (by decide +kernel))) rfl
theorem wd_828 : (Cond.methodLink RL 14 yJ0_charAt_5068e : Cond) ∈ WALL := wall_t (tw_4 _ (List.mem_of_getElem? (i := 74) (by decide +kernel))) rfl
theorem wd_827 : (Cond.code yL_four cL_four 4 (some .int) : Cond) ∈ WALL := wall_t (tw_4 _ (List.mem_of_getElem? (i := 73) (by rfl))) rfl
theorem wd_876 : (Cond.methodLink RL 30 Lib.Math.min.name : Cond) ∈ WALL := wall_t (tw_4 _ (List.mem_of_getElem? (i := 122) (by decide +kernel))) rfl
theorem wd_825 : (Cond.methodLink RL 18 yL_four : Cond) ∈ WALL := wall_t (tw_4 _ (List.mem_of_getElem? (i := 71) (by decide +kernel))) rfl
theorem wd_826 : (Cond.static yL_four : Cond) ∈ WALL := wall_t (tw_4 _ (List.mem_of_getElem? (i := 72) (by decide +kernel))) rfl
theorem wd_34 : (Cond.initialized RL : Cond) ∈ WALL := wall_t (tw_1 _ (List.mem_of_getElem? (i := 0) (by decide +kernel))) rfl
theorem wd_852 : (Cond.methodLink RL 24 yX10_append : Cond) ∈ WALL := wall_t (tw_4 _ (List.mem_of_getElem? (i := 98) (by decide +kernel))) rfl
theorem wd_853 : (Cond.instanceMethod yX10_append : Cond) ∈ WALL := wall_t (tw_4 _ (List.mem_of_getElem? (i := 99) (by decide +kernel))) rfl
theorem wd_854 : (Cond.selects RX10 yX10_append yX10_append : Cond) ∈ WALL := wall_t (tw_4 _ (List.mem_of_getElem? (i := 100) (by decide +kernel))) rfl
theorem wd_877 : (Cond.methodLink RL 36 yX10_truncate : Cond) ∈ WALL := wall_t (tw_4 _ (List.mem_of_getElem? (i := 123) (by decide +kernel))) rfl
theorem wd_878 : (Cond.instanceMethod yX10_truncate : Cond) ∈ WALL := wall_t (tw_4 _ (List.mem_of_getElem? (i := 124) (by decide +kernel))) rfl
theorem wd_879 : (Cond.selects RX10 yX10_truncate yX10_truncate : Cond) ∈ WALL := wall_t (tw_4 _ (List.mem_of_getElem? (i := 125) (by decide +kernel))) rfl
theorem wd_823 : (Cond.code yL_feed cL_feed 4 none : Cond) ∈ WALL := wall_t (tw_4 _ (List.mem_of_getElem? (i := 69) (by rfl))) rfl
theorem wd_569 : (Cond.classLink RL 44 RJ4 : Cond) ∈ WALL := wall_t (tw_3 _ (List.mem_of_getElem? (i := 55) (by decide +kernel))) rfl
theorem wd_570 : (Cond.instantiable RJ4 4 : Cond) ∈ WALL := wall_t (tw_3 _ (List.mem_of_getElem? (i := 56) (by decide +kernel))) rfl
theorem wd_562 : (Cond.methodLink RL 40 yL_draw : Cond) ∈ WALL := wall_t (tw_3 _ (List.mem_of_getElem? (i := 48) (by decide +kernel))) rfl
theorem wd_563 : (Cond.static yL_draw : Cond) ∈ WALL := wall_t (tw_3 _ (List.mem_of_getElem? (i := 49) (by decide +kernel))) rfl
theorem wd_572 : (Cond.methodLink RL 48 yJ4_init_a7421 : Cond) ∈ WALL := wall_t (tw_3 _ (List.mem_of_getElem? (i := 58) (by decide +kernel))) rfl
theorem wd_573 : (Cond.instanceMethod yJ4_init_a7421 : Cond) ∈ WALL := wall_t (tw_3 _ (List.mem_of_getElem? (i := 59) (by decide +kernel))) rfl
theorem wd_725 : (Cond.methodLink RL 51 yJ4_append_bf812 : Cond) ∈ WALL := wall_t (tw_3 _ (List.mem_of_getElem? (i := 211) (by decide +kernel))) rfl
theorem wd_726 : (Cond.instanceMethod yJ4_append_bf812 : Cond) ∈ WALL := wall_t (tw_3 _ (List.mem_of_getElem? (i := 212) (by decide +kernel))) rfl
theorem wd_727 : (Cond.selects RJ4 yJ4_append_bf812 yJ4_append_bf812 : Cond) ∈ WALL := wall_t (tw_3 _ (List.mem_of_getElem? (i := 213) (by decide +kernel))) rfl
theorem wd_751 : (Cond.methodLink RL 56 yJ4_append_15ec4 : Cond) ∈ WALL := wall_t (tw_3 _ (List.mem_of_getElem? (i := 237) (by decide +kernel))) rfl
theorem wd_761 : (Cond.methodLink RL 77 yJ4_toString_0e30d : Cond) ∈ WALL := wall_t (tw_4 _ (List.mem_of_getElem? (i := 7) (by decide +kernel))) rfl
theorem wd_762 : (Cond.instanceMethod yJ4_toString_0e30d : Cond) ∈ WALL := wall_t (tw_4 _ (List.mem_of_getElem? (i := 8) (by decide +kernel))) rfl
theorem wd_763 : (Cond.selects RJ4 yJ4_toString_0e30d yJ4_toString_0e30d : Cond) ∈ WALL := wall_t (tw_4 _ (List.mem_of_getElem? (i := 9) (by decide +kernel))) rfl
theorem wd_821 : (Cond.methodLink RL 81 yL_feed : Cond) ∈ WALL := wall_t (tw_4 _ (List.mem_of_getElem? (i := 67) (by decide +kernel))) rfl
theorem wd_822 : (Cond.static yL_feed : Cond) ∈ WALL := wall_t (tw_4 _ (List.mem_of_getElem? (i := 68) (by decide +kernel))) rfl
theorem wd_882 : (Cond.methodLink RL 85 yX10_load : Cond) ∈ WALL := wall_t (tw_4 _ (List.mem_of_getElem? (i := 128) (by decide +kernel))) rfl
theorem wd_883 : (Cond.instanceMethod yX10_load : Cond) ∈ WALL := wall_t (tw_4 _ (List.mem_of_getElem? (i := 129) (by decide +kernel))) rfl
theorem wd_884 : (Cond.selects RX10 yX10_load yX10_load : Cond) ∈ WALL := wall_t (tw_4 _ (List.mem_of_getElem? (i := 130) (by decide +kernel))) rfl
theorem wd_974 : (Cond.methodLink RL 88 yX10_errorCode : Cond) ∈ WALL := wall_t (tw_4 _ (List.mem_of_getElem? (i := 220) (by decide +kernel))) rfl
theorem wd_975 : (Cond.instanceMethod yX10_errorCode : Cond) ∈ WALL := wall_t (tw_4 _ (List.mem_of_getElem? (i := 221) (by decide +kernel))) rfl
theorem wd_976 : (Cond.selects RX10 yX10_errorCode yX10_errorCode : Cond) ∈ WALL := wall_t (tw_4 _ (List.mem_of_getElem? (i := 222) (by decide +kernel))) rfl
theorem wd_978 : (Cond.methodLink RL 91 yX10_errorPosition : Cond) ∈ WALL := wall_t (tw_4 _ (List.mem_of_getElem? (i := 224) (by decide +kernel))) rfl
theorem wd_979 : (Cond.instanceMethod yX10_errorPosition : Cond) ∈ WALL := wall_t (tw_4 _ (List.mem_of_getElem? (i := 225) (by decide +kernel))) rfl
theorem wd_980 : (Cond.selects RX10 yX10_errorPosition yX10_errorPosition : Cond) ∈ WALL := wall_t (tw_4 _ (List.mem_of_getElem? (i := 226) (by decide +kernel))) rfl
theorem wd_451 : (Cond.methodLink RL 94 yX10_property : Cond) ∈ WALL := wall_t (tw_2 _ (List.mem_of_getElem? (i := 177) (by decide +kernel))) rfl
theorem wd_452 : (Cond.instanceMethod yX10_property : Cond) ∈ WALL := wall_t (tw_2 _ (List.mem_of_getElem? (i := 178) (by decide +kernel))) rfl
theorem wd_453 : (Cond.selects RX10 yX10_property yX10_property : Cond) ∈ WALL := wall_t (tw_2 _ (List.mem_of_getElem? (i := 179) (by decide +kernel))) rfl
theorem wd_982 : (Cond.methodLink RL 98 yX10_item : Cond) ∈ WALL := wall_t (tw_4 _ (List.mem_of_getElem? (i := 228) (by decide +kernel))) rfl
theorem wd_983 : (Cond.instanceMethod yX10_item : Cond) ∈ WALL := wall_t (tw_4 _ (List.mem_of_getElem? (i := 229) (by decide +kernel))) rfl
theorem wd_984 : (Cond.selects RX10 yX10_item yX10_item : Cond) ∈ WALL := wall_t (tw_4 _ (List.mem_of_getElem? (i := 230) (by decide +kernel))) rfl
theorem wd_568 : (Cond.code yL_load cL_load 13 (some .boolean) : Cond) ∈ WALL := wall_t (tw_3 _ (List.mem_of_getElem? (i := 54) (by rfl))) rfl
theorem wd_1018 : (Cond.code yL_sum cL_sum 5 (some .int) : Cond) ∈ WALL := wall_t (tw_5 _ (List.mem_of_getElem? (i := 24) (by rfl))) rfl
theorem wd_1016 : (Cond.methodLink RL 101 yL_sum : Cond) ∈ WALL := wall_t (tw_5 _ (List.mem_of_getElem? (i := 22) (by decide +kernel))) rfl
theorem wd_1017 : (Cond.static yL_sum : Cond) ∈ WALL := wall_t (tw_5 _ (List.mem_of_getElem? (i := 23) (by decide +kernel))) rfl
theorem wd_1019 : (Cond.methodLink RL 105 yJ6_bitCount_0f7a4 : Cond) ∈ WALL := wall_t (tw_5 _ (List.mem_of_getElem? (i := 25) (by decide +kernel))) rfl
theorem wd_1015 : (Cond.code yL_refusal cL_refusal 3 (some .int) : Cond) ∈ WALL := wall_t (tw_5 _ (List.mem_of_getElem? (i := 21) (by rfl))) rfl
theorem wd_1121 : (Cond.code yL_beats cL_beats 4 (some .boolean) : Cond) ∈ WALL := wall_t (tw_5 _ (List.mem_of_getElem? (i := 127) (by rfl))) rfl
theorem wd_1119 : (Cond.methodLink RL 130 yL_beats : Cond) ∈ WALL := wall_t (tw_5 _ (List.mem_of_getElem? (i := 125) (by decide +kernel))) rfl
theorem wd_1120 : (Cond.static yL_beats : Cond) ∈ WALL := wall_t (tw_5 _ (List.mem_of_getElem? (i := 126) (by decide +kernel))) rfl
theorem wd_1146 : (Cond.methodLink RL 155 yX10_layerSize : Cond) ∈ WALL := wall_t (tw_5 _ (List.mem_of_getElem? (i := 152) (by decide +kernel))) rfl
theorem wd_1147 : (Cond.instanceMethod yX10_layerSize : Cond) ∈ WALL := wall_t (tw_5 _ (List.mem_of_getElem? (i := 153) (by decide +kernel))) rfl
theorem wd_1148 : (Cond.selects RX10 yX10_layerSize yX10_layerSize : Cond) ∈ WALL := wall_t (tw_5 _ (List.mem_of_getElem? (i := 154) (by decide +kernel))) rfl
theorem wd_1184 : (Cond.methodLink RL 158 yX10_layers : Cond) ∈ WALL := wall_t (tw_5 _ (List.mem_of_getElem? (i := 190) (by decide +kernel))) rfl
theorem wd_1185 : (Cond.instanceMethod yX10_layers : Cond) ∈ WALL := wall_t (tw_5 _ (List.mem_of_getElem? (i := 191) (by decide +kernel))) rfl
theorem wd_1186 : (Cond.selects RX10 yX10_layers yX10_layers : Cond) ∈ WALL := wall_t (tw_5 _ (List.mem_of_getElem? (i := 192) (by decide +kernel))) rfl
theorem wd_1013 : (Cond.methodLink RL 116 yL_refusal : Cond) ∈ WALL := wall_t (tw_5 _ (List.mem_of_getElem? (i := 19) (by decide +kernel))) rfl
theorem wd_1014 : (Cond.static yL_refusal : Cond) ∈ WALL := wall_t (tw_5 _ (List.mem_of_getElem? (i := 20) (by decide +kernel))) rfl
theorem wd_1188 : (Cond.methodLink RL 160 yX10_layerOf : Cond) ∈ WALL := wall_t (tw_5 _ (List.mem_of_getElem? (i := 194) (by decide +kernel))) rfl
theorem wd_1189 : (Cond.instanceMethod yX10_layerOf : Cond) ∈ WALL := wall_t (tw_5 _ (List.mem_of_getElem? (i := 195) (by decide +kernel))) rfl
theorem wd_1190 : (Cond.selects RX10 yX10_layerOf yX10_layerOf : Cond) ∈ WALL := wall_t (tw_5 _ (List.mem_of_getElem? (i := 196) (by decide +kernel))) rfl
theorem wd_1145 : (Cond.code yL_layers cL_layers 11 (some .boolean) : Cond) ∈ WALL := wall_t (tw_5 _ (List.mem_of_getElem? (i := 151) (by rfl))) rfl
theorem wd_1195 : (Cond.methodLink RL 163 Lib.Math.max.name : Cond) ∈ WALL := wall_t (tw_5 _ (List.mem_of_getElem? (i := 201) (by decide +kernel))) rfl
theorem wd_1115 : (Cond.methodLink RL 127 yX10_points : Cond) ∈ WALL := wall_t (tw_5 _ (List.mem_of_getElem? (i := 121) (by decide +kernel))) rfl
theorem wd_1116 : (Cond.instanceMethod yX10_points : Cond) ∈ WALL := wall_t (tw_5 _ (List.mem_of_getElem? (i := 122) (by decide +kernel))) rfl
theorem wd_1117 : (Cond.selects RX10 yX10_points yX10_points : Cond) ∈ WALL := wall_t (tw_5 _ (List.mem_of_getElem? (i := 123) (by decide +kernel))) rfl
theorem wd_1122 : (Cond.methodLink RL 134 yX10_point : Cond) ∈ WALL := wall_t (tw_5 _ (List.mem_of_getElem? (i := 128) (by decide +kernel))) rfl
theorem wd_1123 : (Cond.instanceMethod yX10_point : Cond) ∈ WALL := wall_t (tw_5 _ (List.mem_of_getElem? (i := 129) (by decide +kernel))) rfl
theorem wd_1124 : (Cond.selects RX10 yX10_point yX10_point : Cond) ∈ WALL := wall_t (tw_5 _ (List.mem_of_getElem? (i := 130) (by decide +kernel))) rfl
theorem wd_1196 : (Cond.methodLink RL 166 yX10_pointOf : Cond) ∈ WALL := wall_t (tw_5 _ (List.mem_of_getElem? (i := 202) (by decide +kernel))) rfl
theorem wd_1197 : (Cond.instanceMethod yX10_pointOf : Cond) ∈ WALL := wall_t (tw_5 _ (List.mem_of_getElem? (i := 203) (by decide +kernel))) rfl
theorem wd_1198 : (Cond.selects RX10 yX10_pointOf yX10_pointOf : Cond) ∈ WALL := wall_t (tw_5 _ (List.mem_of_getElem? (i := 204) (by decide +kernel))) rfl
theorem wd_1201 : (Cond.methodLink RL 169 yX10_beatenBy : Cond) ∈ WALL := wall_t (tw_5 _ (List.mem_of_getElem? (i := 207) (by decide +kernel))) rfl
theorem wd_1202 : (Cond.instanceMethod yX10_beatenBy : Cond) ∈ WALL := wall_t (tw_5 _ (List.mem_of_getElem? (i := 208) (by decide +kernel))) rfl
theorem wd_1203 : (Cond.selects RX10 yX10_beatenBy yX10_beatenBy : Cond) ∈ WALL := wall_t (tw_5 _ (List.mem_of_getElem? (i := 209) (by decide +kernel))) rfl
theorem wd_1209 : (Cond.methodLink RL 172 yX10_beating : Cond) ∈ WALL := wall_t (tw_5 _ (List.mem_of_getElem? (i := 215) (by decide +kernel))) rfl
theorem wd_1210 : (Cond.instanceMethod yX10_beating : Cond) ∈ WALL := wall_t (tw_5 _ (List.mem_of_getElem? (i := 216) (by decide +kernel))) rfl
theorem wd_1211 : (Cond.selects RX10 yX10_beating yX10_beating : Cond) ∈ WALL := wall_t (tw_5 _ (List.mem_of_getElem? (i := 217) (by decide +kernel))) rfl
theorem wd_1213 : (Cond.methodLink RL 175 yX10_joyFor : Cond) ∈ WALL := wall_t (tw_5 _ (List.mem_of_getElem? (i := 219) (by decide +kernel))) rfl
theorem wd_1214 : (Cond.instanceMethod yX10_joyFor : Cond) ∈ WALL := wall_t (tw_5 _ (List.mem_of_getElem? (i := 220) (by decide +kernel))) rfl
theorem wd_1215 : (Cond.selects RX10 yX10_joyFor yX10_joyFor : Cond) ∈ WALL := wall_t (tw_5 _ (List.mem_of_getElem? (i := 221) (by decide +kernel))) rfl
theorem wd_1217 : (Cond.methodLink RL 178 yX10_gainFor : Cond) ∈ WALL := wall_t (tw_5 _ (List.mem_of_getElem? (i := 223) (by decide +kernel))) rfl
theorem wd_1218 : (Cond.instanceMethod yX10_gainFor : Cond) ∈ WALL := wall_t (tw_5 _ (List.mem_of_getElem? (i := 224) (by decide +kernel))) rfl
theorem wd_1219 : (Cond.selects RX10 yX10_gainFor yX10_gainFor : Cond) ∈ WALL := wall_t (tw_5 _ (List.mem_of_getElem? (i := 225) (by decide +kernel))) rfl
theorem wd_1194 : (Cond.code yL_asks cL_asks 15 (some .boolean) : Cond) ∈ WALL := wall_t (tw_5 _ (List.mem_of_getElem? (i := 200) (by rfl))) rfl
theorem wd_1020 : (Cond.methodLink RL 120 yX10_refusal : Cond) ∈ WALL := wall_t (tw_5 _ (List.mem_of_getElem? (i := 26) (by decide +kernel))) rfl
theorem wd_1021 : (Cond.instanceMethod yX10_refusal : Cond) ∈ WALL := wall_t (tw_5 _ (List.mem_of_getElem? (i := 27) (by decide +kernel))) rfl
theorem wd_1022 : (Cond.selects RX10 yX10_refusal yX10_refusal : Cond) ∈ WALL := wall_t (tw_5 _ (List.mem_of_getElem? (i := 28) (by decide +kernel))) rfl
theorem wd_1107 : (Cond.methodLink RL 122 yX10_sum : Cond) ∈ WALL := wall_t (tw_5 _ (List.mem_of_getElem? (i := 113) (by decide +kernel))) rfl
theorem wd_1108 : (Cond.instanceMethod yX10_sum : Cond) ∈ WALL := wall_t (tw_5 _ (List.mem_of_getElem? (i := 114) (by decide +kernel))) rfl
theorem wd_1109 : (Cond.selects RX10 yX10_sum yX10_sum : Cond) ∈ WALL := wall_t (tw_5 _ (List.mem_of_getElem? (i := 115) (by decide +kernel))) rfl
theorem wd_1111 : (Cond.methodLink RL 124 yX10_allowed : Cond) ∈ WALL := wall_t (tw_5 _ (List.mem_of_getElem? (i := 117) (by decide +kernel))) rfl
theorem wd_1112 : (Cond.instanceMethod yX10_allowed : Cond) ∈ WALL := wall_t (tw_5 _ (List.mem_of_getElem? (i := 118) (by decide +kernel))) rfl
theorem wd_1113 : (Cond.selects RX10 yX10_allowed yX10_allowed : Cond) ∈ WALL := wall_t (tw_5 _ (List.mem_of_getElem? (i := 119) (by decide +kernel))) rfl
theorem wd_1131 : (Cond.methodLink RL 137 yX10_lightest : Cond) ∈ WALL := wall_t (tw_5 _ (List.mem_of_getElem? (i := 137) (by decide +kernel))) rfl
theorem wd_1132 : (Cond.instanceMethod yX10_lightest : Cond) ∈ WALL := wall_t (tw_5 _ (List.mem_of_getElem? (i := 138) (by decide +kernel))) rfl
theorem wd_1133 : (Cond.selects RX10 yX10_lightest yX10_lightest : Cond) ∈ WALL := wall_t (tw_5 _ (List.mem_of_getElem? (i := 139) (by decide +kernel))) rfl
theorem wd_1135 : (Cond.methodLink RL 140 yX10_area : Cond) ∈ WALL := wall_t (tw_5 _ (List.mem_of_getElem? (i := 141) (by decide +kernel))) rfl
theorem wd_1136 : (Cond.instanceMethod yX10_area : Cond) ∈ WALL := wall_t (tw_5 _ (List.mem_of_getElem? (i := 142) (by decide +kernel))) rfl
theorem wd_1137 : (Cond.selects RX10 yX10_area yX10_area : Cond) ∈ WALL := wall_t (tw_5 _ (List.mem_of_getElem? (i := 143) (by decide +kernel))) rfl
theorem wd_1139 : (Cond.methodLink RL 143 yX10_share : Cond) ∈ WALL := wall_t (tw_5 _ (List.mem_of_getElem? (i := 145) (by decide +kernel))) rfl
theorem wd_1140 : (Cond.instanceMethod yX10_share : Cond) ∈ WALL := wall_t (tw_5 _ (List.mem_of_getElem? (i := 146) (by decide +kernel))) rfl
theorem wd_1141 : (Cond.selects RX10 yX10_share yX10_share : Cond) ∈ WALL := wall_t (tw_5 _ (List.mem_of_getElem? (i := 147) (by decide +kernel))) rfl
theorem wd_1143 : (Cond.methodLink RL 147 yL_layers : Cond) ∈ WALL := wall_t (tw_5 _ (List.mem_of_getElem? (i := 149) (by decide +kernel))) rfl
theorem wd_1144 : (Cond.static yL_layers : Cond) ∈ WALL := wall_t (tw_5 _ (List.mem_of_getElem? (i := 150) (by decide +kernel))) rfl
theorem wd_1192 : (Cond.methodLink RL 151 yL_asks : Cond) ∈ WALL := wall_t (tw_5 _ (List.mem_of_getElem? (i := 198) (by decide +kernel))) rfl
theorem wd_1193 : (Cond.static yL_asks : Cond) ∈ WALL := wall_t (tw_5 _ (List.mem_of_getElem? (i := 199) (by decide +kernel))) rfl
theorem wd_1012 : (Cond.code yL_points cL_points 18 (some .boolean) : Cond) ∈ WALL := wall_t (tw_5 _ (List.mem_of_getElem? (i := 18) (by rfl))) rfl
theorem iwX0 : ∀ w ∈ u_ws RX0 TX0 9, w ∈ WALL := wall_places [237, 239, 241, 243, 245, 247, 249, 251, 253] (by decide +kernel) (by decide +kernel)
theorem iwX1 : ∀ w ∈ u_ws RX1 TX1 4, w ∈ WALL := wall_places [384, 386, 388, 390] (by decide +kernel) (by decide +kernel)
theorem iwX2 : ∀ w ∈ u_ws RX2 TX2 13, w ∈ WALL := wall_places [299, 301, 303, 305, 307, 309, 311, 313, 315, 317, 319, 321, 323] (by decide +kernel) (by decide +kernel)
theorem iwX3 : ∀ w ∈ u_ws RX3 TX3 8, w ∈ WALL := wall_places [361, 363, 365, 367, 369, 371, 373, 375] (by decide +kernel) (by decide +kernel)
theorem iwX4 : ∀ w ∈ u_ws RX4 TX4 2, w ∈ WALL := wall_places [203, 205] (by decide +kernel) (by decide +kernel)
theorem iwX5 : ∀ w ∈ u_ws RX5 TX5 9, w ∈ WALL := wall_places [159, 161, 163, 165, 167, 169, 171, 173, 175] (by decide +kernel) (by decide +kernel)
theorem iwX6 : ∀ w ∈ u_ws RX6 TX6 2, w ∈ WALL := wall_places [191, 193] (by decide +kernel) (by decide +kernel)
theorem iwX7 : ∀ w ∈ u_ws RX7 TX7 4, w ∈ WALL := wall_places [335, 337, 339, 341] (by decide +kernel) (by decide +kernel)
theorem iwX8 : ∀ w ∈ u_ws RX8 TX8 11, w ∈ WALL := wall_places [122, 124, 126, 128, 130, 132, 134, 136, 138, 140, 142] (by decide +kernel) (by decide +kernel)
theorem iwX9 : ∀ w ∈ u_ws RX9 TX9 2, w ∈ WALL := wall_places [266, 268] (by decide +kernel) (by decide +kernel)
theorem iwX10 : ∀ w ∈ u_ws RX10 TX10 19, w ∈ WALL := wall_places [412, 414, 416, 418, 420, 422, 424, 426, 428, 430, 432, 434, 436, 438, 440, 442, 444, 446, 448] (by decide +kernel) (by decide +kernel)
theorem iwJ0 : ∀ w ∈ u_ws RJ0 TJ0 4, w ∈ WALL := wall_places [812, 814, 816, 818] (by decide +kernel) (by decide +kernel)
theorem iwJ4 : ∀ w ∈ u_ws RJ4 TJ4 4, w ∈ WALL := wall_places [717, 719, 721, 723] (by decide +kernel) (by decide +kernel)
