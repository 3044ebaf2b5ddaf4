/-! the words: each by its place in the tables -/
theorem wd_296 : (Cond.code yX0_init cX0_init 1 none : Cond) ∈ WALL := wall_t (tw_1 _ (List.mem_of_getElem? (i := 184) (by rfl))) rfl
theorem wd_297 : (Cond.methodLink RX0 3 objectInit : Cond) ∈ WALL := wall_t (tw_1 _ (List.mem_of_getElem? (i := 185) (by decide +kernel))) rfl
theorem wd_146 : (Cond.instanceMethod objectInit : Cond) ∈ WALL := wall_t (tw_1 _ (List.mem_of_getElem? (i := 34) (by decide +kernel))) rfl
theorem wd_147 : (Cond.code objectInit ⟨#[0xb1]⟩ 1 none : Cond) ∈ WALL := wall_t (tw_1 _ (List.mem_of_getElem? (i := 35) (by rfl))) rfl
theorem wd_225 : (Cond.arrayClass .int : Cond) ∈ WALL := wall_t (tw_1 _ (List.mem_of_getElem? (i := 113) (by decide +kernel))) rfl
theorem wd_298 : (Cond.fieldLink RX0 9 "ParetoDesk$Choices" "weight" "[I" : Cond) ∈ WALL := wall_t (tw_1 _ (List.mem_of_getElem? (i := 186) (by decide +kernel))) rfl
theorem wd_301 : (Cond.fieldLink RX0 15 "ParetoDesk$Choices" "gain" "[I" : Cond) ∈ WALL := wall_t (tw_1 _ (List.mem_of_getElem? (i := 189) (by decide +kernel))) rfl
theorem wd_307 : (Cond.fieldLink RX0 18 "ParetoDesk$Choices" "joy" "[I" : Cond) ∈ WALL := wall_t (tw_1 _ (List.mem_of_getElem? (i := 195) (by decide +kernel))) rfl
theorem wd_313 : (Cond.fieldLink RX0 21 "ParetoDesk$Choices" "barred" "[I" : Cond) ∈ WALL := wall_t (tw_1 _ (List.mem_of_getElem? (i := 201) (by decide +kernel))) rfl
theorem wd_314 : (Cond.fieldLink RX0 24 "ParetoDesk$Choices" "needed" "[I" : Cond) ∈ WALL := wall_t (tw_1 _ (List.mem_of_getElem? (i := 202) (by decide +kernel))) rfl
theorem wd_729 : (Cond.code yX0_build cX0_build 5 none : Cond) ∈ WALL := wall_t (tw_3 _ (List.mem_of_getElem? (i := 137) (by rfl))) rfl
theorem wd_170 : (Cond.fieldLink RX0 27 "ParetoDesk$Setup" "limit" "I" : Cond) ∈ WALL := wall_t (tw_1 _ (List.mem_of_getElem? (i := 58) (by decide +kernel))) rfl
theorem wd_319 : (Cond.fieldLink RX0 33 "ParetoDesk$Choices" "limit" "I" : Cond) ∈ WALL := wall_t (tw_1 _ (List.mem_of_getElem? (i := 207) (by decide +kernel))) rfl
theorem wd_173 : (Cond.fieldLink RX0 34 "ParetoDesk$Setup" "mustSet" "I" : Cond) ∈ WALL := wall_t (tw_1 _ (List.mem_of_getElem? (i := 61) (by decide +kernel))) rfl
theorem wd_320 : (Cond.fieldLink RX0 37 "ParetoDesk$Choices" "mustSet" "I" : Cond) ∈ WALL := wall_t (tw_1 _ (List.mem_of_getElem? (i := 208) (by decide +kernel))) rfl
theorem wd_177 : (Cond.fieldLink RX0 38 "ParetoDesk$Setup" "neverSet" "I" : Cond) ∈ WALL := wall_t (tw_1 _ (List.mem_of_getElem? (i := 65) (by decide +kernel))) rfl
theorem wd_321 : (Cond.fieldLink RX0 41 "ParetoDesk$Choices" "neverSet" "I" : Cond) ∈ WALL := wall_t (tw_1 _ (List.mem_of_getElem? (i := 209) (by decide +kernel))) rfl
theorem wd_316 : (Cond.fieldLink RX0 42 "ParetoDesk$Choices" "sets" "I" : Cond) ∈ WALL := wall_t (tw_1 _ (List.mem_of_getElem? (i := 204) (by decide +kernel))) rfl
theorem wd_161 : (Cond.fieldLink RX0 45 "ParetoDesk$Setup" "items" "I" : Cond) ∈ WALL := wall_t (tw_1 _ (List.mem_of_getElem? (i := 49) (by decide +kernel))) rfl
theorem wd_185 : (Cond.fieldLink RX0 48 "ParetoDesk$Setup" "weight" "[I" : Cond) ∈ WALL := wall_t (tw_1 _ (List.mem_of_getElem? (i := 73) (by decide +kernel))) rfl
theorem wd_188 : (Cond.fieldLink RX0 49 "ParetoDesk$Setup" "gain" "[I" : Cond) ∈ WALL := wall_t (tw_1 _ (List.mem_of_getElem? (i := 76) (by decide +kernel))) rfl
theorem wd_191 : (Cond.fieldLink RX0 50 "ParetoDesk$Setup" "joy" "[I" : Cond) ∈ WALL := wall_t (tw_1 _ (List.mem_of_getElem? (i := 79) (by decide +kernel))) rfl
theorem wd_194 : (Cond.fieldLink RX0 51 "ParetoDesk$Setup" "bars" "[I" : Cond) ∈ WALL := wall_t (tw_1 _ (List.mem_of_getElem? (i := 82) (by decide +kernel))) rfl
theorem wd_198 : (Cond.fieldLink RX0 54 "ParetoDesk$Setup" "needs" "[I" : Cond) ∈ WALL := wall_t (tw_1 _ (List.mem_of_getElem? (i := 86) (by decide +kernel))) rfl
theorem wd_747 : (Cond.code yJ6_bitCount_0f7a4 cJ6_bitCount_0f7a4 1 (some .int) : Cond) ∈ WALL := wall_t (tw_3 _ (List.mem_of_getElem? (i := 155) (by rfl))) rfl
theorem wd_748 : (Cond.constant RJ6 265 (1431655765) : Cond) ∈ WALL := wall_t (tw_3 _ (List.mem_of_getElem? (i := 156) (by decide +kernel))) rfl
theorem wd_749 : (Cond.constant RJ6 266 (858993459) : Cond) ∈ WALL := wall_t (tw_3 _ (List.mem_of_getElem? (i := 157) (by decide +kernel))) rfl
theorem wd_750 : (Cond.constant RJ6 267 (252645135) : Cond) ∈ WALL := wall_t (tw_3 _ (List.mem_of_getElem? (i := 158) (by decide +kernel))) rfl
theorem wd_744 : (Cond.code yX0_reasonBesideWeight cX0_reasonBesideWeight 2 (some .int) : Cond) ∈ WALL := wall_t (tw_3 _ (List.mem_of_getElem? (i := 152) (by rfl))) rfl
theorem wd_745 : (Cond.methodLink RX0 61 yJ6_bitCount_0f7a4 : Cond) ∈ WALL := wall_t (tw_3 _ (List.mem_of_getElem? (i := 153) (by decide +kernel))) rfl
theorem wd_746 : (Cond.static yJ6_bitCount_0f7a4 : Cond) ∈ WALL := wall_t (tw_3 _ (List.mem_of_getElem? (i := 154) (by decide +kernel))) rfl
theorem wd_136 : (Cond.initialized RJ6 : Cond) ∈ WALL := wall_t (tw_1 _ (List.mem_of_getElem? (i := 24) (by decide +kernel))) rfl
theorem wd_740 : (Cond.code yX0_reason cX0_reason 3 (some .int) : Cond) ∈ WALL := wall_t (tw_3 _ (List.mem_of_getElem? (i := 148) (by rfl))) rfl
theorem wd_741 : (Cond.methodLink RX0 57 yX0_reasonBesideWeight : Cond) ∈ WALL := wall_t (tw_3 _ (List.mem_of_getElem? (i := 149) (by decide +kernel))) rfl
theorem wd_743 : (Cond.instanceMethod yX0_reasonBesideWeight : Cond) ∈ WALL := wall_t (tw_3 _ (List.mem_of_getElem? (i := 151) (by decide +kernel))) rfl
theorem wd_15 : (Cond.selects RX0 yX0_reasonBesideWeight yX0_reasonBesideWeight : Cond) ∈ WALL := wall_at (i := 15) (by decide +kernel) rfl
theorem wd_118 : (Cond.initialized RX0 : Cond) ∈ WALL := wall_t (tw_1 _ (List.mem_of_getElem? (i := 6) (by decide +kernel))) rfl
theorem wd_899 : (Cond.code yX0_leastWeight cX0_leastWeight 5 (some .int) : Cond) ∈ WALL := wall_t (tw_4 _ (List.mem_of_getElem? (i := 67) (by rfl))) rfl
theorem wd_476 : (Cond.code yX1_init cX1_init 1 none : Cond) ∈ WALL := wall_t (tw_2 _ (List.mem_of_getElem? (i := 124) (by rfl))) rfl
theorem wd_477 : (Cond.methodLink RX1 3 objectInit : Cond) ∈ WALL := wall_t (tw_2 _ (List.mem_of_getElem? (i := 125) (by decide +kernel))) rfl
theorem wd_1325 : (Cond.code yX1_value cX1_value 4 (some .int) : Cond) ∈ WALL := wall_t (tw_6 _ (List.mem_of_getElem? (i := 13) (by rfl))) rfl
theorem wd_305 : (Cond.fieldLink RX1 57 "ParetoDesk$Choices" "gain" "[I" : Cond) ∈ WALL := wall_t (tw_1 _ (List.mem_of_getElem? (i := 193) (by decide +kernel))) rfl
theorem wd_311 : (Cond.fieldLink RX1 61 "ParetoDesk$Choices" "joy" "[I" : Cond) ∈ WALL := wall_t (tw_1 _ (List.mem_of_getElem? (i := 199) (by decide +kernel))) rfl
theorem wd_483 : (Cond.fieldLink RX1 27 "ParetoDesk$Climber" "bestValue" "I" : Cond) ∈ WALL := wall_t (tw_2 _ (List.mem_of_getElem? (i := 131) (by decide +kernel))) rfl
theorem wd_482 : (Cond.fieldLink RX1 34 "ParetoDesk$Climber" "bestSet" "I" : Cond) ∈ WALL := wall_t (tw_2 _ (List.mem_of_getElem? (i := 130) (by decide +kernel))) rfl
theorem wd_1322 : (Cond.methodLink RX1 51 yX0_reason : Cond) ∈ WALL := wall_t (tw_6 _ (List.mem_of_getElem? (i := 10) (by decide +kernel))) rfl
theorem wd_738 : (Cond.instanceMethod yX0_reason : Cond) ∈ WALL := wall_t (tw_3 _ (List.mem_of_getElem? (i := 146) (by decide +kernel))) rfl
theorem wd_739 : (Cond.selects RX0 yX0_reason yX0_reason : Cond) ∈ WALL := wall_t (tw_3 _ (List.mem_of_getElem? (i := 147) (by decide +kernel))) rfl
theorem wd_1323 : (Cond.methodLink RX1 30 yX1_value : Cond) ∈ WALL := wall_t (tw_6 _ (List.mem_of_getElem? (i := 11) (by decide +kernel))) rfl
theorem wd_1324 : (Cond.static yX1_value : Cond) ∈ WALL := wall_t (tw_6 _ (List.mem_of_getElem? (i := 12) (by decide +kernel))) rfl
theorem wd_123 : (Cond.initialized RX1 : Cond) ∈ WALL := wall_t (tw_1 _ (List.mem_of_getElem? (i := 11) (by decide +kernel))) rfl
theorem wd_1321 : (Cond.code yX1_lookAt cX1_lookAt 7 none : Cond) ∈ WALL := wall_t (tw_6 _ (List.mem_of_getElem? (i := 9) (by rfl))) rfl
theorem wd_682 : (Cond.code yX10_hasBit cX10_hasBit 2 (some .boolean) : Cond) ∈ WALL := wall_t (tw_3 _ (List.mem_of_getElem? (i := 90) (by rfl))) rfl
theorem wd_162 : (Cond.fieldLink RX1 37 "ParetoDesk$Setup" "items" "I" : Cond) ∈ WALL := wall_t (tw_1 _ (List.mem_of_getElem? (i := 50) (by decide +kernel))) rfl
theorem wd_478 : (Cond.fieldLink RX1 15 "ParetoDesk$Climber" "at" "I" : Cond) ∈ WALL := wall_t (tw_2 _ (List.mem_of_getElem? (i := 126) (by decide +kernel))) rfl
theorem wd_166 : (Cond.fieldLink RX1 40 "ParetoDesk$Setup" "capacity" "I" : Cond) ∈ WALL := wall_t (tw_1 _ (List.mem_of_getElem? (i := 54) (by decide +kernel))) rfl
theorem wd_1318 : (Cond.methodLink RX1 43 yX1_lookAt : Cond) ∈ WALL := wall_t (tw_6 _ (List.mem_of_getElem? (i := 6) (by decide +kernel))) rfl
theorem wd_1320 : (Cond.instanceMethod yX1_lookAt : Cond) ∈ WALL := wall_t (tw_6 _ (List.mem_of_getElem? (i := 8) (by decide +kernel))) rfl
theorem wd_37 : (Cond.selects RX1 yX1_lookAt yX1_lookAt : Cond) ∈ WALL := wall_at (i := 37) (by decide +kernel) rfl
theorem wd_681 : (Cond.static yX10_hasBit : Cond) ∈ WALL := wall_t (tw_3 _ (List.mem_of_getElem? (i := 89) (by decide +kernel))) rfl
theorem wd_113 : (Cond.initialized RX10 : Cond) ∈ WALL := wall_t (tw_1 _ (List.mem_of_getElem? (i := 1) (by decide +kernel))) rfl
theorem wd_1317 : (Cond.code yX1_lookAround cX1_lookAround 8 none : Cond) ∈ WALL := wall_t (tw_6 _ (List.mem_of_getElem? (i := 5) (by rfl))) rfl
theorem wd_181 : (Cond.fieldLink RX1 9 "ParetoDesk$Setup" "hand" "I" : Cond) ∈ WALL := wall_t (tw_1 _ (List.mem_of_getElem? (i := 69) (by decide +kernel))) rfl
theorem wd_480 : (Cond.fieldLink RX1 20 "ParetoDesk$Climber" "steps" "I" : Cond) ∈ WALL := wall_t (tw_2 _ (List.mem_of_getElem? (i := 128) (by decide +kernel))) rfl
theorem wd_1314 : (Cond.methodLink RX1 23 yX1_lookAround : Cond) ∈ WALL := wall_t (tw_6 _ (List.mem_of_getElem? (i := 2) (by decide +kernel))) rfl
theorem wd_1316 : (Cond.instanceMethod yX1_lookAround : Cond) ∈ WALL := wall_t (tw_6 _ (List.mem_of_getElem? (i := 4) (by decide +kernel))) rfl
theorem wd_36 : (Cond.selects RX1 yX1_lookAround yX1_lookAround : Cond) ∈ WALL := wall_at (i := 36) (by decide +kernel) rfl
theorem wd_1313 : (Cond.code yX1_run cX1_run 6 none : Cond) ∈ WALL := wall_t (tw_6 _ (List.mem_of_getElem? (i := 1) (by rfl))) rfl
theorem wd_361 : (Cond.code yX2_init cX2_init 1 none : Cond) ∈ WALL := wall_t (tw_2 _ (List.mem_of_getElem? (i := 9) (by rfl))) rfl
theorem wd_362 : (Cond.methodLink RX2 3 objectInit : Cond) ∈ WALL := wall_t (tw_2 _ (List.mem_of_getElem? (i := 10) (by decide +kernel))) rfl
theorem wd_363 : (Cond.fieldLink RX2 9 "ParetoDesk$Frontier" "gain" "[I" : Cond) ∈ WALL := wall_t (tw_2 _ (List.mem_of_getElem? (i := 11) (by decide +kernel))) rfl
theorem wd_365 : (Cond.fieldLink RX2 15 "ParetoDesk$Frontier" "joy" "[I" : Cond) ∈ WALL := wall_t (tw_2 _ (List.mem_of_getElem? (i := 13) (by decide +kernel))) rfl
theorem wd_367 : (Cond.fieldLink RX2 18 "ParetoDesk$Frontier" "choice" "[I" : Cond) ∈ WALL := wall_t (tw_2 _ (List.mem_of_getElem? (i := 15) (by decide +kernel))) rfl
theorem wd_369 : (Cond.fieldLink RX2 21 "ParetoDesk$Frontier" "times" "[I" : Cond) ∈ WALL := wall_t (tw_2 _ (List.mem_of_getElem? (i := 17) (by decide +kernel))) rfl
theorem wd_371 : (Cond.fieldLink RX2 24 "ParetoDesk$Frontier" "light" "[I" : Cond) ∈ WALL := wall_t (tw_2 _ (List.mem_of_getElem? (i := 19) (by decide +kernel))) rfl
theorem wd_373 : (Cond.fieldLink RX2 27 "ParetoDesk$Frontier" "mark" "[I" : Cond) ∈ WALL := wall_t (tw_2 _ (List.mem_of_getElem? (i := 21) (by decide +kernel))) rfl
theorem wd_375 : (Cond.fieldLink RX2 30 "ParetoDesk$Frontier" "vertexPoint" "[I" : Cond) ∈ WALL := wall_t (tw_2 _ (List.mem_of_getElem? (i := 23) (by decide +kernel))) rfl
theorem wd_377 : (Cond.fieldLink RX2 33 "ParetoDesk$Frontier" "pointAt" "[I" : Cond) ∈ WALL := wall_t (tw_2 _ (List.mem_of_getElem? (i := 25) (by decide +kernel))) rfl
theorem wd_291 : (Cond.arrayClass .boolean : Cond) ∈ WALL := wall_t (tw_1 _ (List.mem_of_getElem? (i := 179) (by decide +kernel))) rfl
theorem wd_378 : (Cond.fieldLink RX2 36 "ParetoDesk$Frontier" "reached" "[Z" : Cond) ∈ WALL := wall_t (tw_2 _ (List.mem_of_getElem? (i := 26) (by decide +kernel))) rfl
theorem wd_766 : (Cond.code yX9_areaBelow cX9_areaBelow 4 (some .int) : Cond) ∈ WALL := wall_t (tw_3 _ (List.mem_of_getElem? (i := 174) (by rfl))) rfl
theorem wd_347 : (Cond.fieldLink RX9 9 "ParetoDesk$Stairs" "joyAt" "[I" : Cond) ∈ WALL := wall_t (tw_1 _ (List.mem_of_getElem? (i := 235) (by decide +kernel))) rfl
theorem wd_770 : (Cond.code yX2_readPoints cX2_readPoints 3 none : Cond) ∈ WALL := wall_t (tw_3 _ (List.mem_of_getElem? (i := 178) (by rfl))) rfl
theorem wd_380 : (Cond.fieldLink RX2 67 "ParetoDesk$Frontier" "size" "I" : Cond) ∈ WALL := wall_t (tw_2 _ (List.mem_of_getElem? (i := 28) (by decide +kernel))) rfl
theorem wd_348 : (Cond.fieldLink RX2 70 "ParetoDesk$Stairs" "joyAt" "[I" : Cond) ∈ WALL := wall_t (tw_1 _ (List.mem_of_getElem? (i := 236) (by decide +kernel))) rfl
theorem wd_778 : (Cond.code yX2_pointWithPair cX2_pointWithPair 4 (some .int) : Cond) ∈ WALL := wall_t (tw_3 _ (List.mem_of_getElem? (i := 186) (by rfl))) rfl
theorem wd_318 : (Cond.fieldLink RX2 73 "ParetoDesk$Choices" "sets" "I" : Cond) ∈ WALL := wall_t (tw_1 _ (List.mem_of_getElem? (i := 206) (by decide +kernel))) rfl
theorem wd_303 : (Cond.fieldLink RX2 78 "ParetoDesk$Choices" "gain" "[I" : Cond) ∈ WALL := wall_t (tw_1 _ (List.mem_of_getElem? (i := 191) (by decide +kernel))) rfl
theorem wd_310 : (Cond.fieldLink RX2 79 "ParetoDesk$Choices" "joy" "[I" : Cond) ∈ WALL := wall_t (tw_1 _ (List.mem_of_getElem? (i := 198) (by decide +kernel))) rfl
theorem wd_299 : (Cond.fieldLink RX2 87 "ParetoDesk$Choices" "weight" "[I" : Cond) ∈ WALL := wall_t (tw_1 _ (List.mem_of_getElem? (i := 187) (by decide +kernel))) rfl
theorem wd_775 : (Cond.methodLink RX2 80 yX2_pointWithPair : Cond) ∈ WALL := wall_t (tw_3 _ (List.mem_of_getElem? (i := 183) (by decide +kernel))) rfl
theorem wd_776 : (Cond.instanceMethod yX2_pointWithPair : Cond) ∈ WALL := wall_t (tw_3 _ (List.mem_of_getElem? (i := 184) (by decide +kernel))) rfl
theorem wd_777 : (Cond.selects RX2 yX2_pointWithPair yX2_pointWithPair : Cond) ∈ WALL := wall_t (tw_3 _ (List.mem_of_getElem? (i := 185) (by decide +kernel))) rfl
theorem wd_120 : (Cond.initialized RX2 : Cond) ∈ WALL := wall_t (tw_1 _ (List.mem_of_getElem? (i := 8) (by decide +kernel))) rfl
theorem wd_779 : (Cond.methodLink RX2 84 yX0_reason : Cond) ∈ WALL := wall_t (tw_3 _ (List.mem_of_getElem? (i := 187) (by decide +kernel))) rfl
theorem wd_774 : (Cond.code yX2_readChoices cX2_readChoices 5 none : Cond) ∈ WALL := wall_t (tw_3 _ (List.mem_of_getElem? (i := 182) (by rfl))) rfl
theorem wd_791 : (Cond.code yX2_gainWon cX2_gainWon 3 (some .int) : Cond) ∈ WALL := wall_t (tw_3 _ (List.mem_of_getElem? (i := 199) (by rfl))) rfl
theorem wd_795 : (Cond.code yX2_joyLost cX2_joyLost 3 (some .int) : Cond) ∈ WALL := wall_t (tw_3 _ (List.mem_of_getElem? (i := 203) (by rfl))) rfl
theorem wd_787 : (Cond.code yX2_heightOver cX2_heightOver 4 (some .int) : Cond) ∈ WALL := wall_t (tw_3 _ (List.mem_of_getElem? (i := 195) (by rfl))) rfl
theorem wd_788 : (Cond.methodLink RX2 97 yX2_gainWon : Cond) ∈ WALL := wall_t (tw_3 _ (List.mem_of_getElem? (i := 196) (by decide +kernel))) rfl
theorem wd_789 : (Cond.instanceMethod yX2_gainWon : Cond) ∈ WALL := wall_t (tw_3 _ (List.mem_of_getElem? (i := 197) (by decide +kernel))) rfl
theorem wd_790 : (Cond.selects RX2 yX2_gainWon yX2_gainWon : Cond) ∈ WALL := wall_t (tw_3 _ (List.mem_of_getElem? (i := 198) (by decide +kernel))) rfl
theorem wd_792 : (Cond.methodLink RX2 100 yX2_joyLost : Cond) ∈ WALL := wall_t (tw_3 _ (List.mem_of_getElem? (i := 200) (by decide +kernel))) rfl
theorem wd_793 : (Cond.instanceMethod yX2_joyLost : Cond) ∈ WALL := wall_t (tw_3 _ (List.mem_of_getElem? (i := 201) (by decide +kernel))) rfl
theorem wd_794 : (Cond.selects RX2 yX2_joyLost yX2_joyLost : Cond) ∈ WALL := wall_t (tw_3 _ (List.mem_of_getElem? (i := 202) (by decide +kernel))) rfl
theorem wd_783 : (Cond.code yX2_findVertices cX2_findVertices 2 none : Cond) ∈ WALL := wall_t (tw_3 _ (List.mem_of_getElem? (i := 191) (by rfl))) rfl
theorem wd_382 : (Cond.fieldLink RX2 90 "ParetoDesk$Frontier" "vertexCount" "I" : Cond) ∈ WALL := wall_t (tw_2 _ (List.mem_of_getElem? (i := 30) (by decide +kernel))) rfl
theorem wd_784 : (Cond.methodLink RX2 93 yX2_heightOver : Cond) ∈ WALL := wall_t (tw_3 _ (List.mem_of_getElem? (i := 192) (by decide +kernel))) rfl
theorem wd_786 : (Cond.instanceMethod yX2_heightOver : Cond) ∈ WALL := wall_t (tw_3 _ (List.mem_of_getElem? (i := 194) (by decide +kernel))) rfl
theorem wd_21 : (Cond.selects RX2 yX2_heightOver yX2_heightOver : Cond) ∈ WALL := wall_at (i := 21) (by decide +kernel) rfl
theorem wd_799 : (Cond.code yX2_markSupported cX2_markSupported 5 none : Cond) ∈ WALL := wall_t (tw_3 _ (List.mem_of_getElem? (i := 207) (by rfl))) rfl
theorem wd_349 : (Cond.fieldLink RX2 40 "ParetoDesk$Stairs" "allowedCount" "I" : Cond) ∈ WALL := wall_t (tw_1 _ (List.mem_of_getElem? (i := 237) (by decide +kernel))) rfl
theorem wd_384 : (Cond.fieldLink RX2 46 "ParetoDesk$Frontier" "allowedCount" "I" : Cond) ∈ WALL := wall_t (tw_2 _ (List.mem_of_getElem? (i := 32) (by decide +kernel))) rfl
theorem wd_386 : (Cond.fieldLink RX2 51 "ParetoDesk$Frontier" "areaBelow" "I" : Cond) ∈ WALL := wall_t (tw_2 _ (List.mem_of_getElem? (i := 34) (by decide +kernel))) rfl
theorem wd_763 : (Cond.methodLink RX2 47 yX9_areaBelow : Cond) ∈ WALL := wall_t (tw_3 _ (List.mem_of_getElem? (i := 171) (by decide +kernel))) rfl
theorem wd_764 : (Cond.instanceMethod yX9_areaBelow : Cond) ∈ WALL := wall_t (tw_3 _ (List.mem_of_getElem? (i := 172) (by decide +kernel))) rfl
theorem wd_765 : (Cond.selects RX9 yX9_areaBelow yX9_areaBelow : Cond) ∈ WALL := wall_t (tw_3 _ (List.mem_of_getElem? (i := 173) (by decide +kernel))) rfl
theorem wd_119 : (Cond.initialized RX9 : Cond) ∈ WALL := wall_t (tw_1 _ (List.mem_of_getElem? (i := 7) (by decide +kernel))) rfl
theorem wd_767 : (Cond.methodLink RX2 53 yX2_readPoints : Cond) ∈ WALL := wall_t (tw_3 _ (List.mem_of_getElem? (i := 175) (by decide +kernel))) rfl
theorem wd_769 : (Cond.instanceMethod yX2_readPoints : Cond) ∈ WALL := wall_t (tw_3 _ (List.mem_of_getElem? (i := 177) (by decide +kernel))) rfl
theorem wd_18 : (Cond.selects RX2 yX2_readPoints yX2_readPoints : Cond) ∈ WALL := wall_at (i := 18) (by decide +kernel) rfl
theorem wd_771 : (Cond.methodLink RX2 57 yX2_readChoices : Cond) ∈ WALL := wall_t (tw_3 _ (List.mem_of_getElem? (i := 179) (by decide +kernel))) rfl
theorem wd_773 : (Cond.instanceMethod yX2_readChoices : Cond) ∈ WALL := wall_t (tw_3 _ (List.mem_of_getElem? (i := 181) (by decide +kernel))) rfl
theorem wd_19 : (Cond.selects RX2 yX2_readChoices yX2_readChoices : Cond) ∈ WALL := wall_at (i := 19) (by decide +kernel) rfl
theorem wd_780 : (Cond.methodLink RX2 61 yX2_findVertices : Cond) ∈ WALL := wall_t (tw_3 _ (List.mem_of_getElem? (i := 188) (by decide +kernel))) rfl
theorem wd_782 : (Cond.instanceMethod yX2_findVertices : Cond) ∈ WALL := wall_t (tw_3 _ (List.mem_of_getElem? (i := 190) (by decide +kernel))) rfl
theorem wd_20 : (Cond.selects RX2 yX2_findVertices yX2_findVertices : Cond) ∈ WALL := wall_at (i := 20) (by decide +kernel) rfl
theorem wd_796 : (Cond.methodLink RX2 64 yX2_markSupported : Cond) ∈ WALL := wall_t (tw_3 _ (List.mem_of_getElem? (i := 204) (by decide +kernel))) rfl
theorem wd_798 : (Cond.instanceMethod yX2_markSupported : Cond) ∈ WALL := wall_t (tw_3 _ (List.mem_of_getElem? (i := 206) (by decide +kernel))) rfl
theorem wd_22 : (Cond.selects RX2 yX2_markSupported yX2_markSupported : Cond) ∈ WALL := wall_at (i := 22) (by decide +kernel) rfl
theorem wd_762 : (Cond.code yX2_build cX2_build 4 none : Cond) ∈ WALL := wall_t (tw_3 _ (List.mem_of_getElem? (i := 170) (by rfl))) rfl
theorem wd_831 : (Cond.code yX2_supportedBetween cX2_supportedBetween 5 (some .int) : Cond) ∈ WALL := wall_t (tw_3 _ (List.mem_of_getElem? (i := 239) (by rfl))) rfl
theorem wd_811 : (Cond.code yX2_beats cX2_beats 4 (some .boolean) : Cond) ∈ WALL := wall_t (tw_3 _ (List.mem_of_getElem? (i := 219) (by rfl))) rfl
theorem wd_860 : (Cond.code yX2_valueOf cX2_valueOf 4 (some .int) : Cond) ∈ WALL := wall_t (tw_4 _ (List.mem_of_getElem? (i := 28) (by rfl))) rfl
theorem wd_856 : (Cond.code yX2_greatestBy cX2_greatestBy 7 (some .int) : Cond) ∈ WALL := wall_t (tw_4 _ (List.mem_of_getElem? (i := 24) (by rfl))) rfl
theorem wd_857 : (Cond.methodLink RX2 103 yX2_valueOf : Cond) ∈ WALL := wall_t (tw_4 _ (List.mem_of_getElem? (i := 25) (by decide +kernel))) rfl
theorem wd_858 : (Cond.instanceMethod yX2_valueOf : Cond) ∈ WALL := wall_t (tw_4 _ (List.mem_of_getElem? (i := 26) (by decide +kernel))) rfl
theorem wd_859 : (Cond.selects RX2 yX2_valueOf yX2_valueOf : Cond) ∈ WALL := wall_t (tw_4 _ (List.mem_of_getElem? (i := 27) (by decide +kernel))) rfl
theorem wd_1195 : (Cond.code yX2_leastLack cX2_leastLack 7 (some .int) : Cond) ∈ WALL := wall_t (tw_5 _ (List.mem_of_getElem? (i := 123) (by rfl))) rfl
theorem wd_1196 : (Cond.methodLink RX2 106 Lib.Math.max.name : Cond) ∈ WALL := wall_t (tw_5 _ (List.mem_of_getElem? (i := 124) (by decide +kernel))) rfl
theorem wd_1197 : (Cond.static Lib.Math.max.name : Cond) ∈ WALL := wall_t (tw_5 _ (List.mem_of_getElem? (i := 125) (by decide +kernel))) rfl
theorem wd_131 : (Cond.initialized "java/lang/Math" : Cond) ∈ WALL := wall_t (tw_1 _ (List.mem_of_getElem? (i := 19) (by decide +kernel))) rfl
theorem wd_1198_0 : (Cond.code Lib.Math.max.name Lib.Math.max.code 2 (some .int) : Cond) ∈ WALL := wall_t (tw_5 _ (List.mem_of_getElem? (i := 126) (by rfl))) rfl
theorem wd_1249 : (Cond.code yX2_countReached cX2_countReached 7 (some .int) : Cond) ∈ WALL := wall_t (tw_5 _ (List.mem_of_getElem? (i := 177) (by rfl))) rfl
theorem wd_442 : (Cond.code yX3_init cX3_init 1 none : Cond) ∈ WALL := wall_t (tw_2 _ (List.mem_of_getElem? (i := 90) (by rfl))) rfl
theorem wd_443 : (Cond.methodLink RX3 3 objectInit : Cond) ∈ WALL := wall_t (tw_2 _ (List.mem_of_getElem? (i := 91) (by decide +kernel))) rfl
theorem wd_444 : (Cond.fieldLink RX3 9 "ParetoDesk$Layers" "layer" "[I" : Cond) ∈ WALL := wall_t (tw_2 _ (List.mem_of_getElem? (i := 92) (by decide +kernel))) rfl
theorem wd_446 : (Cond.fieldLink RX3 15 "ParetoDesk$Layers" "size" "[I" : Cond) ∈ WALL := wall_t (tw_2 _ (List.mem_of_getElem? (i := 94) (by decide +kernel))) rfl
theorem wd_450 : (Cond.fieldLink RX3 18 "ParetoDesk$Layers" "topJoy" "[I" : Cond) ∈ WALL := wall_t (tw_2 _ (List.mem_of_getElem? (i := 98) (by decide +kernel))) rfl
theorem wd_451 : (Cond.fieldLink RX3 21 "ParetoDesk$Layers" "firstOfJoy" "[I" : Cond) ∈ WALL := wall_t (tw_2 _ (List.mem_of_getElem? (i := 99) (by decide +kernel))) rfl
theorem wd_452 : (Cond.fieldLink RX3 24 "ParetoDesk$Layers" "nextOfJoy" "[I" : Cond) ∈ WALL := wall_t (tw_2 _ (List.mem_of_getElem? (i := 100) (by decide +kernel))) rfl
theorem wd_453 : (Cond.fieldLink RX3 27 "ParetoDesk$Layers" "firstOfGain" "[I" : Cond) ∈ WALL := wall_t (tw_2 _ (List.mem_of_getElem? (i := 101) (by decide +kernel))) rfl
theorem wd_454 : (Cond.fieldLink RX3 30 "ParetoDesk$Layers" "nextOfGain" "[I" : Cond) ∈ WALL := wall_t (tw_2 _ (List.mem_of_getElem? (i := 102) (by decide +kernel))) rfl
theorem wd_736 : (Cond.code yJ7_fill_53178 cJ7_fill_53178 4 none : Cond) ∈ WALL := wall_t (tw_3 _ (List.mem_of_getElem? (i := 144) (by rfl))) rfl
theorem wd_920 : (Cond.code yX3_putAhead cX3_putAhead 4 none : Cond) ∈ WALL := wall_t (tw_4 _ (List.mem_of_getElem? (i := 88) (by rfl))) rfl
theorem wd_317 : (Cond.fieldLink RX3 54 "ParetoDesk$Choices" "sets" "I" : Cond) ∈ WALL := wall_t (tw_1 _ (List.mem_of_getElem? (i := 205) (by decide +kernel))) rfl
theorem wd_309 : (Cond.fieldLink RX3 63 "ParetoDesk$Choices" "joy" "[I" : Cond) ∈ WALL := wall_t (tw_1 _ (List.mem_of_getElem? (i := 197) (by decide +kernel))) rfl
theorem wd_916 : (Cond.methodLink RX3 48 yJ7_fill_53178 : Cond) ∈ WALL := wall_t (tw_4 _ (List.mem_of_getElem? (i := 84) (by decide +kernel))) rfl
theorem wd_735 : (Cond.static yJ7_fill_53178 : Cond) ∈ WALL := wall_t (tw_3 _ (List.mem_of_getElem? (i := 143) (by decide +kernel))) rfl
theorem wd_138 : (Cond.initialized RJ7 : Cond) ∈ WALL := wall_t (tw_1 _ (List.mem_of_getElem? (i := 26) (by decide +kernel))) rfl
theorem wd_917 : (Cond.methodLink RX3 59 yX0_reason : Cond) ∈ WALL := wall_t (tw_4 _ (List.mem_of_getElem? (i := 85) (by decide +kernel))) rfl
theorem wd_918 : (Cond.methodLink RX3 66 yX3_putAhead : Cond) ∈ WALL := wall_t (tw_4 _ (List.mem_of_getElem? (i := 86) (by decide +kernel))) rfl
theorem wd_919 : (Cond.static yX3_putAhead : Cond) ∈ WALL := wall_t (tw_4 _ (List.mem_of_getElem? (i := 87) (by decide +kernel))) rfl
theorem wd_122 : (Cond.initialized RX3 : Cond) ∈ WALL := wall_t (tw_1 _ (List.mem_of_getElem? (i := 10) (by decide +kernel))) rfl
theorem wd_915 : (Cond.code yX3_sortByJoy cX3_sortByJoy 4 none : Cond) ∈ WALL := wall_t (tw_4 _ (List.mem_of_getElem? (i := 83) (by rfl))) rfl
theorem wd_924 : (Cond.code yX3_sortByGain cX3_sortByGain 5 none : Cond) ∈ WALL := wall_t (tw_4 _ (List.mem_of_getElem? (i := 92) (by rfl))) rfl
theorem wd_304 : (Cond.fieldLink RX3 70 "ParetoDesk$Choices" "gain" "[I" : Cond) ∈ WALL := wall_t (tw_1 _ (List.mem_of_getElem? (i := 192) (by decide +kernel))) rfl
theorem wd_936 : (Cond.code yX3_firstLayerBelow cX3_firstLayerBelow 6 (some .int) : Cond) ∈ WALL := wall_t (tw_4 _ (List.mem_of_getElem? (i := 104) (by rfl))) rfl
theorem wd_448 : (Cond.fieldLink RX3 33 "ParetoDesk$Layers" "count" "I" : Cond) ∈ WALL := wall_t (tw_2 _ (List.mem_of_getElem? (i := 96) (by decide +kernel))) rfl
theorem wd_932 : (Cond.code yX3_placePair cX3_placePair 3 (some .int) : Cond) ∈ WALL := wall_t (tw_4 _ (List.mem_of_getElem? (i := 100) (by rfl))) rfl
theorem wd_933 : (Cond.methodLink RX3 77 yX3_firstLayerBelow : Cond) ∈ WALL := wall_t (tw_4 _ (List.mem_of_getElem? (i := 101) (by decide +kernel))) rfl
theorem wd_935 : (Cond.instanceMethod yX3_firstLayerBelow : Cond) ∈ WALL := wall_t (tw_4 _ (List.mem_of_getElem? (i := 103) (by decide +kernel))) rfl
theorem wd_30 : (Cond.selects RX3 yX3_firstLayerBelow yX3_firstLayerBelow : Cond) ∈ WALL := wall_at (i := 30) (by decide +kernel) rfl
theorem wd_928 : (Cond.code yX3_placeGain cX3_placeGain 7 none : Cond) ∈ WALL := wall_t (tw_4 _ (List.mem_of_getElem? (i := 96) (by rfl))) rfl
theorem wd_929 : (Cond.methodLink RX3 73 yX3_placePair : Cond) ∈ WALL := wall_t (tw_4 _ (List.mem_of_getElem? (i := 97) (by decide +kernel))) rfl
theorem wd_931 : (Cond.instanceMethod yX3_placePair : Cond) ∈ WALL := wall_t (tw_4 _ (List.mem_of_getElem? (i := 99) (by decide +kernel))) rfl
theorem wd_29 : (Cond.selects RX3 yX3_placePair yX3_placePair : Cond) ∈ WALL := wall_at (i := 29) (by decide +kernel) rfl
theorem wd_912 : (Cond.methodLink RX3 37 yX3_sortByJoy : Cond) ∈ WALL := wall_t (tw_4 _ (List.mem_of_getElem? (i := 80) (by decide +kernel))) rfl
theorem wd_914 : (Cond.instanceMethod yX3_sortByJoy : Cond) ∈ WALL := wall_t (tw_4 _ (List.mem_of_getElem? (i := 82) (by decide +kernel))) rfl
theorem wd_26 : (Cond.selects RX3 yX3_sortByJoy yX3_sortByJoy : Cond) ∈ WALL := wall_at (i := 26) (by decide +kernel) rfl
theorem wd_921 : (Cond.methodLink RX3 41 yX3_sortByGain : Cond) ∈ WALL := wall_t (tw_4 _ (List.mem_of_getElem? (i := 89) (by decide +kernel))) rfl
theorem wd_923 : (Cond.instanceMethod yX3_sortByGain : Cond) ∈ WALL := wall_t (tw_4 _ (List.mem_of_getElem? (i := 91) (by decide +kernel))) rfl
theorem wd_27 : (Cond.selects RX3 yX3_sortByGain yX3_sortByGain : Cond) ∈ WALL := wall_at (i := 27) (by decide +kernel) rfl
theorem wd_925 : (Cond.methodLink RX3 45 yX3_placeGain : Cond) ∈ WALL := wall_t (tw_4 _ (List.mem_of_getElem? (i := 93) (by decide +kernel))) rfl
theorem wd_927 : (Cond.instanceMethod yX3_placeGain : Cond) ∈ WALL := wall_t (tw_4 _ (List.mem_of_getElem? (i := 95) (by decide +kernel))) rfl
theorem wd_28 : (Cond.selects RX3 yX3_placeGain yX3_placeGain : Cond) ∈ WALL := wall_at (i := 28) (by decide +kernel) rfl
theorem wd_911 : (Cond.code yX3_build cX3_build 4 none : Cond) ∈ WALL := wall_t (tw_4 _ (List.mem_of_getElem? (i := 79) (by rfl))) rfl
theorem wd_280 : (Cond.code yX4_init cX4_init 1 none : Cond) ∈ WALL := wall_t (tw_1 _ (List.mem_of_getElem? (i := 168) (by rfl))) rfl
theorem wd_281 : (Cond.methodLink RX4 3 objectInit : Cond) ∈ WALL := wall_t (tw_1 _ (List.mem_of_getElem? (i := 169) (by decide +kernel))) rfl
theorem wd_224 : (Cond.arrayClass .byte : Cond) ∈ WALL := wall_t (tw_1 _ (List.mem_of_getElem? (i := 112) (by decide +kernel))) rfl
theorem wd_282 : (Cond.fieldLink RX4 9 "ParetoDesk$Output" "bytes" "[B" : Cond) ∈ WALL := wall_t (tw_1 _ (List.mem_of_getElem? (i := 170) (by decide +kernel))) rfl
theorem wd_952 : (Cond.code yX4_put cX4_put 2 none : Cond) ∈ WALL := wall_t (tw_4 _ (List.mem_of_getElem? (i := 120) (by rfl))) rfl
theorem wd_284 : (Cond.fieldLink RX4 15 "ParetoDesk$Output" "length" "I" : Cond) ∈ WALL := wall_t (tw_1 _ (List.mem_of_getElem? (i := 172) (by decide +kernel))) rfl
theorem wd_956 : (Cond.code yX4_putNumber cX4_putNumber 4 none : Cond) ∈ WALL := wall_t (tw_4 _ (List.mem_of_getElem? (i := 124) (by rfl))) rfl
theorem wd_957 : (Cond.methodLink RX4 19 yX4_put : Cond) ∈ WALL := wall_t (tw_4 _ (List.mem_of_getElem? (i := 125) (by decide +kernel))) rfl
theorem wd_950 : (Cond.instanceMethod yX4_put : Cond) ∈ WALL := wall_t (tw_4 _ (List.mem_of_getElem? (i := 118) (by decide +kernel))) rfl
theorem wd_951 : (Cond.selects RX4 yX4_put yX4_put : Cond) ∈ WALL := wall_t (tw_4 _ (List.mem_of_getElem? (i := 119) (by decide +kernel))) rfl
theorem wd_117 : (Cond.initialized RX4 : Cond) ∈ WALL := wall_t (tw_1 _ (List.mem_of_getElem? (i := 5) (by decide +kernel))) rfl
theorem wd_158 : (Cond.code yX8_init cX8_init 1 none : Cond) ∈ WALL := wall_t (tw_1 _ (List.mem_of_getElem? (i := 46) (by rfl))) rfl
theorem wd_159 : (Cond.methodLink RX8 3 objectInit : Cond) ∈ WALL := wall_t (tw_1 _ (List.mem_of_getElem? (i := 47) (by decide +kernel))) rfl
theorem wd_165 : (Cond.fieldLink RX8 9 "ParetoDesk$Setup" "capacity" "I" : Cond) ∈ WALL := wall_t (tw_1 _ (List.mem_of_getElem? (i := 53) (by decide +kernel))) rfl
theorem wd_169 : (Cond.fieldLink RX8 15 "ParetoDesk$Setup" "limit" "I" : Cond) ∈ WALL := wall_t (tw_1 _ (List.mem_of_getElem? (i := 57) (by decide +kernel))) rfl
theorem wd_184 : (Cond.fieldLink RX8 18 "ParetoDesk$Setup" "weight" "[I" : Cond) ∈ WALL := wall_t (tw_1 _ (List.mem_of_getElem? (i := 72) (by decide +kernel))) rfl
theorem wd_187 : (Cond.fieldLink RX8 22 "ParetoDesk$Setup" "gain" "[I" : Cond) ∈ WALL := wall_t (tw_1 _ (List.mem_of_getElem? (i := 75) (by decide +kernel))) rfl
theorem wd_190 : (Cond.fieldLink RX8 25 "ParetoDesk$Setup" "joy" "[I" : Cond) ∈ WALL := wall_t (tw_1 _ (List.mem_of_getElem? (i := 78) (by decide +kernel))) rfl
theorem wd_193 : (Cond.fieldLink RX8 28 "ParetoDesk$Setup" "bars" "[I" : Cond) ∈ WALL := wall_t (tw_1 _ (List.mem_of_getElem? (i := 81) (by decide +kernel))) rfl
theorem wd_197 : (Cond.fieldLink RX8 31 "ParetoDesk$Setup" "needs" "[I" : Cond) ∈ WALL := wall_t (tw_1 _ (List.mem_of_getElem? (i := 85) (by decide +kernel))) rfl
theorem wd_152 : (Cond.code yX5_init cX5_init 1 none : Cond) ∈ WALL := wall_t (tw_1 _ (List.mem_of_getElem? (i := 40) (by rfl))) rfl
theorem wd_153 : (Cond.methodLink RX5 3 objectInit : Cond) ∈ WALL := wall_t (tw_1 _ (List.mem_of_getElem? (i := 41) (by decide +kernel))) rfl
theorem wd_154 : (Cond.classLink RX5 9 RX8 : Cond) ∈ WALL := wall_t (tw_1 _ (List.mem_of_getElem? (i := 42) (by decide +kernel))) rfl
theorem wd_155 : (Cond.instantiable RX8 11 : Cond) ∈ WALL := wall_t (tw_1 _ (List.mem_of_getElem? (i := 43) (by decide +kernel))) rfl
theorem wd_115 : (Cond.initialized RX8 : Cond) ∈ WALL := wall_t (tw_1 _ (List.mem_of_getElem? (i := 3) (by decide +kernel))) rfl
theorem wd_226 : (Cond.fieldLink RX5 12 "ParetoDesk$Parser" "draft" "LParetoDesk$Setup;" : Cond) ∈ WALL := wall_t (tw_1 _ (List.mem_of_getElem? (i := 114) (by decide +kernel))) rfl
theorem wd_230 : (Cond.fieldLink RX5 18 "ParetoDesk$Parser" "place" "I" : Cond) ∈ WALL := wall_t (tw_1 _ (List.mem_of_getElem? (i := 118) (by decide +kernel))) rfl
theorem wd_232 : (Cond.fieldLink RX5 22 "ParetoDesk$Parser" "text" "[B" : Cond) ∈ WALL := wall_t (tw_1 _ (List.mem_of_getElem? (i := 120) (by decide +kernel))) rfl
theorem wd_157 : (Cond.instanceMethod yX8_init : Cond) ∈ WALL := wall_t (tw_1 _ (List.mem_of_getElem? (i := 45) (by decide +kernel))) rfl
theorem wd_565 : (Cond.code yX8_clear cX8_clear 1 none : Cond) ∈ WALL := wall_t (tw_2 _ (List.mem_of_getElem? (i := 213) (by rfl))) rfl
theorem wd_160 : (Cond.fieldLink RX8 34 "ParetoDesk$Setup" "items" "I" : Cond) ∈ WALL := wall_t (tw_1 _ (List.mem_of_getElem? (i := 48) (by decide +kernel))) rfl
theorem wd_174 : (Cond.fieldLink RX8 43 "ParetoDesk$Setup" "mustSet" "I" : Cond) ∈ WALL := wall_t (tw_1 _ (List.mem_of_getElem? (i := 62) (by decide +kernel))) rfl
theorem wd_178 : (Cond.fieldLink RX8 46 "ParetoDesk$Setup" "neverSet" "I" : Cond) ∈ WALL := wall_t (tw_1 _ (List.mem_of_getElem? (i := 66) (by decide +kernel))) rfl
theorem wd_182 : (Cond.fieldLink RX8 49 "ParetoDesk$Setup" "hand" "I" : Cond) ∈ WALL := wall_t (tw_1 _ (List.mem_of_getElem? (i := 70) (by decide +kernel))) rfl
theorem wd_572 : (Cond.code yX5_isLetter cX5_isLetter 1 (some .boolean) : Cond) ∈ WALL := wall_t (tw_2 _ (List.mem_of_getElem? (i := 220) (by rfl))) rfl
theorem wd_575 : (Cond.code yX5_isDigit cX5_isDigit 1 (some .boolean) : Cond) ∈ WALL := wall_t (tw_2 _ (List.mem_of_getElem? (i := 223) (by rfl))) rfl
theorem wd_569 : (Cond.code yX5_advance cX5_advance 1 none : Cond) ∈ WALL := wall_t (tw_2 _ (List.mem_of_getElem? (i := 217) (by rfl))) rfl
theorem wd_236 : (Cond.fieldLink RX5 35 "ParetoDesk$Parser" "next" "I" : Cond) ∈ WALL := wall_t (tw_1 _ (List.mem_of_getElem? (i := 124) (by decide +kernel))) rfl
theorem wd_233 : (Cond.fieldLink RX5 32 "ParetoDesk$Parser" "length" "I" : Cond) ∈ WALL := wall_t (tw_1 _ (List.mem_of_getElem? (i := 121) (by decide +kernel))) rfl
theorem wd_235 : (Cond.fieldLink RX5 57 "ParetoDesk$Parser" "start" "I" : Cond) ∈ WALL := wall_t (tw_1 _ (List.mem_of_getElem? (i := 123) (by decide +kernel))) rfl
theorem wd_237 : (Cond.fieldLink RX5 60 "ParetoDesk$Parser" "value" "I" : Cond) ∈ WALL := wall_t (tw_1 _ (List.mem_of_getElem? (i := 125) (by decide +kernel))) rfl
theorem wd_234 : (Cond.fieldLink RX5 51 "ParetoDesk$Parser" "kind" "I" : Cond) ∈ WALL := wall_t (tw_1 _ (List.mem_of_getElem? (i := 122) (by decide +kernel))) rfl
theorem wd_576 : (Cond.constant RX5 70 (100000) : Cond) ∈ WALL := wall_t (tw_2 _ (List.mem_of_getElem? (i := 224) (by decide +kernel))) rfl
theorem wd_577 : (Cond.methodLink RX5 71 Lib.Math.min.name : Cond) ∈ WALL := wall_t (tw_2 _ (List.mem_of_getElem? (i := 225) (by decide +kernel))) rfl
theorem wd_578 : (Cond.static Lib.Math.min.name : Cond) ∈ WALL := wall_t (tw_2 _ (List.mem_of_getElem? (i := 226) (by decide +kernel))) rfl
theorem wd_579_0 : (Cond.code Lib.Math.min.name Lib.Math.min.code 2 (some .int) : Cond) ∈ WALL := wall_t (tw_2 _ (List.mem_of_getElem? (i := 227) (by rfl))) rfl
theorem wd_570 : (Cond.methodLink RX5 63 yX5_isLetter : Cond) ∈ WALL := wall_t (tw_2 _ (List.mem_of_getElem? (i := 218) (by decide +kernel))) rfl
theorem wd_571 : (Cond.static yX5_isLetter : Cond) ∈ WALL := wall_t (tw_2 _ (List.mem_of_getElem? (i := 219) (by decide +kernel))) rfl
theorem wd_114 : (Cond.initialized RX5 : Cond) ∈ WALL := wall_t (tw_1 _ (List.mem_of_getElem? (i := 2) (by decide +kernel))) rfl
theorem wd_573 : (Cond.methodLink RX5 67 yX5_isDigit : Cond) ∈ WALL := wall_t (tw_2 _ (List.mem_of_getElem? (i := 221) (by decide +kernel))) rfl
theorem wd_574 : (Cond.static yX5_isDigit : Cond) ∈ WALL := wall_t (tw_2 _ (List.mem_of_getElem? (i := 222) (by decide +kernel))) rfl
theorem wd_600 : (Cond.code yJ0_coder_7d493 cJ0_coder_7d493 1 (some .byte) : Cond) ∈ WALL := wall_t (tw_3 _ (List.mem_of_getElem? (i := 8) (by rfl))) rfl
theorem wd_601 : (Cond.fieldLink RJ0 38 "java/lang/String" "COMPACT_STRINGS" "Z" : Cond) ∈ WALL := wall_t (tw_3 _ (List.mem_of_getElem? (i := 9) (by decide +kernel))) rfl
theorem wd_2234 : (Cond.fieldLink RJ0 15 "java/lang/String" "coder" "B" : Cond) ∈ WALL := wall_t (tw_9 _ (List.mem_of_getElem? (i := 202) (by decide +kernel))) rfl
theorem wd_596 : (Cond.code yJ0_length_8abf5 cJ0_length_8abf5 1 (some .int) : Cond) ∈ WALL := wall_t (tw_3 _ (List.mem_of_getElem? (i := 4) (by rfl))) rfl
theorem wd_2233 : (Cond.fieldLink RJ0 9 "java/lang/String" "value" "[B" : Cond) ∈ WALL := wall_t (tw_9 _ (List.mem_of_getElem? (i := 201) (by decide +kernel))) rfl
theorem wd_597 : (Cond.methodLink RJ0 335 yJ0_coder_7d493 : Cond) ∈ WALL := wall_t (tw_3 _ (List.mem_of_getElem? (i := 5) (by decide +kernel))) rfl
theorem wd_598 : (Cond.instanceMethod yJ0_coder_7d493 : Cond) ∈ WALL := wall_t (tw_3 _ (List.mem_of_getElem? (i := 6) (by decide +kernel))) rfl
theorem wd_599 : (Cond.selects RJ0 yJ0_coder_7d493 yJ0_coder_7d493 : Cond) ∈ WALL := wall_t (tw_3 _ (List.mem_of_getElem? (i := 7) (by decide +kernel))) rfl
theorem wd_132 : (Cond.initialized RJ0 : Cond) ∈ WALL := wall_t (tw_1 _ (List.mem_of_getElem? (i := 20) (by decide +kernel))) rfl
theorem wd_610 : (Cond.code yJ0_isLatin1_aae02 cJ0_isLatin1_aae02 1 (some .boolean) : Cond) ∈ WALL := wall_t (tw_3 _ (List.mem_of_getElem? (i := 18) (by rfl))) rfl
theorem wd_621 : (Cond.code yJ3_checkIndex_8e157 cJ3_checkIndex_8e157 3 (some .int) : Cond) ∈ WALL := wall_t (tw_3 _ (List.mem_of_getElem? (i := 29) (by rfl))) rfl
theorem wd_616 : (Cond.code yJ0_checkIndex_df160 cJ0_checkIndex_df160 2 none : Cond) ∈ WALL := wall_t (tw_3 _ (List.mem_of_getElem? (i := 24) (by rfl))) rfl
theorem wd_617 : (Cond.fieldLink RJ0 1053 "jdk/internal/util/Preconditions" "SIOOBE_FORMATTER" "Ljava/util/function/BiFunction;" : Cond) ∈ WALL := wall_t (tw_3 _ (List.mem_of_getElem? (i := 25) (by decide +kernel))) rfl
theorem wd_619 : (Cond.methodLink RJ0 1059 yJ3_checkIndex_8e157 : Cond) ∈ WALL := wall_t (tw_3 _ (List.mem_of_getElem? (i := 27) (by decide +kernel))) rfl
theorem wd_620 : (Cond.static yJ3_checkIndex_8e157 : Cond) ∈ WALL := wall_t (tw_3 _ (List.mem_of_getElem? (i := 28) (by decide +kernel))) rfl
theorem wd_134 : (Cond.initialized RJ3 : Cond) ∈ WALL := wall_t (tw_1 _ (List.mem_of_getElem? (i := 22) (by decide +kernel))) rfl
theorem wd_613 : (Cond.code yJ1_charAt_3b067 cJ1_charAt_3b067 2 (some .char) : Cond) ∈ WALL := wall_t (tw_3 _ (List.mem_of_getElem? (i := 21) (by rfl))) rfl
theorem wd_614 : (Cond.methodLink RJ1 9 yJ0_checkIndex_df160 : Cond) ∈ WALL := wall_t (tw_3 _ (List.mem_of_getElem? (i := 22) (by decide +kernel))) rfl
theorem wd_615 : (Cond.static yJ0_checkIndex_df160 : Cond) ∈ WALL := wall_t (tw_3 _ (List.mem_of_getElem? (i := 23) (by decide +kernel))) rfl
theorem wd_630 : (Cond.code yJ2_length_9d52b cJ2_length_9d52b 1 (some .int) : Cond) ∈ WALL := wall_t (tw_3 _ (List.mem_of_getElem? (i := 38) (by rfl))) rfl
theorem wd_627 : (Cond.code yJ2_checkIndex_2214a cJ2_checkIndex_2214a 2 none : Cond) ∈ WALL := wall_t (tw_3 _ (List.mem_of_getElem? (i := 35) (by rfl))) rfl
theorem wd_628 : (Cond.methodLink RJ2 48 yJ2_length_9d52b : Cond) ∈ WALL := wall_t (tw_3 _ (List.mem_of_getElem? (i := 36) (by decide +kernel))) rfl
theorem wd_629 : (Cond.static yJ2_length_9d52b : Cond) ∈ WALL := wall_t (tw_3 _ (List.mem_of_getElem? (i := 37) (by decide +kernel))) rfl
theorem wd_135 : (Cond.initialized RJ2 : Cond) ∈ WALL := wall_t (tw_1 _ (List.mem_of_getElem? (i := 23) (by decide +kernel))) rfl
theorem wd_631 : (Cond.methodLink RJ2 414 yJ0_checkIndex_df160 : Cond) ∈ WALL := wall_t (tw_3 _ (List.mem_of_getElem? (i := 39) (by decide +kernel))) rfl
theorem wd_634 : (Cond.code yJ2_getChar_3b067 cJ2_getChar_3b067 2 (some .char) : Cond) ∈ WALL := wall_t (tw_3 _ (List.mem_of_getElem? (i := 42) (by rfl))) rfl
theorem wd_635 : (Cond.fieldLink RJ2 44 "java/lang/StringUTF16" "$assertionsDisabled" "Z" : Cond) ∈ WALL := wall_t (tw_3 _ (List.mem_of_getElem? (i := 43) (by decide +kernel))) rfl
theorem wd_637 : (Cond.fieldLink RJ2 59 "java/lang/StringUTF16" "HI_BYTE_SHIFT" "I" : Cond) ∈ WALL := wall_t (tw_3 _ (List.mem_of_getElem? (i := 45) (by decide +kernel))) rfl
theorem wd_639 : (Cond.fieldLink RJ2 63 "java/lang/StringUTF16" "LO_BYTE_SHIFT" "I" : Cond) ∈ WALL := wall_t (tw_3 _ (List.mem_of_getElem? (i := 47) (by decide +kernel))) rfl
theorem wd_624 : (Cond.code yJ2_charAt_3b067 cJ2_charAt_3b067 2 (some .char) : Cond) ∈ WALL := wall_t (tw_3 _ (List.mem_of_getElem? (i := 32) (by rfl))) rfl
theorem wd_625 : (Cond.methodLink RJ2 67 yJ2_checkIndex_2214a : Cond) ∈ WALL := wall_t (tw_3 _ (List.mem_of_getElem? (i := 33) (by decide +kernel))) rfl
theorem wd_626 : (Cond.static yJ2_checkIndex_2214a : Cond) ∈ WALL := wall_t (tw_3 _ (List.mem_of_getElem? (i := 34) (by decide +kernel))) rfl
theorem wd_632 : (Cond.methodLink RJ2 71 yJ2_getChar_3b067 : Cond) ∈ WALL := wall_t (tw_3 _ (List.mem_of_getElem? (i := 40) (by decide +kernel))) rfl
theorem wd_633 : (Cond.static yJ2_getChar_3b067 : Cond) ∈ WALL := wall_t (tw_3 _ (List.mem_of_getElem? (i := 41) (by decide +kernel))) rfl
theorem wd_607 : (Cond.methodLink RJ0 492 yJ0_isLatin1_aae02 : Cond) ∈ WALL := wall_t (tw_3 _ (List.mem_of_getElem? (i := 15) (by decide +kernel))) rfl
theorem wd_608 : (Cond.instanceMethod yJ0_isLatin1_aae02 : Cond) ∈ WALL := wall_t (tw_3 _ (List.mem_of_getElem? (i := 16) (by decide +kernel))) rfl
theorem wd_609 : (Cond.selects RJ0 yJ0_isLatin1_aae02 yJ0_isLatin1_aae02 : Cond) ∈ WALL := wall_t (tw_3 _ (List.mem_of_getElem? (i := 17) (by decide +kernel))) rfl
theorem wd_611 : (Cond.methodLink RJ0 495 yJ1_charAt_3b067 : Cond) ∈ WALL := wall_t (tw_3 _ (List.mem_of_getElem? (i := 19) (by decide +kernel))) rfl
theorem wd_612 : (Cond.static yJ1_charAt_3b067 : Cond) ∈ WALL := wall_t (tw_3 _ (List.mem_of_getElem? (i := 20) (by decide +kernel))) rfl
theorem wd_133 : (Cond.initialized RJ1 : Cond) ∈ WALL := wall_t (tw_1 _ (List.mem_of_getElem? (i := 21) (by decide +kernel))) rfl
theorem wd_622 : (Cond.methodLink RJ0 498 yJ2_charAt_3b067 : Cond) ∈ WALL := wall_t (tw_3 _ (List.mem_of_getElem? (i := 30) (by decide +kernel))) rfl
theorem wd_623 : (Cond.static yJ2_charAt_3b067 : Cond) ∈ WALL := wall_t (tw_3 _ (List.mem_of_getElem? (i := 31) (by decide +kernel))) rfl
theorem wd_606 : (Cond.code yJ0_charAt_5068e cJ0_charAt_5068e 2 (some .char) : Cond) ∈ WALL := wall_t (tw_3 _ (List.mem_of_getElem? (i := 14) (by rfl))) rfl
theorem wd_593 : (Cond.methodLink RX5 77 yJ0_length_8abf5 : Cond) ∈ WALL := wall_t (tw_3 _ (List.mem_of_getElem? (i := 1) (by decide +kernel))) rfl
theorem wd_594 : (Cond.instanceMethod yJ0_length_8abf5 : Cond) ∈ WALL := wall_t (tw_3 _ (List.mem_of_getElem? (i := 2) (by decide +kernel))) rfl
theorem wd_595 : (Cond.selects RJ0 yJ0_length_8abf5 yJ0_length_8abf5 : Cond) ∈ WALL := wall_t (tw_3 _ (List.mem_of_getElem? (i := 3) (by decide +kernel))) rfl
theorem wd_603 : (Cond.methodLink RX5 82 yJ0_charAt_5068e : Cond) ∈ WALL := wall_t (tw_3 _ (List.mem_of_getElem? (i := 11) (by decide +kernel))) rfl
theorem wd_604 : (Cond.instanceMethod yJ0_charAt_5068e : Cond) ∈ WALL := wall_t (tw_3 _ (List.mem_of_getElem? (i := 12) (by decide +kernel))) rfl
theorem wd_605 : (Cond.selects RJ0 yJ0_charAt_5068e yJ0_charAt_5068e : Cond) ∈ WALL := wall_t (tw_3 _ (List.mem_of_getElem? (i := 13) (by decide +kernel))) rfl
theorem wd_592 : (Cond.code yX5_isWord cX5_isWord 3 (some .boolean) : Cond) ∈ WALL := wall_t (tw_3 _ (List.mem_of_getElem? (i := 0) (by rfl))) rfl
theorem wd_644 : (Cond.code yX5_fail cX5_fail 2 (some .boolean) : Cond) ∈ WALL := wall_t (tw_3 _ (List.mem_of_getElem? (i := 52) (by rfl))) rfl
theorem wd_228 : (Cond.fieldLink RX5 38 "ParetoDesk$Parser" "code" "I" : Cond) ∈ WALL := wall_t (tw_1 _ (List.mem_of_getElem? (i := 116) (by decide +kernel))) rfl
theorem wd_589 : (Cond.methodLink RX5 86 yX5_isWord : Cond) ∈ WALL := wall_t (tw_2 _ (List.mem_of_getElem? (i := 237) (by decide +kernel))) rfl
theorem wd_591 : (Cond.instanceMethod yX5_isWord : Cond) ∈ WALL := wall_t (tw_2 _ (List.mem_of_getElem? (i := 239) (by decide +kernel))) rfl
theorem wd_3 : (Cond.selects RX5 yX5_isWord yX5_isWord : Cond) ∈ WALL := wall_at (i := 3) (by decide +kernel) rfl
theorem wd_641 : (Cond.methodLink RX5 90 yX5_fail : Cond) ∈ WALL := wall_t (tw_3 _ (List.mem_of_getElem? (i := 49) (by decide +kernel))) rfl
theorem wd_643 : (Cond.instanceMethod yX5_fail : Cond) ∈ WALL := wall_t (tw_3 _ (List.mem_of_getElem? (i := 51) (by decide +kernel))) rfl
theorem wd_4 : (Cond.selects RX5 yX5_fail yX5_fail : Cond) ∈ WALL := wall_at (i := 4) (by decide +kernel) rfl
theorem wd_566 : (Cond.methodLink RX5 44 yX5_advance : Cond) ∈ WALL := wall_t (tw_2 _ (List.mem_of_getElem? (i := 214) (by decide +kernel))) rfl
theorem wd_568 : (Cond.instanceMethod yX5_advance : Cond) ∈ WALL := wall_t (tw_2 _ (List.mem_of_getElem? (i := 216) (by decide +kernel))) rfl
theorem wd_0 : (Cond.selects RX5 yX5_advance yX5_advance : Cond) ∈ WALL := wall_at (i := 0) (by decide +kernel) rfl
theorem wd_588 : (Cond.code yX5_passWord cX5_passWord 2 (some .boolean) : Cond) ∈ WALL := wall_t (tw_2 _ (List.mem_of_getElem? (i := 236) (by rfl))) rfl
theorem wd_652 : (Cond.code yX5_checkNumber cX5_checkNumber 2 (some .boolean) : Cond) ∈ WALL := wall_t (tw_3 _ (List.mem_of_getElem? (i := 60) (by rfl))) rfl
theorem wd_649 : (Cond.methodLink RX5 94 yX5_checkNumber : Cond) ∈ WALL := wall_t (tw_3 _ (List.mem_of_getElem? (i := 57) (by decide +kernel))) rfl
theorem wd_651 : (Cond.instanceMethod yX5_checkNumber : Cond) ∈ WALL := wall_t (tw_3 _ (List.mem_of_getElem? (i := 59) (by decide +kernel))) rfl
theorem wd_6 : (Cond.selects RX5 yX5_checkNumber yX5_checkNumber : Cond) ∈ WALL := wall_at (i := 6) (by decide +kernel) rfl
theorem wd_648 : (Cond.code yX5_passNumber cX5_passNumber 3 (some .int) : Cond) ∈ WALL := wall_t (tw_3 _ (List.mem_of_getElem? (i := 56) (by rfl))) rfl
theorem wd_657 : (Cond.code yX5_passEnd cX5_passEnd 1 (some .boolean) : Cond) ∈ WALL := wall_t (tw_3 _ (List.mem_of_getElem? (i := 65) (by rfl))) rfl
theorem wd_168 : (Cond.fieldLink RX5 106 "ParetoDesk$Setup" "capacity" "I" : Cond) ∈ WALL := wall_t (tw_1 _ (List.mem_of_getElem? (i := 56) (by decide +kernel))) rfl
theorem wd_172 : (Cond.fieldLink RX5 110 "ParetoDesk$Setup" "limit" "I" : Cond) ∈ WALL := wall_t (tw_1 _ (List.mem_of_getElem? (i := 60) (by decide +kernel))) rfl
theorem wd_585 : (Cond.methodLink RX5 99 yX5_passWord : Cond) ∈ WALL := wall_t (tw_2 _ (List.mem_of_getElem? (i := 233) (by decide +kernel))) rfl
theorem wd_587 : (Cond.instanceMethod yX5_passWord : Cond) ∈ WALL := wall_t (tw_2 _ (List.mem_of_getElem? (i := 235) (by decide +kernel))) rfl
theorem wd_2 : (Cond.selects RX5 yX5_passWord yX5_passWord : Cond) ∈ WALL := wall_at (i := 2) (by decide +kernel) rfl
theorem wd_645 : (Cond.methodLink RX5 102 yX5_passNumber : Cond) ∈ WALL := wall_t (tw_3 _ (List.mem_of_getElem? (i := 53) (by decide +kernel))) rfl
theorem wd_647 : (Cond.instanceMethod yX5_passNumber : Cond) ∈ WALL := wall_t (tw_3 _ (List.mem_of_getElem? (i := 55) (by decide +kernel))) rfl
theorem wd_5 : (Cond.selects RX5 yX5_passNumber yX5_passNumber : Cond) ∈ WALL := wall_at (i := 5) (by decide +kernel) rfl
theorem wd_654 : (Cond.methodLink RX5 112 yX5_passEnd : Cond) ∈ WALL := wall_t (tw_3 _ (List.mem_of_getElem? (i := 62) (by decide +kernel))) rfl
theorem wd_656 : (Cond.instanceMethod yX5_passEnd : Cond) ∈ WALL := wall_t (tw_3 _ (List.mem_of_getElem? (i := 64) (by decide +kernel))) rfl
theorem wd_7 : (Cond.selects RX5 yX5_passEnd yX5_passEnd : Cond) ∈ WALL := wall_at (i := 7) (by decide +kernel) rfl
theorem wd_583 : (Cond.code yX5_readFrame cX5_readFrame 1 (some .boolean) : Cond) ∈ WALL := wall_t (tw_2 _ (List.mem_of_getElem? (i := 231) (by rfl))) rfl
theorem wd_673 : (Cond.code yX8_addLast cX8_addLast 4 none : Cond) ∈ WALL := wall_t (tw_3 _ (List.mem_of_getElem? (i := 81) (by rfl))) rfl
theorem wd_164 : (Cond.fieldLink RX5 135 "ParetoDesk$Setup" "items" "I" : Cond) ∈ WALL := wall_t (tw_1 _ (List.mem_of_getElem? (i := 52) (by decide +kernel))) rfl
theorem wd_670 : (Cond.methodLink RX5 144 yX8_addLast : Cond) ∈ WALL := wall_t (tw_3 _ (List.mem_of_getElem? (i := 78) (by decide +kernel))) rfl
theorem wd_671 : (Cond.instanceMethod yX8_addLast : Cond) ∈ WALL := wall_t (tw_3 _ (List.mem_of_getElem? (i := 79) (by decide +kernel))) rfl
theorem wd_672 : (Cond.selects RX8 yX8_addLast yX8_addLast : Cond) ∈ WALL := wall_t (tw_3 _ (List.mem_of_getElem? (i := 80) (by decide +kernel))) rfl
theorem wd_666 : (Cond.code yX5_readItem cX5_readItem 4 (some .boolean) : Cond) ∈ WALL := wall_t (tw_3 _ (List.mem_of_getElem? (i := 74) (by rfl))) rfl
theorem wd_685 : (Cond.code yX10_withBit cX10_withBit 3 (some .int) : Cond) ∈ WALL := wall_t (tw_3 _ (List.mem_of_getElem? (i := 93) (by rfl))) rfl
theorem wd_196 : (Cond.fieldLink RX5 148 "ParetoDesk$Setup" "bars" "[I" : Cond) ∈ WALL := wall_t (tw_1 _ (List.mem_of_getElem? (i := 84) (by decide +kernel))) rfl
theorem wd_200 : (Cond.fieldLink RX5 152 "ParetoDesk$Setup" "needs" "[I" : Cond) ∈ WALL := wall_t (tw_1 _ (List.mem_of_getElem? (i := 88) (by decide +kernel))) rfl
theorem wd_684 : (Cond.static yX10_withBit : Cond) ∈ WALL := wall_t (tw_3 _ (List.mem_of_getElem? (i := 92) (by decide +kernel))) rfl
theorem wd_679 : (Cond.code yX5_readPair cX5_readPair 5 (some .boolean) : Cond) ∈ WALL := wall_t (tw_3 _ (List.mem_of_getElem? (i := 87) (by rfl))) rfl
theorem wd_176 : (Cond.fieldLink RX5 163 "ParetoDesk$Setup" "mustSet" "I" : Cond) ∈ WALL := wall_t (tw_1 _ (List.mem_of_getElem? (i := 64) (by decide +kernel))) rfl
theorem wd_180 : (Cond.fieldLink RX5 166 "ParetoDesk$Setup" "neverSet" "I" : Cond) ∈ WALL := wall_t (tw_1 _ (List.mem_of_getElem? (i := 68) (by decide +kernel))) rfl
theorem wd_691 : (Cond.code yX5_readSingle cX5_readSingle 3 (some .boolean) : Cond) ∈ WALL := wall_t (tw_3 _ (List.mem_of_getElem? (i := 99) (by rfl))) rfl
theorem wd_663 : (Cond.methodLink RX5 117 yX5_readItem : Cond) ∈ WALL := wall_t (tw_3 _ (List.mem_of_getElem? (i := 71) (by decide +kernel))) rfl
theorem wd_665 : (Cond.instanceMethod yX5_readItem : Cond) ∈ WALL := wall_t (tw_3 _ (List.mem_of_getElem? (i := 73) (by decide +kernel))) rfl
theorem wd_9 : (Cond.selects RX5 yX5_readItem yX5_readItem : Cond) ∈ WALL := wall_at (i := 9) (by decide +kernel) rfl
theorem wd_676 : (Cond.methodLink RX5 124 yX5_readPair : Cond) ∈ WALL := wall_t (tw_3 _ (List.mem_of_getElem? (i := 84) (by decide +kernel))) rfl
theorem wd_678 : (Cond.instanceMethod yX5_readPair : Cond) ∈ WALL := wall_t (tw_3 _ (List.mem_of_getElem? (i := 86) (by decide +kernel))) rfl
theorem wd_10 : (Cond.selects RX5 yX5_readPair yX5_readPair : Cond) ∈ WALL := wall_at (i := 10) (by decide +kernel) rfl
theorem wd_688 : (Cond.methodLink RX5 132 yX5_readSingle : Cond) ∈ WALL := wall_t (tw_3 _ (List.mem_of_getElem? (i := 96) (by decide +kernel))) rfl
theorem wd_690 : (Cond.instanceMethod yX5_readSingle : Cond) ∈ WALL := wall_t (tw_3 _ (List.mem_of_getElem? (i := 98) (by decide +kernel))) rfl
theorem wd_11 : (Cond.selects RX5 yX5_readSingle yX5_readSingle : Cond) ∈ WALL := wall_at (i := 11) (by decide +kernel) rfl
theorem wd_661 : (Cond.code yX5_readStatement cX5_readStatement 1 (some .boolean) : Cond) ∈ WALL := wall_t (tw_3 _ (List.mem_of_getElem? (i := 69) (by rfl))) rfl
theorem wd_559 : (Cond.methodLink RX5 26 arraycopyName : Cond) ∈ WALL := wall_t (tw_2 _ (List.mem_of_getElem? (i := 207) (by decide +kernel))) rfl
theorem wd_561 : (Cond.native arraycopyName : Cond) ∈ WALL := wall_t (tw_2 _ (List.mem_of_getElem? (i := 209) (by decide +kernel))) rfl
theorem wd_560 : (Cond.static arraycopyName : Cond) ∈ WALL := wall_t (tw_2 _ (List.mem_of_getElem? (i := 208) (by decide +kernel))) rfl
theorem wd_130 : (Cond.initialized "java/lang/System" : Cond) ∈ WALL := wall_t (tw_1 _ (List.mem_of_getElem? (i := 18) (by decide +kernel))) rfl
theorem wd_562 : (Cond.methodLink RX5 41 yX8_clear : Cond) ∈ WALL := wall_t (tw_2 _ (List.mem_of_getElem? (i := 210) (by decide +kernel))) rfl
theorem wd_563 : (Cond.instanceMethod yX8_clear : Cond) ∈ WALL := wall_t (tw_2 _ (List.mem_of_getElem? (i := 211) (by decide +kernel))) rfl
theorem wd_564 : (Cond.selects RX8 yX8_clear yX8_clear : Cond) ∈ WALL := wall_t (tw_2 _ (List.mem_of_getElem? (i := 212) (by decide +kernel))) rfl
theorem wd_580 : (Cond.methodLink RX5 47 yX5_readFrame : Cond) ∈ WALL := wall_t (tw_2 _ (List.mem_of_getElem? (i := 228) (by decide +kernel))) rfl
theorem wd_582 : (Cond.instanceMethod yX5_readFrame : Cond) ∈ WALL := wall_t (tw_2 _ (List.mem_of_getElem? (i := 230) (by decide +kernel))) rfl
theorem wd_1 : (Cond.selects RX5 yX5_readFrame yX5_readFrame : Cond) ∈ WALL := wall_at (i := 1) (by decide +kernel) rfl
theorem wd_658 : (Cond.methodLink RX5 54 yX5_readStatement : Cond) ∈ WALL := wall_t (tw_3 _ (List.mem_of_getElem? (i := 66) (by decide +kernel))) rfl
theorem wd_660 : (Cond.instanceMethod yX5_readStatement : Cond) ∈ WALL := wall_t (tw_3 _ (List.mem_of_getElem? (i := 68) (by decide +kernel))) rfl
theorem wd_8 : (Cond.selects RX5 yX5_readStatement yX5_readStatement : Cond) ∈ WALL := wall_at (i := 8) (by decide +kernel) rfl
theorem wd_558 : (Cond.code yX5_parse cX5_parse 5 (some .boolean) : Cond) ∈ WALL := wall_t (tw_2 _ (List.mem_of_getElem? (i := 206) (by rfl))) rfl
theorem wd_263 : (Cond.code yX6_init cX6_init 2 none : Cond) ∈ WALL := wall_t (tw_1 _ (List.mem_of_getElem? (i := 151) (by rfl))) rfl
theorem wd_264 : (Cond.methodLink RX6 3 objectInit : Cond) ∈ WALL := wall_t (tw_1 _ (List.mem_of_getElem? (i := 152) (by decide +kernel))) rfl
theorem wd_265 : (Cond.classLink RX6 9 RX8 : Cond) ∈ WALL := wall_t (tw_1 _ (List.mem_of_getElem? (i := 153) (by decide +kernel))) rfl
theorem wd_268 : (Cond.fieldLink RX6 11 "ParetoDesk$Past" "setups" "[LParetoDesk$Setup;" : Cond) ∈ WALL := wall_t (tw_1 _ (List.mem_of_getElem? (i := 156) (by decide +kernel))) rfl
theorem wd_699 : (Cond.code yX6_forgetOldest cX6_forgetOldest 3 none : Cond) ∈ WALL := wall_t (tw_3 _ (List.mem_of_getElem? (i := 107) (by rfl))) rfl
theorem wd_269 : (Cond.fieldLink RX6 18 "ParetoDesk$Past" "count" "I" : Cond) ∈ WALL := wall_t (tw_1 _ (List.mem_of_getElem? (i := 157) (by decide +kernel))) rfl
theorem wd_703 : (Cond.code yX8_copyFrom cX8_copyFrom 2 none : Cond) ∈ WALL := wall_t (tw_3 _ (List.mem_of_getElem? (i := 111) (by rfl))) rfl
theorem wd_704 : (Cond.methodLink RX8 52 arraycopyName : Cond) ∈ WALL := wall_t (tw_3 _ (List.mem_of_getElem? (i := 112) (by decide +kernel))) rfl
theorem wd_696 : (Cond.methodLink RX6 22 yX6_forgetOldest : Cond) ∈ WALL := wall_t (tw_3 _ (List.mem_of_getElem? (i := 104) (by decide +kernel))) rfl
theorem wd_698 : (Cond.instanceMethod yX6_forgetOldest : Cond) ∈ WALL := wall_t (tw_3 _ (List.mem_of_getElem? (i := 106) (by decide +kernel))) rfl
theorem wd_12 : (Cond.selects RX6 yX6_forgetOldest yX6_forgetOldest : Cond) ∈ WALL := wall_at (i := 12) (by decide +kernel) rfl
theorem wd_116 : (Cond.initialized RX6 : Cond) ∈ WALL := wall_t (tw_1 _ (List.mem_of_getElem? (i := 4) (by decide +kernel))) rfl
theorem wd_700 : (Cond.methodLink RX6 25 yX8_copyFrom : Cond) ∈ WALL := wall_t (tw_3 _ (List.mem_of_getElem? (i := 108) (by decide +kernel))) rfl
theorem wd_701 : (Cond.instanceMethod yX8_copyFrom : Cond) ∈ WALL := wall_t (tw_3 _ (List.mem_of_getElem? (i := 109) (by decide +kernel))) rfl
theorem wd_702 : (Cond.selects RX8 yX8_copyFrom yX8_copyFrom : Cond) ∈ WALL := wall_t (tw_3 _ (List.mem_of_getElem? (i := 110) (by decide +kernel))) rfl
theorem wd_695 : (Cond.code yX6_push cX6_push 2 none : Cond) ∈ WALL := wall_t (tw_3 _ (List.mem_of_getElem? (i := 103) (by rfl))) rfl
theorem wd_1483 : (Cond.code yX6_pop cX6_pop 2 none : Cond) ∈ WALL := wall_t (tw_6 _ (List.mem_of_getElem? (i := 171) (by rfl))) rfl
theorem wd_419 : (Cond.code yX7_init cX7_init 1 none : Cond) ∈ WALL := wall_t (tw_2 _ (List.mem_of_getElem? (i := 67) (by rfl))) rfl
theorem wd_420 : (Cond.methodLink RX7 3 objectInit : Cond) ∈ WALL := wall_t (tw_2 _ (List.mem_of_getElem? (i := 68) (by decide +kernel))) rfl
theorem wd_421 : (Cond.fieldLink RX7 9 "ParetoDesk$Search" "from" "[I" : Cond) ∈ WALL := wall_t (tw_2 _ (List.mem_of_getElem? (i := 69) (by decide +kernel))) rfl
theorem wd_423 : (Cond.fieldLink RX7 15 "ParetoDesk$Search" "to" "[I" : Cond) ∈ WALL := wall_t (tw_2 _ (List.mem_of_getElem? (i := 71) (by decide +kernel))) rfl
theorem wd_425 : (Cond.fieldLink RX7 18 "ParetoDesk$Search" "found" "[I" : Cond) ∈ WALL := wall_t (tw_2 _ (List.mem_of_getElem? (i := 73) (by decide +kernel))) rfl
theorem wd_847 : (Cond.code yX7_enqueue cX7_enqueue 3 none : Cond) ∈ WALL := wall_t (tw_4 _ (List.mem_of_getElem? (i := 15) (by rfl))) rfl
theorem wd_427 : (Cond.fieldLink RX7 21 "ParetoDesk$Search" "count" "I" : Cond) ∈ WALL := wall_t (tw_2 _ (List.mem_of_getElem? (i := 75) (by decide +kernel))) rfl
theorem wd_850 : (Cond.code yX7_findAbove cX7_findAbove 7 (some .int) : Cond) ∈ WALL := wall_t (tw_4 _ (List.mem_of_getElem? (i := 18) (by rfl))) rfl
theorem wd_851 : (Cond.methodLink RX7 38 yX2_joyLost : Cond) ∈ WALL := wall_t (tw_4 _ (List.mem_of_getElem? (i := 19) (by decide +kernel))) rfl
theorem wd_852 : (Cond.methodLink RX7 42 yX2_gainWon : Cond) ∈ WALL := wall_t (tw_4 _ (List.mem_of_getElem? (i := 20) (by decide +kernel))) rfl
theorem wd_853 : (Cond.methodLink RX7 45 yX2_greatestBy : Cond) ∈ WALL := wall_t (tw_4 _ (List.mem_of_getElem? (i := 21) (by decide +kernel))) rfl
theorem wd_854 : (Cond.instanceMethod yX2_greatestBy : Cond) ∈ WALL := wall_t (tw_4 _ (List.mem_of_getElem? (i := 22) (by decide +kernel))) rfl
theorem wd_855 : (Cond.selects RX2 yX2_greatestBy yX2_greatestBy : Cond) ∈ WALL := wall_t (tw_4 _ (List.mem_of_getElem? (i := 23) (by decide +kernel))) rfl
theorem wd_861 : (Cond.methodLink RX7 48 yX2_valueOf : Cond) ∈ WALL := wall_t (tw_4 _ (List.mem_of_getElem? (i := 29) (by decide +kernel))) rfl
theorem wd_379 : (Cond.fieldLink RX7 25 "ParetoDesk$Frontier" "size" "I" : Cond) ∈ WALL := wall_t (tw_2 _ (List.mem_of_getElem? (i := 27) (by decide +kernel))) rfl
theorem wd_844 : (Cond.methodLink RX7 30 yX7_enqueue : Cond) ∈ WALL := wall_t (tw_4 _ (List.mem_of_getElem? (i := 12) (by decide +kernel))) rfl
theorem wd_846 : (Cond.instanceMethod yX7_enqueue : Cond) ∈ WALL := wall_t (tw_4 _ (List.mem_of_getElem? (i := 14) (by decide +kernel))) rfl
theorem wd_24 : (Cond.selects RX7 yX7_enqueue yX7_enqueue : Cond) ∈ WALL := wall_at (i := 24) (by decide +kernel) rfl
theorem wd_121 : (Cond.initialized RX7 : Cond) ∈ WALL := wall_t (tw_1 _ (List.mem_of_getElem? (i := 9) (by decide +kernel))) rfl
theorem wd_848 : (Cond.methodLink RX7 34 yX7_findAbove : Cond) ∈ WALL := wall_t (tw_4 _ (List.mem_of_getElem? (i := 16) (by decide +kernel))) rfl
theorem wd_849 : (Cond.static yX7_findAbove : Cond) ∈ WALL := wall_t (tw_4 _ (List.mem_of_getElem? (i := 17) (by decide +kernel))) rfl
theorem wd_843 : (Cond.code yX7_run cX7_run 3 none : Cond) ∈ WALL := wall_t (tw_4 _ (List.mem_of_getElem? (i := 11) (by rfl))) rfl
theorem wd_1098 : (Cond.code yX8_hasItem cX8_hasItem 2 (some .boolean) : Cond) ∈ WALL := wall_t (tw_5 _ (List.mem_of_getElem? (i := 26) (by rfl))) rfl
theorem wd_887 : (Cond.code yX8_everyItem cX8_everyItem 1 (some .int) : Cond) ∈ WALL := wall_t (tw_4 _ (List.mem_of_getElem? (i := 55) (by rfl))) rfl
theorem wd_1081 : (Cond.code yX8_countBits cX8_countBits 4 (some .int) : Cond) ∈ WALL := wall_t (tw_5 _ (List.mem_of_getElem? (i := 9) (by rfl))) rfl
theorem wd_1082 : (Cond.methodLink RX8 37 yJ6_bitCount_0f7a4 : Cond) ∈ WALL := wall_t (tw_5 _ (List.mem_of_getElem? (i := 10) (by decide +kernel))) rfl
theorem wd_1349 : (Cond.code yX8_withoutPlace cX8_withoutPlace 4 (some .int) : Cond) ∈ WALL := wall_t (tw_6 _ (List.mem_of_getElem? (i := 37) (by rfl))) rfl
theorem wd_1346 : (Cond.code yX8_drop cX8_drop 3 none : Cond) ∈ WALL := wall_t (tw_6 _ (List.mem_of_getElem? (i := 34) (by rfl))) rfl
theorem wd_1347 : (Cond.methodLink RX8 58 yX8_withoutPlace : Cond) ∈ WALL := wall_t (tw_6 _ (List.mem_of_getElem? (i := 35) (by decide +kernel))) rfl
theorem wd_1348 : (Cond.static yX8_withoutPlace : Cond) ∈ WALL := wall_t (tw_6 _ (List.mem_of_getElem? (i := 36) (by decide +kernel))) rfl
theorem wd_345 : (Cond.code yX9_init cX9_init 1 none : Cond) ∈ WALL := wall_t (tw_1 _ (List.mem_of_getElem? (i := 233) (by rfl))) rfl
theorem wd_346 : (Cond.methodLink RX9 3 objectInit : Cond) ∈ WALL := wall_t (tw_1 _ (List.mem_of_getElem? (i := 234) (by decide +kernel))) rfl
theorem wd_754 : (Cond.code yX9_keepGreatest cX9_keepGreatest 3 none : Cond) ∈ WALL := wall_t (tw_3 _ (List.mem_of_getElem? (i := 162) (by rfl))) rfl
theorem wd_758 : (Cond.code yX9_dropBeaten cX9_dropBeaten 3 none : Cond) ∈ WALL := wall_t (tw_3 _ (List.mem_of_getElem? (i := 166) (by rfl))) rfl
theorem wd_350 : (Cond.fieldLink RX9 21 "ParetoDesk$Stairs" "allowedCount" "I" : Cond) ∈ WALL := wall_t (tw_1 _ (List.mem_of_getElem? (i := 238) (by decide +kernel))) rfl
theorem wd_315 : (Cond.fieldLink RX9 25 "ParetoDesk$Choices" "sets" "I" : Cond) ∈ WALL := wall_t (tw_1 _ (List.mem_of_getElem? (i := 203) (by decide +kernel))) rfl
theorem wd_302 : (Cond.fieldLink RX9 34 "ParetoDesk$Choices" "gain" "[I" : Cond) ∈ WALL := wall_t (tw_1 _ (List.mem_of_getElem? (i := 190) (by decide +kernel))) rfl
theorem wd_308 : (Cond.fieldLink RX9 37 "ParetoDesk$Choices" "joy" "[I" : Cond) ∈ WALL := wall_t (tw_1 _ (List.mem_of_getElem? (i := 196) (by decide +kernel))) rfl
theorem wd_734 : (Cond.methodLink RX9 15 yJ7_fill_53178 : Cond) ∈ WALL := wall_t (tw_3 _ (List.mem_of_getElem? (i := 142) (by decide +kernel))) rfl
theorem wd_737 : (Cond.methodLink RX9 30 yX0_reason : Cond) ∈ WALL := wall_t (tw_3 _ (List.mem_of_getElem? (i := 145) (by decide +kernel))) rfl
theorem wd_751 : (Cond.methodLink RX9 40 yX9_keepGreatest : Cond) ∈ WALL := wall_t (tw_3 _ (List.mem_of_getElem? (i := 159) (by decide +kernel))) rfl
theorem wd_753 : (Cond.instanceMethod yX9_keepGreatest : Cond) ∈ WALL := wall_t (tw_3 _ (List.mem_of_getElem? (i := 161) (by decide +kernel))) rfl
theorem wd_16 : (Cond.selects RX9 yX9_keepGreatest yX9_keepGreatest : Cond) ∈ WALL := wall_at (i := 16) (by decide +kernel) rfl
theorem wd_755 : (Cond.methodLink RX9 44 yX9_dropBeaten : Cond) ∈ WALL := wall_t (tw_3 _ (List.mem_of_getElem? (i := 163) (by decide +kernel))) rfl
theorem wd_757 : (Cond.instanceMethod yX9_dropBeaten : Cond) ∈ WALL := wall_t (tw_3 _ (List.mem_of_getElem? (i := 165) (by decide +kernel))) rfl
theorem wd_17 : (Cond.selects RX9 yX9_dropBeaten yX9_dropBeaten : Cond) ∈ WALL := wall_at (i := 17) (by decide +kernel) rfl
theorem wd_733 : (Cond.code yX9_build cX9_build 5 none : Cond) ∈ WALL := wall_t (tw_3 _ (List.mem_of_getElem? (i := 141) (by rfl))) rfl
theorem wd_1272 : (Cond.code yX9_countCorners cX9_countCorners 3 (some .int) : Cond) ∈ WALL := wall_t (tw_5 _ (List.mem_of_getElem? (i := 200) (by rfl))) rfl
theorem wd_145 : (Cond.methodLink RX10 3 objectInit : Cond) ∈ WALL := wall_t (tw_1 _ (List.mem_of_getElem? (i := 33) (by decide +kernel))) rfl
theorem wd_493 : (Cond.fieldLink RX10 9 "ParetoDesk" "input" "[B" : Cond) ∈ WALL := wall_t (tw_2 _ (List.mem_of_getElem? (i := 141) (by decide +kernel))) rfl
theorem wd_148 : (Cond.classLink RX10 13 RX5 : Cond) ∈ WALL := wall_t (tw_1 _ (List.mem_of_getElem? (i := 36) (by decide +kernel))) rfl
theorem wd_149 : (Cond.instantiable RX5 9 : Cond) ∈ WALL := wall_t (tw_1 _ (List.mem_of_getElem? (i := 37) (by decide +kernel))) rfl
theorem wd_495 : (Cond.fieldLink RX10 16 "ParetoDesk" "parser" "LParetoDesk$Parser;" : Cond) ∈ WALL := wall_t (tw_2 _ (List.mem_of_getElem? (i := 143) (by decide +kernel))) rfl
theorem wd_497 : (Cond.fieldLink RX10 20 "ParetoDesk" "parsePosition" "I" : Cond) ∈ WALL := wall_t (tw_2 _ (List.mem_of_getElem? (i := 145) (by decide +kernel))) rfl
theorem wd_257 : (Cond.classLink RX10 24 RX8 : Cond) ∈ WALL := wall_t (tw_1 _ (List.mem_of_getElem? (i := 145) (by decide +kernel))) rfl
theorem wd_498 : (Cond.fieldLink RX10 27 "ParetoDesk" "now" "LParetoDesk$Setup;" : Cond) ∈ WALL := wall_t (tw_2 _ (List.mem_of_getElem? (i := 146) (by decide +kernel))) rfl
theorem wd_259 : (Cond.classLink RX10 31 RX6 : Cond) ∈ WALL := wall_t (tw_1 _ (List.mem_of_getElem? (i := 147) (by decide +kernel))) rfl
theorem wd_260 : (Cond.instantiable RX6 2 : Cond) ∈ WALL := wall_t (tw_1 _ (List.mem_of_getElem? (i := 148) (by decide +kernel))) rfl
theorem wd_499 : (Cond.fieldLink RX10 34 "ParetoDesk" "past" "LParetoDesk$Past;" : Cond) ∈ WALL := wall_t (tw_2 _ (List.mem_of_getElem? (i := 147) (by decide +kernel))) rfl
theorem wd_500 : (Cond.fieldLink RX10 38 "ParetoDesk" "slots" "[LParetoDesk$Setup;" : Cond) ∈ WALL := wall_t (tw_2 _ (List.mem_of_getElem? (i := 148) (by decide +kernel))) rfl
theorem wd_501 : (Cond.fieldLink RX10 42 "ParetoDesk" "slotUsed" "[Z" : Cond) ∈ WALL := wall_t (tw_2 _ (List.mem_of_getElem? (i := 149) (by decide +kernel))) rfl
theorem wd_276 : (Cond.classLink RX10 46 RX4 : Cond) ∈ WALL := wall_t (tw_1 _ (List.mem_of_getElem? (i := 164) (by decide +kernel))) rfl
theorem wd_277 : (Cond.instantiable RX4 2 : Cond) ∈ WALL := wall_t (tw_1 _ (List.mem_of_getElem? (i := 165) (by decide +kernel))) rfl
theorem wd_502 : (Cond.fieldLink RX10 49 "ParetoDesk" "output" "LParetoDesk$Output;" : Cond) ∈ WALL := wall_t (tw_2 _ (List.mem_of_getElem? (i := 150) (by decide +kernel))) rfl
theorem wd_292 : (Cond.classLink RX10 53 RX0 : Cond) ∈ WALL := wall_t (tw_1 _ (List.mem_of_getElem? (i := 180) (by decide +kernel))) rfl
theorem wd_293 : (Cond.instantiable RX0 9 : Cond) ∈ WALL := wall_t (tw_1 _ (List.mem_of_getElem? (i := 181) (by decide +kernel))) rfl
theorem wd_503 : (Cond.fieldLink RX10 56 "ParetoDesk" "choices" "LParetoDesk$Choices;" : Cond) ∈ WALL := wall_t (tw_2 _ (List.mem_of_getElem? (i := 151) (by decide +kernel))) rfl
theorem wd_341 : (Cond.classLink RX10 60 RX9 : Cond) ∈ WALL := wall_t (tw_1 _ (List.mem_of_getElem? (i := 229) (by decide +kernel))) rfl
theorem wd_342 : (Cond.instantiable RX9 2 : Cond) ∈ WALL := wall_t (tw_1 _ (List.mem_of_getElem? (i := 230) (by decide +kernel))) rfl
theorem wd_504 : (Cond.fieldLink RX10 63 "ParetoDesk" "stairs" "LParetoDesk$Stairs;" : Cond) ∈ WALL := wall_t (tw_2 _ (List.mem_of_getElem? (i := 152) (by decide +kernel))) rfl
theorem wd_357 : (Cond.classLink RX10 67 RX2 : Cond) ∈ WALL := wall_t (tw_2 _ (List.mem_of_getElem? (i := 5) (by decide +kernel))) rfl
theorem wd_358 : (Cond.instantiable RX2 13 : Cond) ∈ WALL := wall_t (tw_2 _ (List.mem_of_getElem? (i := 6) (by decide +kernel))) rfl
theorem wd_505 : (Cond.fieldLink RX10 70 "ParetoDesk" "frontier" "LParetoDesk$Frontier;" : Cond) ∈ WALL := wall_t (tw_2 _ (List.mem_of_getElem? (i := 153) (by decide +kernel))) rfl
theorem wd_415 : (Cond.classLink RX10 74 RX7 : Cond) ∈ WALL := wall_t (tw_2 _ (List.mem_of_getElem? (i := 63) (by decide +kernel))) rfl
theorem wd_416 : (Cond.instantiable RX7 4 : Cond) ∈ WALL := wall_t (tw_2 _ (List.mem_of_getElem? (i := 64) (by decide +kernel))) rfl
theorem wd_506 : (Cond.fieldLink RX10 77 "ParetoDesk" "search" "LParetoDesk$Search;" : Cond) ∈ WALL := wall_t (tw_2 _ (List.mem_of_getElem? (i := 154) (by decide +kernel))) rfl
theorem wd_438 : (Cond.classLink RX10 81 RX3 : Cond) ∈ WALL := wall_t (tw_2 _ (List.mem_of_getElem? (i := 86) (by decide +kernel))) rfl
theorem wd_439 : (Cond.instantiable RX3 8 : Cond) ∈ WALL := wall_t (tw_2 _ (List.mem_of_getElem? (i := 87) (by decide +kernel))) rfl
theorem wd_507 : (Cond.fieldLink RX10 84 "ParetoDesk" "layering" "LParetoDesk$Layers;" : Cond) ∈ WALL := wall_t (tw_2 _ (List.mem_of_getElem? (i := 155) (by decide +kernel))) rfl
theorem wd_472 : (Cond.classLink RX10 88 RX1 : Cond) ∈ WALL := wall_t (tw_2 _ (List.mem_of_getElem? (i := 120) (by decide +kernel))) rfl
theorem wd_473 : (Cond.instantiable RX1 4 : Cond) ∈ WALL := wall_t (tw_2 _ (List.mem_of_getElem? (i := 121) (by decide +kernel))) rfl
theorem wd_508 : (Cond.fieldLink RX10 91 "ParetoDesk" "climber" "LParetoDesk$Climber;" : Cond) ∈ WALL := wall_t (tw_2 _ (List.mem_of_getElem? (i := 156) (by decide +kernel))) rfl
theorem wd_151 : (Cond.instanceMethod yX5_init : Cond) ∈ WALL := wall_t (tw_1 _ (List.mem_of_getElem? (i := 39) (by decide +kernel))) rfl
theorem wd_261 : (Cond.methodLink RX10 33 yX6_init : Cond) ∈ WALL := wall_t (tw_1 _ (List.mem_of_getElem? (i := 149) (by decide +kernel))) rfl
theorem wd_262 : (Cond.instanceMethod yX6_init : Cond) ∈ WALL := wall_t (tw_1 _ (List.mem_of_getElem? (i := 150) (by decide +kernel))) rfl
theorem wd_279 : (Cond.instanceMethod yX4_init : Cond) ∈ WALL := wall_t (tw_1 _ (List.mem_of_getElem? (i := 167) (by decide +kernel))) rfl
theorem wd_295 : (Cond.instanceMethod yX0_init : Cond) ∈ WALL := wall_t (tw_1 _ (List.mem_of_getElem? (i := 183) (by decide +kernel))) rfl
theorem wd_344 : (Cond.instanceMethod yX9_init : Cond) ∈ WALL := wall_t (tw_1 _ (List.mem_of_getElem? (i := 232) (by decide +kernel))) rfl
theorem wd_360 : (Cond.instanceMethod yX2_init : Cond) ∈ WALL := wall_t (tw_2 _ (List.mem_of_getElem? (i := 8) (by decide +kernel))) rfl
theorem wd_418 : (Cond.instanceMethod yX7_init : Cond) ∈ WALL := wall_t (tw_2 _ (List.mem_of_getElem? (i := 66) (by decide +kernel))) rfl
theorem wd_441 : (Cond.instanceMethod yX3_init : Cond) ∈ WALL := wall_t (tw_2 _ (List.mem_of_getElem? (i := 89) (by decide +kernel))) rfl
theorem wd_475 : (Cond.instanceMethod yX1_init : Cond) ∈ WALL := wall_t (tw_2 _ (List.mem_of_getElem? (i := 123) (by decide +kernel))) rfl
theorem wd_144 : (Cond.code yX10_init cX10_init 2 none : Cond) ∈ WALL := wall_t (tw_1 _ (List.mem_of_getElem? (i := 32) (by rfl))) rfl
theorem wd_1042 : (Cond.code yX10_putInput cX10_putInput 3 none : Cond) ∈ WALL := wall_t (tw_4 _ (List.mem_of_getElem? (i := 210) (by rfl))) rfl
theorem wd_494 : (Cond.fieldLink RX10 95 "ParetoDesk" "inputLength" "I" : Cond) ∈ WALL := wall_t (tw_2 _ (List.mem_of_getElem? (i := 142) (by decide +kernel))) rfl
theorem wd_970 : (Cond.code yX10_append cX10_append 6 (some .int) : Cond) ∈ WALL := wall_t (tw_4 _ (List.mem_of_getElem? (i := 138) (by rfl))) rfl
theorem wd_971 : (Cond.classLink RX10 98 "java/lang/IllegalStateException" : Cond) ∈ WALL := wall_t (tw_4 _ (List.mem_of_getElem? (i := 139) (by decide +kernel))) rfl
theorem wd_128 : (Cond.initialized "java/lang/IllegalStateException" : Cond) ∈ WALL := wall_t (tw_1 _ (List.mem_of_getElem? (i := 16) (by decide +kernel))) rfl
theorem wd_1039 : (Cond.methodLink RX10 105 yX10_putInput : Cond) ∈ WALL := wall_t (tw_4 _ (List.mem_of_getElem? (i := 207) (by decide +kernel))) rfl
theorem wd_1041 : (Cond.instanceMethod yX10_putInput : Cond) ∈ WALL := wall_t (tw_4 _ (List.mem_of_getElem? (i := 209) (by decide +kernel))) rfl
theorem wd_32 : (Cond.selects RX10 yX10_putInput yX10_putInput : Cond) ∈ WALL := wall_at (i := 32) (by decide +kernel) rfl
theorem wd_1050 : (Cond.code yX10_truncate cX10_truncate 2 none : Cond) ∈ WALL := wall_t (tw_4 _ (List.mem_of_getElem? (i := 218) (by rfl))) rfl
theorem wd_1051 : (Cond.classLink RX10 109 "java/lang/IllegalArgumentException" : Cond) ∈ WALL := wall_t (tw_4 _ (List.mem_of_getElem? (i := 219) (by decide +kernel))) rfl
theorem wd_129 : (Cond.initialized "java/lang/IllegalArgumentException" : Cond) ∈ WALL := wall_t (tw_1 _ (List.mem_of_getElem? (i := 17) (by decide +kernel))) rfl
theorem wd_709 : (Cond.code yX10_markChanged cX10_markChanged 1 none : Cond) ∈ WALL := wall_t (tw_3 _ (List.mem_of_getElem? (i := 117) (by rfl))) rfl
theorem wd_509 : (Cond.fieldLink RX10 395 "ParetoDesk" "frontierFresh" "Z" : Cond) ∈ WALL := wall_t (tw_2 _ (List.mem_of_getElem? (i := 157) (by decide +kernel))) rfl
theorem wd_510 : (Cond.fieldLink RX10 399 "ParetoDesk" "searchFresh" "Z" : Cond) ∈ WALL := wall_t (tw_2 _ (List.mem_of_getElem? (i := 158) (by decide +kernel))) rfl
theorem wd_511 : (Cond.fieldLink RX10 402 "ParetoDesk" "layersFresh" "Z" : Cond) ∈ WALL := wall_t (tw_2 _ (List.mem_of_getElem? (i := 159) (by decide +kernel))) rfl
theorem wd_229 : (Cond.fieldLink RX10 118 "ParetoDesk$Parser" "code" "I" : Cond) ∈ WALL := wall_t (tw_1 _ (List.mem_of_getElem? (i := 117) (by decide +kernel))) rfl
theorem wd_496 : (Cond.fieldLink RX10 121 "ParetoDesk" "parseCode" "I" : Cond) ∈ WALL := wall_t (tw_2 _ (List.mem_of_getElem? (i := 144) (by decide +kernel))) rfl
theorem wd_231 : (Cond.fieldLink RX10 124 "ParetoDesk$Parser" "place" "I" : Cond) ∈ WALL := wall_t (tw_1 _ (List.mem_of_getElem? (i := 119) (by decide +kernel))) rfl
theorem wd_227 : (Cond.fieldLink RX10 131 "ParetoDesk$Parser" "draft" "LParetoDesk$Setup;" : Cond) ∈ WALL := wall_t (tw_1 _ (List.mem_of_getElem? (i := 115) (by decide +kernel))) rfl
theorem wd_163 : (Cond.fieldLink RX10 140 "ParetoDesk$Setup" "items" "I" : Cond) ∈ WALL := wall_t (tw_1 _ (List.mem_of_getElem? (i := 51) (by decide +kernel))) rfl
theorem wd_555 : (Cond.methodLink RX10 114 yX5_parse : Cond) ∈ WALL := wall_t (tw_2 _ (List.mem_of_getElem? (i := 203) (by decide +kernel))) rfl
theorem wd_556 : (Cond.instanceMethod yX5_parse : Cond) ∈ WALL := wall_t (tw_2 _ (List.mem_of_getElem? (i := 204) (by decide +kernel))) rfl
theorem wd_557 : (Cond.selects RX5 yX5_parse yX5_parse : Cond) ∈ WALL := wall_t (tw_2 _ (List.mem_of_getElem? (i := 205) (by decide +kernel))) rfl
theorem wd_692 : (Cond.methodLink RX10 127 yX6_push : Cond) ∈ WALL := wall_t (tw_3 _ (List.mem_of_getElem? (i := 100) (by decide +kernel))) rfl
theorem wd_693 : (Cond.instanceMethod yX6_push : Cond) ∈ WALL := wall_t (tw_3 _ (List.mem_of_getElem? (i := 101) (by decide +kernel))) rfl
theorem wd_694 : (Cond.selects RX6 yX6_push yX6_push : Cond) ∈ WALL := wall_t (tw_3 _ (List.mem_of_getElem? (i := 102) (by decide +kernel))) rfl
theorem wd_705 : (Cond.methodLink RX10 134 yX8_copyFrom : Cond) ∈ WALL := wall_t (tw_3 _ (List.mem_of_getElem? (i := 113) (by decide +kernel))) rfl
theorem wd_706 : (Cond.methodLink RX10 137 yX10_markChanged : Cond) ∈ WALL := wall_t (tw_3 _ (List.mem_of_getElem? (i := 114) (by decide +kernel))) rfl
theorem wd_708 : (Cond.instanceMethod yX10_markChanged : Cond) ∈ WALL := wall_t (tw_3 _ (List.mem_of_getElem? (i := 116) (by decide +kernel))) rfl
theorem wd_13 : (Cond.selects RX10 yX10_markChanged yX10_markChanged : Cond) ∈ WALL := wall_at (i := 13) (by decide +kernel) rfl
theorem wd_554 : (Cond.code yX10_load cX10_load 2 (some .int) : Cond) ∈ WALL := wall_t (tw_2 _ (List.mem_of_getElem? (i := 202) (by rfl))) rfl
theorem wd_713 : (Cond.code yX10_errorCode cX10_errorCode 1 (some .int) : Cond) ∈ WALL := wall_t (tw_3 _ (List.mem_of_getElem? (i := 121) (by rfl))) rfl
theorem wd_717 : (Cond.code yX10_errorPosition cX10_errorPosition 1 (some .int) : Cond) ∈ WALL := wall_t (tw_3 _ (List.mem_of_getElem? (i := 125) (by rfl))) rfl
theorem wd_1076 : (Cond.code yX10_requireWhat cX10_requireWhat 2 none : Cond) ∈ WALL := wall_t (tw_5 _ (List.mem_of_getElem? (i := 4) (by rfl))) rfl
theorem wd_167 : (Cond.fieldLink RX10 147 "ParetoDesk$Setup" "capacity" "I" : Cond) ∈ WALL := wall_t (tw_1 _ (List.mem_of_getElem? (i := 55) (by decide +kernel))) rfl
theorem wd_171 : (Cond.fieldLink RX10 150 "ParetoDesk$Setup" "limit" "I" : Cond) ∈ WALL := wall_t (tw_1 _ (List.mem_of_getElem? (i := 59) (by decide +kernel))) rfl
theorem wd_195 : (Cond.fieldLink RX10 153 "ParetoDesk$Setup" "bars" "[I" : Cond) ∈ WALL := wall_t (tw_1 _ (List.mem_of_getElem? (i := 83) (by decide +kernel))) rfl
theorem wd_199 : (Cond.fieldLink RX10 161 "ParetoDesk$Setup" "needs" "[I" : Cond) ∈ WALL := wall_t (tw_1 _ (List.mem_of_getElem? (i := 87) (by decide +kernel))) rfl
theorem wd_175 : (Cond.fieldLink RX10 164 "ParetoDesk$Setup" "mustSet" "I" : Cond) ∈ WALL := wall_t (tw_1 _ (List.mem_of_getElem? (i := 63) (by decide +kernel))) rfl
theorem wd_179 : (Cond.fieldLink RX10 167 "ParetoDesk$Setup" "neverSet" "I" : Cond) ∈ WALL := wall_t (tw_1 _ (List.mem_of_getElem? (i := 67) (by decide +kernel))) rfl
theorem wd_183 : (Cond.fieldLink RX10 170 "ParetoDesk$Setup" "hand" "I" : Cond) ∈ WALL := wall_t (tw_1 _ (List.mem_of_getElem? (i := 71) (by decide +kernel))) rfl
theorem wd_1074 : (Cond.methodLink RX10 143 yX10_requireWhat : Cond) ∈ WALL := wall_t (tw_5 _ (List.mem_of_getElem? (i := 2) (by decide +kernel))) rfl
theorem wd_1075 : (Cond.static yX10_requireWhat : Cond) ∈ WALL := wall_t (tw_5 _ (List.mem_of_getElem? (i := 3) (by decide +kernel))) rfl
theorem wd_1078 : (Cond.methodLink RX10 157 yX8_countBits : Cond) ∈ WALL := wall_t (tw_5 _ (List.mem_of_getElem? (i := 6) (by decide +kernel))) rfl
theorem wd_1079 : (Cond.instanceMethod yX8_countBits : Cond) ∈ WALL := wall_t (tw_5 _ (List.mem_of_getElem? (i := 7) (by decide +kernel))) rfl
theorem wd_1080 : (Cond.selects RX8 yX8_countBits yX8_countBits : Cond) ∈ WALL := wall_t (tw_5 _ (List.mem_of_getElem? (i := 8) (by decide +kernel))) rfl
theorem wd_1073 : (Cond.code yX10_property cX10_property 2 (some .int) : Cond) ∈ WALL := wall_t (tw_5 _ (List.mem_of_getElem? (i := 1) (by rfl))) rfl
theorem wd_1094 : (Cond.code yX10_requireItem cX10_requireItem 2 none : Cond) ∈ WALL := wall_t (tw_5 _ (List.mem_of_getElem? (i := 22) (by rfl))) rfl
theorem wd_1099 : (Cond.classLink RX10 240 "java/lang/IndexOutOfBoundsException" : Cond) ∈ WALL := wall_t (tw_5 _ (List.mem_of_getElem? (i := 27) (by decide +kernel))) rfl
theorem wd_137 : (Cond.initialized "java/lang/IndexOutOfBoundsException" : Cond) ∈ WALL := wall_t (tw_1 _ (List.mem_of_getElem? (i := 25) (by decide +kernel))) rfl
theorem wd_1095 : (Cond.methodLink RX10 416 yX8_hasItem : Cond) ∈ WALL := wall_t (tw_5 _ (List.mem_of_getElem? (i := 23) (by decide +kernel))) rfl
theorem wd_1096 : (Cond.instanceMethod yX8_hasItem : Cond) ∈ WALL := wall_t (tw_5 _ (List.mem_of_getElem? (i := 24) (by decide +kernel))) rfl
theorem wd_1097 : (Cond.selects RX8 yX8_hasItem yX8_hasItem : Cond) ∈ WALL := wall_t (tw_5 _ (List.mem_of_getElem? (i := 25) (by decide +kernel))) rfl
theorem wd_1090 : (Cond.code yX10_item cX10_item 3 (some .int) : Cond) ∈ WALL := wall_t (tw_5 _ (List.mem_of_getElem? (i := 18) (by rfl))) rfl
theorem wd_186 : (Cond.fieldLink RX10 176 "ParetoDesk$Setup" "weight" "[I" : Cond) ∈ WALL := wall_t (tw_1 _ (List.mem_of_getElem? (i := 74) (by decide +kernel))) rfl
theorem wd_189 : (Cond.fieldLink RX10 179 "ParetoDesk$Setup" "gain" "[I" : Cond) ∈ WALL := wall_t (tw_1 _ (List.mem_of_getElem? (i := 77) (by decide +kernel))) rfl
theorem wd_192 : (Cond.fieldLink RX10 182 "ParetoDesk$Setup" "joy" "[I" : Cond) ∈ WALL := wall_t (tw_1 _ (List.mem_of_getElem? (i := 80) (by decide +kernel))) rfl
theorem wd_1091 : (Cond.methodLink RX10 173 yX10_requireItem : Cond) ∈ WALL := wall_t (tw_5 _ (List.mem_of_getElem? (i := 19) (by decide +kernel))) rfl
theorem wd_1093 : (Cond.instanceMethod yX10_requireItem : Cond) ∈ WALL := wall_t (tw_5 _ (List.mem_of_getElem? (i := 21) (by decide +kernel))) rfl
theorem wd_33 : (Cond.selects RX10 yX10_requireItem yX10_requireItem : Cond) ∈ WALL := wall_at (i := 33) (by decide +kernel) rfl
theorem wd_1125 : (Cond.code yX10_requireSet cX10_requireSet 2 none : Cond) ∈ WALL := wall_t (tw_5 _ (List.mem_of_getElem? (i := 53) (by rfl))) rfl
theorem wd_884 : (Cond.methodLink RX10 282 yX8_everyItem : Cond) ∈ WALL := wall_t (tw_4 _ (List.mem_of_getElem? (i := 52) (by decide +kernel))) rfl
theorem wd_885 : (Cond.instanceMethod yX8_everyItem : Cond) ∈ WALL := wall_t (tw_4 _ (List.mem_of_getElem? (i := 53) (by decide +kernel))) rfl
theorem wd_886 : (Cond.selects RX8 yX8_everyItem yX8_everyItem : Cond) ∈ WALL := wall_t (tw_4 _ (List.mem_of_getElem? (i := 54) (by decide +kernel))) rfl
theorem wd_726 : (Cond.methodLink RX10 405 yX0_build : Cond) ∈ WALL := wall_t (tw_3 _ (List.mem_of_getElem? (i := 134) (by decide +kernel))) rfl
theorem wd_727 : (Cond.instanceMethod yX0_build : Cond) ∈ WALL := wall_t (tw_3 _ (List.mem_of_getElem? (i := 135) (by decide +kernel))) rfl
theorem wd_728 : (Cond.selects RX0 yX0_build yX0_build : Cond) ∈ WALL := wall_t (tw_3 _ (List.mem_of_getElem? (i := 136) (by decide +kernel))) rfl
theorem wd_730 : (Cond.methodLink RX10 290 yX9_build : Cond) ∈ WALL := wall_t (tw_3 _ (List.mem_of_getElem? (i := 138) (by decide +kernel))) rfl
theorem wd_731 : (Cond.instanceMethod yX9_build : Cond) ∈ WALL := wall_t (tw_3 _ (List.mem_of_getElem? (i := 139) (by decide +kernel))) rfl
theorem wd_732 : (Cond.selects RX9 yX9_build yX9_build : Cond) ∈ WALL := wall_t (tw_3 _ (List.mem_of_getElem? (i := 140) (by decide +kernel))) rfl
theorem wd_759 : (Cond.methodLink RX10 407 yX2_build : Cond) ∈ WALL := wall_t (tw_3 _ (List.mem_of_getElem? (i := 167) (by decide +kernel))) rfl
theorem wd_760 : (Cond.instanceMethod yX2_build : Cond) ∈ WALL := wall_t (tw_3 _ (List.mem_of_getElem? (i := 168) (by decide +kernel))) rfl
theorem wd_761 : (Cond.selects RX2 yX2_build yX2_build : Cond) ∈ WALL := wall_t (tw_3 _ (List.mem_of_getElem? (i := 169) (by decide +kernel))) rfl
theorem wd_725 : (Cond.code yX10_refreshFrontier cX10_refreshFrontier 1 none : Cond) ∈ WALL := wall_t (tw_3 _ (List.mem_of_getElem? (i := 133) (by rfl))) rfl
theorem wd_1122 : (Cond.methodLink RX10 185 yX10_requireSet : Cond) ∈ WALL := wall_t (tw_5 _ (List.mem_of_getElem? (i := 50) (by decide +kernel))) rfl
theorem wd_1124 : (Cond.instanceMethod yX10_requireSet : Cond) ∈ WALL := wall_t (tw_5 _ (List.mem_of_getElem? (i := 52) (by decide +kernel))) rfl
theorem wd_34 : (Cond.selects RX10 yX10_requireSet yX10_requireSet : Cond) ∈ WALL := wall_at (i := 34) (by decide +kernel) rfl
theorem wd_722 : (Cond.methodLink RX10 188 yX10_refreshFrontier : Cond) ∈ WALL := wall_t (tw_3 _ (List.mem_of_getElem? (i := 130) (by decide +kernel))) rfl
theorem wd_724 : (Cond.instanceMethod yX10_refreshFrontier : Cond) ∈ WALL := wall_t (tw_3 _ (List.mem_of_getElem? (i := 132) (by decide +kernel))) rfl
theorem wd_14 : (Cond.selects RX10 yX10_refreshFrontier yX10_refreshFrontier : Cond) ∈ WALL := wall_at (i := 14) (by decide +kernel) rfl
theorem wd_1127 : (Cond.methodLink RX10 191 yX0_reason : Cond) ∈ WALL := wall_t (tw_5 _ (List.mem_of_getElem? (i := 55) (by decide +kernel))) rfl
theorem wd_1121 : (Cond.code yX10_refusal cX10_refusal 2 (some .int) : Cond) ∈ WALL := wall_t (tw_5 _ (List.mem_of_getElem? (i := 49) (by rfl))) rfl
theorem wd_300 : (Cond.fieldLink RX10 195 "ParetoDesk$Choices" "weight" "[I" : Cond) ∈ WALL := wall_t (tw_1 _ (List.mem_of_getElem? (i := 188) (by decide +kernel))) rfl
theorem wd_306 : (Cond.fieldLink RX10 196 "ParetoDesk$Choices" "gain" "[I" : Cond) ∈ WALL := wall_t (tw_1 _ (List.mem_of_getElem? (i := 194) (by decide +kernel))) rfl
theorem wd_312 : (Cond.fieldLink RX10 197 "ParetoDesk$Choices" "joy" "[I" : Cond) ∈ WALL := wall_t (tw_1 _ (List.mem_of_getElem? (i := 200) (by decide +kernel))) rfl
theorem wd_1134 : (Cond.code yX10_sum cX10_sum 3 (some .int) : Cond) ∈ WALL := wall_t (tw_5 _ (List.mem_of_getElem? (i := 62) (by rfl))) rfl
theorem wd_385 : (Cond.fieldLink RX10 198 "ParetoDesk$Frontier" "allowedCount" "I" : Cond) ∈ WALL := wall_t (tw_2 _ (List.mem_of_getElem? (i := 33) (by decide +kernel))) rfl
theorem wd_721 : (Cond.code yX10_allowed cX10_allowed 1 (some .int) : Cond) ∈ WALL := wall_t (tw_3 _ (List.mem_of_getElem? (i := 129) (by rfl))) rfl
theorem wd_381 : (Cond.fieldLink RX10 201 "ParetoDesk$Frontier" "size" "I" : Cond) ∈ WALL := wall_t (tw_2 _ (List.mem_of_getElem? (i := 29) (by decide +kernel))) rfl
theorem wd_803 : (Cond.code yX10_points cX10_points 1 (some .int) : Cond) ∈ WALL := wall_t (tw_3 _ (List.mem_of_getElem? (i := 211) (by rfl))) rfl
theorem wd_1145 : (Cond.code yX10_requirePoint cX10_requirePoint 2 none : Cond) ∈ WALL := wall_t (tw_5 _ (List.mem_of_getElem? (i := 73) (by rfl))) rfl
theorem wd_364 : (Cond.fieldLink RX10 207 "ParetoDesk$Frontier" "gain" "[I" : Cond) ∈ WALL := wall_t (tw_2 _ (List.mem_of_getElem? (i := 12) (by decide +kernel))) rfl
theorem wd_366 : (Cond.fieldLink RX10 208 "ParetoDesk$Frontier" "joy" "[I" : Cond) ∈ WALL := wall_t (tw_2 _ (List.mem_of_getElem? (i := 14) (by decide +kernel))) rfl
theorem wd_368 : (Cond.fieldLink RX10 209 "ParetoDesk$Frontier" "choice" "[I" : Cond) ∈ WALL := wall_t (tw_2 _ (List.mem_of_getElem? (i := 16) (by decide +kernel))) rfl
theorem wd_370 : (Cond.fieldLink RX10 212 "ParetoDesk$Frontier" "times" "[I" : Cond) ∈ WALL := wall_t (tw_2 _ (List.mem_of_getElem? (i := 18) (by decide +kernel))) rfl
theorem wd_374 : (Cond.fieldLink RX10 215 "ParetoDesk$Frontier" "mark" "[I" : Cond) ∈ WALL := wall_t (tw_2 _ (List.mem_of_getElem? (i := 22) (by decide +kernel))) rfl
theorem wd_1142 : (Cond.methodLink RX10 204 yX10_requirePoint : Cond) ∈ WALL := wall_t (tw_5 _ (List.mem_of_getElem? (i := 70) (by decide +kernel))) rfl
theorem wd_1144 : (Cond.instanceMethod yX10_requirePoint : Cond) ∈ WALL := wall_t (tw_5 _ (List.mem_of_getElem? (i := 72) (by decide +kernel))) rfl
theorem wd_35 : (Cond.selects RX10 yX10_requirePoint yX10_requirePoint : Cond) ∈ WALL := wall_at (i := 35) (by decide +kernel) rfl
theorem wd_1141 : (Cond.code yX10_point cX10_point 3 (some .int) : Cond) ∈ WALL := wall_t (tw_5 _ (List.mem_of_getElem? (i := 69) (by rfl))) rfl
theorem wd_372 : (Cond.fieldLink RX10 218 "ParetoDesk$Frontier" "light" "[I" : Cond) ∈ WALL := wall_t (tw_2 _ (List.mem_of_getElem? (i := 20) (by decide +kernel))) rfl
theorem wd_1153 : (Cond.code yX10_lightest cX10_lightest 2 (some .int) : Cond) ∈ WALL := wall_t (tw_5 _ (List.mem_of_getElem? (i := 81) (by rfl))) rfl
theorem wd_1161 : (Cond.methodLink RX10 221 yX2_pointWithPair : Cond) ∈ WALL := wall_t (tw_5 _ (List.mem_of_getElem? (i := 89) (by decide +kernel))) rfl
theorem wd_1160 : (Cond.code yX10_pointOf cX10_pointOf 2 (some .int) : Cond) ∈ WALL := wall_t (tw_5 _ (List.mem_of_getElem? (i := 88) (by rfl))) rfl
theorem wd_808 : (Cond.methodLink RX10 224 yX2_beats : Cond) ∈ WALL := wall_t (tw_3 _ (List.mem_of_getElem? (i := 216) (by decide +kernel))) rfl
theorem wd_809 : (Cond.instanceMethod yX2_beats : Cond) ∈ WALL := wall_t (tw_3 _ (List.mem_of_getElem? (i := 217) (by decide +kernel))) rfl
theorem wd_810 : (Cond.selects RX2 yX2_beats yX2_beats : Cond) ∈ WALL := wall_t (tw_3 _ (List.mem_of_getElem? (i := 218) (by decide +kernel))) rfl
theorem wd_1168 : (Cond.code yX10_beatenBy cX10_beatenBy 3 (some .int) : Cond) ∈ WALL := wall_t (tw_5 _ (List.mem_of_getElem? (i := 96) (by rfl))) rfl
theorem wd_807 : (Cond.code yX10_beating cX10_beating 5 (some .int) : Cond) ∈ WALL := wall_t (tw_3 _ (List.mem_of_getElem? (i := 215) (by rfl))) rfl
theorem wd_815 : (Cond.code yX10_joyFor cX10_joyFor 3 (some .int) : Cond) ∈ WALL := wall_t (tw_3 _ (List.mem_of_getElem? (i := 223) (by rfl))) rfl
theorem wd_819 : (Cond.code yX10_gainFor cX10_gainFor 3 (some .int) : Cond) ∈ WALL := wall_t (tw_3 _ (List.mem_of_getElem? (i := 227) (by rfl))) rfl
theorem wd_1181 : (Cond.code yX10_requireValue cX10_requireValue 1 none : Cond) ∈ WALL := wall_t (tw_5 _ (List.mem_of_getElem? (i := 109) (by rfl))) rfl
theorem wd_1178 : (Cond.code yX10_requireWeights cX10_requireWeights 2 none : Cond) ∈ WALL := wall_t (tw_5 _ (List.mem_of_getElem? (i := 106) (by rfl))) rfl
theorem wd_1179 : (Cond.methodLink RX10 330 yX10_requireValue : Cond) ∈ WALL := wall_t (tw_5 _ (List.mem_of_getElem? (i := 107) (by decide +kernel))) rfl
theorem wd_1180 : (Cond.static yX10_requireValue : Cond) ∈ WALL := wall_t (tw_5 _ (List.mem_of_getElem? (i := 108) (by decide +kernel))) rfl
theorem wd_1176 : (Cond.methodLink RX10 228 yX10_requireWeights : Cond) ∈ WALL := wall_t (tw_5 _ (List.mem_of_getElem? (i := 104) (by decide +kernel))) rfl
theorem wd_1177 : (Cond.static yX10_requireWeights : Cond) ∈ WALL := wall_t (tw_5 _ (List.mem_of_getElem? (i := 105) (by decide +kernel))) rfl
theorem wd_1184 : (Cond.methodLink RX10 231 yX2_greatestBy : Cond) ∈ WALL := wall_t (tw_5 _ (List.mem_of_getElem? (i := 112) (by decide +kernel))) rfl
theorem wd_1175 : (Cond.code yX10_best cX10_best 3 (some .int) : Cond) ∈ WALL := wall_t (tw_5 _ (List.mem_of_getElem? (i := 103) (by rfl))) rfl
theorem wd_1192 : (Cond.methodLink RX10 234 yX2_leastLack : Cond) ∈ WALL := wall_t (tw_5 _ (List.mem_of_getElem? (i := 120) (by decide +kernel))) rfl
theorem wd_1193 : (Cond.instanceMethod yX2_leastLack : Cond) ∈ WALL := wall_t (tw_5 _ (List.mem_of_getElem? (i := 121) (by decide +kernel))) rfl
theorem wd_1194 : (Cond.selects RX2 yX2_leastLack yX2_leastLack : Cond) ∈ WALL := wall_t (tw_5 _ (List.mem_of_getElem? (i := 122) (by decide +kernel))) rfl
theorem wd_1191 : (Cond.code yX10_nearest cX10_nearest 3 (some .int) : Cond) ∈ WALL := wall_t (tw_5 _ (List.mem_of_getElem? (i := 119) (by rfl))) rfl
theorem wd_383 : (Cond.fieldLink RX10 237 "ParetoDesk$Frontier" "vertexCount" "I" : Cond) ∈ WALL := wall_t (tw_2 _ (List.mem_of_getElem? (i := 31) (by decide +kernel))) rfl
theorem wd_823 : (Cond.code yX10_vertices cX10_vertices 1 (some .int) : Cond) ∈ WALL := wall_t (tw_3 _ (List.mem_of_getElem? (i := 231) (by rfl))) rfl
theorem wd_376 : (Cond.fieldLink RX10 245 "ParetoDesk$Frontier" "vertexPoint" "[I" : Cond) ∈ WALL := wall_t (tw_2 _ (List.mem_of_getElem? (i := 24) (by decide +kernel))) rfl
theorem wd_1205 : (Cond.code yX10_vertex cX10_vertex 2 (some .int) : Cond) ∈ WALL := wall_t (tw_5 _ (List.mem_of_getElem? (i := 133) (by rfl))) rfl
theorem wd_828 : (Cond.methodLink RX10 248 yX2_supportedBetween : Cond) ∈ WALL := wall_t (tw_3 _ (List.mem_of_getElem? (i := 236) (by decide +kernel))) rfl
theorem wd_829 : (Cond.instanceMethod yX2_supportedBetween : Cond) ∈ WALL := wall_t (tw_3 _ (List.mem_of_getElem? (i := 237) (by decide +kernel))) rfl
theorem wd_830 : (Cond.selects RX2 yX2_supportedBetween yX2_supportedBetween : Cond) ∈ WALL := wall_t (tw_3 _ (List.mem_of_getElem? (i := 238) (by decide +kernel))) rfl
theorem wd_827 : (Cond.code yX10_supported cX10_supported 1 (some .int) : Cond) ∈ WALL := wall_t (tw_3 _ (List.mem_of_getElem? (i := 235) (by rfl))) rfl
theorem wd_1213 : (Cond.code yX10_box cX10_box 5 (some .int) : Cond) ∈ WALL := wall_t (tw_5 _ (List.mem_of_getElem? (i := 141) (by rfl))) rfl
theorem wd_840 : (Cond.methodLink RX10 410 yX7_run : Cond) ∈ WALL := wall_t (tw_4 _ (List.mem_of_getElem? (i := 8) (by decide +kernel))) rfl
theorem wd_841 : (Cond.instanceMethod yX7_run : Cond) ∈ WALL := wall_t (tw_4 _ (List.mem_of_getElem? (i := 9) (by decide +kernel))) rfl
theorem wd_842 : (Cond.selects RX7 yX7_run yX7_run : Cond) ∈ WALL := wall_t (tw_4 _ (List.mem_of_getElem? (i := 10) (by decide +kernel))) rfl
theorem wd_839 : (Cond.code yX10_refreshSearch cX10_refreshSearch 1 none : Cond) ∈ WALL := wall_t (tw_4 _ (List.mem_of_getElem? (i := 7) (by rfl))) rfl
theorem wd_428 : (Cond.fieldLink RX10 256 "ParetoDesk$Search" "count" "I" : Cond) ∈ WALL := wall_t (tw_2 _ (List.mem_of_getElem? (i := 76) (by decide +kernel))) rfl
theorem wd_836 : (Cond.methodLink RX10 253 yX10_refreshSearch : Cond) ∈ WALL := wall_t (tw_4 _ (List.mem_of_getElem? (i := 4) (by decide +kernel))) rfl
theorem wd_838 : (Cond.instanceMethod yX10_refreshSearch : Cond) ∈ WALL := wall_t (tw_4 _ (List.mem_of_getElem? (i := 6) (by decide +kernel))) rfl
theorem wd_23 : (Cond.selects RX10 yX10_refreshSearch yX10_refreshSearch : Cond) ∈ WALL := wall_at (i := 23) (by decide +kernel) rfl
theorem wd_835 : (Cond.code yX10_steps cX10_steps 1 (some .int) : Cond) ∈ WALL := wall_t (tw_4 _ (List.mem_of_getElem? (i := 3) (by rfl))) rfl
theorem wd_1223 : (Cond.classLink RX10 259 "java/util/NoSuchElementException" : Cond) ∈ WALL := wall_t (tw_5 _ (List.mem_of_getElem? (i := 151) (by decide +kernel))) rfl
theorem wd_139 : (Cond.initialized "java/util/NoSuchElementException" : Cond) ∈ WALL := wall_t (tw_1 _ (List.mem_of_getElem? (i := 27) (by decide +kernel))) rfl
theorem wd_422 : (Cond.fieldLink RX10 264 "ParetoDesk$Search" "from" "[I" : Cond) ∈ WALL := wall_t (tw_2 _ (List.mem_of_getElem? (i := 70) (by decide +kernel))) rfl
theorem wd_424 : (Cond.fieldLink RX10 267 "ParetoDesk$Search" "to" "[I" : Cond) ∈ WALL := wall_t (tw_2 _ (List.mem_of_getElem? (i := 72) (by decide +kernel))) rfl
theorem wd_426 : (Cond.fieldLink RX10 276 "ParetoDesk$Search" "found" "[I" : Cond) ∈ WALL := wall_t (tw_2 _ (List.mem_of_getElem? (i := 74) (by decide +kernel))) rfl
theorem wd_879 : (Cond.methodLink RX10 270 yX2_joyLost : Cond) ∈ WALL := wall_t (tw_4 _ (List.mem_of_getElem? (i := 47) (by decide +kernel))) rfl
theorem wd_878 : (Cond.methodLink RX10 273 yX2_gainWon : Cond) ∈ WALL := wall_t (tw_4 _ (List.mem_of_getElem? (i := 46) (by decide +kernel))) rfl
theorem wd_1222 : (Cond.code yX10_step cX10_step 5 (some .int) : Cond) ∈ WALL := wall_t (tw_5 _ (List.mem_of_getElem? (i := 150) (by rfl))) rfl
theorem wd_865 : (Cond.code yX10_fullest cX10_fullest 5 (some .int) : Cond) ∈ WALL := wall_t (tw_4 _ (List.mem_of_getElem? (i := 33) (by rfl))) rfl
theorem wd_387 : (Cond.fieldLink RX10 279 "ParetoDesk$Frontier" "areaBelow" "I" : Cond) ∈ WALL := wall_t (tw_2 _ (List.mem_of_getElem? (i := 35) (by decide +kernel))) rfl
theorem wd_869 : (Cond.code yX10_area cX10_area 1 (some .int) : Cond) ∈ WALL := wall_t (tw_4 _ (List.mem_of_getElem? (i := 37) (by rfl))) rfl
theorem wd_873 : (Cond.code yX10_knee cX10_knee 1 (some .int) : Cond) ∈ WALL := wall_t (tw_4 _ (List.mem_of_getElem? (i := 41) (by rfl))) rfl
theorem wd_877 : (Cond.code yX10_gap cX10_gap 5 (some .int) : Cond) ∈ WALL := wall_t (tw_4 _ (List.mem_of_getElem? (i := 45) (by rfl))) rfl
theorem wd_883 : (Cond.code yX10_core cX10_core 3 (some .int) : Cond) ∈ WALL := wall_t (tw_4 _ (List.mem_of_getElem? (i := 51) (by rfl))) rfl
theorem wd_891 : (Cond.code yX10_unused cX10_unused 3 (some .int) : Cond) ∈ WALL := wall_t (tw_4 _ (List.mem_of_getElem? (i := 59) (by rfl))) rfl
theorem wd_1246 : (Cond.methodLink RX10 286 yX2_countReached : Cond) ∈ WALL := wall_t (tw_5 _ (List.mem_of_getElem? (i := 174) (by decide +kernel))) rfl
theorem wd_1247 : (Cond.instanceMethod yX2_countReached : Cond) ∈ WALL := wall_t (tw_5 _ (List.mem_of_getElem? (i := 175) (by decide +kernel))) rfl
theorem wd_1248 : (Cond.selects RX2 yX2_countReached yX2_countReached : Cond) ∈ WALL := wall_t (tw_5 _ (List.mem_of_getElem? (i := 176) (by decide +kernel))) rfl
theorem wd_1245 : (Cond.code yX10_lostWithout cX10_lostWithout 2 (some .int) : Cond) ∈ WALL := wall_t (tw_5 _ (List.mem_of_getElem? (i := 173) (by rfl))) rfl
theorem wd_351 : (Cond.fieldLink RX10 294 "ParetoDesk$Stairs" "allowedCount" "I" : Cond) ∈ WALL := wall_t (tw_1 _ (List.mem_of_getElem? (i := 239) (by decide +kernel))) rfl
theorem wd_1257 : (Cond.methodLink RX10 295 yX9_areaBelow : Cond) ∈ WALL := wall_t (tw_5 _ (List.mem_of_getElem? (i := 185) (by decide +kernel))) rfl
theorem wd_1256 : (Cond.code yX10_worth cX10_worth 2 (some .int) : Cond) ∈ WALL := wall_t (tw_5 _ (List.mem_of_getElem? (i := 184) (by rfl))) rfl
theorem wd_1267 : (Cond.code yX10_requireCapacity cX10_requireCapacity 1 none : Cond) ∈ WALL := wall_t (tw_5 _ (List.mem_of_getElem? (i := 195) (by rfl))) rfl
theorem wd_1265 : (Cond.methodLink RX10 297 yX10_requireCapacity : Cond) ∈ WALL := wall_t (tw_5 _ (List.mem_of_getElem? (i := 193) (by decide +kernel))) rfl
theorem wd_1266 : (Cond.static yX10_requireCapacity : Cond) ∈ WALL := wall_t (tw_5 _ (List.mem_of_getElem? (i := 194) (by decide +kernel))) rfl
theorem wd_1269 : (Cond.methodLink RX10 300 yX9_countCorners : Cond) ∈ WALL := wall_t (tw_5 _ (List.mem_of_getElem? (i := 197) (by decide +kernel))) rfl
theorem wd_1270 : (Cond.instanceMethod yX9_countCorners : Cond) ∈ WALL := wall_t (tw_5 _ (List.mem_of_getElem? (i := 198) (by decide +kernel))) rfl
theorem wd_1271 : (Cond.selects RX9 yX9_countCorners yX9_countCorners : Cond) ∈ WALL := wall_t (tw_5 _ (List.mem_of_getElem? (i := 199) (by decide +kernel))) rfl
theorem wd_1264 : (Cond.code yX10_pointsWith cX10_pointsWith 2 (some .int) : Cond) ∈ WALL := wall_t (tw_5 _ (List.mem_of_getElem? (i := 192) (by rfl))) rfl
theorem wd_896 : (Cond.methodLink RX10 303 yX0_leastWeight : Cond) ∈ WALL := wall_t (tw_4 _ (List.mem_of_getElem? (i := 64) (by decide +kernel))) rfl
theorem wd_897 : (Cond.instanceMethod yX0_leastWeight : Cond) ∈ WALL := wall_t (tw_4 _ (List.mem_of_getElem? (i := 65) (by decide +kernel))) rfl
theorem wd_898 : (Cond.selects RX0 yX0_leastWeight yX0_leastWeight : Cond) ∈ WALL := wall_t (tw_4 _ (List.mem_of_getElem? (i := 66) (by decide +kernel))) rfl
theorem wd_895 : (Cond.code yX10_capacityFor cX10_capacityFor 3 (some .int) : Cond) ∈ WALL := wall_t (tw_4 _ (List.mem_of_getElem? (i := 63) (by rfl))) rfl
theorem wd_1280 : (Cond.methodLink RX10 306 yJ6_bitCount_0f7a4 : Cond) ∈ WALL := wall_t (tw_5 _ (List.mem_of_getElem? (i := 208) (by decide +kernel))) rfl
theorem wd_1279 : (Cond.code yX10_nearTo cX10_nearTo 6 (some .int) : Cond) ∈ WALL := wall_t (tw_5 _ (List.mem_of_getElem? (i := 207) (by rfl))) rfl
theorem wd_1287 : (Cond.code yX10_apart cX10_apart 3 (some .int) : Cond) ∈ WALL := wall_t (tw_5 _ (List.mem_of_getElem? (i := 215) (by rfl))) rfl
theorem wd_908 : (Cond.methodLink RX10 413 yX3_build : Cond) ∈ WALL := wall_t (tw_4 _ (List.mem_of_getElem? (i := 76) (by decide +kernel))) rfl
theorem wd_909 : (Cond.instanceMethod yX3_build : Cond) ∈ WALL := wall_t (tw_4 _ (List.mem_of_getElem? (i := 77) (by decide +kernel))) rfl
theorem wd_910 : (Cond.selects RX3 yX3_build yX3_build : Cond) ∈ WALL := wall_t (tw_4 _ (List.mem_of_getElem? (i := 78) (by decide +kernel))) rfl
theorem wd_907 : (Cond.code yX10_refreshLayers cX10_refreshLayers 1 none : Cond) ∈ WALL := wall_t (tw_4 _ (List.mem_of_getElem? (i := 75) (by rfl))) rfl
theorem wd_449 : (Cond.fieldLink RX10 315 "ParetoDesk$Layers" "count" "I" : Cond) ∈ WALL := wall_t (tw_2 _ (List.mem_of_getElem? (i := 97) (by decide +kernel))) rfl
theorem wd_904 : (Cond.methodLink RX10 312 yX10_refreshLayers : Cond) ∈ WALL := wall_t (tw_4 _ (List.mem_of_getElem? (i := 72) (by decide +kernel))) rfl
theorem wd_906 : (Cond.instanceMethod yX10_refreshLayers : Cond) ∈ WALL := wall_t (tw_4 _ (List.mem_of_getElem? (i := 74) (by decide +kernel))) rfl
theorem wd_25 : (Cond.selects RX10 yX10_refreshLayers yX10_refreshLayers : Cond) ∈ WALL := wall_at (i := 25) (by decide +kernel) rfl
theorem wd_903 : (Cond.code yX10_layers cX10_layers 1 (some .int) : Cond) ∈ WALL := wall_t (tw_4 _ (List.mem_of_getElem? (i := 71) (by rfl))) rfl
theorem wd_447 : (Cond.fieldLink RX10 318 "ParetoDesk$Layers" "size" "[I" : Cond) ∈ WALL := wall_t (tw_2 _ (List.mem_of_getElem? (i := 95) (by decide +kernel))) rfl
theorem wd_1294 : (Cond.code yX10_layerSize cX10_layerSize 2 (some .int) : Cond) ∈ WALL := wall_t (tw_5 _ (List.mem_of_getElem? (i := 222) (by rfl))) rfl
theorem wd_445 : (Cond.fieldLink RX10 320 "ParetoDesk$Layers" "layer" "[I" : Cond) ∈ WALL := wall_t (tw_2 _ (List.mem_of_getElem? (i := 93) (by decide +kernel))) rfl
theorem wd_1302 : (Cond.code yX10_layerOf cX10_layerOf 2 (some .int) : Cond) ∈ WALL := wall_t (tw_5 _ (List.mem_of_getElem? (i := 230) (by rfl))) rfl
theorem wd_479 : (Cond.fieldLink RX10 327 "ParetoDesk$Climber" "at" "I" : Cond) ∈ WALL := wall_t (tw_2 _ (List.mem_of_getElem? (i := 127) (by decide +kernel))) rfl
theorem wd_1310 : (Cond.methodLink RX10 323 yX1_run : Cond) ∈ WALL := wall_t (tw_5 _ (List.mem_of_getElem? (i := 238) (by decide +kernel))) rfl
theorem wd_1311 : (Cond.instanceMethod yX1_run : Cond) ∈ WALL := wall_t (tw_5 _ (List.mem_of_getElem? (i := 239) (by decide +kernel))) rfl
theorem wd_1312 : (Cond.selects RX1 yX1_run yX1_run : Cond) ∈ WALL := wall_t (tw_6 _ (List.mem_of_getElem? (i := 0) (by decide +kernel))) rfl
theorem wd_1309 : (Cond.code yX10_climb cX10_climb 3 (some .int) : Cond) ∈ WALL := wall_t (tw_5 _ (List.mem_of_getElem? (i := 237) (by rfl))) rfl
theorem wd_940 : (Cond.code yX10_share cX10_share 1 (some .double) : Cond) ∈ WALL := wall_t (tw_4 _ (List.mem_of_getElem? (i := 108) (by rfl))) rfl
theorem wd_1335 : (Cond.methodLink RX10 335 yX8_addLast : Cond) ∈ WALL := wall_t (tw_6 _ (List.mem_of_getElem? (i := 23) (by decide +kernel))) rfl
theorem wd_1333 : (Cond.code yX10_addItem cX10_addItem 4 (some .int) : Cond) ∈ WALL := wall_t (tw_6 _ (List.mem_of_getElem? (i := 21) (by rfl))) rfl
theorem wd_1343 : (Cond.methodLink RX10 339 yX8_drop : Cond) ∈ WALL := wall_t (tw_6 _ (List.mem_of_getElem? (i := 31) (by decide +kernel))) rfl
theorem wd_1344 : (Cond.instanceMethod yX8_drop : Cond) ∈ WALL := wall_t (tw_6 _ (List.mem_of_getElem? (i := 32) (by decide +kernel))) rfl
theorem wd_1345 : (Cond.selects RX8 yX8_drop yX8_drop : Cond) ∈ WALL := wall_t (tw_6 _ (List.mem_of_getElem? (i := 33) (by decide +kernel))) rfl
theorem wd_1342 : (Cond.code yX10_dropItem cX10_dropItem 2 (some .int) : Cond) ∈ WALL := wall_t (tw_6 _ (List.mem_of_getElem? (i := 30) (by rfl))) rfl
theorem wd_1356 : (Cond.code yX10_setItem cX10_setItem 6 (some .int) : Cond) ∈ WALL := wall_t (tw_6 _ (List.mem_of_getElem? (i := 44) (by rfl))) rfl
theorem wd_1363 : (Cond.code yX10_setCapacity cX10_setCapacity 3 (some .int) : Cond) ∈ WALL := wall_t (tw_6 _ (List.mem_of_getElem? (i := 51) (by rfl))) rfl
theorem wd_1370 : (Cond.code yX10_setLimit cX10_setLimit 3 (some .int) : Cond) ∈ WALL := wall_t (tw_6 _ (List.mem_of_getElem? (i := 58) (by rfl))) rfl
theorem wd_1382 : (Cond.code yX10_requireTwoItems cX10_requireTwoItems 3 none : Cond) ∈ WALL := wall_t (tw_6 _ (List.mem_of_getElem? (i := 70) (by rfl))) rfl
theorem wd_1379 : (Cond.methodLink RX10 344 yX10_requireTwoItems : Cond) ∈ WALL := wall_t (tw_6 _ (List.mem_of_getElem? (i := 67) (by decide +kernel))) rfl
theorem wd_1381 : (Cond.instanceMethod yX10_requireTwoItems : Cond) ∈ WALL := wall_t (tw_6 _ (List.mem_of_getElem? (i := 69) (by decide +kernel))) rfl
theorem wd_38 : (Cond.selects RX10 yX10_requireTwoItems yX10_requireTwoItems : Cond) ∈ WALL := wall_at (i := 38) (by decide +kernel) rfl
theorem wd_962 : (Cond.methodLink RX10 347 yX10_hasBit : Cond) ∈ WALL := wall_t (tw_4 _ (List.mem_of_getElem? (i := 130) (by decide +kernel))) rfl
theorem wd_1384 : (Cond.methodLink RX10 351 yX10_withBit : Cond) ∈ WALL := wall_t (tw_6 _ (List.mem_of_getElem? (i := 72) (by decide +kernel))) rfl
theorem wd_1378 : (Cond.code yX10_bar cX10_bar 5 (some .boolean) : Cond) ∈ WALL := wall_t (tw_6 _ (List.mem_of_getElem? (i := 66) (by rfl))) rfl
theorem wd_1391 : (Cond.code yX10_need cX10_need 5 (some .boolean) : Cond) ∈ WALL := wall_t (tw_6 _ (List.mem_of_getElem? (i := 79) (by rfl))) rfl
theorem wd_1398 : (Cond.code yX10_must cX10_must 4 (some .boolean) : Cond) ∈ WALL := wall_t (tw_6 _ (List.mem_of_getElem? (i := 86) (by rfl))) rfl
theorem wd_1405 : (Cond.code yX10_never cX10_never 4 (some .boolean) : Cond) ∈ WALL := wall_t (tw_6 _ (List.mem_of_getElem? (i := 93) (by rfl))) rfl
theorem wd_1416 : (Cond.code yX10_requireAllowed cX10_requireAllowed 2 none : Cond) ∈ WALL := wall_t (tw_6 _ (List.mem_of_getElem? (i := 104) (by rfl))) rfl
theorem wd_1421 : (Cond.code yX10_takeInHand cX10_takeInHand 2 none : Cond) ∈ WALL := wall_t (tw_6 _ (List.mem_of_getElem? (i := 109) (by rfl))) rfl
theorem wd_1413 : (Cond.methodLink RX10 355 yX10_requireAllowed : Cond) ∈ WALL := wall_t (tw_6 _ (List.mem_of_getElem? (i := 101) (by decide +kernel))) rfl
theorem wd_1415 : (Cond.instanceMethod yX10_requireAllowed : Cond) ∈ WALL := wall_t (tw_6 _ (List.mem_of_getElem? (i := 103) (by decide +kernel))) rfl
theorem wd_39 : (Cond.selects RX10 yX10_requireAllowed yX10_requireAllowed : Cond) ∈ WALL := wall_at (i := 39) (by decide +kernel) rfl
theorem wd_1418 : (Cond.methodLink RX10 358 yX10_takeInHand : Cond) ∈ WALL := wall_t (tw_6 _ (List.mem_of_getElem? (i := 106) (by decide +kernel))) rfl
theorem wd_1420 : (Cond.instanceMethod yX10_takeInHand : Cond) ∈ WALL := wall_t (tw_6 _ (List.mem_of_getElem? (i := 108) (by decide +kernel))) rfl
theorem wd_40 : (Cond.selects RX10 yX10_takeInHand yX10_takeInHand : Cond) ∈ WALL := wall_at (i := 40) (by decide +kernel) rfl
theorem wd_1412 : (Cond.code yX10_choose cX10_choose 3 (some .int) : Cond) ∈ WALL := wall_t (tw_6 _ (List.mem_of_getElem? (i := 100) (by rfl))) rfl
theorem wd_1428 : (Cond.code yX10_chooseBest cX10_chooseBest 4 (some .int) : Cond) ∈ WALL := wall_t (tw_6 _ (List.mem_of_getElem? (i := 116) (by rfl))) rfl
theorem wd_481 : (Cond.fieldLink RX10 363 "ParetoDesk$Climber" "steps" "I" : Cond) ∈ WALL := wall_t (tw_2 _ (List.mem_of_getElem? (i := 129) (by decide +kernel))) rfl
theorem wd_1436 : (Cond.code yX10_improve cX10_improve 3 (some .int) : Cond) ∈ WALL := wall_t (tw_6 _ (List.mem_of_getElem? (i := 124) (by rfl))) rfl
theorem wd_1443 : (Cond.code yX10_take cX10_take 3 (some .int) : Cond) ∈ WALL := wall_t (tw_6 _ (List.mem_of_getElem? (i := 131) (by rfl))) rfl
theorem wd_1451 : (Cond.code yX10_leave cX10_leave 3 (some .int) : Cond) ∈ WALL := wall_t (tw_6 _ (List.mem_of_getElem? (i := 139) (by rfl))) rfl
theorem wd_1462 : (Cond.code yX10_requireSlot cX10_requireSlot 1 none : Cond) ∈ WALL := wall_t (tw_6 _ (List.mem_of_getElem? (i := 150) (by rfl))) rfl
theorem wd_1460 : (Cond.methodLink RX10 370 yX10_requireSlot : Cond) ∈ WALL := wall_t (tw_6 _ (List.mem_of_getElem? (i := 148) (by decide +kernel))) rfl
theorem wd_1461 : (Cond.static yX10_requireSlot : Cond) ∈ WALL := wall_t (tw_6 _ (List.mem_of_getElem? (i := 149) (by decide +kernel))) rfl
theorem wd_1459 : (Cond.code yX10_keep cX10_keep 2 (some .int) : Cond) ∈ WALL := wall_t (tw_6 _ (List.mem_of_getElem? (i := 147) (by rfl))) rfl
theorem wd_1470 : (Cond.code yX10_restore cX10_restore 2 (some .int) : Cond) ∈ WALL := wall_t (tw_6 _ (List.mem_of_getElem? (i := 158) (by rfl))) rfl
theorem wd_270 : (Cond.fieldLink RX10 375 "ParetoDesk$Past" "count" "I" : Cond) ∈ WALL := wall_t (tw_1 _ (List.mem_of_getElem? (i := 158) (by decide +kernel))) rfl
theorem wd_1480 : (Cond.methodLink RX10 378 yX6_pop : Cond) ∈ WALL := wall_t (tw_6 _ (List.mem_of_getElem? (i := 168) (by decide +kernel))) rfl
theorem wd_1481 : (Cond.instanceMethod yX6_pop : Cond) ∈ WALL := wall_t (tw_6 _ (List.mem_of_getElem? (i := 169) (by decide +kernel))) rfl
theorem wd_1482 : (Cond.selects RX6 yX6_pop yX6_pop : Cond) ∈ WALL := wall_t (tw_6 _ (List.mem_of_getElem? (i := 170) (by decide +kernel))) rfl
theorem wd_1478 : (Cond.code yX10_undo cX10_undo 1 (some .int) : Cond) ∈ WALL := wall_t (tw_6 _ (List.mem_of_getElem? (i := 166) (by rfl))) rfl
theorem wd_944 : (Cond.code yX10_undoCount cX10_undoCount 1 (some .int) : Cond) ∈ WALL := wall_t (tw_4 _ (List.mem_of_getElem? (i := 112) (by rfl))) rfl
theorem wd_285 : (Cond.fieldLink RX10 381 "ParetoDesk$Output" "length" "I" : Cond) ∈ WALL := wall_t (tw_1 _ (List.mem_of_getElem? (i := 173) (by decide +kernel))) rfl
theorem wd_949 : (Cond.methodLink RX10 384 yX4_put : Cond) ∈ WALL := wall_t (tw_4 _ (List.mem_of_getElem? (i := 117) (by decide +kernel))) rfl
theorem wd_953 : (Cond.methodLink RX10 387 yX4_putNumber : Cond) ∈ WALL := wall_t (tw_4 _ (List.mem_of_getElem? (i := 121) (by decide +kernel))) rfl
theorem wd_954 : (Cond.instanceMethod yX4_putNumber : Cond) ∈ WALL := wall_t (tw_4 _ (List.mem_of_getElem? (i := 122) (by decide +kernel))) rfl
theorem wd_955 : (Cond.selects RX4 yX4_putNumber yX4_putNumber : Cond) ∈ WALL := wall_t (tw_4 _ (List.mem_of_getElem? (i := 123) (by decide +kernel))) rfl
theorem wd_948 : (Cond.code yX10_writeFrontier cX10_writeFrontier 2 (some .int) : Cond) ∈ WALL := wall_t (tw_4 _ (List.mem_of_getElem? (i := 116) (by rfl))) rfl
theorem wd_961 : (Cond.code yX10_writeChoices cX10_writeChoices 3 (some .int) : Cond) ∈ WALL := wall_t (tw_4 _ (List.mem_of_getElem? (i := 129) (by rfl))) rfl
theorem wd_1490 : (Cond.code yX10_outputByte cX10_outputByte 2 (some .int) : Cond) ∈ WALL := wall_t (tw_6 _ (List.mem_of_getElem? (i := 178) (by rfl))) rfl
theorem wd_283 : (Cond.fieldLink RX10 392 "ParetoDesk$Output" "bytes" "[B" : Cond) ∈ WALL := wall_t (tw_1 _ (List.mem_of_getElem? (i := 171) (by decide +kernel))) rfl
theorem wd_1495 : (Cond.code yX11_thrown cX11_thrown 1 (some .int) : Cond) ∈ WALL := wall_t (tw_6 _ (List.mem_of_getElem? (i := 183) (by rfl))) rfl
theorem wd_1502 : (Cond.fieldLink RX11 3 "ParetoDeskModel" "thrown" "I" : Cond) ∈ WALL := wall_t (tw_6 _ (List.mem_of_getElem? (i := 190) (by decide +kernel))) rfl
theorem wd_1645 : (Cond.code yX11_in cX11_in 6 (some .boolean) : Cond) ∈ WALL := wall_t (tw_7 _ (List.mem_of_getElem? (i := 93) (by rfl))) rfl
theorem wd_1734 : (Cond.code yX11_has cX11_has 2 (some .boolean) : Cond) ∈ WALL := wall_t (tw_7 _ (List.mem_of_getElem? (i := 182) (by rfl))) rfl
theorem wd_1765 : (Cond.code yX11_bits cX11_bits 3 (some .int) : Cond) ∈ WALL := wall_t (tw_7 _ (List.mem_of_getElem? (i := 213) (by rfl))) rfl
theorem wd_1634 : (Cond.code yX11_passes2 cX11_passes2 3 (some .boolean) : Cond) ∈ WALL := wall_t (tw_7 _ (List.mem_of_getElem? (i := 82) (by rfl))) rfl
theorem wd_1630 : (Cond.code yX11_passes cX11_passes 2 (some .boolean) : Cond) ∈ WALL := wall_t (tw_7 _ (List.mem_of_getElem? (i := 78) (by rfl))) rfl
theorem wd_1631 : (Cond.methodLink RX11 7 yX11_passes2 : Cond) ∈ WALL := wall_t (tw_7 _ (List.mem_of_getElem? (i := 79) (by decide +kernel))) rfl
theorem wd_1633 : (Cond.instanceMethod yX11_passes2 : Cond) ∈ WALL := wall_t (tw_7 _ (List.mem_of_getElem? (i := 81) (by decide +kernel))) rfl
theorem wd_42 : (Cond.selects RX11 yX11_passes2 yX11_passes2 : Cond) ∈ WALL := wall_at (i := 42) (by decide +kernel) rfl
theorem wd_124 : (Cond.initialized RX11 : Cond) ∈ WALL := wall_t (tw_1 _ (List.mem_of_getElem? (i := 12) (by decide +kernel))) rfl
theorem wd_1501 : (Cond.methodLink RX11 11 objectInit : Cond) ∈ WALL := wall_t (tw_6 _ (List.mem_of_getElem? (i := 189) (by decide +kernel))) rfl
theorem wd_1503 : (Cond.fieldLink RX11 17 "ParetoDeskModel" "net" "[I" : Cond) ∈ WALL := wall_t (tw_6 _ (List.mem_of_getElem? (i := 191) (by decide +kernel))) rfl
theorem wd_1504 : (Cond.fieldLink RX11 21 "ParetoDeskModel" "draft" "[I" : Cond) ∈ WALL := wall_t (tw_6 _ (List.mem_of_getElem? (i := 192) (by decide +kernel))) rfl
theorem wd_1505 : (Cond.fieldLink RX11 24 "ParetoDeskModel" "row" "[I" : Cond) ∈ WALL := wall_t (tw_6 _ (List.mem_of_getElem? (i := 193) (by decide +kernel))) rfl
theorem wd_1507 : (Cond.fieldLink RX11 27 "ParetoDeskModel" "joyAt" "[I" : Cond) ∈ WALL := wall_t (tw_6 _ (List.mem_of_getElem? (i := 195) (by decide +kernel))) rfl
theorem wd_1509 : (Cond.fieldLink RX11 30 "ParetoDeskModel" "pointGain" "[I" : Cond) ∈ WALL := wall_t (tw_6 _ (List.mem_of_getElem? (i := 197) (by decide +kernel))) rfl
theorem wd_1510 : (Cond.fieldLink RX11 33 "ParetoDeskModel" "pointJoy" "[I" : Cond) ∈ WALL := wall_t (tw_6 _ (List.mem_of_getElem? (i := 198) (by decide +kernel))) rfl
theorem wd_1511 : (Cond.fieldLink RX11 36 "ParetoDeskModel" "pointSet" "[I" : Cond) ∈ WALL := wall_t (tw_6 _ (List.mem_of_getElem? (i := 199) (by decide +kernel))) rfl
theorem wd_1512 : (Cond.fieldLink RX11 39 "ParetoDeskModel" "pointTimes" "[I" : Cond) ∈ WALL := wall_t (tw_6 _ (List.mem_of_getElem? (i := 200) (by decide +kernel))) rfl
theorem wd_1513 : (Cond.fieldLink RX11 42 "ParetoDeskModel" "pointLight" "[I" : Cond) ∈ WALL := wall_t (tw_6 _ (List.mem_of_getElem? (i := 201) (by decide +kernel))) rfl
theorem wd_1514 : (Cond.fieldLink RX11 45 "ParetoDeskModel" "pointAt" "[I" : Cond) ∈ WALL := wall_t (tw_6 _ (List.mem_of_getElem? (i := 202) (by decide +kernel))) rfl
theorem wd_1515 : (Cond.fieldLink RX11 48 "ParetoDeskModel" "corner" "[I" : Cond) ∈ WALL := wall_t (tw_6 _ (List.mem_of_getElem? (i := 203) (by decide +kernel))) rfl
theorem wd_1517 : (Cond.fieldLink RX11 51 "ParetoDeskModel" "steps" "[I" : Cond) ∈ WALL := wall_t (tw_6 _ (List.mem_of_getElem? (i := 205) (by decide +kernel))) rfl
theorem wd_1520 : (Cond.fieldLink RX11 54 "ParetoDeskModel" "pairs" "[I" : Cond) ∈ WALL := wall_t (tw_6 _ (List.mem_of_getElem? (i := 208) (by decide +kernel))) rfl
theorem wd_1521 : (Cond.fieldLink RX11 57 "ParetoDeskModel" "layerOfPair" "[I" : Cond) ∈ WALL := wall_t (tw_6 _ (List.mem_of_getElem? (i := 209) (by decide +kernel))) rfl
theorem wd_1523 : (Cond.fieldLink RX11 60 "ParetoDeskModel" "layerJoy" "[I" : Cond) ∈ WALL := wall_t (tw_6 _ (List.mem_of_getElem? (i := 211) (by decide +kernel))) rfl
theorem wd_1527 : (Cond.fieldLink RX11 63 "ParetoDeskModel" "input" "[B" : Cond) ∈ WALL := wall_t (tw_6 _ (List.mem_of_getElem? (i := 215) (by decide +kernel))) rfl
theorem wd_1535 : (Cond.fieldLink RX11 67 "ParetoDeskModel" "errorPlace" "I" : Cond) ∈ WALL := wall_t (tw_6 _ (List.mem_of_getElem? (i := 223) (by decide +kernel))) rfl
theorem wd_1536 : (Cond.fieldLink RX11 70 "ParetoDeskModel" "slots" "[I" : Cond) ∈ WALL := wall_t (tw_6 _ (List.mem_of_getElem? (i := 224) (by decide +kernel))) rfl
theorem wd_1537 : (Cond.fieldLink RX11 73 "ParetoDeskModel" "isKept" "[Z" : Cond) ∈ WALL := wall_t (tw_6 _ (List.mem_of_getElem? (i := 225) (by decide +kernel))) rfl
theorem wd_1538 : (Cond.fieldLink RX11 77 "ParetoDeskModel" "past" "[I" : Cond) ∈ WALL := wall_t (tw_6 _ (List.mem_of_getElem? (i := 226) (by decide +kernel))) rfl
theorem wd_1540 : (Cond.fieldLink RX11 80 "ParetoDeskModel" "output" "[B" : Cond) ∈ WALL := wall_t (tw_6 _ (List.mem_of_getElem? (i := 228) (by decide +kernel))) rfl
theorem wd_1500 : (Cond.code yX11_init cX11_init 1 none : Cond) ∈ WALL := wall_t (tw_6 _ (List.mem_of_getElem? (i := 188) (by rfl))) rfl
theorem wd_1715 : (Cond.code yX11_many cX11_many 1 (some .int) : Cond) ∈ WALL := wall_t (tw_7 _ (List.mem_of_getElem? (i := 163) (by rfl))) rfl
theorem wd_1731 : (Cond.code yX11_ofItem cX11_ofItem 3 (some .int) : Cond) ∈ WALL := wall_t (tw_7 _ (List.mem_of_getElem? (i := 179) (by rfl))) rfl
theorem wd_1722 : (Cond.code yX11_put cX11_put 4 none : Cond) ∈ WALL := wall_t (tw_7 _ (List.mem_of_getElem? (i := 170) (by rfl))) rfl
theorem wd_1773 : (Cond.code yX11_isItem cX11_isItem 2 (some .boolean) : Cond) ∈ WALL := wall_t (tw_7 _ (List.mem_of_getElem? (i := 221) (by rfl))) rfl
theorem wd_1712 : (Cond.methodLink RX11 83 yX11_many : Cond) ∈ WALL := wall_t (tw_7 _ (List.mem_of_getElem? (i := 160) (by decide +kernel))) rfl
theorem wd_1714 : (Cond.instanceMethod yX11_many : Cond) ∈ WALL := wall_t (tw_7 _ (List.mem_of_getElem? (i := 162) (by decide +kernel))) rfl
theorem wd_57 : (Cond.selects RX11 yX11_many yX11_many : Cond) ∈ WALL := wall_at (i := 57) (by decide +kernel) rfl
theorem wd_1643 : (Cond.methodLink RX11 87 yX11_in : Cond) ∈ WALL := wall_t (tw_7 _ (List.mem_of_getElem? (i := 91) (by decide +kernel))) rfl
theorem wd_1644 : (Cond.static yX11_in : Cond) ∈ WALL := wall_t (tw_7 _ (List.mem_of_getElem? (i := 92) (by decide +kernel))) rfl
theorem wd_1786 : (Cond.code yX11_allSets cX11_allSets 1 (some .int) : Cond) ∈ WALL := wall_t (tw_7 _ (List.mem_of_getElem? (i := 234) (by rfl))) rfl
theorem wd_1782 : (Cond.code yX11_isSet cX11_isSet 2 (some .boolean) : Cond) ∈ WALL := wall_t (tw_7 _ (List.mem_of_getElem? (i := 230) (by rfl))) rfl
theorem wd_1783 : (Cond.methodLink RX11 91 yX11_allSets : Cond) ∈ WALL := wall_t (tw_7 _ (List.mem_of_getElem? (i := 231) (by decide +kernel))) rfl
theorem wd_1785 : (Cond.instanceMethod yX11_allSets : Cond) ∈ WALL := wall_t (tw_7 _ (List.mem_of_getElem? (i := 233) (by decide +kernel))) rfl
theorem wd_66 : (Cond.selects RX11 yX11_allSets yX11_allSets : Cond) ∈ WALL := wall_at (i := 66) (by decide +kernel) rfl
theorem wd_1794 : (Cond.code yX11_sumOf cX11_sumOf 5 (some .int) : Cond) ∈ WALL := wall_t (tw_8 _ (List.mem_of_getElem? (i := 2) (by rfl))) rfl
theorem wd_1732 : (Cond.methodLink RX11 94 yX11_has : Cond) ∈ WALL := wall_t (tw_7 _ (List.mem_of_getElem? (i := 180) (by decide +kernel))) rfl
theorem wd_1733 : (Cond.static yX11_has : Cond) ∈ WALL := wall_t (tw_7 _ (List.mem_of_getElem? (i := 181) (by decide +kernel))) rfl
theorem wd_1728 : (Cond.methodLink RX11 98 yX11_ofItem : Cond) ∈ WALL := wall_t (tw_7 _ (List.mem_of_getElem? (i := 176) (by decide +kernel))) rfl
theorem wd_1730 : (Cond.instanceMethod yX11_ofItem : Cond) ∈ WALL := wall_t (tw_7 _ (List.mem_of_getElem? (i := 178) (by decide +kernel))) rfl
theorem wd_60 : (Cond.selects RX11 yX11_ofItem yX11_ofItem : Cond) ∈ WALL := wall_at (i := 60) (by decide +kernel) rfl
theorem wd_1798 : (Cond.code yX11_isBarred cX11_isBarred 3 (some .boolean) : Cond) ∈ WALL := wall_t (tw_8 _ (List.mem_of_getElem? (i := 6) (by rfl))) rfl
theorem wd_1802 : (Cond.code yX11_doesLack cX11_doesLack 3 (some .boolean) : Cond) ∈ WALL := wall_t (tw_8 _ (List.mem_of_getElem? (i := 10) (by rfl))) rfl
theorem wd_1791 : (Cond.methodLink RX11 102 yX11_sumOf : Cond) ∈ WALL := wall_t (tw_7 _ (List.mem_of_getElem? (i := 239) (by decide +kernel))) rfl
theorem wd_1793 : (Cond.instanceMethod yX11_sumOf : Cond) ∈ WALL := wall_t (tw_8 _ (List.mem_of_getElem? (i := 1) (by decide +kernel))) rfl
theorem wd_68 : (Cond.selects RX11 yX11_sumOf yX11_sumOf : Cond) ∈ WALL := wall_at (i := 68) (by decide +kernel) rfl
theorem wd_1763 : (Cond.methodLink RX11 105 yX11_bits : Cond) ∈ WALL := wall_t (tw_7 _ (List.mem_of_getElem? (i := 211) (by decide +kernel))) rfl
theorem wd_1764 : (Cond.static yX11_bits : Cond) ∈ WALL := wall_t (tw_7 _ (List.mem_of_getElem? (i := 212) (by decide +kernel))) rfl
theorem wd_1795 : (Cond.methodLink RX11 109 yX11_isBarred : Cond) ∈ WALL := wall_t (tw_8 _ (List.mem_of_getElem? (i := 3) (by decide +kernel))) rfl
theorem wd_1797 : (Cond.instanceMethod yX11_isBarred : Cond) ∈ WALL := wall_t (tw_8 _ (List.mem_of_getElem? (i := 5) (by decide +kernel))) rfl
theorem wd_69 : (Cond.selects RX11 yX11_isBarred yX11_isBarred : Cond) ∈ WALL := wall_at (i := 69) (by decide +kernel) rfl
theorem wd_1799 : (Cond.methodLink RX11 113 yX11_doesLack : Cond) ∈ WALL := wall_t (tw_8 _ (List.mem_of_getElem? (i := 7) (by decide +kernel))) rfl
theorem wd_1801 : (Cond.instanceMethod yX11_doesLack : Cond) ∈ WALL := wall_t (tw_8 _ (List.mem_of_getElem? (i := 9) (by decide +kernel))) rfl
theorem wd_70 : (Cond.selects RX11 yX11_doesLack yX11_doesLack : Cond) ∈ WALL := wall_at (i := 70) (by decide +kernel) rfl
theorem wd_1790 : (Cond.code yX11_refusalOf cX11_refusalOf 2 (some .int) : Cond) ∈ WALL := wall_t (tw_7 _ (List.mem_of_getElem? (i := 238) (by rfl))) rfl
theorem wd_1787 : (Cond.methodLink RX11 116 yX11_refusalOf : Cond) ∈ WALL := wall_t (tw_7 _ (List.mem_of_getElem? (i := 235) (by decide +kernel))) rfl
theorem wd_1789 : (Cond.instanceMethod yX11_refusalOf : Cond) ∈ WALL := wall_t (tw_7 _ (List.mem_of_getElem? (i := 237) (by decide +kernel))) rfl
theorem wd_67 : (Cond.selects RX11 yX11_refusalOf yX11_refusalOf : Cond) ∈ WALL := wall_at (i := 67) (by decide +kernel) rfl
theorem wd_1819 : (Cond.code yX11_isAllowed cX11_isAllowed 2 (some .boolean) : Cond) ∈ WALL := wall_t (tw_8 _ (List.mem_of_getElem? (i := 27) (by rfl))) rfl
theorem wd_1506 : (Cond.fieldLink RX11 119 "ParetoDeskModel" "allowedMany" "I" : Cond) ∈ WALL := wall_t (tw_6 _ (List.mem_of_getElem? (i := 194) (by decide +kernel))) rfl
theorem wd_1820 : (Cond.methodLink RX11 125 Lib.Math.max.name : Cond) ∈ WALL := wall_t (tw_8 _ (List.mem_of_getElem? (i := 28) (by decide +kernel))) rfl
theorem wd_1816 : (Cond.methodLink RX11 122 yX11_isAllowed : Cond) ∈ WALL := wall_t (tw_8 _ (List.mem_of_getElem? (i := 24) (by decide +kernel))) rfl
theorem wd_1818 : (Cond.instanceMethod yX11_isAllowed : Cond) ∈ WALL := wall_t (tw_8 _ (List.mem_of_getElem? (i := 26) (by decide +kernel))) rfl
theorem wd_72 : (Cond.selects RX11 yX11_isAllowed yX11_isAllowed : Cond) ∈ WALL := wall_at (i := 72) (by decide +kernel) rfl
theorem wd_1815 : (Cond.code yX11_layJoys cX11_layJoys 3 none : Cond) ∈ WALL := wall_t (tw_8 _ (List.mem_of_getElem? (i := 23) (by rfl))) rfl
theorem wd_1832 : (Cond.code yX11_layGains cX11_layGains 4 none : Cond) ∈ WALL := wall_t (tw_8 _ (List.mem_of_getElem? (i := 40) (by rfl))) rfl
theorem wd_1508 : (Cond.fieldLink RX11 130 "ParetoDeskModel" "pointMany" "I" : Cond) ∈ WALL := wall_t (tw_6 _ (List.mem_of_getElem? (i := 196) (by decide +kernel))) rfl
theorem wd_1812 : (Cond.methodLink RX11 133 yX11_layJoys : Cond) ∈ WALL := wall_t (tw_8 _ (List.mem_of_getElem? (i := 20) (by decide +kernel))) rfl
theorem wd_1814 : (Cond.instanceMethod yX11_layJoys : Cond) ∈ WALL := wall_t (tw_8 _ (List.mem_of_getElem? (i := 22) (by decide +kernel))) rfl
theorem wd_71 : (Cond.selects RX11 yX11_layJoys yX11_layJoys : Cond) ∈ WALL := wall_at (i := 71) (by decide +kernel) rfl
theorem wd_1829 : (Cond.methodLink RX11 136 yX11_layGains : Cond) ∈ WALL := wall_t (tw_8 _ (List.mem_of_getElem? (i := 37) (by decide +kernel))) rfl
theorem wd_1831 : (Cond.instanceMethod yX11_layGains : Cond) ∈ WALL := wall_t (tw_8 _ (List.mem_of_getElem? (i := 39) (by decide +kernel))) rfl
theorem wd_74 : (Cond.selects RX11 yX11_layGains yX11_layGains : Cond) ∈ WALL := wall_at (i := 74) (by decide +kernel) rfl
theorem wd_1828 : (Cond.code yX11_layPoints cX11_layPoints 3 none : Cond) ∈ WALL := wall_t (tw_8 _ (List.mem_of_getElem? (i := 36) (by rfl))) rfl
theorem wd_1852 : (Cond.code yX11_pointWith cX11_pointWith 3 (some .int) : Cond) ∈ WALL := wall_t (tw_8 _ (List.mem_of_getElem? (i := 60) (by rfl))) rfl
theorem wd_1853 : (Cond.constantLong RX11 139 (1188) : Cond) ∈ WALL := wall_t (tw_8 _ (List.mem_of_getElem? (i := 61) (by decide +kernel))) rfl
theorem wd_1849 : (Cond.methodLink RX11 141 yX11_pointWith : Cond) ∈ WALL := wall_t (tw_8 _ (List.mem_of_getElem? (i := 57) (by decide +kernel))) rfl
theorem wd_1851 : (Cond.instanceMethod yX11_pointWith : Cond) ∈ WALL := wall_t (tw_8 _ (List.mem_of_getElem? (i := 59) (by decide +kernel))) rfl
theorem wd_78 : (Cond.selects RX11 yX11_pointWith yX11_pointWith : Cond) ∈ WALL := wall_at (i := 78) (by decide +kernel) rfl
theorem wd_1848 : (Cond.code yX11_pointBy cX11_pointBy 2 (some .int) : Cond) ∈ WALL := wall_t (tw_8 _ (List.mem_of_getElem? (i := 56) (by rfl))) rfl
theorem wd_1857 : (Cond.code yX11_noteChoice cX11_noteChoice 4 none : Cond) ∈ WALL := wall_t (tw_8 _ (List.mem_of_getElem? (i := 65) (by rfl))) rfl
theorem wd_1825 : (Cond.methodLink RX11 144 yX11_layPoints : Cond) ∈ WALL := wall_t (tw_8 _ (List.mem_of_getElem? (i := 33) (by decide +kernel))) rfl
theorem wd_1827 : (Cond.instanceMethod yX11_layPoints : Cond) ∈ WALL := wall_t (tw_8 _ (List.mem_of_getElem? (i := 35) (by decide +kernel))) rfl
theorem wd_73 : (Cond.selects RX11 yX11_layPoints yX11_layPoints : Cond) ∈ WALL := wall_at (i := 73) (by decide +kernel) rfl
theorem wd_1845 : (Cond.methodLink RX11 147 yX11_pointBy : Cond) ∈ WALL := wall_t (tw_8 _ (List.mem_of_getElem? (i := 53) (by decide +kernel))) rfl
theorem wd_1847 : (Cond.instanceMethod yX11_pointBy : Cond) ∈ WALL := wall_t (tw_8 _ (List.mem_of_getElem? (i := 55) (by decide +kernel))) rfl
theorem wd_77 : (Cond.selects RX11 yX11_pointBy yX11_pointBy : Cond) ∈ WALL := wall_at (i := 77) (by decide +kernel) rfl
theorem wd_1854 : (Cond.methodLink RX11 150 yX11_noteChoice : Cond) ∈ WALL := wall_t (tw_8 _ (List.mem_of_getElem? (i := 62) (by decide +kernel))) rfl
theorem wd_1856 : (Cond.instanceMethod yX11_noteChoice : Cond) ∈ WALL := wall_t (tw_8 _ (List.mem_of_getElem? (i := 64) (by decide +kernel))) rfl
theorem wd_79 : (Cond.selects RX11 yX11_noteChoice yX11_noteChoice : Cond) ∈ WALL := wall_at (i := 79) (by decide +kernel) rfl
theorem wd_1844 : (Cond.code yX11_layAll cX11_layAll 3 none : Cond) ∈ WALL := wall_t (tw_8 _ (List.mem_of_getElem? (i := 52) (by rfl))) rfl
theorem wd_1873 : (Cond.code yX11_isPoint cX11_isPoint 2 (some .boolean) : Cond) ∈ WALL := wall_t (tw_8 _ (List.mem_of_getElem? (i := 81) (by rfl))) rfl
theorem wd_1869 : (Cond.code yX11_valueOf cX11_valueOf 4 (some .int) : Cond) ∈ WALL := wall_t (tw_8 _ (List.mem_of_getElem? (i := 77) (by rfl))) rfl
theorem wd_1930 : (Cond.code yX11_bestBy cX11_bestBy 5 (some .int) : Cond) ∈ WALL := wall_t (tw_8 _ (List.mem_of_getElem? (i := 138) (by rfl))) rfl
theorem wd_1866 : (Cond.methodLink RX11 154 yX11_valueOf : Cond) ∈ WALL := wall_t (tw_8 _ (List.mem_of_getElem? (i := 74) (by decide +kernel))) rfl
theorem wd_1868 : (Cond.instanceMethod yX11_valueOf : Cond) ∈ WALL := wall_t (tw_8 _ (List.mem_of_getElem? (i := 76) (by decide +kernel))) rfl
theorem wd_82 : (Cond.selects RX11 yX11_valueOf yX11_valueOf : Cond) ∈ WALL := wall_at (i := 82) (by decide +kernel) rfl
theorem wd_1906 : (Cond.code yX11_doesBeat cX11_doesBeat 4 (some .boolean) : Cond) ∈ WALL := wall_t (tw_8 _ (List.mem_of_getElem? (i := 114) (by rfl))) rfl
theorem wd_2002 : (Cond.code yX11_areaNow cX11_areaNow 3 (some .int) : Cond) ∈ WALL := wall_t (tw_8 _ (List.mem_of_getElem? (i := 210) (by rfl))) rfl
theorem wd_1865 : (Cond.code yX11_isAbove cX11_isAbove 6 (some .boolean) : Cond) ∈ WALL := wall_t (tw_8 _ (List.mem_of_getElem? (i := 73) (by rfl))) rfl
theorem wd_1890 : (Cond.code yX11_isOn cX11_isOn 6 (some .boolean) : Cond) ∈ WALL := wall_t (tw_8 _ (List.mem_of_getElem? (i := 98) (by rfl))) rfl
theorem wd_1861 : (Cond.code yX11_layCorners cX11_layCorners 2 none : Cond) ∈ WALL := wall_t (tw_8 _ (List.mem_of_getElem? (i := 69) (by rfl))) rfl
theorem wd_1516 : (Cond.fieldLink RX11 158 "ParetoDeskModel" "cornerMany" "I" : Cond) ∈ WALL := wall_t (tw_6 _ (List.mem_of_getElem? (i := 204) (by decide +kernel))) rfl
theorem wd_1862 : (Cond.methodLink RX11 161 yX11_isAbove : Cond) ∈ WALL := wall_t (tw_8 _ (List.mem_of_getElem? (i := 70) (by decide +kernel))) rfl
theorem wd_1864 : (Cond.instanceMethod yX11_isAbove : Cond) ∈ WALL := wall_t (tw_8 _ (List.mem_of_getElem? (i := 72) (by decide +kernel))) rfl
theorem wd_81 : (Cond.selects RX11 yX11_isAbove yX11_isAbove : Cond) ∈ WALL := wall_at (i := 81) (by decide +kernel) rfl
theorem wd_1882 : (Cond.code yX11_isCorner cX11_isCorner 4 (some .boolean) : Cond) ∈ WALL := wall_t (tw_8 _ (List.mem_of_getElem? (i := 90) (by rfl))) rfl
theorem wd_1886 : (Cond.code yX11_boxOf cX11_boxOf 3 (some .int) : Cond) ∈ WALL := wall_t (tw_8 _ (List.mem_of_getElem? (i := 94) (by rfl))) rfl
theorem wd_1878 : (Cond.code yX11_isSupported cX11_isSupported 3 (some .boolean) : Cond) ∈ WALL := wall_t (tw_8 _ (List.mem_of_getElem? (i := 86) (by rfl))) rfl
theorem wd_1879 : (Cond.methodLink RX11 165 yX11_isCorner : Cond) ∈ WALL := wall_t (tw_8 _ (List.mem_of_getElem? (i := 87) (by decide +kernel))) rfl
theorem wd_1881 : (Cond.instanceMethod yX11_isCorner : Cond) ∈ WALL := wall_t (tw_8 _ (List.mem_of_getElem? (i := 89) (by decide +kernel))) rfl
theorem wd_85 : (Cond.selects RX11 yX11_isCorner yX11_isCorner : Cond) ∈ WALL := wall_at (i := 85) (by decide +kernel) rfl
theorem wd_1883 : (Cond.methodLink RX11 168 yX11_boxOf : Cond) ∈ WALL := wall_t (tw_8 _ (List.mem_of_getElem? (i := 91) (by decide +kernel))) rfl
theorem wd_1885 : (Cond.instanceMethod yX11_boxOf : Cond) ∈ WALL := wall_t (tw_8 _ (List.mem_of_getElem? (i := 93) (by decide +kernel))) rfl
theorem wd_86 : (Cond.selects RX11 yX11_boxOf yX11_boxOf : Cond) ∈ WALL := wall_at (i := 86) (by decide +kernel) rfl
theorem wd_1887 : (Cond.methodLink RX11 171 yX11_isOn : Cond) ∈ WALL := wall_t (tw_8 _ (List.mem_of_getElem? (i := 95) (by decide +kernel))) rfl
theorem wd_1889 : (Cond.instanceMethod yX11_isOn : Cond) ∈ WALL := wall_t (tw_8 _ (List.mem_of_getElem? (i := 97) (by decide +kernel))) rfl
theorem wd_87 : (Cond.selects RX11 yX11_isOn yX11_isOn : Cond) ∈ WALL := wall_at (i := 87) (by decide +kernel) rfl
theorem wd_1841 : (Cond.methodLink RX11 174 yX11_layAll : Cond) ∈ WALL := wall_t (tw_8 _ (List.mem_of_getElem? (i := 49) (by decide +kernel))) rfl
theorem wd_1843 : (Cond.instanceMethod yX11_layAll : Cond) ∈ WALL := wall_t (tw_8 _ (List.mem_of_getElem? (i := 51) (by decide +kernel))) rfl
theorem wd_76 : (Cond.selects RX11 yX11_layAll yX11_layAll : Cond) ∈ WALL := wall_at (i := 76) (by decide +kernel) rfl
theorem wd_1858 : (Cond.methodLink RX11 177 yX11_layCorners : Cond) ∈ WALL := wall_t (tw_8 _ (List.mem_of_getElem? (i := 66) (by decide +kernel))) rfl
theorem wd_1860 : (Cond.instanceMethod yX11_layCorners : Cond) ∈ WALL := wall_t (tw_8 _ (List.mem_of_getElem? (i := 68) (by decide +kernel))) rfl
theorem wd_80 : (Cond.selects RX11 yX11_layCorners yX11_layCorners : Cond) ∈ WALL := wall_at (i := 80) (by decide +kernel) rfl
theorem wd_1840 : (Cond.code yX11_layCornersToo cX11_layCornersToo 1 none : Cond) ∈ WALL := wall_t (tw_8 _ (List.mem_of_getElem? (i := 48) (by rfl))) rfl
theorem wd_1978 : (Cond.code yX11_enqueue cX11_enqueue 3 none : Cond) ∈ WALL := wall_t (tw_8 _ (List.mem_of_getElem? (i := 186) (by rfl))) rfl
theorem wd_1519 : (Cond.fieldLink RX11 180 "ParetoDeskModel" "queued" "I" : Cond) ∈ WALL := wall_t (tw_6 _ (List.mem_of_getElem? (i := 207) (by decide +kernel))) rfl
theorem wd_1982 : (Cond.code yX11_stepP cX11_stepP 2 (some .int) : Cond) ∈ WALL := wall_t (tw_8 _ (List.mem_of_getElem? (i := 190) (by rfl))) rfl
theorem wd_1986 : (Cond.code yX11_stepQ cX11_stepQ 2 (some .int) : Cond) ∈ WALL := wall_t (tw_8 _ (List.mem_of_getElem? (i := 194) (by rfl))) rfl
theorem wd_1518 : (Cond.fieldLink RX11 183 "ParetoDeskModel" "stepMany" "I" : Cond) ∈ WALL := wall_t (tw_6 _ (List.mem_of_getElem? (i := 206) (by decide +kernel))) rfl
theorem wd_1975 : (Cond.methodLink RX11 186 yX11_enqueue : Cond) ∈ WALL := wall_t (tw_8 _ (List.mem_of_getElem? (i := 183) (by decide +kernel))) rfl
theorem wd_1977 : (Cond.instanceMethod yX11_enqueue : Cond) ∈ WALL := wall_t (tw_8 _ (List.mem_of_getElem? (i := 185) (by decide +kernel))) rfl
theorem wd_94 : (Cond.selects RX11 yX11_enqueue yX11_enqueue : Cond) ∈ WALL := wall_at (i := 94) (by decide +kernel) rfl
theorem wd_1979 : (Cond.methodLink RX11 189 yX11_stepP : Cond) ∈ WALL := wall_t (tw_8 _ (List.mem_of_getElem? (i := 187) (by decide +kernel))) rfl
theorem wd_1981 : (Cond.instanceMethod yX11_stepP : Cond) ∈ WALL := wall_t (tw_8 _ (List.mem_of_getElem? (i := 189) (by decide +kernel))) rfl
theorem wd_95 : (Cond.selects RX11 yX11_stepP yX11_stepP : Cond) ∈ WALL := wall_at (i := 95) (by decide +kernel) rfl
theorem wd_1983 : (Cond.methodLink RX11 192 yX11_stepQ : Cond) ∈ WALL := wall_t (tw_8 _ (List.mem_of_getElem? (i := 191) (by decide +kernel))) rfl
theorem wd_1985 : (Cond.instanceMethod yX11_stepQ : Cond) ∈ WALL := wall_t (tw_8 _ (List.mem_of_getElem? (i := 193) (by decide +kernel))) rfl
theorem wd_96 : (Cond.selects RX11 yX11_stepQ yX11_stepQ : Cond) ∈ WALL := wall_at (i := 96) (by decide +kernel) rfl
theorem wd_1927 : (Cond.methodLink RX11 195 yX11_bestBy : Cond) ∈ WALL := wall_t (tw_8 _ (List.mem_of_getElem? (i := 135) (by decide +kernel))) rfl
theorem wd_1929 : (Cond.instanceMethod yX11_bestBy : Cond) ∈ WALL := wall_t (tw_8 _ (List.mem_of_getElem? (i := 137) (by decide +kernel))) rfl
theorem wd_89 : (Cond.selects RX11 yX11_bestBy yX11_bestBy : Cond) ∈ WALL := wall_at (i := 89) (by decide +kernel) rfl
theorem wd_1974 : (Cond.code yX11_search cX11_search 7 none : Cond) ∈ WALL := wall_t (tw_8 _ (List.mem_of_getElem? (i := 182) (by rfl))) rfl
theorem wd_2062 : (Cond.code yX11_pairOf cX11_pairOf 2 (some .int) : Cond) ∈ WALL := wall_t (tw_9 _ (List.mem_of_getElem? (i := 30) (by rfl))) rfl
theorem wd_2066 : (Cond.code yX11_sortPairs cX11_sortPairs 6 none : Cond) ∈ WALL := wall_t (tw_9 _ (List.mem_of_getElem? (i := 34) (by rfl))) rfl
theorem wd_1522 : (Cond.fieldLink RX11 205 "ParetoDeskModel" "pairMany" "I" : Cond) ∈ WALL := wall_t (tw_6 _ (List.mem_of_getElem? (i := 210) (by decide +kernel))) rfl
theorem wd_2060 : (Cond.methodLink RX11 198 yX11_pairOf : Cond) ∈ WALL := wall_t (tw_9 _ (List.mem_of_getElem? (i := 28) (by decide +kernel))) rfl
theorem wd_2061 : (Cond.static yX11_pairOf : Cond) ∈ WALL := wall_t (tw_9 _ (List.mem_of_getElem? (i := 29) (by decide +kernel))) rfl
theorem wd_2063 : (Cond.methodLink RX11 201 yX11_sortPairs : Cond) ∈ WALL := wall_t (tw_9 _ (List.mem_of_getElem? (i := 31) (by decide +kernel))) rfl
theorem wd_2065 : (Cond.instanceMethod yX11_sortPairs : Cond) ∈ WALL := wall_t (tw_9 _ (List.mem_of_getElem? (i := 33) (by decide +kernel))) rfl
theorem wd_102 : (Cond.selects RX11 yX11_sortPairs yX11_sortPairs : Cond) ∈ WALL := wall_at (i := 102) (by decide +kernel) rfl
theorem wd_2059 : (Cond.code yX11_layPairs cX11_layPairs 3 none : Cond) ∈ WALL := wall_t (tw_9 _ (List.mem_of_getElem? (i := 27) (by rfl))) rfl
theorem wd_1524 : (Cond.fieldLink RX11 211 "ParetoDeskModel" "layerMany" "I" : Cond) ∈ WALL := wall_t (tw_6 _ (List.mem_of_getElem? (i := 212) (by decide +kernel))) rfl
theorem wd_2056 : (Cond.methodLink RX11 208 yX11_layPairs : Cond) ∈ WALL := wall_t (tw_9 _ (List.mem_of_getElem? (i := 24) (by decide +kernel))) rfl
theorem wd_2058 : (Cond.instanceMethod yX11_layPairs : Cond) ∈ WALL := wall_t (tw_9 _ (List.mem_of_getElem? (i := 26) (by decide +kernel))) rfl
theorem wd_101 : (Cond.selects RX11 yX11_layPairs yX11_layPairs : Cond) ∈ WALL := wall_at (i := 101) (by decide +kernel) rfl
theorem wd_2055 : (Cond.code yX11_layLayers cX11_layLayers 4 none : Cond) ∈ WALL := wall_t (tw_9 _ (List.mem_of_getElem? (i := 23) (by rfl))) rfl
theorem wd_2094 : (Cond.code yX11_valueBy cX11_valueBy 4 (some .int) : Cond) ∈ WALL := wall_t (tw_9 _ (List.mem_of_getElem? (i := 62) (by rfl))) rfl
theorem wd_1526 : (Cond.fieldLink RX11 214 "ParetoDeskModel" "ahead" "I" : Cond) ∈ WALL := wall_t (tw_6 _ (List.mem_of_getElem? (i := 214) (by decide +kernel))) rfl
theorem wd_2091 : (Cond.methodLink RX11 217 yX11_valueBy : Cond) ∈ WALL := wall_t (tw_9 _ (List.mem_of_getElem? (i := 59) (by decide +kernel))) rfl
theorem wd_2093 : (Cond.instanceMethod yX11_valueBy : Cond) ∈ WALL := wall_t (tw_9 _ (List.mem_of_getElem? (i := 61) (by decide +kernel))) rfl
theorem wd_106 : (Cond.selects RX11 yX11_valueBy yX11_valueBy : Cond) ∈ WALL := wall_at (i := 106) (by decide +kernel) rfl
theorem wd_2090 : (Cond.code yX11_lookAt cX11_lookAt 5 none : Cond) ∈ WALL := wall_t (tw_9 _ (List.mem_of_getElem? (i := 58) (by rfl))) rfl
theorem wd_2087 : (Cond.methodLink RX11 220 yX11_lookAt : Cond) ∈ WALL := wall_t (tw_9 _ (List.mem_of_getElem? (i := 55) (by decide +kernel))) rfl
theorem wd_2089 : (Cond.instanceMethod yX11_lookAt : Cond) ∈ WALL := wall_t (tw_9 _ (List.mem_of_getElem? (i := 57) (by decide +kernel))) rfl
theorem wd_105 : (Cond.selects RX11 yX11_lookAt yX11_lookAt : Cond) ∈ WALL := wall_at (i := 105) (by decide +kernel) rfl
theorem wd_2086 : (Cond.code yX11_nextFrom cX11_nextFrom 6 (some .int) : Cond) ∈ WALL := wall_t (tw_9 _ (List.mem_of_getElem? (i := 54) (by rfl))) rfl
theorem wd_1525 : (Cond.fieldLink RX11 224 "ParetoDeskModel" "climbSteps" "I" : Cond) ∈ WALL := wall_t (tw_6 _ (List.mem_of_getElem? (i := 213) (by decide +kernel))) rfl
theorem wd_2083 : (Cond.methodLink RX11 227 yX11_nextFrom : Cond) ∈ WALL := wall_t (tw_9 _ (List.mem_of_getElem? (i := 51) (by decide +kernel))) rfl
theorem wd_2085 : (Cond.instanceMethod yX11_nextFrom : Cond) ∈ WALL := wall_t (tw_9 _ (List.mem_of_getElem? (i := 53) (by decide +kernel))) rfl
theorem wd_104 : (Cond.selects RX11 yX11_nextFrom yX11_nextFrom : Cond) ∈ WALL := wall_at (i := 104) (by decide +kernel) rfl
theorem wd_2082 : (Cond.code yX11_climbed cX11_climbed 5 (some .int) : Cond) ∈ WALL := wall_t (tw_9 _ (List.mem_of_getElem? (i := 50) (by rfl))) rfl
theorem wd_1925 : (Cond.code yX11_areWeights cX11_areWeights 2 (some .boolean) : Cond) ∈ WALL := wall_t (tw_8 _ (List.mem_of_getElem? (i := 133) (by rfl))) rfl
theorem wd_1926 : (Cond.constantLong RX11 230 (99) : Cond) ∈ WALL := wall_t (tw_8 _ (List.mem_of_getElem? (i := 134) (by decide +kernel))) rfl
theorem wd_1638 : (Cond.code yX11_appendFour cX11_appendFour 3 none : Cond) ∈ WALL := wall_t (tw_7 _ (List.mem_of_getElem? (i := 86) (by rfl))) rfl
theorem wd_1528 : (Cond.fieldLink RX11 232 "ParetoDeskModel" "inputSize" "I" : Cond) ∈ WALL := wall_t (tw_6 _ (List.mem_of_getElem? (i := 216) (by decide +kernel))) rfl
theorem wd_1626 : (Cond.code yX11_append cX11_append 6 (some .int) : Cond) ∈ WALL := wall_t (tw_7 _ (List.mem_of_getElem? (i := 74) (by rfl))) rfl
theorem wd_1627 : (Cond.methodLink RX11 235 yX11_passes : Cond) ∈ WALL := wall_t (tw_7 _ (List.mem_of_getElem? (i := 75) (by decide +kernel))) rfl
theorem wd_1629 : (Cond.instanceMethod yX11_passes : Cond) ∈ WALL := wall_t (tw_7 _ (List.mem_of_getElem? (i := 77) (by decide +kernel))) rfl
theorem wd_41 : (Cond.selects RX11 yX11_passes yX11_passes : Cond) ∈ WALL := wall_at (i := 41) (by decide +kernel) rfl
theorem wd_1635 : (Cond.methodLink RX11 239 yX11_appendFour : Cond) ∈ WALL := wall_t (tw_7 _ (List.mem_of_getElem? (i := 83) (by decide +kernel))) rfl
theorem wd_1637 : (Cond.instanceMethod yX11_appendFour : Cond) ∈ WALL := wall_t (tw_7 _ (List.mem_of_getElem? (i := 85) (by decide +kernel))) rfl
theorem wd_43 : (Cond.selects RX11 yX11_appendFour yX11_appendFour : Cond) ∈ WALL := wall_at (i := 43) (by decide +kernel) rfl
theorem wd_1642 : (Cond.code yX11_truncate cX11_truncate 2 none : Cond) ∈ WALL := wall_t (tw_7 _ (List.mem_of_getElem? (i := 90) (by rfl))) rfl
theorem wd_1679 : (Cond.code yX11_good cX11_good 1 (some .boolean) : Cond) ∈ WALL := wall_t (tw_7 _ (List.mem_of_getElem? (i := 127) (by rfl))) rfl
theorem wd_1534 : (Cond.fieldLink RX11 242 "ParetoDeskModel" "errorFound" "I" : Cond) ∈ WALL := wall_t (tw_6 _ (List.mem_of_getElem? (i := 222) (by decide +kernel))) rfl
theorem wd_1685 : (Cond.code yX11_errs cX11_errs 2 none : Cond) ∈ WALL := wall_t (tw_7 _ (List.mem_of_getElem? (i := 133) (by rfl))) rfl
theorem wd_1531 : (Cond.fieldLink RX11 249 "ParetoDeskModel" "start" "I" : Cond) ∈ WALL := wall_t (tw_6 _ (List.mem_of_getElem? (i := 219) (by decide +kernel))) rfl
theorem wd_1676 : (Cond.methodLink RX11 245 yX11_good : Cond) ∈ WALL := wall_t (tw_7 _ (List.mem_of_getElem? (i := 124) (by decide +kernel))) rfl
theorem wd_1678 : (Cond.instanceMethod yX11_good : Cond) ∈ WALL := wall_t (tw_7 _ (List.mem_of_getElem? (i := 126) (by decide +kernel))) rfl
theorem wd_49 : (Cond.selects RX11 yX11_good yX11_good : Cond) ∈ WALL := wall_at (i := 49) (by decide +kernel) rfl
theorem wd_1657 : (Cond.code yX11_byteAt cX11_byteAt 2 (some .int) : Cond) ∈ WALL := wall_t (tw_7 _ (List.mem_of_getElem? (i := 105) (by rfl))) rfl
theorem wd_1529 : (Cond.fieldLink RX11 252 "ParetoDeskModel" "textSize" "I" : Cond) ∈ WALL := wall_t (tw_6 _ (List.mem_of_getElem? (i := 217) (by decide +kernel))) rfl
theorem wd_1653 : (Cond.code yX11_scan cX11_scan 2 none : Cond) ∈ WALL := wall_t (tw_7 _ (List.mem_of_getElem? (i := 101) (by rfl))) rfl
theorem wd_1530 : (Cond.fieldLink RX11 255 "ParetoDeskModel" "next" "I" : Cond) ∈ WALL := wall_t (tw_6 _ (List.mem_of_getElem? (i := 218) (by decide +kernel))) rfl
theorem wd_1532 : (Cond.fieldLink RX11 261 "ParetoDeskModel" "token" "I" : Cond) ∈ WALL := wall_t (tw_6 _ (List.mem_of_getElem? (i := 220) (by decide +kernel))) rfl
theorem wd_1658 : (Cond.constantLong RX11 264 (97) : Cond) ∈ WALL := wall_t (tw_7 _ (List.mem_of_getElem? (i := 106) (by decide +kernel))) rfl
theorem wd_1659 : (Cond.constantLong RX11 266 (122) : Cond) ∈ WALL := wall_t (tw_7 _ (List.mem_of_getElem? (i := 107) (by decide +kernel))) rfl
theorem wd_1660 : (Cond.constantLong RX11 268 (48) : Cond) ∈ WALL := wall_t (tw_7 _ (List.mem_of_getElem? (i := 108) (by decide +kernel))) rfl
theorem wd_1661 : (Cond.constantLong RX11 270 (57) : Cond) ∈ WALL := wall_t (tw_7 _ (List.mem_of_getElem? (i := 109) (by decide +kernel))) rfl
theorem wd_1533 : (Cond.fieldLink RX11 272 "ParetoDeskModel" "value" "I" : Cond) ∈ WALL := wall_t (tw_6 _ (List.mem_of_getElem? (i := 221) (by decide +kernel))) rfl
theorem wd_1662 : (Cond.methodLink RX11 275 Lib.Math.min.name : Cond) ∈ WALL := wall_t (tw_7 _ (List.mem_of_getElem? (i := 110) (by decide +kernel))) rfl
theorem wd_1654 : (Cond.methodLink RX11 258 yX11_byteAt : Cond) ∈ WALL := wall_t (tw_7 _ (List.mem_of_getElem? (i := 102) (by decide +kernel))) rfl
theorem wd_1656 : (Cond.instanceMethod yX11_byteAt : Cond) ∈ WALL := wall_t (tw_7 _ (List.mem_of_getElem? (i := 104) (by decide +kernel))) rfl
theorem wd_45 : (Cond.selects RX11 yX11_byteAt yX11_byteAt : Cond) ∈ WALL := wall_at (i := 45) (by decide +kernel) rfl
theorem wd_1650 : (Cond.methodLink RX11 278 yX11_scan : Cond) ∈ WALL := wall_t (tw_7 _ (List.mem_of_getElem? (i := 98) (by decide +kernel))) rfl
theorem wd_1652 : (Cond.instanceMethod yX11_scan : Cond) ∈ WALL := wall_t (tw_7 _ (List.mem_of_getElem? (i := 100) (by decide +kernel))) rfl
theorem wd_44 : (Cond.selects RX11 yX11_scan yX11_scan : Cond) ∈ WALL := wall_at (i := 44) (by decide +kernel) rfl
theorem wd_1689 : (Cond.code yX11_goOn cX11_goOn 1 none : Cond) ∈ WALL := wall_t (tw_7 _ (List.mem_of_getElem? (i := 137) (by rfl))) rfl
theorem wd_1680 : (Cond.methodLink RX11 281 yJ0_length_8abf5 : Cond) ∈ WALL := wall_t (tw_7 _ (List.mem_of_getElem? (i := 128) (by decide +kernel))) rfl
theorem wd_1681 : (Cond.methodLink RX11 286 yJ0_charAt_5068e : Cond) ∈ WALL := wall_t (tw_7 _ (List.mem_of_getElem? (i := 129) (by decide +kernel))) rfl
theorem wd_1675 : (Cond.code yX11_isWord cX11_isWord 4 (some .boolean) : Cond) ∈ WALL := wall_t (tw_7 _ (List.mem_of_getElem? (i := 123) (by rfl))) rfl
theorem wd_1697 : (Cond.code yX11_look cX11_look 3 none : Cond) ∈ WALL := wall_t (tw_7 _ (List.mem_of_getElem? (i := 145) (by rfl))) rfl
theorem wd_1682 : (Cond.methodLink RX11 290 yX11_errs : Cond) ∈ WALL := wall_t (tw_7 _ (List.mem_of_getElem? (i := 130) (by decide +kernel))) rfl
theorem wd_1684 : (Cond.instanceMethod yX11_errs : Cond) ∈ WALL := wall_t (tw_7 _ (List.mem_of_getElem? (i := 132) (by decide +kernel))) rfl
theorem wd_50 : (Cond.selects RX11 yX11_errs yX11_errs : Cond) ∈ WALL := wall_at (i := 50) (by decide +kernel) rfl
theorem wd_1694 : (Cond.methodLink RX11 293 yX11_look : Cond) ∈ WALL := wall_t (tw_7 _ (List.mem_of_getElem? (i := 142) (by decide +kernel))) rfl
theorem wd_1696 : (Cond.instanceMethod yX11_look : Cond) ∈ WALL := wall_t (tw_7 _ (List.mem_of_getElem? (i := 144) (by decide +kernel))) rfl
theorem wd_53 : (Cond.selects RX11 yX11_look yX11_look : Cond) ∈ WALL := wall_at (i := 53) (by decide +kernel) rfl
theorem wd_1686 : (Cond.methodLink RX11 296 yX11_goOn : Cond) ∈ WALL := wall_t (tw_7 _ (List.mem_of_getElem? (i := 134) (by decide +kernel))) rfl
theorem wd_1688 : (Cond.instanceMethod yX11_goOn : Cond) ∈ WALL := wall_t (tw_7 _ (List.mem_of_getElem? (i := 136) (by decide +kernel))) rfl
theorem wd_51 : (Cond.selects RX11 yX11_goOn yX11_goOn : Cond) ∈ WALL := wall_at (i := 51) (by decide +kernel) rfl
theorem wd_1693 : (Cond.code yX11_number cX11_number 4 (some .int) : Cond) ∈ WALL := wall_t (tw_7 _ (List.mem_of_getElem? (i := 141) (by rfl))) rfl
theorem wd_1672 : (Cond.methodLink RX11 299 yX11_isWord : Cond) ∈ WALL := wall_t (tw_7 _ (List.mem_of_getElem? (i := 120) (by decide +kernel))) rfl
theorem wd_1674 : (Cond.instanceMethod yX11_isWord : Cond) ∈ WALL := wall_t (tw_7 _ (List.mem_of_getElem? (i := 122) (by decide +kernel))) rfl
theorem wd_48 : (Cond.selects RX11 yX11_isWord yX11_isWord : Cond) ∈ WALL := wall_at (i := 48) (by decide +kernel) rfl
theorem wd_1690 : (Cond.methodLink RX11 303 yX11_number : Cond) ∈ WALL := wall_t (tw_7 _ (List.mem_of_getElem? (i := 138) (by decide +kernel))) rfl
theorem wd_1692 : (Cond.instanceMethod yX11_number : Cond) ∈ WALL := wall_t (tw_7 _ (List.mem_of_getElem? (i := 140) (by decide +kernel))) rfl
theorem wd_52 : (Cond.selects RX11 yX11_number yX11_number : Cond) ∈ WALL := wall_at (i := 52) (by decide +kernel) rfl
theorem wd_1671 : (Cond.code yX11_numberBehind cX11_numberBehind 4 (some .int) : Cond) ∈ WALL := wall_t (tw_7 _ (List.mem_of_getElem? (i := 119) (by rfl))) rfl
theorem wd_1702 : (Cond.code yX11_semicolon cX11_semicolon 1 none : Cond) ∈ WALL := wall_t (tw_7 _ (List.mem_of_getElem? (i := 150) (by rfl))) rfl
theorem wd_1668 : (Cond.methodLink RX11 308 yX11_numberBehind : Cond) ∈ WALL := wall_t (tw_7 _ (List.mem_of_getElem? (i := 116) (by decide +kernel))) rfl
theorem wd_1670 : (Cond.instanceMethod yX11_numberBehind : Cond) ∈ WALL := wall_t (tw_7 _ (List.mem_of_getElem? (i := 118) (by decide +kernel))) rfl
theorem wd_47 : (Cond.selects RX11 yX11_numberBehind yX11_numberBehind : Cond) ∈ WALL := wall_at (i := 47) (by decide +kernel) rfl
theorem wd_1666 : (Cond.code yX11_parseFirst cX11_parseFirst 1 none : Cond) ∈ WALL := wall_t (tw_7 _ (List.mem_of_getElem? (i := 114) (by rfl))) rfl
theorem wd_1719 : (Cond.methodLink RX11 320 yX11_put : Cond) ∈ WALL := wall_t (tw_7 _ (List.mem_of_getElem? (i := 167) (by decide +kernel))) rfl
theorem wd_1721 : (Cond.instanceMethod yX11_put : Cond) ∈ WALL := wall_t (tw_7 _ (List.mem_of_getElem? (i := 169) (by decide +kernel))) rfl
theorem wd_58 : (Cond.selects RX11 yX11_put yX11_put : Cond) ∈ WALL := wall_at (i := 58) (by decide +kernel) rfl
theorem wd_1711 : (Cond.code yX11_parseItem cX11_parseItem 5 none : Cond) ∈ WALL := wall_t (tw_7 _ (List.mem_of_getElem? (i := 159) (by rfl))) rfl
theorem wd_1727 : (Cond.code yX11_parsePair cX11_parsePair 4 none : Cond) ∈ WALL := wall_t (tw_7 _ (List.mem_of_getElem? (i := 175) (by rfl))) rfl
theorem wd_1740 : (Cond.code yX11_parseOne cX11_parseOne 3 none : Cond) ∈ WALL := wall_t (tw_7 _ (List.mem_of_getElem? (i := 188) (by rfl))) rfl
theorem wd_1708 : (Cond.methodLink RX11 325 yX11_parseItem : Cond) ∈ WALL := wall_t (tw_7 _ (List.mem_of_getElem? (i := 156) (by decide +kernel))) rfl
theorem wd_1710 : (Cond.instanceMethod yX11_parseItem : Cond) ∈ WALL := wall_t (tw_7 _ (List.mem_of_getElem? (i := 158) (by decide +kernel))) rfl
theorem wd_56 : (Cond.selects RX11 yX11_parseItem yX11_parseItem : Cond) ∈ WALL := wall_at (i := 56) (by decide +kernel) rfl
theorem wd_1724 : (Cond.methodLink RX11 330 yX11_parsePair : Cond) ∈ WALL := wall_t (tw_7 _ (List.mem_of_getElem? (i := 172) (by decide +kernel))) rfl
theorem wd_1726 : (Cond.instanceMethod yX11_parsePair : Cond) ∈ WALL := wall_t (tw_7 _ (List.mem_of_getElem? (i := 174) (by decide +kernel))) rfl
theorem wd_59 : (Cond.selects RX11 yX11_parsePair yX11_parsePair : Cond) ∈ WALL := wall_at (i := 59) (by decide +kernel) rfl
theorem wd_1737 : (Cond.methodLink RX11 337 yX11_parseOne : Cond) ∈ WALL := wall_t (tw_7 _ (List.mem_of_getElem? (i := 185) (by decide +kernel))) rfl
theorem wd_1739 : (Cond.instanceMethod yX11_parseOne : Cond) ∈ WALL := wall_t (tw_7 _ (List.mem_of_getElem? (i := 187) (by decide +kernel))) rfl
theorem wd_61 : (Cond.selects RX11 yX11_parseOne yX11_parseOne : Cond) ∈ WALL := wall_at (i := 61) (by decide +kernel) rfl
theorem wd_1699 : (Cond.methodLink RX11 342 yX11_semicolon : Cond) ∈ WALL := wall_t (tw_7 _ (List.mem_of_getElem? (i := 147) (by decide +kernel))) rfl
theorem wd_1701 : (Cond.instanceMethod yX11_semicolon : Cond) ∈ WALL := wall_t (tw_7 _ (List.mem_of_getElem? (i := 149) (by decide +kernel))) rfl
theorem wd_54 : (Cond.selects RX11 yX11_semicolon yX11_semicolon : Cond) ∈ WALL := wall_at (i := 54) (by decide +kernel) rfl
theorem wd_1706 : (Cond.code yX11_parseStatement cX11_parseStatement 1 none : Cond) ∈ WALL := wall_t (tw_7 _ (List.mem_of_getElem? (i := 154) (by rfl))) rfl
theorem wd_1745 : (Cond.code yX11_remember cX11_remember 2 none : Cond) ∈ WALL := wall_t (tw_7 _ (List.mem_of_getElem? (i := 193) (by rfl))) rfl
theorem wd_1539 : (Cond.fieldLink RX11 436 "ParetoDeskModel" "remembered" "I" : Cond) ∈ WALL := wall_t (tw_6 _ (List.mem_of_getElem? (i := 227) (by decide +kernel))) rfl
theorem wd_1663 : (Cond.methodLink RX11 345 yX11_parseFirst : Cond) ∈ WALL := wall_t (tw_7 _ (List.mem_of_getElem? (i := 111) (by decide +kernel))) rfl
theorem wd_1665 : (Cond.instanceMethod yX11_parseFirst : Cond) ∈ WALL := wall_t (tw_7 _ (List.mem_of_getElem? (i := 113) (by decide +kernel))) rfl
theorem wd_46 : (Cond.selects RX11 yX11_parseFirst yX11_parseFirst : Cond) ∈ WALL := wall_at (i := 46) (by decide +kernel) rfl
theorem wd_1703 : (Cond.methodLink RX11 348 yX11_parseStatement : Cond) ∈ WALL := wall_t (tw_7 _ (List.mem_of_getElem? (i := 151) (by decide +kernel))) rfl
theorem wd_1705 : (Cond.instanceMethod yX11_parseStatement : Cond) ∈ WALL := wall_t (tw_7 _ (List.mem_of_getElem? (i := 153) (by decide +kernel))) rfl
theorem wd_55 : (Cond.selects RX11 yX11_parseStatement yX11_parseStatement : Cond) ∈ WALL := wall_at (i := 55) (by decide +kernel) rfl
theorem wd_1742 : (Cond.methodLink RX11 351 yX11_remember : Cond) ∈ WALL := wall_t (tw_7 _ (List.mem_of_getElem? (i := 190) (by decide +kernel))) rfl
theorem wd_1744 : (Cond.instanceMethod yX11_remember : Cond) ∈ WALL := wall_t (tw_7 _ (List.mem_of_getElem? (i := 192) (by decide +kernel))) rfl
theorem wd_62 : (Cond.selects RX11 yX11_remember yX11_remember : Cond) ∈ WALL := wall_at (i := 62) (by decide +kernel) rfl
theorem wd_1649 : (Cond.code yX11_load cX11_load 2 (some .int) : Cond) ∈ WALL := wall_t (tw_7 _ (List.mem_of_getElem? (i := 97) (by rfl))) rfl
theorem wd_1749 : (Cond.code yX11_errorCode cX11_errorCode 1 (some .int) : Cond) ∈ WALL := wall_t (tw_7 _ (List.mem_of_getElem? (i := 197) (by rfl))) rfl
theorem wd_1753 : (Cond.code yX11_errorPosition cX11_errorPosition 1 (some .int) : Cond) ∈ WALL := wall_t (tw_7 _ (List.mem_of_getElem? (i := 201) (by rfl))) rfl
theorem wd_1762 : (Cond.code yX11_pairsOf cX11_pairsOf 4 (some .int) : Cond) ∈ WALL := wall_t (tw_7 _ (List.mem_of_getElem? (i := 210) (by rfl))) rfl
theorem wd_1758 : (Cond.constantLong RX11 354 (7) : Cond) ∈ WALL := wall_t (tw_7 _ (List.mem_of_getElem? (i := 206) (by decide +kernel))) rfl
theorem wd_1759 : (Cond.methodLink RX11 356 yX11_pairsOf : Cond) ∈ WALL := wall_t (tw_7 _ (List.mem_of_getElem? (i := 207) (by decide +kernel))) rfl
theorem wd_1761 : (Cond.instanceMethod yX11_pairsOf : Cond) ∈ WALL := wall_t (tw_7 _ (List.mem_of_getElem? (i := 209) (by decide +kernel))) rfl
theorem wd_63 : (Cond.selects RX11 yX11_pairsOf yX11_pairsOf : Cond) ∈ WALL := wall_at (i := 63) (by decide +kernel) rfl
theorem wd_1757 : (Cond.code yX11_property cX11_property 2 (some .int) : Cond) ∈ WALL := wall_t (tw_7 _ (List.mem_of_getElem? (i := 205) (by rfl))) rfl
theorem wd_1769 : (Cond.code yX11_item cX11_item 3 (some .int) : Cond) ∈ WALL := wall_t (tw_7 _ (List.mem_of_getElem? (i := 217) (by rfl))) rfl
theorem wd_1774 : (Cond.constantLong RX11 362 (4) : Cond) ∈ WALL := wall_t (tw_7 _ (List.mem_of_getElem? (i := 222) (by decide +kernel))) rfl
theorem wd_1770 : (Cond.methodLink RX11 359 yX11_isItem : Cond) ∈ WALL := wall_t (tw_7 _ (List.mem_of_getElem? (i := 218) (by decide +kernel))) rfl
theorem wd_1772 : (Cond.instanceMethod yX11_isItem : Cond) ∈ WALL := wall_t (tw_7 _ (List.mem_of_getElem? (i := 220) (by decide +kernel))) rfl
theorem wd_64 : (Cond.selects RX11 yX11_isItem yX11_isItem : Cond) ∈ WALL := wall_at (i := 64) (by decide +kernel) rfl
theorem wd_1779 : (Cond.methodLink RX11 364 yX11_isSet : Cond) ∈ WALL := wall_t (tw_7 _ (List.mem_of_getElem? (i := 227) (by decide +kernel))) rfl
theorem wd_1781 : (Cond.instanceMethod yX11_isSet : Cond) ∈ WALL := wall_t (tw_7 _ (List.mem_of_getElem? (i := 229) (by decide +kernel))) rfl
theorem wd_65 : (Cond.selects RX11 yX11_isSet yX11_isSet : Cond) ∈ WALL := wall_at (i := 65) (by decide +kernel) rfl
theorem wd_1778 : (Cond.code yX11_refusal cX11_refusal 2 (some .int) : Cond) ∈ WALL := wall_t (tw_7 _ (List.mem_of_getElem? (i := 226) (by rfl))) rfl
theorem wd_1807 : (Cond.constantLong RX11 367 (2) : Cond) ∈ WALL := wall_t (tw_8 _ (List.mem_of_getElem? (i := 15) (by decide +kernel))) rfl
theorem wd_1806 : (Cond.code yX11_sum cX11_sum 3 (some .int) : Cond) ∈ WALL := wall_t (tw_8 _ (List.mem_of_getElem? (i := 14) (by rfl))) rfl
theorem wd_1811 : (Cond.code yX11_allowed cX11_allowed 1 (some .int) : Cond) ∈ WALL := wall_t (tw_8 _ (List.mem_of_getElem? (i := 19) (by rfl))) rfl
theorem wd_1824 : (Cond.code yX11_points cX11_points 1 (some .int) : Cond) ∈ WALL := wall_t (tw_8 _ (List.mem_of_getElem? (i := 32) (by rfl))) rfl
theorem wd_1874 : (Cond.constantLong RX11 375 (6) : Cond) ∈ WALL := wall_t (tw_8 _ (List.mem_of_getElem? (i := 82) (by decide +kernel))) rfl
theorem wd_1837 : (Cond.methodLink RX11 369 yX11_layCornersToo : Cond) ∈ WALL := wall_t (tw_8 _ (List.mem_of_getElem? (i := 45) (by decide +kernel))) rfl
theorem wd_1839 : (Cond.instanceMethod yX11_layCornersToo : Cond) ∈ WALL := wall_t (tw_8 _ (List.mem_of_getElem? (i := 47) (by decide +kernel))) rfl
theorem wd_75 : (Cond.selects RX11 yX11_layCornersToo yX11_layCornersToo : Cond) ∈ WALL := wall_at (i := 75) (by decide +kernel) rfl
theorem wd_1870 : (Cond.methodLink RX11 372 yX11_isPoint : Cond) ∈ WALL := wall_t (tw_8 _ (List.mem_of_getElem? (i := 78) (by decide +kernel))) rfl
theorem wd_1872 : (Cond.instanceMethod yX11_isPoint : Cond) ∈ WALL := wall_t (tw_8 _ (List.mem_of_getElem? (i := 80) (by decide +kernel))) rfl
theorem wd_83 : (Cond.selects RX11 yX11_isPoint yX11_isPoint : Cond) ∈ WALL := wall_at (i := 83) (by decide +kernel) rfl
theorem wd_1875 : (Cond.methodLink RX11 377 yX11_isSupported : Cond) ∈ WALL := wall_t (tw_8 _ (List.mem_of_getElem? (i := 83) (by decide +kernel))) rfl
theorem wd_1877 : (Cond.instanceMethod yX11_isSupported : Cond) ∈ WALL := wall_t (tw_8 _ (List.mem_of_getElem? (i := 85) (by decide +kernel))) rfl
theorem wd_84 : (Cond.selects RX11 yX11_isSupported yX11_isSupported : Cond) ∈ WALL := wall_at (i := 84) (by decide +kernel) rfl
theorem wd_1836 : (Cond.code yX11_point cX11_point 3 (some .int) : Cond) ∈ WALL := wall_t (tw_8 _ (List.mem_of_getElem? (i := 44) (by rfl))) rfl
theorem wd_1894 : (Cond.code yX11_lightest cX11_lightest 2 (some .int) : Cond) ∈ WALL := wall_t (tw_8 _ (List.mem_of_getElem? (i := 102) (by rfl))) rfl
theorem wd_1898 : (Cond.code yX11_pointOf cX11_pointOf 2 (some .int) : Cond) ∈ WALL := wall_t (tw_8 _ (List.mem_of_getElem? (i := 106) (by rfl))) rfl
theorem wd_1903 : (Cond.methodLink RX11 380 yX11_doesBeat : Cond) ∈ WALL := wall_t (tw_8 _ (List.mem_of_getElem? (i := 111) (by decide +kernel))) rfl
theorem wd_1905 : (Cond.instanceMethod yX11_doesBeat : Cond) ∈ WALL := wall_t (tw_8 _ (List.mem_of_getElem? (i := 113) (by decide +kernel))) rfl
theorem wd_88 : (Cond.selects RX11 yX11_doesBeat yX11_doesBeat : Cond) ∈ WALL := wall_at (i := 88) (by decide +kernel) rfl
theorem wd_1902 : (Cond.code yX11_beatenBy cX11_beatenBy 3 (some .int) : Cond) ∈ WALL := wall_t (tw_8 _ (List.mem_of_getElem? (i := 110) (by rfl))) rfl
theorem wd_1910 : (Cond.code yX11_beating cX11_beating 5 (some .int) : Cond) ∈ WALL := wall_t (tw_8 _ (List.mem_of_getElem? (i := 118) (by rfl))) rfl
theorem wd_1914 : (Cond.code yX11_joyFor cX11_joyFor 3 (some .int) : Cond) ∈ WALL := wall_t (tw_8 _ (List.mem_of_getElem? (i := 122) (by rfl))) rfl
theorem wd_1918 : (Cond.code yX11_gainFor cX11_gainFor 3 (some .int) : Cond) ∈ WALL := wall_t (tw_8 _ (List.mem_of_getElem? (i := 126) (by rfl))) rfl
theorem wd_1923 : (Cond.methodLink RX11 383 yX11_areWeights : Cond) ∈ WALL := wall_t (tw_8 _ (List.mem_of_getElem? (i := 131) (by decide +kernel))) rfl
theorem wd_1924 : (Cond.static yX11_areWeights : Cond) ∈ WALL := wall_t (tw_8 _ (List.mem_of_getElem? (i := 132) (by decide +kernel))) rfl
theorem wd_1922 : (Cond.code yX11_best cX11_best 3 (some .int) : Cond) ∈ WALL := wall_t (tw_8 _ (List.mem_of_getElem? (i := 130) (by rfl))) rfl
theorem wd_1938 : (Cond.code yX11_lackOf cX11_lackOf 5 (some .int) : Cond) ∈ WALL := wall_t (tw_8 _ (List.mem_of_getElem? (i := 146) (by rfl))) rfl
theorem wd_1935 : (Cond.methodLink RX11 386 yX11_lackOf : Cond) ∈ WALL := wall_t (tw_8 _ (List.mem_of_getElem? (i := 143) (by decide +kernel))) rfl
theorem wd_1937 : (Cond.instanceMethod yX11_lackOf : Cond) ∈ WALL := wall_t (tw_8 _ (List.mem_of_getElem? (i := 145) (by decide +kernel))) rfl
theorem wd_90 : (Cond.selects RX11 yX11_lackOf yX11_lackOf : Cond) ∈ WALL := wall_at (i := 90) (by decide +kernel) rfl
theorem wd_1934 : (Cond.code yX11_nearest cX11_nearest 5 (some .int) : Cond) ∈ WALL := wall_t (tw_8 _ (List.mem_of_getElem? (i := 142) (by rfl))) rfl
theorem wd_1942 : (Cond.code yX11_vertices cX11_vertices 1 (some .int) : Cond) ∈ WALL := wall_t (tw_8 _ (List.mem_of_getElem? (i := 150) (by rfl))) rfl
theorem wd_1946 : (Cond.code yX11_vertex cX11_vertex 2 (some .int) : Cond) ∈ WALL := wall_t (tw_8 _ (List.mem_of_getElem? (i := 154) (by rfl))) rfl
theorem wd_1950 : (Cond.code yX11_supported cX11_supported 3 (some .int) : Cond) ∈ WALL := wall_t (tw_8 _ (List.mem_of_getElem? (i := 158) (by rfl))) rfl
theorem wd_1958 : (Cond.code yX11_between cX11_between 2 (some .int) : Cond) ∈ WALL := wall_t (tw_8 _ (List.mem_of_getElem? (i := 166) (by rfl))) rfl
theorem wd_1962 : (Cond.code yX11_supportedIn cX11_supportedIn 4 (some .int) : Cond) ∈ WALL := wall_t (tw_8 _ (List.mem_of_getElem? (i := 170) (by rfl))) rfl
theorem wd_1955 : (Cond.methodLink RX11 389 yX11_between : Cond) ∈ WALL := wall_t (tw_8 _ (List.mem_of_getElem? (i := 163) (by decide +kernel))) rfl
theorem wd_1957 : (Cond.instanceMethod yX11_between : Cond) ∈ WALL := wall_t (tw_8 _ (List.mem_of_getElem? (i := 165) (by decide +kernel))) rfl
theorem wd_91 : (Cond.selects RX11 yX11_between yX11_between : Cond) ∈ WALL := wall_at (i := 91) (by decide +kernel) rfl
theorem wd_1959 : (Cond.methodLink RX11 392 yX11_supportedIn : Cond) ∈ WALL := wall_t (tw_8 _ (List.mem_of_getElem? (i := 167) (by decide +kernel))) rfl
theorem wd_1961 : (Cond.instanceMethod yX11_supportedIn : Cond) ∈ WALL := wall_t (tw_8 _ (List.mem_of_getElem? (i := 169) (by decide +kernel))) rfl
theorem wd_92 : (Cond.selects RX11 yX11_supportedIn yX11_supportedIn : Cond) ∈ WALL := wall_at (i := 92) (by decide +kernel) rfl
theorem wd_1954 : (Cond.code yX11_box cX11_box 3 (some .int) : Cond) ∈ WALL := wall_t (tw_8 _ (List.mem_of_getElem? (i := 162) (by rfl))) rfl
theorem wd_1966 : (Cond.code yX11_fullest cX11_fullest 3 (some .int) : Cond) ∈ WALL := wall_t (tw_8 _ (List.mem_of_getElem? (i := 174) (by rfl))) rfl
theorem wd_1971 : (Cond.methodLink RX11 395 yX11_search : Cond) ∈ WALL := wall_t (tw_8 _ (List.mem_of_getElem? (i := 179) (by decide +kernel))) rfl
theorem wd_1973 : (Cond.instanceMethod yX11_search : Cond) ∈ WALL := wall_t (tw_8 _ (List.mem_of_getElem? (i := 181) (by decide +kernel))) rfl
theorem wd_93 : (Cond.selects RX11 yX11_search yX11_search : Cond) ∈ WALL := wall_at (i := 93) (by decide +kernel) rfl
theorem wd_1970 : (Cond.code yX11_steps cX11_steps 1 (some .int) : Cond) ∈ WALL := wall_t (tw_8 _ (List.mem_of_getElem? (i := 178) (by rfl))) rfl
theorem wd_1990 : (Cond.code yX11_step cX11_step 3 (some .int) : Cond) ∈ WALL := wall_t (tw_8 _ (List.mem_of_getElem? (i := 198) (by rfl))) rfl
theorem wd_1994 : (Cond.code yX11_knee cX11_knee 1 (some .int) : Cond) ∈ WALL := wall_t (tw_8 _ (List.mem_of_getElem? (i := 202) (by rfl))) rfl
theorem wd_1999 : (Cond.methodLink RX11 398 yX11_areaNow : Cond) ∈ WALL := wall_t (tw_8 _ (List.mem_of_getElem? (i := 207) (by decide +kernel))) rfl
theorem wd_2001 : (Cond.instanceMethod yX11_areaNow : Cond) ∈ WALL := wall_t (tw_8 _ (List.mem_of_getElem? (i := 209) (by decide +kernel))) rfl
theorem wd_97 : (Cond.selects RX11 yX11_areaNow yX11_areaNow : Cond) ∈ WALL := wall_at (i := 97) (by decide +kernel) rfl
theorem wd_1998 : (Cond.code yX11_area cX11_area 1 (some .int) : Cond) ∈ WALL := wall_t (tw_8 _ (List.mem_of_getElem? (i := 206) (by rfl))) rfl
theorem wd_2010 : (Cond.code yX11_gapBehind cX11_gapBehind 2 (some .int) : Cond) ∈ WALL := wall_t (tw_8 _ (List.mem_of_getElem? (i := 218) (by rfl))) rfl
theorem wd_2007 : (Cond.methodLink RX11 401 yX11_gapBehind : Cond) ∈ WALL := wall_t (tw_8 _ (List.mem_of_getElem? (i := 215) (by decide +kernel))) rfl
theorem wd_2009 : (Cond.instanceMethod yX11_gapBehind : Cond) ∈ WALL := wall_t (tw_8 _ (List.mem_of_getElem? (i := 217) (by decide +kernel))) rfl
theorem wd_98 : (Cond.selects RX11 yX11_gapBehind yX11_gapBehind : Cond) ∈ WALL := wall_at (i := 98) (by decide +kernel) rfl
theorem wd_2006 : (Cond.code yX11_gap cX11_gap 3 (some .int) : Cond) ∈ WALL := wall_t (tw_8 _ (List.mem_of_getElem? (i := 214) (by rfl))) rfl
theorem wd_2014 : (Cond.code yX11_core cX11_core 3 (some .int) : Cond) ∈ WALL := wall_t (tw_8 _ (List.mem_of_getElem? (i := 222) (by rfl))) rfl
theorem wd_2018 : (Cond.code yX11_unused cX11_unused 3 (some .int) : Cond) ∈ WALL := wall_t (tw_8 _ (List.mem_of_getElem? (i := 226) (by rfl))) rfl
theorem wd_2022 : (Cond.code yX11_lostWithout cX11_lostWithout 4 (some .int) : Cond) ∈ WALL := wall_t (tw_8 _ (List.mem_of_getElem? (i := 230) (by rfl))) rfl
theorem wd_2026 : (Cond.code yX11_worth cX11_worth 5 (some .int) : Cond) ∈ WALL := wall_t (tw_8 _ (List.mem_of_getElem? (i := 234) (by rfl))) rfl
theorem wd_2031 : (Cond.constantLong RX11 404 (999) : Cond) ∈ WALL := wall_t (tw_8 _ (List.mem_of_getElem? (i := 239) (by decide +kernel))) rfl
theorem wd_2030 : (Cond.code yX11_pointsWith cX11_pointsWith 3 (some .int) : Cond) ∈ WALL := wall_t (tw_8 _ (List.mem_of_getElem? (i := 238) (by rfl))) rfl
theorem wd_2039 : (Cond.code yX11_lightestFor cX11_lightestFor 6 (some .int) : Cond) ∈ WALL := wall_t (tw_9 _ (List.mem_of_getElem? (i := 7) (by rfl))) rfl
theorem wd_2036 : (Cond.methodLink RX11 406 yX11_lightestFor : Cond) ∈ WALL := wall_t (tw_9 _ (List.mem_of_getElem? (i := 4) (by decide +kernel))) rfl
theorem wd_2038 : (Cond.instanceMethod yX11_lightestFor : Cond) ∈ WALL := wall_t (tw_9 _ (List.mem_of_getElem? (i := 6) (by decide +kernel))) rfl
theorem wd_99 : (Cond.selects RX11 yX11_lightestFor yX11_lightestFor : Cond) ∈ WALL := wall_at (i := 99) (by decide +kernel) rfl
theorem wd_2035 : (Cond.code yX11_capacityFor cX11_capacityFor 5 (some .int) : Cond) ∈ WALL := wall_t (tw_9 _ (List.mem_of_getElem? (i := 3) (by rfl))) rfl
theorem wd_2043 : (Cond.code yX11_nearTo cX11_nearTo 4 (some .int) : Cond) ∈ WALL := wall_t (tw_9 _ (List.mem_of_getElem? (i := 11) (by rfl))) rfl
theorem wd_2047 : (Cond.code yX11_apart cX11_apart 3 (some .int) : Cond) ∈ WALL := wall_t (tw_9 _ (List.mem_of_getElem? (i := 15) (by rfl))) rfl
theorem wd_2052 : (Cond.methodLink RX11 409 yX11_layLayers : Cond) ∈ WALL := wall_t (tw_9 _ (List.mem_of_getElem? (i := 20) (by decide +kernel))) rfl
theorem wd_2054 : (Cond.instanceMethod yX11_layLayers : Cond) ∈ WALL := wall_t (tw_9 _ (List.mem_of_getElem? (i := 22) (by decide +kernel))) rfl
theorem wd_100 : (Cond.selects RX11 yX11_layLayers yX11_layLayers : Cond) ∈ WALL := wall_at (i := 100) (by decide +kernel) rfl
theorem wd_2051 : (Cond.code yX11_layers cX11_layers 1 (some .int) : Cond) ∈ WALL := wall_t (tw_9 _ (List.mem_of_getElem? (i := 19) (by rfl))) rfl
theorem wd_2070 : (Cond.code yX11_layerSize cX11_layerSize 4 (some .int) : Cond) ∈ WALL := wall_t (tw_9 _ (List.mem_of_getElem? (i := 38) (by rfl))) rfl
theorem wd_2074 : (Cond.code yX11_layerOf cX11_layerOf 4 (some .int) : Cond) ∈ WALL := wall_t (tw_9 _ (List.mem_of_getElem? (i := 42) (by rfl))) rfl
theorem wd_2079 : (Cond.methodLink RX11 412 yX11_climbed : Cond) ∈ WALL := wall_t (tw_9 _ (List.mem_of_getElem? (i := 47) (by decide +kernel))) rfl
theorem wd_2081 : (Cond.instanceMethod yX11_climbed : Cond) ∈ WALL := wall_t (tw_9 _ (List.mem_of_getElem? (i := 49) (by decide +kernel))) rfl
theorem wd_103 : (Cond.selects RX11 yX11_climbed yX11_climbed : Cond) ∈ WALL := wall_at (i := 103) (by decide +kernel) rfl
theorem wd_2078 : (Cond.code yX11_climb cX11_climb 3 (some .int) : Cond) ∈ WALL := wall_t (tw_9 _ (List.mem_of_getElem? (i := 46) (by rfl))) rfl
theorem wd_2098 : (Cond.code yX11_share cX11_share 1 (some .double) : Cond) ∈ WALL := wall_t (tw_9 _ (List.mem_of_getElem? (i := 66) (by rfl))) rfl
theorem wd_2102 : (Cond.code yX11_addItem cX11_addItem 7 (some .int) : Cond) ∈ WALL := wall_t (tw_9 _ (List.mem_of_getElem? (i := 70) (by rfl))) rfl
theorem wd_2109 : (Cond.code yX11_without cX11_without 3 (some .int) : Cond) ∈ WALL := wall_t (tw_9 _ (List.mem_of_getElem? (i := 77) (by rfl))) rfl
theorem wd_2107 : (Cond.methodLink RX11 415 yX11_without : Cond) ∈ WALL := wall_t (tw_9 _ (List.mem_of_getElem? (i := 75) (by decide +kernel))) rfl
theorem wd_2108 : (Cond.static yX11_without : Cond) ∈ WALL := wall_t (tw_9 _ (List.mem_of_getElem? (i := 76) (by decide +kernel))) rfl
theorem wd_2106 : (Cond.code yX11_dropItem cX11_dropItem 4 (some .int) : Cond) ∈ WALL := wall_t (tw_9 _ (List.mem_of_getElem? (i := 74) (by rfl))) rfl
theorem wd_2113 : (Cond.code yX11_setItem cX11_setItem 5 (some .int) : Cond) ∈ WALL := wall_t (tw_9 _ (List.mem_of_getElem? (i := 81) (by rfl))) rfl
theorem wd_2121 : (Cond.code yX11_set cX11_set 4 (some .int) : Cond) ∈ WALL := wall_t (tw_9 _ (List.mem_of_getElem? (i := 89) (by rfl))) rfl
theorem wd_2118 : (Cond.methodLink RX11 418 yX11_set : Cond) ∈ WALL := wall_t (tw_9 _ (List.mem_of_getElem? (i := 86) (by decide +kernel))) rfl
theorem wd_2120 : (Cond.instanceMethod yX11_set : Cond) ∈ WALL := wall_t (tw_9 _ (List.mem_of_getElem? (i := 88) (by decide +kernel))) rfl
theorem wd_107 : (Cond.selects RX11 yX11_set yX11_set : Cond) ∈ WALL := wall_at (i := 107) (by decide +kernel) rfl
theorem wd_2117 : (Cond.code yX11_setCapacity cX11_setCapacity 2 (some .int) : Cond) ∈ WALL := wall_t (tw_9 _ (List.mem_of_getElem? (i := 85) (by rfl))) rfl
theorem wd_2126 : (Cond.constantLong RX11 421 (12) : Cond) ∈ WALL := wall_t (tw_9 _ (List.mem_of_getElem? (i := 94) (by decide +kernel))) rfl
theorem wd_2125 : (Cond.code yX11_setLimit cX11_setLimit 2 (some .int) : Cond) ∈ WALL := wall_t (tw_9 _ (List.mem_of_getElem? (i := 93) (by rfl))) rfl
theorem wd_2137 : (Cond.code yX11_turned cX11_turned 3 (some .int) : Cond) ∈ WALL := wall_t (tw_9 _ (List.mem_of_getElem? (i := 105) (by rfl))) rfl
theorem wd_2134 : (Cond.code yX11_arePair cX11_arePair 3 (some .boolean) : Cond) ∈ WALL := wall_t (tw_9 _ (List.mem_of_getElem? (i := 102) (by rfl))) rfl
theorem wd_2131 : (Cond.methodLink RX11 423 yX11_arePair : Cond) ∈ WALL := wall_t (tw_9 _ (List.mem_of_getElem? (i := 99) (by decide +kernel))) rfl
theorem wd_2133 : (Cond.instanceMethod yX11_arePair : Cond) ∈ WALL := wall_t (tw_9 _ (List.mem_of_getElem? (i := 101) (by decide +kernel))) rfl
theorem wd_108 : (Cond.selects RX11 yX11_arePair yX11_arePair : Cond) ∈ WALL := wall_at (i := 108) (by decide +kernel) rfl
theorem wd_2135 : (Cond.methodLink RX11 426 yX11_turned : Cond) ∈ WALL := wall_t (tw_9 _ (List.mem_of_getElem? (i := 103) (by decide +kernel))) rfl
theorem wd_2136 : (Cond.static yX11_turned : Cond) ∈ WALL := wall_t (tw_9 _ (List.mem_of_getElem? (i := 104) (by decide +kernel))) rfl
theorem wd_2130 : (Cond.code yX11_bar cX11_bar 5 (some .boolean) : Cond) ∈ WALL := wall_t (tw_9 _ (List.mem_of_getElem? (i := 98) (by rfl))) rfl
theorem wd_2141 : (Cond.code yX11_need cX11_need 5 (some .boolean) : Cond) ∈ WALL := wall_t (tw_9 _ (List.mem_of_getElem? (i := 109) (by rfl))) rfl
theorem wd_2145 : (Cond.code yX11_must cX11_must 3 (some .boolean) : Cond) ∈ WALL := wall_t (tw_9 _ (List.mem_of_getElem? (i := 113) (by rfl))) rfl
theorem wd_2149 : (Cond.code yX11_never cX11_never 3 (some .boolean) : Cond) ∈ WALL := wall_t (tw_9 _ (List.mem_of_getElem? (i := 117) (by rfl))) rfl
theorem wd_2153 : (Cond.code yX11_choose cX11_choose 3 (some .int) : Cond) ∈ WALL := wall_t (tw_9 _ (List.mem_of_getElem? (i := 121) (by rfl))) rfl
theorem wd_2157 : (Cond.code yX11_chooseBest cX11_chooseBest 3 (some .int) : Cond) ∈ WALL := wall_t (tw_9 _ (List.mem_of_getElem? (i := 125) (by rfl))) rfl
theorem wd_2161 : (Cond.code yX11_improve cX11_improve 4 (some .int) : Cond) ∈ WALL := wall_t (tw_9 _ (List.mem_of_getElem? (i := 129) (by rfl))) rfl
theorem wd_2169 : (Cond.code yX11_becomes cX11_becomes 2 (some .int) : Cond) ∈ WALL := wall_t (tw_9 _ (List.mem_of_getElem? (i := 137) (by rfl))) rfl
theorem wd_2166 : (Cond.methodLink RX11 430 yX11_becomes : Cond) ∈ WALL := wall_t (tw_9 _ (List.mem_of_getElem? (i := 134) (by decide +kernel))) rfl
theorem wd_2168 : (Cond.instanceMethod yX11_becomes : Cond) ∈ WALL := wall_t (tw_9 _ (List.mem_of_getElem? (i := 136) (by decide +kernel))) rfl
theorem wd_109 : (Cond.selects RX11 yX11_becomes yX11_becomes : Cond) ∈ WALL := wall_at (i := 109) (by decide +kernel) rfl
theorem wd_2165 : (Cond.code yX11_take cX11_take 4 (some .int) : Cond) ∈ WALL := wall_t (tw_9 _ (List.mem_of_getElem? (i := 133) (by rfl))) rfl
theorem wd_2173 : (Cond.code yX11_leave cX11_leave 4 (some .int) : Cond) ∈ WALL := wall_t (tw_9 _ (List.mem_of_getElem? (i := 141) (by rfl))) rfl
theorem wd_2180 : (Cond.code yX11_isSlot cX11_isSlot 1 (some .boolean) : Cond) ∈ WALL := wall_t (tw_9 _ (List.mem_of_getElem? (i := 148) (by rfl))) rfl
theorem wd_2177 : (Cond.code yX11_keep cX11_keep 3 (some .int) : Cond) ∈ WALL := wall_t (tw_9 _ (List.mem_of_getElem? (i := 145) (by rfl))) rfl
theorem wd_2178 : (Cond.methodLink RX11 433 yX11_isSlot : Cond) ∈ WALL := wall_t (tw_9 _ (List.mem_of_getElem? (i := 146) (by decide +kernel))) rfl
theorem wd_2179 : (Cond.static yX11_isSlot : Cond) ∈ WALL := wall_t (tw_9 _ (List.mem_of_getElem? (i := 147) (by decide +kernel))) rfl
theorem wd_2184 : (Cond.code yX11_restore cX11_restore 3 (some .int) : Cond) ∈ WALL := wall_t (tw_9 _ (List.mem_of_getElem? (i := 152) (by rfl))) rfl
theorem wd_2188 : (Cond.code yX11_undo cX11_undo 2 (some .int) : Cond) ∈ WALL := wall_t (tw_9 _ (List.mem_of_getElem? (i := 156) (by rfl))) rfl
theorem wd_2192 : (Cond.code yX11_undoCount cX11_undoCount 1 (some .int) : Cond) ∈ WALL := wall_t (tw_9 _ (List.mem_of_getElem? (i := 160) (by rfl))) rfl
theorem wd_2200 : (Cond.code yX11_write cX11_write 2 none : Cond) ∈ WALL := wall_t (tw_9 _ (List.mem_of_getElem? (i := 168) (by rfl))) rfl
theorem wd_1541 : (Cond.fieldLink RX11 439 "ParetoDeskModel" "outputSize" "I" : Cond) ∈ WALL := wall_t (tw_6 _ (List.mem_of_getElem? (i := 229) (by decide +kernel))) rfl
theorem wd_2204 : (Cond.code yX11_writeNumber cX11_writeNumber 4 none : Cond) ∈ WALL := wall_t (tw_9 _ (List.mem_of_getElem? (i := 172) (by rfl))) rfl
theorem wd_2197 : (Cond.methodLink RX11 442 yX11_write : Cond) ∈ WALL := wall_t (tw_9 _ (List.mem_of_getElem? (i := 165) (by decide +kernel))) rfl
theorem wd_2199 : (Cond.instanceMethod yX11_write : Cond) ∈ WALL := wall_t (tw_9 _ (List.mem_of_getElem? (i := 167) (by decide +kernel))) rfl
theorem wd_110 : (Cond.selects RX11 yX11_write yX11_write : Cond) ∈ WALL := wall_at (i := 110) (by decide +kernel) rfl
theorem wd_2201 : (Cond.methodLink RX11 445 yX11_writeNumber : Cond) ∈ WALL := wall_t (tw_9 _ (List.mem_of_getElem? (i := 169) (by decide +kernel))) rfl
theorem wd_2203 : (Cond.instanceMethod yX11_writeNumber : Cond) ∈ WALL := wall_t (tw_9 _ (List.mem_of_getElem? (i := 171) (by decide +kernel))) rfl
theorem wd_111 : (Cond.selects RX11 yX11_writeNumber yX11_writeNumber : Cond) ∈ WALL := wall_at (i := 111) (by decide +kernel) rfl
theorem wd_2196 : (Cond.code yX11_writeFrontier cX11_writeFrontier 2 (some .int) : Cond) ∈ WALL := wall_t (tw_9 _ (List.mem_of_getElem? (i := 164) (by rfl))) rfl
theorem wd_2208 : (Cond.code yX11_writeChoices cX11_writeChoices 3 (some .int) : Cond) ∈ WALL := wall_t (tw_9 _ (List.mem_of_getElem? (i := 176) (by rfl))) rfl
theorem wd_2212 : (Cond.code yX11_outputByte cX11_outputByte 2 (some .int) : Cond) ∈ WALL := wall_t (tw_9 _ (List.mem_of_getElem? (i := 180) (by rfl))) rfl
theorem wd_1198_1 : (Cond.code yJ9_max_7cf53 cJ9_max_7cf53 2 (some .int) : Cond) ∈ WALL := wall_t (tw_5 _ (List.mem_of_getElem? (i := 126) (by rfl))) rfl
theorem wd_579_1 : (Cond.code yJ9_min_7cf53 cJ9_min_7cf53 2 (some .int) : Cond) ∈ WALL := wall_t (tw_2 _ (List.mem_of_getElem? (i := 227) (by rfl))) rfl
theorem wd_965 : (Cond.codeWith yL_append cL_append 8 (some .int) [(0, 16, 19, 13)] : Cond) ∈ WALL := wall_t (tw_4 _ (List.mem_of_getElem? (i := 133) (by rfl))) rfl
theorem wd_966 : (Cond.classLink RL 13 "java/lang/IllegalStateException" : Cond) ∈ WALL := wall_t (tw_4 _ (List.mem_of_getElem? (i := 134) (by decide +kernel))) rfl
theorem wd_967 : (Cond.methodLink RL 7 yX10_append : Cond) ∈ WALL := wall_t (tw_4 _ (List.mem_of_getElem? (i := 135) (by decide +kernel))) rfl
theorem wd_968 : (Cond.instanceMethod yX10_append : Cond) ∈ WALL := wall_t (tw_4 _ (List.mem_of_getElem? (i := 136) (by decide +kernel))) rfl
theorem wd_969 : (Cond.selects RX10 yX10_append yX10_append : Cond) ∈ WALL := wall_t (tw_4 _ (List.mem_of_getElem? (i := 137) (by decide +kernel))) rfl
theorem wd_1045 : (Cond.codeWith yL_truncate cL_truncate 3 (some .int) [(0, 5, 8, 19)] : Cond) ∈ WALL := wall_t (tw_4 _ (List.mem_of_getElem? (i := 213) (by rfl))) rfl
theorem wd_1046 : (Cond.classLink RL 19 "java/lang/IllegalArgumentException" : Cond) ∈ WALL := wall_t (tw_4 _ (List.mem_of_getElem? (i := 214) (by decide +kernel))) rfl
theorem wd_1047 : (Cond.methodLink RL 15 yX10_truncate : Cond) ∈ WALL := wall_t (tw_4 _ (List.mem_of_getElem? (i := 215) (by decide +kernel))) rfl
theorem wd_1048 : (Cond.instanceMethod yX10_truncate : Cond) ∈ WALL := wall_t (tw_4 _ (List.mem_of_getElem? (i := 216) (by decide +kernel))) rfl
theorem wd_1049 : (Cond.selects RX10 yX10_truncate yX10_truncate : Cond) ∈ WALL := wall_t (tw_4 _ (List.mem_of_getElem? (i := 217) (by decide +kernel))) rfl
theorem wd_1070 : (Cond.methodLink RL 21 yX10_property : Cond) ∈ WALL := wall_t (tw_4 _ (List.mem_of_getElem? (i := 238) (by decide +kernel))) rfl
theorem wd_1071 : (Cond.instanceMethod yX10_property : Cond) ∈ WALL := wall_t (tw_4 _ (List.mem_of_getElem? (i := 239) (by decide +kernel))) rfl
theorem wd_1072 : (Cond.selects RX10 yX10_property yX10_property : Cond) ∈ WALL := wall_t (tw_5 _ (List.mem_of_getElem? (i := 0) (by decide +kernel))) rfl
theorem wd_1069 : (Cond.codeWith yL_property cL_property 4 (some .int) [(0, 9, 12, 19)] : Cond) ∈ WALL := wall_t (tw_4 _ (List.mem_of_getElem? (i := 237) (by rfl))) rfl
theorem wd_1086 : (Cond.classLink RL 29 "java/lang/IndexOutOfBoundsException" : Cond) ∈ WALL := wall_t (tw_5 _ (List.mem_of_getElem? (i := 14) (by decide +kernel))) rfl
theorem wd_1087 : (Cond.methodLink RL 25 yX10_item : Cond) ∈ WALL := wall_t (tw_5 _ (List.mem_of_getElem? (i := 15) (by decide +kernel))) rfl
theorem wd_1088 : (Cond.instanceMethod yX10_item : Cond) ∈ WALL := wall_t (tw_5 _ (List.mem_of_getElem? (i := 16) (by decide +kernel))) rfl
theorem wd_1089 : (Cond.selects RX10 yX10_item yX10_item : Cond) ∈ WALL := wall_t (tw_5 _ (List.mem_of_getElem? (i := 17) (by decide +kernel))) rfl
theorem wd_1085 : (Cond.codeWith yL_item cL_item 5 (some .int) [(0, 10, 13, 29), (0, 10, 17, 19)] : Cond) ∈ WALL := wall_t (tw_5 _ (List.mem_of_getElem? (i := 13) (by rfl))) rfl
theorem wd_1118 : (Cond.methodLink RL 31 yX10_refusal : Cond) ∈ WALL := wall_t (tw_5 _ (List.mem_of_getElem? (i := 46) (by decide +kernel))) rfl
theorem wd_1119 : (Cond.instanceMethod yX10_refusal : Cond) ∈ WALL := wall_t (tw_5 _ (List.mem_of_getElem? (i := 47) (by decide +kernel))) rfl
theorem wd_1120 : (Cond.selects RX10 yX10_refusal yX10_refusal : Cond) ∈ WALL := wall_t (tw_5 _ (List.mem_of_getElem? (i := 48) (by decide +kernel))) rfl
theorem wd_1117 : (Cond.codeWith yL_refusal cL_refusal 4 (some .int) [(0, 9, 12, 19)] : Cond) ∈ WALL := wall_t (tw_5 _ (List.mem_of_getElem? (i := 45) (by rfl))) rfl
theorem wd_1131 : (Cond.methodLink RL 34 yX10_sum : Cond) ∈ WALL := wall_t (tw_5 _ (List.mem_of_getElem? (i := 59) (by decide +kernel))) rfl
theorem wd_1132 : (Cond.instanceMethod yX10_sum : Cond) ∈ WALL := wall_t (tw_5 _ (List.mem_of_getElem? (i := 60) (by decide +kernel))) rfl
theorem wd_1133 : (Cond.selects RX10 yX10_sum yX10_sum : Cond) ∈ WALL := wall_t (tw_5 _ (List.mem_of_getElem? (i := 61) (by decide +kernel))) rfl
theorem wd_1130 : (Cond.codeWith yL_sum cL_sum 5 (some .int) [(0, 10, 13, 19)] : Cond) ∈ WALL := wall_t (tw_5 _ (List.mem_of_getElem? (i := 58) (by rfl))) rfl
theorem wd_1138 : (Cond.methodLink RL 37 yX10_point : Cond) ∈ WALL := wall_t (tw_5 _ (List.mem_of_getElem? (i := 66) (by decide +kernel))) rfl
theorem wd_1139 : (Cond.instanceMethod yX10_point : Cond) ∈ WALL := wall_t (tw_5 _ (List.mem_of_getElem? (i := 67) (by decide +kernel))) rfl
theorem wd_1140 : (Cond.selects RX10 yX10_point yX10_point : Cond) ∈ WALL := wall_t (tw_5 _ (List.mem_of_getElem? (i := 68) (by decide +kernel))) rfl
theorem wd_1137 : (Cond.codeWith yL_point cL_point 5 (some .int) [(0, 10, 13, 29), (0, 10, 17, 19)] : Cond) ∈ WALL := wall_t (tw_5 _ (List.mem_of_getElem? (i := 65) (by rfl))) rfl
theorem wd_1150 : (Cond.methodLink RL 40 yX10_lightest : Cond) ∈ WALL := wall_t (tw_5 _ (List.mem_of_getElem? (i := 78) (by decide +kernel))) rfl
theorem wd_1151 : (Cond.instanceMethod yX10_lightest : Cond) ∈ WALL := wall_t (tw_5 _ (List.mem_of_getElem? (i := 79) (by decide +kernel))) rfl
theorem wd_1152 : (Cond.selects RX10 yX10_lightest yX10_lightest : Cond) ∈ WALL := wall_t (tw_5 _ (List.mem_of_getElem? (i := 80) (by decide +kernel))) rfl
theorem wd_1149 : (Cond.codeWith yL_lightest cL_lightest 4 (some .int) [(0, 9, 12, 29)] : Cond) ∈ WALL := wall_t (tw_5 _ (List.mem_of_getElem? (i := 77) (by rfl))) rfl
theorem wd_1157 : (Cond.methodLink RL 43 yX10_pointOf : Cond) ∈ WALL := wall_t (tw_5 _ (List.mem_of_getElem? (i := 85) (by decide +kernel))) rfl
theorem wd_1158 : (Cond.instanceMethod yX10_pointOf : Cond) ∈ WALL := wall_t (tw_5 _ (List.mem_of_getElem? (i := 86) (by decide +kernel))) rfl
theorem wd_1159 : (Cond.selects RX10 yX10_pointOf yX10_pointOf : Cond) ∈ WALL := wall_t (tw_5 _ (List.mem_of_getElem? (i := 87) (by decide +kernel))) rfl
theorem wd_1156 : (Cond.codeWith yL_pointOf cL_pointOf 4 (some .int) [(0, 9, 12, 19)] : Cond) ∈ WALL := wall_t (tw_5 _ (List.mem_of_getElem? (i := 84) (by rfl))) rfl
theorem wd_1165 : (Cond.methodLink RL 46 yX10_beatenBy : Cond) ∈ WALL := wall_t (tw_5 _ (List.mem_of_getElem? (i := 93) (by decide +kernel))) rfl
theorem wd_1166 : (Cond.instanceMethod yX10_beatenBy : Cond) ∈ WALL := wall_t (tw_5 _ (List.mem_of_getElem? (i := 94) (by decide +kernel))) rfl
theorem wd_1167 : (Cond.selects RX10 yX10_beatenBy yX10_beatenBy : Cond) ∈ WALL := wall_t (tw_5 _ (List.mem_of_getElem? (i := 95) (by decide +kernel))) rfl
theorem wd_1164 : (Cond.codeWith yL_beatenBy cL_beatenBy 4 (some .int) [(0, 9, 12, 19)] : Cond) ∈ WALL := wall_t (tw_5 _ (List.mem_of_getElem? (i := 92) (by rfl))) rfl
theorem wd_1172 : (Cond.methodLink RL 49 yX10_best : Cond) ∈ WALL := wall_t (tw_5 _ (List.mem_of_getElem? (i := 100) (by decide +kernel))) rfl
theorem wd_1173 : (Cond.instanceMethod yX10_best : Cond) ∈ WALL := wall_t (tw_5 _ (List.mem_of_getElem? (i := 101) (by decide +kernel))) rfl
theorem wd_1174 : (Cond.selects RX10 yX10_best yX10_best : Cond) ∈ WALL := wall_t (tw_5 _ (List.mem_of_getElem? (i := 102) (by decide +kernel))) rfl
theorem wd_1171 : (Cond.codeWith yL_best cL_best 5 (some .int) [(0, 10, 13, 19)] : Cond) ∈ WALL := wall_t (tw_5 _ (List.mem_of_getElem? (i := 99) (by rfl))) rfl
theorem wd_1188 : (Cond.methodLink RL 52 yX10_nearest : Cond) ∈ WALL := wall_t (tw_5 _ (List.mem_of_getElem? (i := 116) (by decide +kernel))) rfl
theorem wd_1189 : (Cond.instanceMethod yX10_nearest : Cond) ∈ WALL := wall_t (tw_5 _ (List.mem_of_getElem? (i := 117) (by decide +kernel))) rfl
theorem wd_1190 : (Cond.selects RX10 yX10_nearest yX10_nearest : Cond) ∈ WALL := wall_t (tw_5 _ (List.mem_of_getElem? (i := 118) (by decide +kernel))) rfl
theorem wd_1187 : (Cond.codeWith yL_nearest cL_nearest 5 (some .int) [(0, 10, 13, 19)] : Cond) ∈ WALL := wall_t (tw_5 _ (List.mem_of_getElem? (i := 115) (by rfl))) rfl
theorem wd_1202 : (Cond.methodLink RL 55 yX10_vertex : Cond) ∈ WALL := wall_t (tw_5 _ (List.mem_of_getElem? (i := 130) (by decide +kernel))) rfl
theorem wd_1203 : (Cond.instanceMethod yX10_vertex : Cond) ∈ WALL := wall_t (tw_5 _ (List.mem_of_getElem? (i := 131) (by decide +kernel))) rfl
theorem wd_1204 : (Cond.selects RX10 yX10_vertex yX10_vertex : Cond) ∈ WALL := wall_t (tw_5 _ (List.mem_of_getElem? (i := 132) (by decide +kernel))) rfl
theorem wd_1201 : (Cond.codeWith yL_vertex cL_vertex 4 (some .int) [(0, 9, 12, 29)] : Cond) ∈ WALL := wall_t (tw_5 _ (List.mem_of_getElem? (i := 129) (by rfl))) rfl
theorem wd_1210 : (Cond.methodLink RL 58 yX10_box : Cond) ∈ WALL := wall_t (tw_5 _ (List.mem_of_getElem? (i := 138) (by decide +kernel))) rfl
theorem wd_1211 : (Cond.instanceMethod yX10_box : Cond) ∈ WALL := wall_t (tw_5 _ (List.mem_of_getElem? (i := 139) (by decide +kernel))) rfl
theorem wd_1212 : (Cond.selects RX10 yX10_box yX10_box : Cond) ∈ WALL := wall_t (tw_5 _ (List.mem_of_getElem? (i := 140) (by decide +kernel))) rfl
theorem wd_1209 : (Cond.codeWith yL_box cL_box 5 (some .int) [(0, 10, 13, 29), (0, 10, 17, 19)] : Cond) ∈ WALL := wall_t (tw_5 _ (List.mem_of_getElem? (i := 137) (by rfl))) rfl
theorem wd_1218 : (Cond.classLink RL 64 "java/util/NoSuchElementException" : Cond) ∈ WALL := wall_t (tw_5 _ (List.mem_of_getElem? (i := 146) (by decide +kernel))) rfl
theorem wd_1219 : (Cond.methodLink RL 61 yX10_step : Cond) ∈ WALL := wall_t (tw_5 _ (List.mem_of_getElem? (i := 147) (by decide +kernel))) rfl
theorem wd_1220 : (Cond.instanceMethod yX10_step : Cond) ∈ WALL := wall_t (tw_5 _ (List.mem_of_getElem? (i := 148) (by decide +kernel))) rfl
theorem wd_1221 : (Cond.selects RX10 yX10_step yX10_step : Cond) ∈ WALL := wall_t (tw_5 _ (List.mem_of_getElem? (i := 149) (by decide +kernel))) rfl
theorem wd_1217 : (Cond.codeWith yL_step cL_step 5 (some .int) [(0, 10, 13, 19), (0, 10, 17, 64)] : Cond) ∈ WALL := wall_t (tw_5 _ (List.mem_of_getElem? (i := 145) (by rfl))) rfl
theorem wd_1242 : (Cond.methodLink RL 66 yX10_lostWithout : Cond) ∈ WALL := wall_t (tw_5 _ (List.mem_of_getElem? (i := 170) (by decide +kernel))) rfl
theorem wd_1243 : (Cond.instanceMethod yX10_lostWithout : Cond) ∈ WALL := wall_t (tw_5 _ (List.mem_of_getElem? (i := 171) (by decide +kernel))) rfl
theorem wd_1244 : (Cond.selects RX10 yX10_lostWithout yX10_lostWithout : Cond) ∈ WALL := wall_t (tw_5 _ (List.mem_of_getElem? (i := 172) (by decide +kernel))) rfl
theorem wd_1241 : (Cond.codeWith yL_lostWithout cL_lostWithout 4 (some .int) [(0, 9, 12, 29)] : Cond) ∈ WALL := wall_t (tw_5 _ (List.mem_of_getElem? (i := 169) (by rfl))) rfl
theorem wd_1253 : (Cond.methodLink RL 69 yX10_worth : Cond) ∈ WALL := wall_t (tw_5 _ (List.mem_of_getElem? (i := 181) (by decide +kernel))) rfl
theorem wd_1254 : (Cond.instanceMethod yX10_worth : Cond) ∈ WALL := wall_t (tw_5 _ (List.mem_of_getElem? (i := 182) (by decide +kernel))) rfl
theorem wd_1255 : (Cond.selects RX10 yX10_worth yX10_worth : Cond) ∈ WALL := wall_t (tw_5 _ (List.mem_of_getElem? (i := 183) (by decide +kernel))) rfl
theorem wd_1252 : (Cond.codeWith yL_worth cL_worth 4 (some .int) [(0, 9, 12, 29)] : Cond) ∈ WALL := wall_t (tw_5 _ (List.mem_of_getElem? (i := 180) (by rfl))) rfl
theorem wd_1261 : (Cond.methodLink RL 72 yX10_pointsWith : Cond) ∈ WALL := wall_t (tw_5 _ (List.mem_of_getElem? (i := 189) (by decide +kernel))) rfl
theorem wd_1262 : (Cond.instanceMethod yX10_pointsWith : Cond) ∈ WALL := wall_t (tw_5 _ (List.mem_of_getElem? (i := 190) (by decide +kernel))) rfl
theorem wd_1263 : (Cond.selects RX10 yX10_pointsWith yX10_pointsWith : Cond) ∈ WALL := wall_t (tw_5 _ (List.mem_of_getElem? (i := 191) (by decide +kernel))) rfl
theorem wd_1260 : (Cond.codeWith yL_pointsWith cL_pointsWith 4 (some .int) [(0, 9, 12, 19)] : Cond) ∈ WALL := wall_t (tw_5 _ (List.mem_of_getElem? (i := 188) (by rfl))) rfl
theorem wd_1276 : (Cond.methodLink RL 75 yX10_nearTo : Cond) ∈ WALL := wall_t (tw_5 _ (List.mem_of_getElem? (i := 204) (by decide +kernel))) rfl
theorem wd_1277 : (Cond.instanceMethod yX10_nearTo : Cond) ∈ WALL := wall_t (tw_5 _ (List.mem_of_getElem? (i := 205) (by decide +kernel))) rfl
theorem wd_1278 : (Cond.selects RX10 yX10_nearTo yX10_nearTo : Cond) ∈ WALL := wall_t (tw_5 _ (List.mem_of_getElem? (i := 206) (by decide +kernel))) rfl
theorem wd_1275 : (Cond.codeWith yL_nearTo cL_nearTo 4 (some .int) [(0, 9, 12, 19)] : Cond) ∈ WALL := wall_t (tw_5 _ (List.mem_of_getElem? (i := 203) (by rfl))) rfl
theorem wd_1284 : (Cond.methodLink RL 78 yX10_apart : Cond) ∈ WALL := wall_t (tw_5 _ (List.mem_of_getElem? (i := 212) (by decide +kernel))) rfl
theorem wd_1285 : (Cond.instanceMethod yX10_apart : Cond) ∈ WALL := wall_t (tw_5 _ (List.mem_of_getElem? (i := 213) (by decide +kernel))) rfl
theorem wd_1286 : (Cond.selects RX10 yX10_apart yX10_apart : Cond) ∈ WALL := wall_t (tw_5 _ (List.mem_of_getElem? (i := 214) (by decide +kernel))) rfl
theorem wd_1283 : (Cond.codeWith yL_apart cL_apart 5 (some .int) [(0, 10, 13, 29)] : Cond) ∈ WALL := wall_t (tw_5 _ (List.mem_of_getElem? (i := 211) (by rfl))) rfl
theorem wd_1291 : (Cond.methodLink RL 81 yX10_layerSize : Cond) ∈ WALL := wall_t (tw_5 _ (List.mem_of_getElem? (i := 219) (by decide +kernel))) rfl
theorem wd_1292 : (Cond.instanceMethod yX10_layerSize : Cond) ∈ WALL := wall_t (tw_5 _ (List.mem_of_getElem? (i := 220) (by decide +kernel))) rfl
theorem wd_1293 : (Cond.selects RX10 yX10_layerSize yX10_layerSize : Cond) ∈ WALL := wall_t (tw_5 _ (List.mem_of_getElem? (i := 221) (by decide +kernel))) rfl
theorem wd_1290 : (Cond.codeWith yL_layerSize cL_layerSize 4 (some .int) [(0, 9, 12, 29)] : Cond) ∈ WALL := wall_t (tw_5 _ (List.mem_of_getElem? (i := 218) (by rfl))) rfl
theorem wd_1299 : (Cond.methodLink RL 84 yX10_layerOf : Cond) ∈ WALL := wall_t (tw_5 _ (List.mem_of_getElem? (i := 227) (by decide +kernel))) rfl
theorem wd_1300 : (Cond.instanceMethod yX10_layerOf : Cond) ∈ WALL := wall_t (tw_5 _ (List.mem_of_getElem? (i := 228) (by decide +kernel))) rfl
theorem wd_1301 : (Cond.selects RX10 yX10_layerOf yX10_layerOf : Cond) ∈ WALL := wall_t (tw_5 _ (List.mem_of_getElem? (i := 229) (by decide +kernel))) rfl
theorem wd_1298 : (Cond.codeWith yL_layerOf cL_layerOf 4 (some .int) [(0, 9, 12, 19)] : Cond) ∈ WALL := wall_t (tw_5 _ (List.mem_of_getElem? (i := 226) (by rfl))) rfl
theorem wd_1306 : (Cond.methodLink RL 87 yX10_climb : Cond) ∈ WALL := wall_t (tw_5 _ (List.mem_of_getElem? (i := 234) (by decide +kernel))) rfl
theorem wd_1307 : (Cond.instanceMethod yX10_climb : Cond) ∈ WALL := wall_t (tw_5 _ (List.mem_of_getElem? (i := 235) (by decide +kernel))) rfl
theorem wd_1308 : (Cond.selects RX10 yX10_climb yX10_climb : Cond) ∈ WALL := wall_t (tw_5 _ (List.mem_of_getElem? (i := 236) (by decide +kernel))) rfl
theorem wd_1305 : (Cond.codeWith yL_climb cL_climb 5 (some .int) [(0, 10, 13, 19)] : Cond) ∈ WALL := wall_t (tw_5 _ (List.mem_of_getElem? (i := 233) (by rfl))) rfl
theorem wd_1330 : (Cond.methodLink RL 90 yX10_addItem : Cond) ∈ WALL := wall_t (tw_6 _ (List.mem_of_getElem? (i := 18) (by decide +kernel))) rfl
theorem wd_1331 : (Cond.instanceMethod yX10_addItem : Cond) ∈ WALL := wall_t (tw_6 _ (List.mem_of_getElem? (i := 19) (by decide +kernel))) rfl
theorem wd_1332 : (Cond.selects RX10 yX10_addItem yX10_addItem : Cond) ∈ WALL := wall_t (tw_6 _ (List.mem_of_getElem? (i := 20) (by decide +kernel))) rfl
theorem wd_1329 : (Cond.codeWith yL_addItem cL_addItem 6 (some .int) [(0, 12, 15, 19), (0, 12, 19, 13)] : Cond) ∈ WALL := wall_t (tw_6 _ (List.mem_of_getElem? (i := 17) (by rfl))) rfl
theorem wd_1339 : (Cond.methodLink RL 94 yX10_dropItem : Cond) ∈ WALL := wall_t (tw_6 _ (List.mem_of_getElem? (i := 27) (by decide +kernel))) rfl
theorem wd_1340 : (Cond.instanceMethod yX10_dropItem : Cond) ∈ WALL := wall_t (tw_6 _ (List.mem_of_getElem? (i := 28) (by decide +kernel))) rfl
theorem wd_1341 : (Cond.selects RX10 yX10_dropItem yX10_dropItem : Cond) ∈ WALL := wall_t (tw_6 _ (List.mem_of_getElem? (i := 29) (by decide +kernel))) rfl
theorem wd_1338 : (Cond.codeWith yL_dropItem cL_dropItem 4 (some .int) [(0, 9, 12, 29)] : Cond) ∈ WALL := wall_t (tw_6 _ (List.mem_of_getElem? (i := 26) (by rfl))) rfl
theorem wd_1353 : (Cond.methodLink RL 97 yX10_setItem : Cond) ∈ WALL := wall_t (tw_6 _ (List.mem_of_getElem? (i := 41) (by decide +kernel))) rfl
theorem wd_1354 : (Cond.instanceMethod yX10_setItem : Cond) ∈ WALL := wall_t (tw_6 _ (List.mem_of_getElem? (i := 42) (by decide +kernel))) rfl
theorem wd_1355 : (Cond.selects RX10 yX10_setItem yX10_setItem : Cond) ∈ WALL := wall_t (tw_6 _ (List.mem_of_getElem? (i := 43) (by decide +kernel))) rfl
theorem wd_1352 : (Cond.codeWith yL_setItem cL_setItem 6 (some .int) [(0, 12, 15, 29), (0, 12, 19, 19)] : Cond) ∈ WALL := wall_t (tw_6 _ (List.mem_of_getElem? (i := 40) (by rfl))) rfl
theorem wd_1360 : (Cond.methodLink RL 100 yX10_setCapacity : Cond) ∈ WALL := wall_t (tw_6 _ (List.mem_of_getElem? (i := 48) (by decide +kernel))) rfl
theorem wd_1361 : (Cond.instanceMethod yX10_setCapacity : Cond) ∈ WALL := wall_t (tw_6 _ (List.mem_of_getElem? (i := 49) (by decide +kernel))) rfl
theorem wd_1362 : (Cond.selects RX10 yX10_setCapacity yX10_setCapacity : Cond) ∈ WALL := wall_t (tw_6 _ (List.mem_of_getElem? (i := 50) (by decide +kernel))) rfl
theorem wd_1359 : (Cond.codeWith yL_setCapacity cL_setCapacity 4 (some .int) [(0, 9, 12, 19)] : Cond) ∈ WALL := wall_t (tw_6 _ (List.mem_of_getElem? (i := 47) (by rfl))) rfl
theorem wd_1367 : (Cond.methodLink RL 103 yX10_setLimit : Cond) ∈ WALL := wall_t (tw_6 _ (List.mem_of_getElem? (i := 55) (by decide +kernel))) rfl
theorem wd_1368 : (Cond.instanceMethod yX10_setLimit : Cond) ∈ WALL := wall_t (tw_6 _ (List.mem_of_getElem? (i := 56) (by decide +kernel))) rfl
theorem wd_1369 : (Cond.selects RX10 yX10_setLimit yX10_setLimit : Cond) ∈ WALL := wall_t (tw_6 _ (List.mem_of_getElem? (i := 57) (by decide +kernel))) rfl
theorem wd_1366 : (Cond.codeWith yL_setLimit cL_setLimit 4 (some .int) [(0, 9, 12, 19)] : Cond) ∈ WALL := wall_t (tw_6 _ (List.mem_of_getElem? (i := 54) (by rfl))) rfl
theorem wd_1375 : (Cond.methodLink RL 106 yX10_bar : Cond) ∈ WALL := wall_t (tw_6 _ (List.mem_of_getElem? (i := 63) (by decide +kernel))) rfl
theorem wd_1376 : (Cond.instanceMethod yX10_bar : Cond) ∈ WALL := wall_t (tw_6 _ (List.mem_of_getElem? (i := 64) (by decide +kernel))) rfl
theorem wd_1377 : (Cond.selects RX10 yX10_bar yX10_bar : Cond) ∈ WALL := wall_t (tw_6 _ (List.mem_of_getElem? (i := 65) (by decide +kernel))) rfl
theorem wd_1374 : (Cond.codeWith yL_bar cL_bar 6 (some .int) [(0, 19, 22, 29), (0, 19, 26, 19)] : Cond) ∈ WALL := wall_t (tw_6 _ (List.mem_of_getElem? (i := 62) (by rfl))) rfl
theorem wd_1388 : (Cond.methodLink RL 110 yX10_need : Cond) ∈ WALL := wall_t (tw_6 _ (List.mem_of_getElem? (i := 76) (by decide +kernel))) rfl
theorem wd_1389 : (Cond.instanceMethod yX10_need : Cond) ∈ WALL := wall_t (tw_6 _ (List.mem_of_getElem? (i := 77) (by decide +kernel))) rfl
theorem wd_1390 : (Cond.selects RX10 yX10_need yX10_need : Cond) ∈ WALL := wall_t (tw_6 _ (List.mem_of_getElem? (i := 78) (by decide +kernel))) rfl
theorem wd_1387 : (Cond.codeWith yL_need cL_need 6 (some .int) [(0, 19, 22, 29), (0, 19, 26, 19)] : Cond) ∈ WALL := wall_t (tw_6 _ (List.mem_of_getElem? (i := 75) (by rfl))) rfl
theorem wd_1395 : (Cond.methodLink RL 113 yX10_must : Cond) ∈ WALL := wall_t (tw_6 _ (List.mem_of_getElem? (i := 83) (by decide +kernel))) rfl
theorem wd_1396 : (Cond.instanceMethod yX10_must : Cond) ∈ WALL := wall_t (tw_6 _ (List.mem_of_getElem? (i := 84) (by decide +kernel))) rfl
theorem wd_1397 : (Cond.selects RX10 yX10_must yX10_must : Cond) ∈ WALL := wall_t (tw_6 _ (List.mem_of_getElem? (i := 85) (by decide +kernel))) rfl
theorem wd_1394 : (Cond.codeWith yL_must cL_must 5 (some .int) [(0, 17, 20, 29)] : Cond) ∈ WALL := wall_t (tw_6 _ (List.mem_of_getElem? (i := 82) (by rfl))) rfl
theorem wd_1402 : (Cond.methodLink RL 117 yX10_never : Cond) ∈ WALL := wall_t (tw_6 _ (List.mem_of_getElem? (i := 90) (by decide +kernel))) rfl
theorem wd_1403 : (Cond.instanceMethod yX10_never : Cond) ∈ WALL := wall_t (tw_6 _ (List.mem_of_getElem? (i := 91) (by decide +kernel))) rfl
theorem wd_1404 : (Cond.selects RX10 yX10_never yX10_never : Cond) ∈ WALL := wall_t (tw_6 _ (List.mem_of_getElem? (i := 92) (by decide +kernel))) rfl
theorem wd_1401 : (Cond.codeWith yL_never cL_never 5 (some .int) [(0, 17, 20, 29)] : Cond) ∈ WALL := wall_t (tw_6 _ (List.mem_of_getElem? (i := 89) (by rfl))) rfl
theorem wd_1409 : (Cond.methodLink RL 120 yX10_choose : Cond) ∈ WALL := wall_t (tw_6 _ (List.mem_of_getElem? (i := 97) (by decide +kernel))) rfl
theorem wd_1410 : (Cond.instanceMethod yX10_choose : Cond) ∈ WALL := wall_t (tw_6 _ (List.mem_of_getElem? (i := 98) (by decide +kernel))) rfl
theorem wd_1411 : (Cond.selects RX10 yX10_choose yX10_choose : Cond) ∈ WALL := wall_t (tw_6 _ (List.mem_of_getElem? (i := 99) (by decide +kernel))) rfl
theorem wd_1408 : (Cond.codeWith yL_choose cL_choose 4 (some .int) [(0, 9, 12, 19), (0, 9, 15, 13)] : Cond) ∈ WALL := wall_t (tw_6 _ (List.mem_of_getElem? (i := 96) (by rfl))) rfl
theorem wd_1425 : (Cond.methodLink RL 123 yX10_chooseBest : Cond) ∈ WALL := wall_t (tw_6 _ (List.mem_of_getElem? (i := 113) (by decide +kernel))) rfl
theorem wd_1426 : (Cond.instanceMethod yX10_chooseBest : Cond) ∈ WALL := wall_t (tw_6 _ (List.mem_of_getElem? (i := 114) (by decide +kernel))) rfl
theorem wd_1427 : (Cond.selects RX10 yX10_chooseBest yX10_chooseBest : Cond) ∈ WALL := wall_t (tw_6 _ (List.mem_of_getElem? (i := 115) (by decide +kernel))) rfl
theorem wd_1424 : (Cond.codeWith yL_chooseBest cL_chooseBest 5 (some .int) [(0, 10, 13, 19), (0, 10, 17, 13)] : Cond) ∈ WALL := wall_t (tw_6 _ (List.mem_of_getElem? (i := 112) (by rfl))) rfl
theorem wd_1433 : (Cond.methodLink RL 126 yX10_improve : Cond) ∈ WALL := wall_t (tw_6 _ (List.mem_of_getElem? (i := 121) (by decide +kernel))) rfl
theorem wd_1434 : (Cond.instanceMethod yX10_improve : Cond) ∈ WALL := wall_t (tw_6 _ (List.mem_of_getElem? (i := 122) (by decide +kernel))) rfl
theorem wd_1435 : (Cond.selects RX10 yX10_improve yX10_improve : Cond) ∈ WALL := wall_t (tw_6 _ (List.mem_of_getElem? (i := 123) (by decide +kernel))) rfl
theorem wd_1432 : (Cond.codeWith yL_improve cL_improve 5 (some .int) [(0, 10, 13, 19)] : Cond) ∈ WALL := wall_t (tw_6 _ (List.mem_of_getElem? (i := 120) (by rfl))) rfl
theorem wd_1440 : (Cond.methodLink RL 129 yX10_take : Cond) ∈ WALL := wall_t (tw_6 _ (List.mem_of_getElem? (i := 128) (by decide +kernel))) rfl
theorem wd_1441 : (Cond.instanceMethod yX10_take : Cond) ∈ WALL := wall_t (tw_6 _ (List.mem_of_getElem? (i := 129) (by decide +kernel))) rfl
theorem wd_1442 : (Cond.selects RX10 yX10_take yX10_take : Cond) ∈ WALL := wall_t (tw_6 _ (List.mem_of_getElem? (i := 130) (by decide +kernel))) rfl
theorem wd_1439 : (Cond.codeWith yL_take cL_take 4 (some .int) [(0, 9, 12, 29), (0, 9, 15, 13)] : Cond) ∈ WALL := wall_t (tw_6 _ (List.mem_of_getElem? (i := 127) (by rfl))) rfl
theorem wd_1448 : (Cond.methodLink RL 132 yX10_leave : Cond) ∈ WALL := wall_t (tw_6 _ (List.mem_of_getElem? (i := 136) (by decide +kernel))) rfl
theorem wd_1449 : (Cond.instanceMethod yX10_leave : Cond) ∈ WALL := wall_t (tw_6 _ (List.mem_of_getElem? (i := 137) (by decide +kernel))) rfl
theorem wd_1450 : (Cond.selects RX10 yX10_leave yX10_leave : Cond) ∈ WALL := wall_t (tw_6 _ (List.mem_of_getElem? (i := 138) (by decide +kernel))) rfl
theorem wd_1447 : (Cond.codeWith yL_leave cL_leave 4 (some .int) [(0, 9, 12, 29), (0, 9, 15, 13)] : Cond) ∈ WALL := wall_t (tw_6 _ (List.mem_of_getElem? (i := 135) (by rfl))) rfl
theorem wd_1456 : (Cond.methodLink RL 135 yX10_keep : Cond) ∈ WALL := wall_t (tw_6 _ (List.mem_of_getElem? (i := 144) (by decide +kernel))) rfl
theorem wd_1457 : (Cond.instanceMethod yX10_keep : Cond) ∈ WALL := wall_t (tw_6 _ (List.mem_of_getElem? (i := 145) (by decide +kernel))) rfl
theorem wd_1458 : (Cond.selects RX10 yX10_keep yX10_keep : Cond) ∈ WALL := wall_t (tw_6 _ (List.mem_of_getElem? (i := 146) (by decide +kernel))) rfl
theorem wd_1455 : (Cond.codeWith yL_keep cL_keep 4 (some .int) [(0, 9, 12, 29)] : Cond) ∈ WALL := wall_t (tw_6 _ (List.mem_of_getElem? (i := 143) (by rfl))) rfl
theorem wd_1467 : (Cond.methodLink RL 138 yX10_restore : Cond) ∈ WALL := wall_t (tw_6 _ (List.mem_of_getElem? (i := 155) (by decide +kernel))) rfl
theorem wd_1468 : (Cond.instanceMethod yX10_restore : Cond) ∈ WALL := wall_t (tw_6 _ (List.mem_of_getElem? (i := 156) (by decide +kernel))) rfl
theorem wd_1469 : (Cond.selects RX10 yX10_restore yX10_restore : Cond) ∈ WALL := wall_t (tw_6 _ (List.mem_of_getElem? (i := 157) (by decide +kernel))) rfl
theorem wd_1466 : (Cond.codeWith yL_restore cL_restore 4 (some .int) [(0, 9, 12, 29), (0, 9, 15, 13)] : Cond) ∈ WALL := wall_t (tw_6 _ (List.mem_of_getElem? (i := 154) (by rfl))) rfl
theorem wd_1475 : (Cond.methodLink RL 141 yX10_undo : Cond) ∈ WALL := wall_t (tw_6 _ (List.mem_of_getElem? (i := 163) (by decide +kernel))) rfl
theorem wd_1476 : (Cond.instanceMethod yX10_undo : Cond) ∈ WALL := wall_t (tw_6 _ (List.mem_of_getElem? (i := 164) (by decide +kernel))) rfl
theorem wd_1477 : (Cond.selects RX10 yX10_undo yX10_undo : Cond) ∈ WALL := wall_t (tw_6 _ (List.mem_of_getElem? (i := 165) (by decide +kernel))) rfl
theorem wd_1474 : (Cond.codeWith yL_undo cL_undo 3 (some .int) [(0, 8, 11, 13)] : Cond) ∈ WALL := wall_t (tw_6 _ (List.mem_of_getElem? (i := 162) (by rfl))) rfl
theorem wd_1486 : (Cond.codeWith yL_outputByte cL_outputByte 4 (some .int) [(0, 9, 12, 29)] : Cond) ∈ WALL := wall_t (tw_6 _ (List.mem_of_getElem? (i := 174) (by rfl))) rfl
theorem wd_1487 : (Cond.methodLink RL 145 yX10_outputByte : Cond) ∈ WALL := wall_t (tw_6 _ (List.mem_of_getElem? (i := 175) (by decide +kernel))) rfl
theorem wd_1488 : (Cond.instanceMethod yX10_outputByte : Cond) ∈ WALL := wall_t (tw_6 _ (List.mem_of_getElem? (i := 176) (by decide +kernel))) rfl
theorem wd_1489 : (Cond.selects RX10 yX10_outputByte yX10_outputByte : Cond) ∈ WALL := wall_t (tw_6 _ (List.mem_of_getElem? (i := 177) (by decide +kernel))) rfl
theorem iwX0 : ∀ w ∈ u_ws RX0 TX0 9, w ∈ WALL := wall_places [322, 324, 326, 328, 330, 332, 334, 336, 338] (by decide +kernel) (by decide +kernel)
theorem iwX1 : ∀ w ∈ u_ws RX1 TX1 4, w ∈ WALL := wall_places [484, 486, 488, 490] (by decide +kernel) (by decide +kernel)
theorem iwX2 : ∀ w ∈ u_ws RX2 TX2 13, w ∈ WALL := wall_places [388, 390, 392, 394, 396, 398, 400, 402, 404, 406, 408, 410, 412] (by decide +kernel) (by decide +kernel)
theorem iwX3 : ∀ w ∈ u_ws RX3 TX3 8, w ∈ WALL := wall_places [455, 457, 459, 461, 463, 465, 467, 469] (by decide +kernel) (by decide +kernel)
theorem iwX4 : ∀ w ∈ u_ws RX4 TX4 2, w ∈ WALL := wall_places [286, 288] (by decide +kernel) (by decide +kernel)
theorem iwX5 : ∀ w ∈ u_ws RX5 TX5 9, w ∈ WALL := wall_places [238, 240, 242, 244, 246, 248, 250, 252, 254] (by decide +kernel) (by decide +kernel)
theorem iwX6 : ∀ w ∈ u_ws RX6 TX6 2, w ∈ WALL := wall_places [271, 273] (by decide +kernel) (by decide +kernel)
theorem iwX7 : ∀ w ∈ u_ws RX7 TX7 4, w ∈ WALL := wall_places [429, 431, 433, 435] (by decide +kernel) (by decide +kernel)
theorem iwX8 : ∀ w ∈ u_ws RX8 TX8 11, w ∈ WALL := wall_places [201, 203, 205, 207, 209, 211, 213, 215, 217, 219, 221] (by decide +kernel) (by decide +kernel)
theorem iwX9 : ∀ w ∈ u_ws RX9 TX9 2, w ∈ WALL := wall_places [352, 354] (by decide +kernel) (by decide +kernel)
theorem iwX10 : ∀ w ∈ u_ws RX10 TX10 19, w ∈ WALL := wall_places [512, 514, 516, 518, 520, 522, 524, 526, 528, 530, 532, 534, 536, 538, 540, 542, 544, 546, 548] (by decide +kernel) (by decide +kernel)
theorem iwX11 : ∀ w ∈ u_ws RX11 TX11 40, w ∈ WALL := wall_places [1542, 1544, 1546, 1548, 1550, 1552, 1554, 1556, 1558, 1560, 1562, 1564, 1566, 1568, 1570, 1572, 1574, 1576, 1578, 1580, 1582, 1584, 1586, 1588, 1590, 1592, 1594, 1596, 1598, 1600, 1602, 1604, 1606, 1608, 1610, 1612, 1614, 1616, 1618, 1620] (by decide +kernel) (by decide +kernel)
