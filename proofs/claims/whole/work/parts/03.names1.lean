def wsL_sum_r2 : List Cond := [Cond.static yX10_requireWhat, Cond.code yX10_requireWhat cX10_requireWhat 2 none, Cond.methodLink RX10 188 yX10_refreshFrontier, Cond.instanceMethod yX10_refreshFrontier, Cond.selects RX10 yX10_refreshFrontier yX10_refreshFrontier, Cond.code yX10_refreshFrontier cX10_refreshFrontier 1 none, Cond.fieldLink RX10 395 "ParetoDesk" "frontierFresh" "Z", Cond.fieldLink RX10 63 "ParetoDesk" "stairs" "LParetoDesk$Stairs;", Cond.fieldLink RX10 147 "ParetoDesk$Setup" "capacity" "I", Cond.fieldLink RX10 70 "ParetoDesk" "frontier" "LParetoDesk$Frontier;", Cond.methodLink RX10 405 yX0_build, Cond.instanceMethod yX0_build, Cond.selects RX0 yX0_build yX0_build, Cond.initialized RX0, Cond.code yX0_build cX0_build 5 none, Cond.fieldLink RX0 27 "ParetoDesk$Setup" "limit" "I", Cond.fieldLink RX0 33 "ParetoDesk$Choices" "limit" "I", Cond.fieldLink RX0 34 "ParetoDesk$Setup" "mustSet" "I", Cond.fieldLink RX0 37 "ParetoDesk$Choices" "mustSet" "I", Cond.fieldLink RX0 38 "ParetoDesk$Setup" "neverSet" "I", Cond.fieldLink RX0 41 "ParetoDesk$Choices" "neverSet" "I", Cond.fieldLink RX0 42 "ParetoDesk$Choices" "sets" "I", Cond.fieldLink RX0 45 "ParetoDesk$Setup" "items" "I", Cond.fieldLink RX0 9 "ParetoDesk$Choices" "weight" "[I"]
def wsL_sum_r3 : List Cond := [Cond.fieldLink RX0 48 "ParetoDesk$Setup" "weight" "[I", Cond.fieldLink RX0 15 "ParetoDesk$Choices" "gain" "[I", Cond.fieldLink RX0 49 "ParetoDesk$Setup" "gain" "[I", Cond.fieldLink RX0 18 "ParetoDesk$Choices" "joy" "[I", Cond.fieldLink RX0 50 "ParetoDesk$Setup" "joy" "[I", Cond.fieldLink RX0 21 "ParetoDesk$Choices" "barred" "[I", Cond.fieldLink RX0 51 "ParetoDesk$Setup" "bars" "[I", Cond.fieldLink RX0 24 "ParetoDesk$Choices" "needed" "[I", Cond.fieldLink RX0 54 "ParetoDesk$Setup" "needs" "[I", Cond.methodLink RX10 290 yX9_build, Cond.instanceMethod yX9_build, Cond.selects RX9 yX9_build yX9_build, Cond.initialized RX9, Cond.code yX9_build cX9_build 5 none, Cond.fieldLink RX9 9 "ParetoDesk$Stairs" "joyAt" "[I", Cond.fieldLink RX9 21 "ParetoDesk$Stairs" "allowedCount" "I", Cond.fieldLink RX9 25 "ParetoDesk$Choices" "sets" "I", Cond.fieldLink RX9 34 "ParetoDesk$Choices" "gain" "[I", Cond.fieldLink RX9 37 "ParetoDesk$Choices" "joy" "[I", Cond.methodLink RX9 15 yJ7_fill_53178, Cond.static yJ7_fill_53178, Cond.initialized RJ7, Cond.code yJ7_fill_53178 cJ7_fill_53178 4 none, Cond.methodLink RX9 30 yX0_reason]
def wsL_sum_r4 : List Cond := [Cond.instanceMethod yX0_reason, Cond.selects RX0 yX0_reason yX0_reason, Cond.code yX0_reason cX0_reason 3 (some .int), Cond.methodLink RX0 57 yX0_reasonBesideWeight, Cond.instanceMethod yX0_reasonBesideWeight, Cond.selects RX0 yX0_reasonBesideWeight yX0_reasonBesideWeight, Cond.code yX0_reasonBesideWeight cX0_reasonBesideWeight 2 (some .int), Cond.methodLink RX0 61 yJ6_bitCount_0f7a4, Cond.static yJ6_bitCount_0f7a4, Cond.initialized RJ6, Cond.code yJ6_bitCount_0f7a4 cJ6_bitCount_0f7a4 1 (some .int), Cond.constant RJ6 265 (1431655765), Cond.constant RJ6 266 (858993459), Cond.constant RJ6 267 (252645135), Cond.methodLink RX9 40 yX9_keepGreatest, Cond.instanceMethod yX9_keepGreatest, Cond.selects RX9 yX9_keepGreatest yX9_keepGreatest, Cond.code yX9_keepGreatest cX9_keepGreatest 3 none, Cond.methodLink RX9 44 yX9_dropBeaten, Cond.instanceMethod yX9_dropBeaten, Cond.selects RX9 yX9_dropBeaten yX9_dropBeaten, Cond.code yX9_dropBeaten cX9_dropBeaten 3 none, Cond.methodLink RX10 407 yX2_build, Cond.instanceMethod yX2_build]
def wsL_sum_r5 : List Cond := [Cond.selects RX2 yX2_build yX2_build, Cond.initialized RX2, Cond.code yX2_build cX2_build 4 none, Cond.fieldLink RX2 40 "ParetoDesk$Stairs" "allowedCount" "I", Cond.fieldLink RX2 46 "ParetoDesk$Frontier" "allowedCount" "I", Cond.fieldLink RX2 51 "ParetoDesk$Frontier" "areaBelow" "I", Cond.methodLink RX2 47 yX9_areaBelow, Cond.instanceMethod yX9_areaBelow, Cond.selects RX9 yX9_areaBelow yX9_areaBelow, Cond.code yX9_areaBelow cX9_areaBelow 4 (some .int), Cond.methodLink RX2 53 yX2_readPoints, Cond.instanceMethod yX2_readPoints, Cond.selects RX2 yX2_readPoints yX2_readPoints, Cond.code yX2_readPoints cX2_readPoints 3 none, Cond.fieldLink RX2 67 "ParetoDesk$Frontier" "size" "I", Cond.fieldLink RX2 33 "ParetoDesk$Frontier" "pointAt" "[I", Cond.fieldLink RX2 70 "ParetoDesk$Stairs" "joyAt" "[I", Cond.fieldLink RX2 9 "ParetoDesk$Frontier" "gain" "[I", Cond.fieldLink RX2 15 "ParetoDesk$Frontier" "joy" "[I", Cond.fieldLink RX2 18 "ParetoDesk$Frontier" "choice" "[I", Cond.fieldLink RX2 21 "ParetoDesk$Frontier" "times" "[I", Cond.fieldLink RX2 24 "ParetoDesk$Frontier" "light" "[I", Cond.fieldLink RX2 27 "ParetoDesk$Frontier" "mark" "[I", Cond.methodLink RX2 57 yX2_readChoices]
def wsL_sum_r6 : List Cond := [Cond.instanceMethod yX2_readChoices, Cond.selects RX2 yX2_readChoices yX2_readChoices, Cond.code yX2_readChoices cX2_readChoices 5 none, Cond.fieldLink RX2 73 "ParetoDesk$Choices" "sets" "I", Cond.fieldLink RX2 78 "ParetoDesk$Choices" "gain" "[I", Cond.fieldLink RX2 79 "ParetoDesk$Choices" "joy" "[I", Cond.fieldLink RX2 87 "ParetoDesk$Choices" "weight" "[I", Cond.methodLink RX2 80 yX2_pointWithPair, Cond.instanceMethod yX2_pointWithPair, Cond.selects RX2 yX2_pointWithPair yX2_pointWithPair, Cond.code yX2_pointWithPair cX2_pointWithPair 4 (some .int), Cond.methodLink RX2 84 yX0_reason, Cond.methodLink RX2 61 yX2_findVertices, Cond.instanceMethod yX2_findVertices, Cond.selects RX2 yX2_findVertices yX2_findVertices, Cond.code yX2_findVertices cX2_findVertices 2 none, Cond.fieldLink RX2 90 "ParetoDesk$Frontier" "vertexCount" "I", Cond.fieldLink RX2 30 "ParetoDesk$Frontier" "vertexPoint" "[I", Cond.methodLink RX2 93 yX2_heightOver, Cond.instanceMethod yX2_heightOver, Cond.selects RX2 yX2_heightOver yX2_heightOver, Cond.code yX2_heightOver cX2_heightOver 4 (some .int), Cond.methodLink RX2 97 yX2_gainWon, Cond.instanceMethod yX2_gainWon]
def wsL_sum_r7 : List Cond := [Cond.selects RX2 yX2_gainWon yX2_gainWon, Cond.code yX2_gainWon cX2_gainWon 3 (some .int), Cond.methodLink RX2 100 yX2_joyLost, Cond.instanceMethod yX2_joyLost, Cond.selects RX2 yX2_joyLost yX2_joyLost, Cond.code yX2_joyLost cX2_joyLost 3 (some .int), Cond.methodLink RX2 64 yX2_markSupported, Cond.instanceMethod yX2_markSupported, Cond.selects RX2 yX2_markSupported yX2_markSupported, Cond.code yX2_markSupported cX2_markSupported 5 none]
def wsL_sum : List Cond := .codeWith yL_sum cL_sum 5 (some .int) [(0, 10, 13, 19)] :: ((wsL_sum_r1 ++ (wsL_sum_r2 ++ (wsL_sum_r3 ++ (wsL_sum_r4 ++ (wsL_sum_r5 ++ (wsL_sum_r6 ++ wsL_sum_r7)))))) ++ wsX100 ++ wsX00 ++ wsX80 ++ wsX90 ++ wsX20 ++ (vx_atS RX10 113 "java/lang/IllegalArgumentException" ["java/lang/RuntimeException", "java/lang/Exception"]).filter goodWord)
def wsL_point_r1 : List Cond := [Cond.classLink RL 29 "java/lang/IndexOutOfBoundsException", Cond.classLink RL 19 "java/lang/IllegalArgumentException", Cond.methodLink RL 37 yX10_point, Cond.instanceMethod yX10_point, Cond.selects RX10 yX10_point yX10_point, Cond.initialized RX10, Cond.code yX10_point cX10_point 3 (some .int), Cond.fieldLink RX10 70 "ParetoDesk" "frontier" "LParetoDesk$Frontier;", Cond.fieldLink RX10 207 "ParetoDesk$Frontier" "gain" "[I", Cond.fieldLink RX10 208 "ParetoDesk$Frontier" "joy" "[I", Cond.fieldLink RX10 209 "ParetoDesk$Frontier" "choice" "[I", Cond.fieldLink RX10 212 "ParetoDesk$Frontier" "times" "[I", Cond.fieldLink RX10 56 "ParetoDesk" "choices" "LParetoDesk$Choices;", Cond.fieldLink RX10 195 "ParetoDesk$Choices" "weight" "[I", Cond.fieldLink RX10 215 "ParetoDesk$Frontier" "mark" "[I", Cond.methodLink RX10 204 yX10_requirePoint, Cond.instanceMethod yX10_requirePoint, Cond.selects RX10 yX10_requirePoint yX10_requirePoint, Cond.code yX10_requirePoint cX10_requirePoint 2 none, Cond.classLink RX10 240 "java/lang/IndexOutOfBoundsException", Cond.initialized "java/lang/IndexOutOfBoundsException", Cond.fieldLink RX10 201 "ParetoDesk$Frontier" "size" "I", Cond.methodLink RX10 188 yX10_refreshFrontier, Cond.instanceMethod yX10_refreshFrontier]
def wsL_point_r2 : List Cond := [Cond.selects RX10 yX10_refreshFrontier yX10_refreshFrontier, Cond.code yX10_refreshFrontier cX10_refreshFrontier 1 none, Cond.fieldLink RX10 395 "ParetoDesk" "frontierFresh" "Z", Cond.fieldLink RX10 27 "ParetoDesk" "now" "LParetoDesk$Setup;", Cond.fieldLink RX10 63 "ParetoDesk" "stairs" "LParetoDesk$Stairs;", Cond.fieldLink RX10 147 "ParetoDesk$Setup" "capacity" "I", Cond.methodLink RX10 405 yX0_build, Cond.instanceMethod yX0_build, Cond.selects RX0 yX0_build yX0_build, Cond.initialized RX0, Cond.code yX0_build cX0_build 5 none, Cond.fieldLink RX0 27 "ParetoDesk$Setup" "limit" "I", Cond.fieldLink RX0 33 "ParetoDesk$Choices" "limit" "I", Cond.fieldLink RX0 34 "ParetoDesk$Setup" "mustSet" "I", Cond.fieldLink RX0 37 "ParetoDesk$Choices" "mustSet" "I", Cond.fieldLink RX0 38 "ParetoDesk$Setup" "neverSet" "I", Cond.fieldLink RX0 41 "ParetoDesk$Choices" "neverSet" "I", Cond.fieldLink RX0 42 "ParetoDesk$Choices" "sets" "I", Cond.fieldLink RX0 45 "ParetoDesk$Setup" "items" "I", Cond.fieldLink RX0 9 "ParetoDesk$Choices" "weight" "[I", Cond.fieldLink RX0 48 "ParetoDesk$Setup" "weight" "[I", Cond.fieldLink RX0 15 "ParetoDesk$Choices" "gain" "[I", Cond.fieldLink RX0 49 "ParetoDesk$Setup" "gain" "[I", Cond.fieldLink RX0 18 "ParetoDesk$Choices" "joy" "[I"]
def wsL_point_r3 : List Cond := [Cond.fieldLink RX0 50 "ParetoDesk$Setup" "joy" "[I", Cond.fieldLink RX0 21 "ParetoDesk$Choices" "barred" "[I", Cond.fieldLink RX0 51 "ParetoDesk$Setup" "bars" "[I", Cond.fieldLink RX0 24 "ParetoDesk$Choices" "needed" "[I", Cond.fieldLink RX0 54 "ParetoDesk$Setup" "needs" "[I", Cond.methodLink RX10 290 yX9_build, Cond.instanceMethod yX9_build, Cond.selects RX9 yX9_build yX9_build, Cond.initialized RX9, Cond.code yX9_build cX9_build 5 none, Cond.fieldLink RX9 9 "ParetoDesk$Stairs" "joyAt" "[I", Cond.fieldLink RX9 21 "ParetoDesk$Stairs" "allowedCount" "I", Cond.fieldLink RX9 25 "ParetoDesk$Choices" "sets" "I", Cond.fieldLink RX9 34 "ParetoDesk$Choices" "gain" "[I", Cond.fieldLink RX9 37 "ParetoDesk$Choices" "joy" "[I", Cond.methodLink RX9 15 yJ7_fill_53178, Cond.static yJ7_fill_53178, Cond.initialized RJ7, Cond.code yJ7_fill_53178 cJ7_fill_53178 4 none, Cond.methodLink RX9 30 yX0_reason, Cond.instanceMethod yX0_reason, Cond.selects RX0 yX0_reason yX0_reason, Cond.code yX0_reason cX0_reason 3 (some .int), Cond.methodLink RX0 57 yX0_reasonBesideWeight]
def wsL_point_r4 : List Cond := [Cond.instanceMethod yX0_reasonBesideWeight, Cond.selects RX0 yX0_reasonBesideWeight yX0_reasonBesideWeight, Cond.code yX0_reasonBesideWeight cX0_reasonBesideWeight 2 (some .int), Cond.methodLink RX0 61 yJ6_bitCount_0f7a4, Cond.static yJ6_bitCount_0f7a4, Cond.initialized RJ6, Cond.code yJ6_bitCount_0f7a4 cJ6_bitCount_0f7a4 1 (some .int), Cond.constant RJ6 265 (1431655765), Cond.constant RJ6 266 (858993459), Cond.constant RJ6 267 (252645135), Cond.methodLink RX9 40 yX9_keepGreatest, Cond.instanceMethod yX9_keepGreatest, Cond.selects RX9 yX9_keepGreatest yX9_keepGreatest, Cond.code yX9_keepGreatest cX9_keepGreatest 3 none, Cond.methodLink RX9 44 yX9_dropBeaten, Cond.instanceMethod yX9_dropBeaten, Cond.selects RX9 yX9_dropBeaten yX9_dropBeaten, Cond.code yX9_dropBeaten cX9_dropBeaten 3 none, Cond.methodLink RX10 407 yX2_build, Cond.instanceMethod yX2_build, Cond.selects RX2 yX2_build yX2_build, Cond.initialized RX2, Cond.code yX2_build cX2_build 4 none, Cond.fieldLink RX2 40 "ParetoDesk$Stairs" "allowedCount" "I"]
def wsL_point_r5 : List Cond := [Cond.fieldLink RX2 46 "ParetoDesk$Frontier" "allowedCount" "I", Cond.fieldLink RX2 51 "ParetoDesk$Frontier" "areaBelow" "I", Cond.methodLink RX2 47 yX9_areaBelow, Cond.instanceMethod yX9_areaBelow, Cond.selects RX9 yX9_areaBelow yX9_areaBelow, Cond.code yX9_areaBelow cX9_areaBelow 4 (some .int), Cond.methodLink RX2 53 yX2_readPoints, Cond.instanceMethod yX2_readPoints, Cond.selects RX2 yX2_readPoints yX2_readPoints, Cond.code yX2_readPoints cX2_readPoints 3 none, Cond.fieldLink RX2 67 "ParetoDesk$Frontier" "size" "I", Cond.fieldLink RX2 33 "ParetoDesk$Frontier" "pointAt" "[I", Cond.fieldLink RX2 70 "ParetoDesk$Stairs" "joyAt" "[I", Cond.fieldLink RX2 9 "ParetoDesk$Frontier" "gain" "[I", Cond.fieldLink RX2 15 "ParetoDesk$Frontier" "joy" "[I", Cond.fieldLink RX2 18 "ParetoDesk$Frontier" "choice" "[I", Cond.fieldLink RX2 21 "ParetoDesk$Frontier" "times" "[I", Cond.fieldLink RX2 24 "ParetoDesk$Frontier" "light" "[I", Cond.fieldLink RX2 27 "ParetoDesk$Frontier" "mark" "[I", Cond.methodLink RX2 57 yX2_readChoices, Cond.instanceMethod yX2_readChoices, Cond.selects RX2 yX2_readChoices yX2_readChoices, Cond.code yX2_readChoices cX2_readChoices 5 none, Cond.fieldLink RX2 73 "ParetoDesk$Choices" "sets" "I"]
def wsL_point_r6 : List Cond := [Cond.fieldLink RX2 78 "ParetoDesk$Choices" "gain" "[I", Cond.fieldLink RX2 79 "ParetoDesk$Choices" "joy" "[I", Cond.fieldLink RX2 87 "ParetoDesk$Choices" "weight" "[I", Cond.methodLink RX2 80 yX2_pointWithPair, Cond.instanceMethod yX2_pointWithPair, Cond.selects RX2 yX2_pointWithPair yX2_pointWithPair, Cond.code yX2_pointWithPair cX2_pointWithPair 4 (some .int), Cond.methodLink RX2 84 yX0_reason, Cond.methodLink RX2 61 yX2_findVertices, Cond.instanceMethod yX2_findVertices, Cond.selects RX2 yX2_findVertices yX2_findVertices, Cond.code yX2_findVertices cX2_findVertices 2 none, Cond.fieldLink RX2 90 "ParetoDesk$Frontier" "vertexCount" "I", Cond.fieldLink RX2 30 "ParetoDesk$Frontier" "vertexPoint" "[I", Cond.methodLink RX2 93 yX2_heightOver, Cond.instanceMethod yX2_heightOver, Cond.selects RX2 yX2_heightOver yX2_heightOver, Cond.code yX2_heightOver cX2_heightOver 4 (some .int), Cond.methodLink RX2 97 yX2_gainWon, Cond.instanceMethod yX2_gainWon, Cond.selects RX2 yX2_gainWon yX2_gainWon, Cond.code yX2_gainWon cX2_gainWon 3 (some .int), Cond.methodLink RX2 100 yX2_joyLost, Cond.instanceMethod yX2_joyLost]
def wsL_point_r7 : List Cond := [Cond.selects RX2 yX2_joyLost yX2_joyLost, Cond.code yX2_joyLost cX2_joyLost 3 (some .int), Cond.methodLink RX2 64 yX2_markSupported, Cond.instanceMethod yX2_markSupported, Cond.selects RX2 yX2_markSupported yX2_markSupported, Cond.code yX2_markSupported cX2_markSupported 5 none, Cond.methodLink RX10 143 yX10_requireWhat, Cond.static yX10_requireWhat, Cond.code yX10_requireWhat cX10_requireWhat 2 none, Cond.classLink RX10 109 "java/lang/IllegalArgumentException", Cond.initialized "java/lang/IllegalArgumentException"]
def wsL_point : List Cond := .codeWith yL_point cL_point 5 (some .int) [(0, 10, 13, 29), (0, 10, 17, 19)] :: ((wsL_point_r1 ++ (wsL_point_r2 ++ (wsL_point_r3 ++ (wsL_point_r4 ++ (wsL_point_r5 ++ (wsL_point_r6 ++ wsL_point_r7)))))) ++ wsX100 ++ wsX20 ++ wsX00 ++ wsX80 ++ wsX90 ++ (vx_atS RX10 244 "java/lang/IndexOutOfBoundsException" ["java/lang/RuntimeException", "java/lang/Exception"]).filter goodWord ++ (vx_atS RX10 113 "java/lang/IllegalArgumentException" ["java/lang/RuntimeException", "java/lang/Exception"]).filter goodWord)
def wsL_lightest_r1 : List Cond := [Cond.classLink RL 29 "java/lang/IndexOutOfBoundsException", Cond.methodLink RL 40 yX10_lightest, Cond.instanceMethod yX10_lightest, Cond.selects RX10 yX10_lightest yX10_lightest, Cond.initialized RX10, Cond.code yX10_lightest cX10_lightest 2 (some .int), Cond.fieldLink RX10 70 "ParetoDesk" "frontier" "LParetoDesk$Frontier;", Cond.fieldLink RX10 218 "ParetoDesk$Frontier" "light" "[I", Cond.methodLink RX10 204 yX10_requirePoint, Cond.instanceMethod yX10_requirePoint, Cond.selects RX10 yX10_requirePoint yX10_requirePoint, Cond.code yX10_requirePoint cX10_requirePoint 2 none, Cond.classLink RX10 240 "java/lang/IndexOutOfBoundsException", Cond.initialized "java/lang/IndexOutOfBoundsException", Cond.fieldLink RX10 201 "ParetoDesk$Frontier" "size" "I", Cond.methodLink RX10 188 yX10_refreshFrontier, Cond.instanceMethod yX10_refreshFrontier, Cond.selects RX10 yX10_refreshFrontier yX10_refreshFrontier, Cond.code yX10_refreshFrontier cX10_refreshFrontier 1 none, Cond.fieldLink RX10 395 "ParetoDesk" "frontierFresh" "Z", Cond.fieldLink RX10 56 "ParetoDesk" "choices" "LParetoDesk$Choices;", Cond.fieldLink RX10 27 "ParetoDesk" "now" "LParetoDesk$Setup;", Cond.fieldLink RX10 63 "ParetoDesk" "stairs" "LParetoDesk$Stairs;", Cond.fieldLink RX10 147 "ParetoDesk$Setup" "capacity" "I"]
def wsL_lightest_r2 : List Cond := [Cond.methodLink RX10 405 yX0_build, Cond.instanceMethod yX0_build, Cond.selects RX0 yX0_build yX0_build, Cond.initialized RX0, Cond.code yX0_build cX0_build 5 none, Cond.fieldLink RX0 27 "ParetoDesk$Setup" "limit" "I", Cond.fieldLink RX0 33 "ParetoDesk$Choices" "limit" "I", Cond.fieldLink RX0 34 "ParetoDesk$Setup" "mustSet" "I", Cond.fieldLink RX0 37 "ParetoDesk$Choices" "mustSet" "I", Cond.fieldLink RX0 38 "ParetoDesk$Setup" "neverSet" "I", Cond.fieldLink RX0 41 "ParetoDesk$Choices" "neverSet" "I", Cond.fieldLink RX0 42 "ParetoDesk$Choices" "sets" "I", Cond.fieldLink RX0 45 "ParetoDesk$Setup" "items" "I", Cond.fieldLink RX0 9 "ParetoDesk$Choices" "weight" "[I", Cond.fieldLink RX0 48 "ParetoDesk$Setup" "weight" "[I", Cond.fieldLink RX0 15 "ParetoDesk$Choices" "gain" "[I", Cond.fieldLink RX0 49 "ParetoDesk$Setup" "gain" "[I", Cond.fieldLink RX0 18 "ParetoDesk$Choices" "joy" "[I", Cond.fieldLink RX0 50 "ParetoDesk$Setup" "joy" "[I", Cond.fieldLink RX0 21 "ParetoDesk$Choices" "barred" "[I", Cond.fieldLink RX0 51 "ParetoDesk$Setup" "bars" "[I", Cond.fieldLink RX0 24 "ParetoDesk$Choices" "needed" "[I", Cond.fieldLink RX0 54 "ParetoDesk$Setup" "needs" "[I", Cond.methodLink RX10 290 yX9_build]
def wsL_lightest_r3 : List Cond := [Cond.instanceMethod yX9_build, Cond.selects RX9 yX9_build yX9_build, Cond.initialized RX9, Cond.code yX9_build cX9_build 5 none, Cond.fieldLink RX9 9 "ParetoDesk$Stairs" "joyAt" "[I", Cond.fieldLink RX9 21 "ParetoDesk$Stairs" "allowedCount" "I", Cond.fieldLink RX9 25 "ParetoDesk$Choices" "sets" "I", Cond.fieldLink RX9 34 "ParetoDesk$Choices" "gain" "[I", Cond.fieldLink RX9 37 "ParetoDesk$Choices" "joy" "[I", Cond.methodLink RX9 15 yJ7_fill_53178, Cond.static yJ7_fill_53178, Cond.initialized RJ7, Cond.code yJ7_fill_53178 cJ7_fill_53178 4 none, Cond.methodLink RX9 30 yX0_reason, Cond.instanceMethod yX0_reason, Cond.selects RX0 yX0_reason yX0_reason, Cond.code yX0_reason cX0_reason 3 (some .int), Cond.methodLink RX0 57 yX0_reasonBesideWeight, Cond.instanceMethod yX0_reasonBesideWeight, Cond.selects RX0 yX0_reasonBesideWeight yX0_reasonBesideWeight, Cond.code yX0_reasonBesideWeight cX0_reasonBesideWeight 2 (some .int), Cond.methodLink RX0 61 yJ6_bitCount_0f7a4, Cond.static yJ6_bitCount_0f7a4, Cond.initialized RJ6]
def wsL_lightest_r4 : List Cond := [Cond.code yJ6_bitCount_0f7a4 cJ6_bitCount_0f7a4 1 (some .int), Cond.constant RJ6 265 (1431655765), Cond.constant RJ6 266 (858993459), Cond.constant RJ6 267 (252645135), Cond.methodLink RX9 40 yX9_keepGreatest, Cond.instanceMethod yX9_keepGreatest, Cond.selects RX9 yX9_keepGreatest yX9_keepGreatest, Cond.code yX9_keepGreatest cX9_keepGreatest 3 none, Cond.methodLink RX9 44 yX9_dropBeaten, Cond.instanceMethod yX9_dropBeaten, Cond.selects RX9 yX9_dropBeaten yX9_dropBeaten, Cond.code yX9_dropBeaten cX9_dropBeaten 3 none, Cond.methodLink RX10 407 yX2_build, Cond.instanceMethod yX2_build, Cond.selects RX2 yX2_build yX2_build, Cond.initialized RX2, Cond.code yX2_build cX2_build 4 none, Cond.fieldLink RX2 40 "ParetoDesk$Stairs" "allowedCount" "I", Cond.fieldLink RX2 46 "ParetoDesk$Frontier" "allowedCount" "I", Cond.fieldLink RX2 51 "ParetoDesk$Frontier" "areaBelow" "I", Cond.methodLink RX2 47 yX9_areaBelow, Cond.instanceMethod yX9_areaBelow, Cond.selects RX9 yX9_areaBelow yX9_areaBelow, Cond.code yX9_areaBelow cX9_areaBelow 4 (some .int)]
def wsL_lightest_r5 : List Cond := [Cond.methodLink RX2 53 yX2_readPoints, Cond.instanceMethod yX2_readPoints, Cond.selects RX2 yX2_readPoints yX2_readPoints, Cond.code yX2_readPoints cX2_readPoints 3 none, Cond.fieldLink RX2 67 "ParetoDesk$Frontier" "size" "I", Cond.fieldLink RX2 33 "ParetoDesk$Frontier" "pointAt" "[I", Cond.fieldLink RX2 70 "ParetoDesk$Stairs" "joyAt" "[I", Cond.fieldLink RX2 9 "ParetoDesk$Frontier" "gain" "[I", Cond.fieldLink RX2 15 "ParetoDesk$Frontier" "joy" "[I", Cond.fieldLink RX2 18 "ParetoDesk$Frontier" "choice" "[I", Cond.fieldLink RX2 21 "ParetoDesk$Frontier" "times" "[I", Cond.fieldLink RX2 24 "ParetoDesk$Frontier" "light" "[I", Cond.fieldLink RX2 27 "ParetoDesk$Frontier" "mark" "[I", Cond.methodLink RX2 57 yX2_readChoices, Cond.instanceMethod yX2_readChoices, Cond.selects RX2 yX2_readChoices yX2_readChoices, Cond.code yX2_readChoices cX2_readChoices 5 none, Cond.fieldLink RX2 73 "ParetoDesk$Choices" "sets" "I", Cond.fieldLink RX2 78 "ParetoDesk$Choices" "gain" "[I", Cond.fieldLink RX2 79 "ParetoDesk$Choices" "joy" "[I", Cond.fieldLink RX2 87 "ParetoDesk$Choices" "weight" "[I", Cond.methodLink RX2 80 yX2_pointWithPair, Cond.instanceMethod yX2_pointWithPair, Cond.selects RX2 yX2_pointWithPair yX2_pointWithPair]
def wsL_lightest_r6 : List Cond := [Cond.code yX2_pointWithPair cX2_pointWithPair 4 (some .int), Cond.methodLink RX2 84 yX0_reason, Cond.methodLink RX2 61 yX2_findVertices, Cond.instanceMethod yX2_findVertices, Cond.selects RX2 yX2_findVertices yX2_findVertices, Cond.code yX2_findVertices cX2_findVertices 2 none, Cond.fieldLink RX2 90 "ParetoDesk$Frontier" "vertexCount" "I", Cond.fieldLink RX2 30 "ParetoDesk$Frontier" "vertexPoint" "[I", Cond.methodLink RX2 93 yX2_heightOver, Cond.instanceMethod yX2_heightOver, Cond.selects RX2 yX2_heightOver yX2_heightOver, Cond.code yX2_heightOver cX2_heightOver 4 (some .int), Cond.methodLink RX2 97 yX2_gainWon, Cond.instanceMethod yX2_gainWon, Cond.selects RX2 yX2_gainWon yX2_gainWon, Cond.code yX2_gainWon cX2_gainWon 3 (some .int), Cond.methodLink RX2 100 yX2_joyLost, Cond.instanceMethod yX2_joyLost, Cond.selects RX2 yX2_joyLost yX2_joyLost, Cond.code yX2_joyLost cX2_joyLost 3 (some .int), Cond.methodLink RX2 64 yX2_markSupported, Cond.instanceMethod yX2_markSupported, Cond.selects RX2 yX2_markSupported yX2_markSupported, Cond.code yX2_markSupported cX2_markSupported 5 none]
def wsL_lightest : List Cond := .codeWith yL_lightest cL_lightest 4 (some .int) [(0, 9, 12, 29)] :: ((wsL_lightest_r1 ++ (wsL_lightest_r2 ++ (wsL_lightest_r3 ++ (wsL_lightest_r4 ++ (wsL_lightest_r5 ++ wsL_lightest_r6))))) ++ wsX100 ++ wsX20 ++ wsX80 ++ wsX00 ++ wsX90 ++ (vx_atS RX10 244 "java/lang/IndexOutOfBoundsException" ["java/lang/RuntimeException", "java/lang/Exception"]).filter goodWord)
def wsL_pointOf_r1 : List Cond := [Cond.classLink RL 19 "java/lang/IllegalArgumentException", Cond.methodLink RL 43 yX10_pointOf, Cond.instanceMethod yX10_pointOf, Cond.selects RX10 yX10_pointOf yX10_pointOf, Cond.initialized RX10, Cond.code yX10_pointOf cX10_pointOf 2 (some .int), Cond.fieldLink RX10 70 "ParetoDesk" "frontier" "LParetoDesk$Frontier;", Cond.fieldLink RX10 56 "ParetoDesk" "choices" "LParetoDesk$Choices;", Cond.fieldLink RX10 196 "ParetoDesk$Choices" "gain" "[I", Cond.fieldLink RX10 197 "ParetoDesk$Choices" "joy" "[I", Cond.methodLink RX10 185 yX10_requireSet, Cond.instanceMethod yX10_requireSet, Cond.selects RX10 yX10_requireSet yX10_requireSet, Cond.code yX10_requireSet cX10_requireSet 2 none, Cond.classLink RX10 109 "java/lang/IllegalArgumentException", Cond.initialized "java/lang/IllegalArgumentException", Cond.fieldLink RX10 27 "ParetoDesk" "now" "LParetoDesk$Setup;", Cond.methodLink RX10 282 yX8_everyItem, Cond.instanceMethod yX8_everyItem, Cond.selects RX8 yX8_everyItem yX8_everyItem, Cond.initialized RX8, Cond.code yX8_everyItem cX8_everyItem 1 (some .int), Cond.fieldLink RX8 34 "ParetoDesk$Setup" "items" "I", Cond.methodLink RX10 188 yX10_refreshFrontier]
def wsL_pointOf_r2 : List Cond := [Cond.instanceMethod yX10_refreshFrontier, Cond.selects RX10 yX10_refreshFrontier yX10_refreshFrontier, Cond.code yX10_refreshFrontier cX10_refreshFrontier 1 none, Cond.fieldLink RX10 395 "ParetoDesk" "frontierFresh" "Z", Cond.fieldLink RX10 63 "ParetoDesk" "stairs" "LParetoDesk$Stairs;", Cond.fieldLink RX10 147 "ParetoDesk$Setup" "capacity" "I", Cond.methodLink RX10 405 yX0_build, Cond.instanceMethod yX0_build, Cond.selects RX0 yX0_build yX0_build, Cond.initialized RX0, Cond.code yX0_build cX0_build 5 none, Cond.fieldLink RX0 27 "ParetoDesk$Setup" "limit" "I", Cond.fieldLink RX0 33 "ParetoDesk$Choices" "limit" "I", Cond.fieldLink RX0 34 "ParetoDesk$Setup" "mustSet" "I", Cond.fieldLink RX0 37 "ParetoDesk$Choices" "mustSet" "I", Cond.fieldLink RX0 38 "ParetoDesk$Setup" "neverSet" "I", Cond.fieldLink RX0 41 "ParetoDesk$Choices" "neverSet" "I", Cond.fieldLink RX0 42 "ParetoDesk$Choices" "sets" "I", Cond.fieldLink RX0 45 "ParetoDesk$Setup" "items" "I", Cond.fieldLink RX0 9 "ParetoDesk$Choices" "weight" "[I", Cond.fieldLink RX0 48 "ParetoDesk$Setup" "weight" "[I", Cond.fieldLink RX0 15 "ParetoDesk$Choices" "gain" "[I", Cond.fieldLink RX0 49 "ParetoDesk$Setup" "gain" "[I", Cond.fieldLink RX0 18 "ParetoDesk$Choices" "joy" "[I"]
def wsL_pointOf_r3 : List Cond := [Cond.fieldLink RX0 50 "ParetoDesk$Setup" "joy" "[I", Cond.fieldLink RX0 21 "ParetoDesk$Choices" "barred" "[I", Cond.fieldLink RX0 51 "ParetoDesk$Setup" "bars" "[I", Cond.fieldLink RX0 24 "ParetoDesk$Choices" "needed" "[I", Cond.fieldLink RX0 54 "ParetoDesk$Setup" "needs" "[I", Cond.methodLink RX10 290 yX9_build, Cond.instanceMethod yX9_build, Cond.selects RX9 yX9_build yX9_build, Cond.initialized RX9, Cond.code yX9_build cX9_build 5 none, Cond.fieldLink RX9 9 "ParetoDesk$Stairs" "joyAt" "[I", Cond.fieldLink RX9 21 "ParetoDesk$Stairs" "allowedCount" "I", Cond.fieldLink RX9 25 "ParetoDesk$Choices" "sets" "I", Cond.fieldLink RX9 34 "ParetoDesk$Choices" "gain" "[I", Cond.fieldLink RX9 37 "ParetoDesk$Choices" "joy" "[I", Cond.methodLink RX9 15 yJ7_fill_53178, Cond.static yJ7_fill_53178, Cond.initialized RJ7, Cond.code yJ7_fill_53178 cJ7_fill_53178 4 none, Cond.methodLink RX9 30 yX0_reason, Cond.instanceMethod yX0_reason, Cond.selects RX0 yX0_reason yX0_reason, Cond.code yX0_reason cX0_reason 3 (some .int), Cond.methodLink RX0 57 yX0_reasonBesideWeight]
def wsL_pointOf_r4 : List Cond := [Cond.instanceMethod yX0_reasonBesideWeight, Cond.selects RX0 yX0_reasonBesideWeight yX0_reasonBesideWeight, Cond.code yX0_reasonBesideWeight cX0_reasonBesideWeight 2 (some .int), Cond.methodLink RX0 61 yJ6_bitCount_0f7a4, Cond.static yJ6_bitCount_0f7a4, Cond.initialized RJ6, Cond.code yJ6_bitCount_0f7a4 cJ6_bitCount_0f7a4 1 (some .int), Cond.constant RJ6 265 (1431655765), Cond.constant RJ6 266 (858993459), Cond.constant RJ6 267 (252645135), Cond.methodLink RX9 40 yX9_keepGreatest, Cond.instanceMethod yX9_keepGreatest, Cond.selects RX9 yX9_keepGreatest yX9_keepGreatest, Cond.code yX9_keepGreatest cX9_keepGreatest 3 none, Cond.methodLink RX9 44 yX9_dropBeaten, Cond.instanceMethod yX9_dropBeaten, Cond.selects RX9 yX9_dropBeaten yX9_dropBeaten, Cond.code yX9_dropBeaten cX9_dropBeaten 3 none, Cond.methodLink RX10 407 yX2_build, Cond.instanceMethod yX2_build, Cond.selects RX2 yX2_build yX2_build, Cond.initialized RX2, Cond.code yX2_build cX2_build 4 none, Cond.fieldLink RX2 40 "ParetoDesk$Stairs" "allowedCount" "I"]
def wsL_pointOf_r5 : List Cond := [Cond.fieldLink RX2 46 "ParetoDesk$Frontier" "allowedCount" "I", Cond.fieldLink RX2 51 "ParetoDesk$Frontier" "areaBelow" "I", Cond.methodLink RX2 47 yX9_areaBelow, Cond.instanceMethod yX9_areaBelow, Cond.selects RX9 yX9_areaBelow yX9_areaBelow, Cond.code yX9_areaBelow cX9_areaBelow 4 (some .int), Cond.methodLink RX2 53 yX2_readPoints, Cond.instanceMethod yX2_readPoints, Cond.selects RX2 yX2_readPoints yX2_readPoints, Cond.code yX2_readPoints cX2_readPoints 3 none, Cond.fieldLink RX2 67 "ParetoDesk$Frontier" "size" "I", Cond.fieldLink RX2 33 "ParetoDesk$Frontier" "pointAt" "[I", Cond.fieldLink RX2 70 "ParetoDesk$Stairs" "joyAt" "[I", Cond.fieldLink RX2 9 "ParetoDesk$Frontier" "gain" "[I", Cond.fieldLink RX2 15 "ParetoDesk$Frontier" "joy" "[I", Cond.fieldLink RX2 18 "ParetoDesk$Frontier" "choice" "[I", Cond.fieldLink RX2 21 "ParetoDesk$Frontier" "times" "[I", Cond.fieldLink RX2 24 "ParetoDesk$Frontier" "light" "[I", Cond.fieldLink RX2 27 "ParetoDesk$Frontier" "mark" "[I", Cond.methodLink RX2 57 yX2_readChoices, Cond.instanceMethod yX2_readChoices, Cond.selects RX2 yX2_readChoices yX2_readChoices, Cond.code yX2_readChoices cX2_readChoices 5 none, Cond.fieldLink RX2 73 "ParetoDesk$Choices" "sets" "I"]
def wsL_pointOf_r6 : List Cond := [Cond.fieldLink RX2 78 "ParetoDesk$Choices" "gain" "[I", Cond.fieldLink RX2 79 "ParetoDesk$Choices" "joy" "[I", Cond.fieldLink RX2 87 "ParetoDesk$Choices" "weight" "[I", Cond.methodLink RX2 80 yX2_pointWithPair, Cond.instanceMethod yX2_pointWithPair, Cond.selects RX2 yX2_pointWithPair yX2_pointWithPair, Cond.code yX2_pointWithPair cX2_pointWithPair 4 (some .int), Cond.methodLink RX2 84 yX0_reason, Cond.methodLink RX2 61 yX2_findVertices, Cond.instanceMethod yX2_findVertices, Cond.selects RX2 yX2_findVertices yX2_findVertices, Cond.code yX2_findVertices cX2_findVertices 2 none, Cond.fieldLink RX2 90 "ParetoDesk$Frontier" "vertexCount" "I", Cond.fieldLink RX2 30 "ParetoDesk$Frontier" "vertexPoint" "[I", Cond.methodLink RX2 93 yX2_heightOver, Cond.instanceMethod yX2_heightOver, Cond.selects RX2 yX2_heightOver yX2_heightOver, Cond.code yX2_heightOver cX2_heightOver 4 (some .int), Cond.methodLink RX2 97 yX2_gainWon, Cond.instanceMethod yX2_gainWon, Cond.selects RX2 yX2_gainWon yX2_gainWon, Cond.code yX2_gainWon cX2_gainWon 3 (some .int), Cond.methodLink RX2 100 yX2_joyLost, Cond.instanceMethod yX2_joyLost]
def wsL_pointOf_r7 : List Cond := [Cond.selects RX2 yX2_joyLost yX2_joyLost, Cond.code yX2_joyLost cX2_joyLost 3 (some .int), Cond.methodLink RX2 64 yX2_markSupported, Cond.instanceMethod yX2_markSupported, Cond.selects RX2 yX2_markSupported yX2_markSupported, Cond.code yX2_markSupported cX2_markSupported 5 none, Cond.methodLink RX10 221 yX2_pointWithPair]
def wsL_pointOf : List Cond := .codeWith yL_pointOf cL_pointOf 4 (some .int) [(0, 9, 12, 19)] :: ((wsL_pointOf_r1 ++ (wsL_pointOf_r2 ++ (wsL_pointOf_r3 ++ (wsL_pointOf_r4 ++ (wsL_pointOf_r5 ++ (wsL_pointOf_r6 ++ wsL_pointOf_r7)))))) ++ wsX100 ++ wsX00 ++ wsX80 ++ wsX90 ++ wsX20 ++ (vx_atS RX10 113 "java/lang/IllegalArgumentException" ["java/lang/RuntimeException", "java/lang/Exception"]).filter goodWord)
def wsL_beatenBy_r1 : List Cond := [Cond.classLink RL 19 "java/lang/IllegalArgumentException", Cond.methodLink RL 46 yX10_beatenBy, Cond.instanceMethod yX10_beatenBy, Cond.selects RX10 yX10_beatenBy yX10_beatenBy, Cond.initialized RX10, Cond.code yX10_beatenBy cX10_beatenBy 3 (some .int), Cond.fieldLink RX10 70 "ParetoDesk" "frontier" "LParetoDesk$Frontier;", Cond.fieldLink RX10 201 "ParetoDesk$Frontier" "size" "I", Cond.fieldLink RX10 56 "ParetoDesk" "choices" "LParetoDesk$Choices;", Cond.fieldLink RX10 196 "ParetoDesk$Choices" "gain" "[I", Cond.fieldLink RX10 197 "ParetoDesk$Choices" "joy" "[I", Cond.methodLink RX10 185 yX10_requireSet, Cond.instanceMethod yX10_requireSet, Cond.selects RX10 yX10_requireSet yX10_requireSet, Cond.code yX10_requireSet cX10_requireSet 2 none, Cond.classLink RX10 109 "java/lang/IllegalArgumentException", Cond.initialized "java/lang/IllegalArgumentException", Cond.fieldLink RX10 27 "ParetoDesk" "now" "LParetoDesk$Setup;", Cond.methodLink RX10 282 yX8_everyItem, Cond.instanceMethod yX8_everyItem, Cond.selects RX8 yX8_everyItem yX8_everyItem, Cond.initialized RX8, Cond.code yX8_everyItem cX8_everyItem 1 (some .int), Cond.fieldLink RX8 34 "ParetoDesk$Setup" "items" "I"]
def wsL_beatenBy_r2 : List Cond := [Cond.methodLink RX10 188 yX10_refreshFrontier, Cond.instanceMethod yX10_refreshFrontier, Cond.selects RX10 yX10_refreshFrontier yX10_refreshFrontier, Cond.code yX10_refreshFrontier cX10_refreshFrontier 1 none, Cond.fieldLink RX10 395 "ParetoDesk" "frontierFresh" "Z", Cond.fieldLink RX10 63 "ParetoDesk" "stairs" "LParetoDesk$Stairs;", Cond.fieldLink RX10 147 "ParetoDesk$Setup" "capacity" "I", Cond.methodLink RX10 405 yX0_build, Cond.instanceMethod yX0_build, Cond.selects RX0 yX0_build yX0_build, Cond.initialized RX0, Cond.code yX0_build cX0_build 5 none, Cond.fieldLink RX0 27 "ParetoDesk$Setup" "limit" "I", Cond.fieldLink RX0 33 "ParetoDesk$Choices" "limit" "I", Cond.fieldLink RX0 34 "ParetoDesk$Setup" "mustSet" "I", Cond.fieldLink RX0 37 "ParetoDesk$Choices" "mustSet" "I", Cond.fieldLink RX0 38 "ParetoDesk$Setup" "neverSet" "I", Cond.fieldLink RX0 41 "ParetoDesk$Choices" "neverSet" "I", Cond.fieldLink RX0 42 "ParetoDesk$Choices" "sets" "I", Cond.fieldLink RX0 45 "ParetoDesk$Setup" "items" "I", Cond.fieldLink RX0 9 "ParetoDesk$Choices" "weight" "[I", Cond.fieldLink RX0 48 "ParetoDesk$Setup" "weight" "[I", Cond.fieldLink RX0 15 "ParetoDesk$Choices" "gain" "[I", Cond.fieldLink RX0 49 "ParetoDesk$Setup" "gain" "[I"]
def wsL_beatenBy_r3 : List Cond := [Cond.fieldLink RX0 18 "ParetoDesk$Choices" "joy" "[I", Cond.fieldLink RX0 50 "ParetoDesk$Setup" "joy" "[I", Cond.fieldLink RX0 21 "ParetoDesk$Choices" "barred" "[I", Cond.fieldLink RX0 51 "ParetoDesk$Setup" "bars" "[I", Cond.fieldLink RX0 24 "ParetoDesk$Choices" "needed" "[I", Cond.fieldLink RX0 54 "ParetoDesk$Setup" "needs" "[I", Cond.methodLink RX10 290 yX9_build, Cond.instanceMethod yX9_build, Cond.selects RX9 yX9_build yX9_build, Cond.initialized RX9, Cond.code yX9_build cX9_build 5 none, Cond.fieldLink RX9 9 "ParetoDesk$Stairs" "joyAt" "[I", Cond.fieldLink RX9 21 "ParetoDesk$Stairs" "allowedCount" "I", Cond.fieldLink RX9 25 "ParetoDesk$Choices" "sets" "I", Cond.fieldLink RX9 34 "ParetoDesk$Choices" "gain" "[I", Cond.fieldLink RX9 37 "ParetoDesk$Choices" "joy" "[I", Cond.methodLink RX9 15 yJ7_fill_53178, Cond.static yJ7_fill_53178, Cond.initialized RJ7, Cond.code yJ7_fill_53178 cJ7_fill_53178 4 none, Cond.methodLink RX9 30 yX0_reason, Cond.instanceMethod yX0_reason, Cond.selects RX0 yX0_reason yX0_reason, Cond.code yX0_reason cX0_reason 3 (some .int)]
def wsL_beatenBy_r4 : List Cond := [Cond.methodLink RX0 57 yX0_reasonBesideWeight, Cond.instanceMethod yX0_reasonBesideWeight, Cond.selects RX0 yX0_reasonBesideWeight yX0_reasonBesideWeight, Cond.code yX0_reasonBesideWeight cX0_reasonBesideWeight 2 (some .int), Cond.methodLink RX0 61 yJ6_bitCount_0f7a4, Cond.static yJ6_bitCount_0f7a4, Cond.initialized RJ6, Cond.code yJ6_bitCount_0f7a4 cJ6_bitCount_0f7a4 1 (some .int), Cond.constant RJ6 265 (1431655765), Cond.constant RJ6 266 (858993459), Cond.constant RJ6 267 (252645135), Cond.methodLink RX9 40 yX9_keepGreatest, Cond.instanceMethod yX9_keepGreatest, Cond.selects RX9 yX9_keepGreatest yX9_keepGreatest, Cond.code yX9_keepGreatest cX9_keepGreatest 3 none, Cond.methodLink RX9 44 yX9_dropBeaten, Cond.instanceMethod yX9_dropBeaten, Cond.selects RX9 yX9_dropBeaten yX9_dropBeaten, Cond.code yX9_dropBeaten cX9_dropBeaten 3 none, Cond.methodLink RX10 407 yX2_build, Cond.instanceMethod yX2_build, Cond.selects RX2 yX2_build yX2_build, Cond.initialized RX2, Cond.code yX2_build cX2_build 4 none]
def wsL_beatenBy_r5 : List Cond := [Cond.fieldLink RX2 40 "ParetoDesk$Stairs" "allowedCount" "I", Cond.fieldLink RX2 46 "ParetoDesk$Frontier" "allowedCount" "I", Cond.fieldLink RX2 51 "ParetoDesk$Frontier" "areaBelow" "I", Cond.methodLink RX2 47 yX9_areaBelow, Cond.instanceMethod yX9_areaBelow, Cond.selects RX9 yX9_areaBelow yX9_areaBelow, Cond.code yX9_areaBelow cX9_areaBelow 4 (some .int), Cond.methodLink RX2 53 yX2_readPoints, Cond.instanceMethod yX2_readPoints, Cond.selects RX2 yX2_readPoints yX2_readPoints, Cond.code yX2_readPoints cX2_readPoints 3 none, Cond.fieldLink RX2 67 "ParetoDesk$Frontier" "size" "I", Cond.fieldLink RX2 33 "ParetoDesk$Frontier" "pointAt" "[I", Cond.fieldLink RX2 70 "ParetoDesk$Stairs" "joyAt" "[I", Cond.fieldLink RX2 9 "ParetoDesk$Frontier" "gain" "[I", Cond.fieldLink RX2 15 "ParetoDesk$Frontier" "joy" "[I", Cond.fieldLink RX2 18 "ParetoDesk$Frontier" "choice" "[I", Cond.fieldLink RX2 21 "ParetoDesk$Frontier" "times" "[I", Cond.fieldLink RX2 24 "ParetoDesk$Frontier" "light" "[I", Cond.fieldLink RX2 27 "ParetoDesk$Frontier" "mark" "[I", Cond.methodLink RX2 57 yX2_readChoices, Cond.instanceMethod yX2_readChoices, Cond.selects RX2 yX2_readChoices yX2_readChoices, Cond.code yX2_readChoices cX2_readChoices 5 none]
def wsL_beatenBy_r6 : List Cond := [Cond.fieldLink RX2 73 "ParetoDesk$Choices" "sets" "I", Cond.fieldLink RX2 78 "ParetoDesk$Choices" "gain" "[I", Cond.fieldLink RX2 79 "ParetoDesk$Choices" "joy" "[I", Cond.fieldLink RX2 87 "ParetoDesk$Choices" "weight" "[I", Cond.methodLink RX2 80 yX2_pointWithPair, Cond.instanceMethod yX2_pointWithPair, Cond.selects RX2 yX2_pointWithPair yX2_pointWithPair, Cond.code yX2_pointWithPair cX2_pointWithPair 4 (some .int), Cond.methodLink RX2 84 yX0_reason, Cond.methodLink RX2 61 yX2_findVertices, Cond.instanceMethod yX2_findVertices, Cond.selects RX2 yX2_findVertices yX2_findVertices, Cond.code yX2_findVertices cX2_findVertices 2 none, Cond.fieldLink RX2 90 "ParetoDesk$Frontier" "vertexCount" "I", Cond.fieldLink RX2 30 "ParetoDesk$Frontier" "vertexPoint" "[I", Cond.methodLink RX2 93 yX2_heightOver, Cond.instanceMethod yX2_heightOver, Cond.selects RX2 yX2_heightOver yX2_heightOver, Cond.code yX2_heightOver cX2_heightOver 4 (some .int), Cond.methodLink RX2 97 yX2_gainWon, Cond.instanceMethod yX2_gainWon, Cond.selects RX2 yX2_gainWon yX2_gainWon, Cond.code yX2_gainWon cX2_gainWon 3 (some .int), Cond.methodLink RX2 100 yX2_joyLost]
def wsL_beatenBy_r7 : List Cond := [Cond.instanceMethod yX2_joyLost, Cond.selects RX2 yX2_joyLost yX2_joyLost, Cond.code yX2_joyLost cX2_joyLost 3 (some .int), Cond.methodLink RX2 64 yX2_markSupported, Cond.instanceMethod yX2_markSupported, Cond.selects RX2 yX2_markSupported yX2_markSupported, Cond.code yX2_markSupported cX2_markSupported 5 none, Cond.methodLink RX10 224 yX2_beats, Cond.instanceMethod yX2_beats, Cond.selects RX2 yX2_beats yX2_beats, Cond.code yX2_beats cX2_beats 4 (some .boolean)]
def wsL_beatenBy : List Cond := .codeWith yL_beatenBy cL_beatenBy 4 (some .int) [(0, 9, 12, 19)] :: ((wsL_beatenBy_r1 ++ (wsL_beatenBy_r2 ++ (wsL_beatenBy_r3 ++ (wsL_beatenBy_r4 ++ (wsL_beatenBy_r5 ++ (wsL_beatenBy_r6 ++ wsL_beatenBy_r7)))))) ++ wsX100 ++ wsX20 ++ wsX00 ++ wsX80 ++ wsX90 ++ (vx_atS RX10 113 "java/lang/IllegalArgumentException" ["java/lang/RuntimeException", "java/lang/Exception"]).filter goodWord)
def wsL_best_r1 : List Cond := [Cond.classLink RL 19 "java/lang/IllegalArgumentException", Cond.methodLink RL 49 yX10_best, Cond.instanceMethod yX10_best, Cond.selects RX10 yX10_best yX10_best, Cond.initialized RX10, Cond.code yX10_best cX10_best 3 (some .int), Cond.fieldLink RX10 70 "ParetoDesk" "frontier" "LParetoDesk$Frontier;", Cond.methodLink RX10 228 yX10_requireWeights, Cond.static yX10_requireWeights, Cond.code yX10_requireWeights cX10_requireWeights 2 none, Cond.classLink RX10 109 "java/lang/IllegalArgumentException", Cond.initialized "java/lang/IllegalArgumentException", Cond.methodLink RX10 330 yX10_requireValue, Cond.static yX10_requireValue, Cond.code yX10_requireValue cX10_requireValue 1 none, Cond.methodLink RX10 188 yX10_refreshFrontier, Cond.instanceMethod yX10_refreshFrontier, Cond.selects RX10 yX10_refreshFrontier yX10_refreshFrontier, Cond.code yX10_refreshFrontier cX10_refreshFrontier 1 none, Cond.fieldLink RX10 395 "ParetoDesk" "frontierFresh" "Z", Cond.fieldLink RX10 56 "ParetoDesk" "choices" "LParetoDesk$Choices;", Cond.fieldLink RX10 27 "ParetoDesk" "now" "LParetoDesk$Setup;", Cond.fieldLink RX10 63 "ParetoDesk" "stairs" "LParetoDesk$Stairs;", Cond.fieldLink RX10 147 "ParetoDesk$Setup" "capacity" "I"]
def wsL_best_r2 : List Cond := [Cond.methodLink RX10 405 yX0_build, Cond.instanceMethod yX0_build, Cond.selects RX0 yX0_build yX0_build, Cond.initialized RX0, Cond.code yX0_build cX0_build 5 none, Cond.fieldLink RX0 27 "ParetoDesk$Setup" "limit" "I", Cond.fieldLink RX0 33 "ParetoDesk$Choices" "limit" "I", Cond.fieldLink RX0 34 "ParetoDesk$Setup" "mustSet" "I", Cond.fieldLink RX0 37 "ParetoDesk$Choices" "mustSet" "I", Cond.fieldLink RX0 38 "ParetoDesk$Setup" "neverSet" "I", Cond.fieldLink RX0 41 "ParetoDesk$Choices" "neverSet" "I", Cond.fieldLink RX0 42 "ParetoDesk$Choices" "sets" "I", Cond.fieldLink RX0 45 "ParetoDesk$Setup" "items" "I", Cond.fieldLink RX0 9 "ParetoDesk$Choices" "weight" "[I", Cond.fieldLink RX0 48 "ParetoDesk$Setup" "weight" "[I", Cond.fieldLink RX0 15 "ParetoDesk$Choices" "gain" "[I", Cond.fieldLink RX0 49 "ParetoDesk$Setup" "gain" "[I", Cond.fieldLink RX0 18 "ParetoDesk$Choices" "joy" "[I", Cond.fieldLink RX0 50 "ParetoDesk$Setup" "joy" "[I", Cond.fieldLink RX0 21 "ParetoDesk$Choices" "barred" "[I", Cond.fieldLink RX0 51 "ParetoDesk$Setup" "bars" "[I", Cond.fieldLink RX0 24 "ParetoDesk$Choices" "needed" "[I", Cond.fieldLink RX0 54 "ParetoDesk$Setup" "needs" "[I", Cond.methodLink RX10 290 yX9_build]
def wsL_best_r3 : List Cond := [Cond.instanceMethod yX9_build, Cond.selects RX9 yX9_build yX9_build, Cond.initialized RX9, Cond.code yX9_build cX9_build 5 none, Cond.fieldLink RX9 9 "ParetoDesk$Stairs" "joyAt" "[I", Cond.fieldLink RX9 21 "ParetoDesk$Stairs" "allowedCount" "I", Cond.fieldLink RX9 25 "ParetoDesk$Choices" "sets" "I", Cond.fieldLink RX9 34 "ParetoDesk$Choices" "gain" "[I", Cond.fieldLink RX9 37 "ParetoDesk$Choices" "joy" "[I", Cond.methodLink RX9 15 yJ7_fill_53178, Cond.static yJ7_fill_53178, Cond.initialized RJ7, Cond.code yJ7_fill_53178 cJ7_fill_53178 4 none, Cond.methodLink RX9 30 yX0_reason, Cond.instanceMethod yX0_reason, Cond.selects RX0 yX0_reason yX0_reason, Cond.code yX0_reason cX0_reason 3 (some .int), Cond.methodLink RX0 57 yX0_reasonBesideWeight, Cond.instanceMethod yX0_reasonBesideWeight, Cond.selects RX0 yX0_reasonBesideWeight yX0_reasonBesideWeight, Cond.code yX0_reasonBesideWeight cX0_reasonBesideWeight 2 (some .int), Cond.methodLink RX0 61 yJ6_bitCount_0f7a4, Cond.static yJ6_bitCount_0f7a4, Cond.initialized RJ6]
def wsL_best_r4 : List Cond := [Cond.code yJ6_bitCount_0f7a4 cJ6_bitCount_0f7a4 1 (some .int), Cond.constant RJ6 265 (1431655765), Cond.constant RJ6 266 (858993459), Cond.constant RJ6 267 (252645135), Cond.methodLink RX9 40 yX9_keepGreatest, Cond.instanceMethod yX9_keepGreatest, Cond.selects RX9 yX9_keepGreatest yX9_keepGreatest, Cond.code yX9_keepGreatest cX9_keepGreatest 3 none, Cond.methodLink RX9 44 yX9_dropBeaten, Cond.instanceMethod yX9_dropBeaten, Cond.selects RX9 yX9_dropBeaten yX9_dropBeaten, Cond.code yX9_dropBeaten cX9_dropBeaten 3 none, Cond.methodLink RX10 407 yX2_build, Cond.instanceMethod yX2_build, Cond.selects RX2 yX2_build yX2_build, Cond.initialized RX2, Cond.code yX2_build cX2_build 4 none, Cond.fieldLink RX2 40 "ParetoDesk$Stairs" "allowedCount" "I", Cond.fieldLink RX2 46 "ParetoDesk$Frontier" "allowedCount" "I", Cond.fieldLink RX2 51 "ParetoDesk$Frontier" "areaBelow" "I", Cond.methodLink RX2 47 yX9_areaBelow, Cond.instanceMethod yX9_areaBelow, Cond.selects RX9 yX9_areaBelow yX9_areaBelow, Cond.code yX9_areaBelow cX9_areaBelow 4 (some .int)]
def wsL_best_r5 : List Cond := [Cond.methodLink RX2 53 yX2_readPoints, Cond.instanceMethod yX2_readPoints, Cond.selects RX2 yX2_readPoints yX2_readPoints, Cond.code yX2_readPoints cX2_readPoints 3 none, Cond.fieldLink RX2 67 "ParetoDesk$Frontier" "size" "I", Cond.fieldLink RX2 33 "ParetoDesk$Frontier" "pointAt" "[I", Cond.fieldLink RX2 70 "ParetoDesk$Stairs" "joyAt" "[I", Cond.fieldLink RX2 9 "ParetoDesk$Frontier" "gain" "[I", Cond.fieldLink RX2 15 "ParetoDesk$Frontier" "joy" "[I", Cond.fieldLink RX2 18 "ParetoDesk$Frontier" "choice" "[I", Cond.fieldLink RX2 21 "ParetoDesk$Frontier" "times" "[I", Cond.fieldLink RX2 24 "ParetoDesk$Frontier" "light" "[I", Cond.fieldLink RX2 27 "ParetoDesk$Frontier" "mark" "[I", Cond.methodLink RX2 57 yX2_readChoices, Cond.instanceMethod yX2_readChoices, Cond.selects RX2 yX2_readChoices yX2_readChoices, Cond.code yX2_readChoices cX2_readChoices 5 none, Cond.fieldLink RX2 73 "ParetoDesk$Choices" "sets" "I", Cond.fieldLink RX2 78 "ParetoDesk$Choices" "gain" "[I", Cond.fieldLink RX2 79 "ParetoDesk$Choices" "joy" "[I", Cond.fieldLink RX2 87 "ParetoDesk$Choices" "weight" "[I", Cond.methodLink RX2 80 yX2_pointWithPair, Cond.instanceMethod yX2_pointWithPair, Cond.selects RX2 yX2_pointWithPair yX2_pointWithPair]
def wsL_best_r6 : List Cond := [Cond.code yX2_pointWithPair cX2_pointWithPair 4 (some .int), Cond.methodLink RX2 84 yX0_reason, Cond.methodLink RX2 61 yX2_findVertices, Cond.instanceMethod yX2_findVertices, Cond.selects RX2 yX2_findVertices yX2_findVertices, Cond.code yX2_findVertices cX2_findVertices 2 none, Cond.fieldLink RX2 90 "ParetoDesk$Frontier" "vertexCount" "I", Cond.fieldLink RX2 30 "ParetoDesk$Frontier" "vertexPoint" "[I", Cond.methodLink RX2 93 yX2_heightOver, Cond.instanceMethod yX2_heightOver, Cond.selects RX2 yX2_heightOver yX2_heightOver, Cond.code yX2_heightOver cX2_heightOver 4 (some .int), Cond.methodLink RX2 97 yX2_gainWon, Cond.instanceMethod yX2_gainWon, Cond.selects RX2 yX2_gainWon yX2_gainWon, Cond.code yX2_gainWon cX2_gainWon 3 (some .int), Cond.methodLink RX2 100 yX2_joyLost, Cond.instanceMethod yX2_joyLost, Cond.selects RX2 yX2_joyLost yX2_joyLost, Cond.code yX2_joyLost cX2_joyLost 3 (some .int), Cond.methodLink RX2 64 yX2_markSupported, Cond.instanceMethod yX2_markSupported, Cond.selects RX2 yX2_markSupported yX2_markSupported, Cond.code yX2_markSupported cX2_markSupported 5 none]
def wsL_best_r7 : List Cond := [Cond.methodLink RX10 231 yX2_greatestBy, Cond.instanceMethod yX2_greatestBy, Cond.selects RX2 yX2_greatestBy yX2_greatestBy, Cond.code yX2_greatestBy cX2_greatestBy 7 (some .int), Cond.methodLink RX2 103 yX2_valueOf, Cond.instanceMethod yX2_valueOf, Cond.selects RX2 yX2_valueOf yX2_valueOf, Cond.code yX2_valueOf cX2_valueOf 4 (some .int)]
def wsL_best : List Cond := .codeWith yL_best cL_best 5 (some .int) [(0, 10, 13, 19)] :: ((wsL_best_r1 ++ (wsL_best_r2 ++ (wsL_best_r3 ++ (wsL_best_r4 ++ (wsL_best_r5 ++ (wsL_best_r6 ++ wsL_best_r7)))))) ++ wsX100 ++ wsX80 ++ wsX00 ++ wsX90 ++ wsX20 ++ (vx_atS RX10 113 "java/lang/IllegalArgumentException" ["java/lang/RuntimeException", "java/lang/Exception"]).filter goodWord)
def wsL_nearest_r1 : List Cond := [Cond.classLink RL 19 "java/lang/IllegalArgumentException", Cond.methodLink RL 52 yX10_nearest, Cond.instanceMethod yX10_nearest, Cond.selects RX10 yX10_nearest yX10_nearest, Cond.initialized RX10, Cond.code yX10_nearest cX10_nearest 3 (some .int), Cond.fieldLink RX10 70 "ParetoDesk" "frontier" "LParetoDesk$Frontier;", Cond.methodLink RX10 228 yX10_requireWeights, Cond.static yX10_requireWeights, Cond.code yX10_requireWeights cX10_requireWeights 2 none, Cond.classLink RX10 109 "java/lang/IllegalArgumentException", Cond.initialized "java/lang/IllegalArgumentException", Cond.methodLink RX10 330 yX10_requireValue, Cond.static yX10_requireValue, Cond.code yX10_requireValue cX10_requireValue 1 none, Cond.methodLink RX10 188 yX10_refreshFrontier, Cond.instanceMethod yX10_refreshFrontier, Cond.selects RX10 yX10_refreshFrontier yX10_refreshFrontier, Cond.code yX10_refreshFrontier cX10_refreshFrontier 1 none, Cond.fieldLink RX10 395 "ParetoDesk" "frontierFresh" "Z", Cond.fieldLink RX10 56 "ParetoDesk" "choices" "LParetoDesk$Choices;", Cond.fieldLink RX10 27 "ParetoDesk" "now" "LParetoDesk$Setup;", Cond.fieldLink RX10 63 "ParetoDesk" "stairs" "LParetoDesk$Stairs;", Cond.fieldLink RX10 147 "ParetoDesk$Setup" "capacity" "I"]
def wsL_nearest_r2 : List Cond := [Cond.methodLink RX10 405 yX0_build, Cond.instanceMethod yX0_build, Cond.selects RX0 yX0_build yX0_build, Cond.initialized RX0, Cond.code yX0_build cX0_build 5 none, Cond.fieldLink RX0 27 "ParetoDesk$Setup" "limit" "I", Cond.fieldLink RX0 33 "ParetoDesk$Choices" "limit" "I", Cond.fieldLink RX0 34 "ParetoDesk$Setup" "mustSet" "I", Cond.fieldLink RX0 37 "ParetoDesk$Choices" "mustSet" "I", Cond.fieldLink RX0 38 "ParetoDesk$Setup" "neverSet" "I", Cond.fieldLink RX0 41 "ParetoDesk$Choices" "neverSet" "I", Cond.fieldLink RX0 42 "ParetoDesk$Choices" "sets" "I", Cond.fieldLink RX0 45 "ParetoDesk$Setup" "items" "I", Cond.fieldLink RX0 9 "ParetoDesk$Choices" "weight" "[I", Cond.fieldLink RX0 48 "ParetoDesk$Setup" "weight" "[I", Cond.fieldLink RX0 15 "ParetoDesk$Choices" "gain" "[I", Cond.fieldLink RX0 49 "ParetoDesk$Setup" "gain" "[I", Cond.fieldLink RX0 18 "ParetoDesk$Choices" "joy" "[I", Cond.fieldLink RX0 50 "ParetoDesk$Setup" "joy" "[I", Cond.fieldLink RX0 21 "ParetoDesk$Choices" "barred" "[I", Cond.fieldLink RX0 51 "ParetoDesk$Setup" "bars" "[I", Cond.fieldLink RX0 24 "ParetoDesk$Choices" "needed" "[I", Cond.fieldLink RX0 54 "ParetoDesk$Setup" "needs" "[I", Cond.methodLink RX10 290 yX9_build]
def wsL_nearest_r3 : List Cond := [Cond.instanceMethod yX9_build, Cond.selects RX9 yX9_build yX9_build, Cond.initialized RX9, Cond.code yX9_build cX9_build 5 none, Cond.fieldLink RX9 9 "ParetoDesk$Stairs" "joyAt" "[I", Cond.fieldLink RX9 21 "ParetoDesk$Stairs" "allowedCount" "I", Cond.fieldLink RX9 25 "ParetoDesk$Choices" "sets" "I", Cond.fieldLink RX9 34 "ParetoDesk$Choices" "gain" "[I", Cond.fieldLink RX9 37 "ParetoDesk$Choices" "joy" "[I", Cond.methodLink RX9 15 yJ7_fill_53178, Cond.static yJ7_fill_53178, Cond.initialized RJ7, Cond.code yJ7_fill_53178 cJ7_fill_53178 4 none, Cond.methodLink RX9 30 yX0_reason, Cond.instanceMethod yX0_reason, Cond.selects RX0 yX0_reason yX0_reason, Cond.code yX0_reason cX0_reason 3 (some .int), Cond.methodLink RX0 57 yX0_reasonBesideWeight, Cond.instanceMethod yX0_reasonBesideWeight, Cond.selects RX0 yX0_reasonBesideWeight yX0_reasonBesideWeight, Cond.code yX0_reasonBesideWeight cX0_reasonBesideWeight 2 (some .int), Cond.methodLink RX0 61 yJ6_bitCount_0f7a4, Cond.static yJ6_bitCount_0f7a4, Cond.initialized RJ6]
def wsL_nearest_r4 : List Cond := [Cond.code yJ6_bitCount_0f7a4 cJ6_bitCount_0f7a4 1 (some .int), Cond.constant RJ6 265 (1431655765), Cond.constant RJ6 266 (858993459), Cond.constant RJ6 267 (252645135), Cond.methodLink RX9 40 yX9_keepGreatest, Cond.instanceMethod yX9_keepGreatest, Cond.selects RX9 yX9_keepGreatest yX9_keepGreatest, Cond.code yX9_keepGreatest cX9_keepGreatest 3 none, Cond.methodLink RX9 44 yX9_dropBeaten, Cond.instanceMethod yX9_dropBeaten, Cond.selects RX9 yX9_dropBeaten yX9_dropBeaten, Cond.code yX9_dropBeaten cX9_dropBeaten 3 none, Cond.methodLink RX10 407 yX2_build, Cond.instanceMethod yX2_build, Cond.selects RX2 yX2_build yX2_build, Cond.initialized RX2, Cond.code yX2_build cX2_build 4 none, Cond.fieldLink RX2 40 "ParetoDesk$Stairs" "allowedCount" "I", Cond.fieldLink RX2 46 "ParetoDesk$Frontier" "allowedCount" "I", Cond.fieldLink RX2 51 "ParetoDesk$Frontier" "areaBelow" "I", Cond.methodLink RX2 47 yX9_areaBelow, Cond.instanceMethod yX9_areaBelow, Cond.selects RX9 yX9_areaBelow yX9_areaBelow, Cond.code yX9_areaBelow cX9_areaBelow 4 (some .int)]
def wsL_nearest_r5 : List Cond := [Cond.methodLink RX2 53 yX2_readPoints, Cond.instanceMethod yX2_readPoints, Cond.selects RX2 yX2_readPoints yX2_readPoints, Cond.code yX2_readPoints cX2_readPoints 3 none, Cond.fieldLink RX2 67 "ParetoDesk$Frontier" "size" "I", Cond.fieldLink RX2 33 "ParetoDesk$Frontier" "pointAt" "[I", Cond.fieldLink RX2 70 "ParetoDesk$Stairs" "joyAt" "[I", Cond.fieldLink RX2 9 "ParetoDesk$Frontier" "gain" "[I", Cond.fieldLink RX2 15 "ParetoDesk$Frontier" "joy" "[I", Cond.fieldLink RX2 18 "ParetoDesk$Frontier" "choice" "[I", Cond.fieldLink RX2 21 "ParetoDesk$Frontier" "times" "[I", Cond.fieldLink RX2 24 "ParetoDesk$Frontier" "light" "[I", Cond.fieldLink RX2 27 "ParetoDesk$Frontier" "mark" "[I", Cond.methodLink RX2 57 yX2_readChoices, Cond.instanceMethod yX2_readChoices, Cond.selects RX2 yX2_readChoices yX2_readChoices, Cond.code yX2_readChoices cX2_readChoices 5 none, Cond.fieldLink RX2 73 "ParetoDesk$Choices" "sets" "I", Cond.fieldLink RX2 78 "ParetoDesk$Choices" "gain" "[I", Cond.fieldLink RX2 79 "ParetoDesk$Choices" "joy" "[I", Cond.fieldLink RX2 87 "ParetoDesk$Choices" "weight" "[I", Cond.methodLink RX2 80 yX2_pointWithPair, Cond.instanceMethod yX2_pointWithPair, Cond.selects RX2 yX2_pointWithPair yX2_pointWithPair]
def wsL_nearest_r6 : List Cond := [Cond.code yX2_pointWithPair cX2_pointWithPair 4 (some .int), Cond.methodLink RX2 84 yX0_reason, Cond.methodLink RX2 61 yX2_findVertices, Cond.instanceMethod yX2_findVertices, Cond.selects RX2 yX2_findVertices yX2_findVertices, Cond.code yX2_findVertices cX2_findVertices 2 none, Cond.fieldLink RX2 90 "ParetoDesk$Frontier" "vertexCount" "I", Cond.fieldLink RX2 30 "ParetoDesk$Frontier" "vertexPoint" "[I", Cond.methodLink RX2 93 yX2_heightOver, Cond.instanceMethod yX2_heightOver, Cond.selects RX2 yX2_heightOver yX2_heightOver, Cond.code yX2_heightOver cX2_heightOver 4 (some .int), Cond.methodLink RX2 97 yX2_gainWon, Cond.instanceMethod yX2_gainWon, Cond.selects RX2 yX2_gainWon yX2_gainWon, Cond.code yX2_gainWon cX2_gainWon 3 (some .int), Cond.methodLink RX2 100 yX2_joyLost, Cond.instanceMethod yX2_joyLost, Cond.selects RX2 yX2_joyLost yX2_joyLost, Cond.code yX2_joyLost cX2_joyLost 3 (some .int), Cond.methodLink RX2 64 yX2_markSupported, Cond.instanceMethod yX2_markSupported, Cond.selects RX2 yX2_markSupported yX2_markSupported, Cond.code yX2_markSupported cX2_markSupported 5 none]
def wsL_nearest_r7 : List Cond := [Cond.methodLink RX10 234 yX2_leastLack, Cond.instanceMethod yX2_leastLack, Cond.selects RX2 yX2_leastLack yX2_leastLack, Cond.code yX2_leastLack cX2_leastLack 7 (some .int), Cond.methodLink RX2 106 Lib.Math.max.name, Cond.static Lib.Math.max.name, Cond.initialized "java/lang/Math", Cond.code Lib.Math.max.name Lib.Math.max.code 2 (some .int)]
def wsL_nearest : List Cond := .codeWith yL_nearest cL_nearest 5 (some .int) [(0, 10, 13, 19)] :: ((wsL_nearest_r1 ++ (wsL_nearest_r2 ++ (wsL_nearest_r3 ++ (wsL_nearest_r4 ++ (wsL_nearest_r5 ++ (wsL_nearest_r6 ++ wsL_nearest_r7)))))) ++ wsX100 ++ wsX80 ++ wsX00 ++ wsX90 ++ wsX20 ++ (vx_atS RX10 113 "java/lang/IllegalArgumentException" ["java/lang/RuntimeException", "java/lang/Exception"]).filter goodWord)
def wsL_vertex_r1 : List Cond := [Cond.classLink RL 29 "java/lang/IndexOutOfBoundsException", Cond.methodLink RL 55 yX10_vertex, Cond.instanceMethod yX10_vertex, Cond.selects RX10 yX10_vertex yX10_vertex, Cond.initialized RX10, Cond.code yX10_vertex cX10_vertex 2 (some .int), Cond.classLink RX10 240 "java/lang/IndexOutOfBoundsException", Cond.initialized "java/lang/IndexOutOfBoundsException", Cond.fieldLink RX10 70 "ParetoDesk" "frontier" "LParetoDesk$Frontier;", Cond.fieldLink RX10 237 "ParetoDesk$Frontier" "vertexCount" "I", Cond.fieldLink RX10 245 "ParetoDesk$Frontier" "vertexPoint" "[I", Cond.methodLink RX10 188 yX10_refreshFrontier, Cond.instanceMethod yX10_refreshFrontier, Cond.selects RX10 yX10_refreshFrontier yX10_refreshFrontier, Cond.code yX10_refreshFrontier cX10_refreshFrontier 1 none, Cond.fieldLink RX10 395 "ParetoDesk" "frontierFresh" "Z", Cond.fieldLink RX10 56 "ParetoDesk" "choices" "LParetoDesk$Choices;", Cond.fieldLink RX10 27 "ParetoDesk" "now" "LParetoDesk$Setup;", Cond.fieldLink RX10 63 "ParetoDesk" "stairs" "LParetoDesk$Stairs;", Cond.fieldLink RX10 147 "ParetoDesk$Setup" "capacity" "I", Cond.methodLink RX10 405 yX0_build, Cond.instanceMethod yX0_build, Cond.selects RX0 yX0_build yX0_build, Cond.initialized RX0]
def wsL_vertex_r2 : List Cond := [Cond.code yX0_build cX0_build 5 none, Cond.fieldLink RX0 27 "ParetoDesk$Setup" "limit" "I", Cond.fieldLink RX0 33 "ParetoDesk$Choices" "limit" "I", Cond.fieldLink RX0 34 "ParetoDesk$Setup" "mustSet" "I", Cond.fieldLink RX0 37 "ParetoDesk$Choices" "mustSet" "I", Cond.fieldLink RX0 38 "ParetoDesk$Setup" "neverSet" "I", Cond.fieldLink RX0 41 "ParetoDesk$Choices" "neverSet" "I", Cond.fieldLink RX0 42 "ParetoDesk$Choices" "sets" "I", Cond.fieldLink RX0 45 "ParetoDesk$Setup" "items" "I", Cond.fieldLink RX0 9 "ParetoDesk$Choices" "weight" "[I", Cond.fieldLink RX0 48 "ParetoDesk$Setup" "weight" "[I", Cond.fieldLink RX0 15 "ParetoDesk$Choices" "gain" "[I", Cond.fieldLink RX0 49 "ParetoDesk$Setup" "gain" "[I", Cond.fieldLink RX0 18 "ParetoDesk$Choices" "joy" "[I", Cond.fieldLink RX0 50 "ParetoDesk$Setup" "joy" "[I", Cond.fieldLink RX0 21 "ParetoDesk$Choices" "barred" "[I", Cond.fieldLink RX0 51 "ParetoDesk$Setup" "bars" "[I", Cond.fieldLink RX0 24 "ParetoDesk$Choices" "needed" "[I", Cond.fieldLink RX0 54 "ParetoDesk$Setup" "needs" "[I", Cond.methodLink RX10 290 yX9_build, Cond.instanceMethod yX9_build, Cond.selects RX9 yX9_build yX9_build, Cond.initialized RX9, Cond.code yX9_build cX9_build 5 none]
def wsL_vertex_r3 : List Cond := [Cond.fieldLink RX9 9 "ParetoDesk$Stairs" "joyAt" "[I", Cond.fieldLink RX9 21 "ParetoDesk$Stairs" "allowedCount" "I", Cond.fieldLink RX9 25 "ParetoDesk$Choices" "sets" "I", Cond.fieldLink RX9 34 "ParetoDesk$Choices" "gain" "[I", Cond.fieldLink RX9 37 "ParetoDesk$Choices" "joy" "[I", Cond.methodLink RX9 15 yJ7_fill_53178, Cond.static yJ7_fill_53178, Cond.initialized RJ7, Cond.code yJ7_fill_53178 cJ7_fill_53178 4 none, Cond.methodLink RX9 30 yX0_reason, Cond.instanceMethod yX0_reason, Cond.selects RX0 yX0_reason yX0_reason, Cond.code yX0_reason cX0_reason 3 (some .int), Cond.methodLink RX0 57 yX0_reasonBesideWeight, Cond.instanceMethod yX0_reasonBesideWeight, Cond.selects RX0 yX0_reasonBesideWeight yX0_reasonBesideWeight, Cond.code yX0_reasonBesideWeight cX0_reasonBesideWeight 2 (some .int), Cond.methodLink RX0 61 yJ6_bitCount_0f7a4, Cond.static yJ6_bitCount_0f7a4, Cond.initialized RJ6, Cond.code yJ6_bitCount_0f7a4 cJ6_bitCount_0f7a4 1 (some .int), Cond.constant RJ6 265 (1431655765), Cond.constant RJ6 266 (858993459), Cond.constant RJ6 267 (252645135)]
def wsL_vertex_r4 : List Cond := [Cond.methodLink RX9 40 yX9_keepGreatest, Cond.instanceMethod yX9_keepGreatest, Cond.selects RX9 yX9_keepGreatest yX9_keepGreatest, Cond.code yX9_keepGreatest cX9_keepGreatest 3 none, Cond.methodLink RX9 44 yX9_dropBeaten, Cond.instanceMethod yX9_dropBeaten, Cond.selects RX9 yX9_dropBeaten yX9_dropBeaten, Cond.code yX9_dropBeaten cX9_dropBeaten 3 none, Cond.methodLink RX10 407 yX2_build, Cond.instanceMethod yX2_build, Cond.selects RX2 yX2_build yX2_build, Cond.initialized RX2, Cond.code yX2_build cX2_build 4 none, Cond.fieldLink RX2 40 "ParetoDesk$Stairs" "allowedCount" "I", Cond.fieldLink RX2 46 "ParetoDesk$Frontier" "allowedCount" "I", Cond.fieldLink RX2 51 "ParetoDesk$Frontier" "areaBelow" "I", Cond.methodLink RX2 47 yX9_areaBelow, Cond.instanceMethod yX9_areaBelow, Cond.selects RX9 yX9_areaBelow yX9_areaBelow, Cond.code yX9_areaBelow cX9_areaBelow 4 (some .int), Cond.methodLink RX2 53 yX2_readPoints, Cond.instanceMethod yX2_readPoints, Cond.selects RX2 yX2_readPoints yX2_readPoints, Cond.code yX2_readPoints cX2_readPoints 3 none]
def wsL_vertex_r5 : List Cond := [Cond.fieldLink RX2 67 "ParetoDesk$Frontier" "size" "I", Cond.fieldLink RX2 33 "ParetoDesk$Frontier" "pointAt" "[I", Cond.fieldLink RX2 70 "ParetoDesk$Stairs" "joyAt" "[I", Cond.fieldLink RX2 9 "ParetoDesk$Frontier" "gain" "[I", Cond.fieldLink RX2 15 "ParetoDesk$Frontier" "joy" "[I", Cond.fieldLink RX2 18 "ParetoDesk$Frontier" "choice" "[I", Cond.fieldLink RX2 21 "ParetoDesk$Frontier" "times" "[I", Cond.fieldLink RX2 24 "ParetoDesk$Frontier" "light" "[I", Cond.fieldLink RX2 27 "ParetoDesk$Frontier" "mark" "[I", Cond.methodLink RX2 57 yX2_readChoices, Cond.instanceMethod yX2_readChoices, Cond.selects RX2 yX2_readChoices yX2_readChoices, Cond.code yX2_readChoices cX2_readChoices 5 none, Cond.fieldLink RX2 73 "ParetoDesk$Choices" "sets" "I", Cond.fieldLink RX2 78 "ParetoDesk$Choices" "gain" "[I", Cond.fieldLink RX2 79 "ParetoDesk$Choices" "joy" "[I", Cond.fieldLink RX2 87 "ParetoDesk$Choices" "weight" "[I", Cond.methodLink RX2 80 yX2_pointWithPair, Cond.instanceMethod yX2_pointWithPair, Cond.selects RX2 yX2_pointWithPair yX2_pointWithPair, Cond.code yX2_pointWithPair cX2_pointWithPair 4 (some .int), Cond.methodLink RX2 84 yX0_reason, Cond.methodLink RX2 61 yX2_findVertices, Cond.instanceMethod yX2_findVertices]
def wsL_vertex_r6 : List Cond := [Cond.selects RX2 yX2_findVertices yX2_findVertices, Cond.code yX2_findVertices cX2_findVertices 2 none, Cond.fieldLink RX2 90 "ParetoDesk$Frontier" "vertexCount" "I", Cond.fieldLink RX2 30 "ParetoDesk$Frontier" "vertexPoint" "[I", Cond.methodLink RX2 93 yX2_heightOver, Cond.instanceMethod yX2_heightOver, Cond.selects RX2 yX2_heightOver yX2_heightOver, Cond.code yX2_heightOver cX2_heightOver 4 (some .int), Cond.methodLink RX2 97 yX2_gainWon, Cond.instanceMethod yX2_gainWon, Cond.selects RX2 yX2_gainWon yX2_gainWon, Cond.code yX2_gainWon cX2_gainWon 3 (some .int), Cond.methodLink RX2 100 yX2_joyLost, Cond.instanceMethod yX2_joyLost, Cond.selects RX2 yX2_joyLost yX2_joyLost, Cond.code yX2_joyLost cX2_joyLost 3 (some .int), Cond.methodLink RX2 64 yX2_markSupported, Cond.instanceMethod yX2_markSupported, Cond.selects RX2 yX2_markSupported yX2_markSupported, Cond.code yX2_markSupported cX2_markSupported 5 none]
def wsL_vertex : List Cond := .codeWith yL_vertex cL_vertex 4 (some .int) [(0, 9, 12, 29)] :: ((wsL_vertex_r1 ++ (wsL_vertex_r2 ++ (wsL_vertex_r3 ++ (wsL_vertex_r4 ++ (wsL_vertex_r5 ++ wsL_vertex_r6))))) ++ wsX100 ++ wsX20 ++ wsX80 ++ wsX00 ++ wsX90 ++ (vx_atS RX10 244 "java/lang/IndexOutOfBoundsException" ["java/lang/RuntimeException", "java/lang/Exception"]).filter goodWord)
def wsL_box_r1 : List Cond := [Cond.classLink RL 29 "java/lang/IndexOutOfBoundsException", Cond.classLink RL 19 "java/lang/IllegalArgumentException", Cond.methodLink RL 58 yX10_box, Cond.instanceMethod yX10_box, Cond.selects RX10 yX10_box yX10_box, Cond.initialized RX10, Cond.code yX10_box cX10_box 5 (some .int), Cond.classLink RX10 240 "java/lang/IndexOutOfBoundsException", Cond.initialized "java/lang/IndexOutOfBoundsException", Cond.fieldLink RX10 70 "ParetoDesk" "frontier" "LParetoDesk$Frontier;", Cond.fieldLink RX10 237 "ParetoDesk$Frontier" "vertexCount" "I", Cond.fieldLink RX10 245 "ParetoDesk$Frontier" "vertexPoint" "[I", Cond.fieldLink RX10 207 "ParetoDesk$Frontier" "gain" "[I", Cond.methodLink RX10 188 yX10_refreshFrontier, Cond.instanceMethod yX10_refreshFrontier, Cond.selects RX10 yX10_refreshFrontier yX10_refreshFrontier, Cond.code yX10_refreshFrontier cX10_refreshFrontier 1 none, Cond.fieldLink RX10 395 "ParetoDesk" "frontierFresh" "Z", Cond.fieldLink RX10 56 "ParetoDesk" "choices" "LParetoDesk$Choices;", Cond.fieldLink RX10 27 "ParetoDesk" "now" "LParetoDesk$Setup;", Cond.fieldLink RX10 63 "ParetoDesk" "stairs" "LParetoDesk$Stairs;", Cond.fieldLink RX10 147 "ParetoDesk$Setup" "capacity" "I", Cond.methodLink RX10 405 yX0_build, Cond.instanceMethod yX0_build]
def wsL_box_r2 : List Cond := [Cond.selects RX0 yX0_build yX0_build, Cond.initialized RX0, Cond.code yX0_build cX0_build 5 none, Cond.fieldLink RX0 27 "ParetoDesk$Setup" "limit" "I", Cond.fieldLink RX0 33 "ParetoDesk$Choices" "limit" "I", Cond.fieldLink RX0 34 "ParetoDesk$Setup" "mustSet" "I", Cond.fieldLink RX0 37 "ParetoDesk$Choices" "mustSet" "I", Cond.fieldLink RX0 38 "ParetoDesk$Setup" "neverSet" "I", Cond.fieldLink RX0 41 "ParetoDesk$Choices" "neverSet" "I", Cond.fieldLink RX0 42 "ParetoDesk$Choices" "sets" "I", Cond.fieldLink RX0 45 "ParetoDesk$Setup" "items" "I", Cond.fieldLink RX0 9 "ParetoDesk$Choices" "weight" "[I", Cond.fieldLink RX0 48 "ParetoDesk$Setup" "weight" "[I", Cond.fieldLink RX0 15 "ParetoDesk$Choices" "gain" "[I", Cond.fieldLink RX0 49 "ParetoDesk$Setup" "gain" "[I", Cond.fieldLink RX0 18 "ParetoDesk$Choices" "joy" "[I", Cond.fieldLink RX0 50 "ParetoDesk$Setup" "joy" "[I", Cond.fieldLink RX0 21 "ParetoDesk$Choices" "barred" "[I", Cond.fieldLink RX0 51 "ParetoDesk$Setup" "bars" "[I", Cond.fieldLink RX0 24 "ParetoDesk$Choices" "needed" "[I", Cond.fieldLink RX0 54 "ParetoDesk$Setup" "needs" "[I", Cond.methodLink RX10 290 yX9_build, Cond.instanceMethod yX9_build, Cond.selects RX9 yX9_build yX9_build]
def wsL_box_r3 : List Cond := [Cond.initialized RX9, Cond.code yX9_build cX9_build 5 none, Cond.fieldLink RX9 9 "ParetoDesk$Stairs" "joyAt" "[I", Cond.fieldLink RX9 21 "ParetoDesk$Stairs" "allowedCount" "I", Cond.fieldLink RX9 25 "ParetoDesk$Choices" "sets" "I", Cond.fieldLink RX9 34 "ParetoDesk$Choices" "gain" "[I", Cond.fieldLink RX9 37 "ParetoDesk$Choices" "joy" "[I", Cond.methodLink RX9 15 yJ7_fill_53178, Cond.static yJ7_fill_53178, Cond.initialized RJ7, Cond.code yJ7_fill_53178 cJ7_fill_53178 4 none, Cond.methodLink RX9 30 yX0_reason, Cond.instanceMethod yX0_reason, Cond.selects RX0 yX0_reason yX0_reason, Cond.code yX0_reason cX0_reason 3 (some .int), Cond.methodLink RX0 57 yX0_reasonBesideWeight, Cond.instanceMethod yX0_reasonBesideWeight, Cond.selects RX0 yX0_reasonBesideWeight yX0_reasonBesideWeight, Cond.code yX0_reasonBesideWeight cX0_reasonBesideWeight 2 (some .int), Cond.methodLink RX0 61 yJ6_bitCount_0f7a4, Cond.static yJ6_bitCount_0f7a4, Cond.initialized RJ6, Cond.code yJ6_bitCount_0f7a4 cJ6_bitCount_0f7a4 1 (some .int), Cond.constant RJ6 265 (1431655765)]
def wsL_box_r4 : List Cond := [Cond.constant RJ6 266 (858993459), Cond.constant RJ6 267 (252645135), Cond.methodLink RX9 40 yX9_keepGreatest, Cond.instanceMethod yX9_keepGreatest, Cond.selects RX9 yX9_keepGreatest yX9_keepGreatest, Cond.code yX9_keepGreatest cX9_keepGreatest 3 none, Cond.methodLink RX9 44 yX9_dropBeaten, Cond.instanceMethod yX9_dropBeaten, Cond.selects RX9 yX9_dropBeaten yX9_dropBeaten, Cond.code yX9_dropBeaten cX9_dropBeaten 3 none, Cond.methodLink RX10 407 yX2_build, Cond.instanceMethod yX2_build, Cond.selects RX2 yX2_build yX2_build, Cond.initialized RX2, Cond.code yX2_build cX2_build 4 none, Cond.fieldLink RX2 40 "ParetoDesk$Stairs" "allowedCount" "I", Cond.fieldLink RX2 46 "ParetoDesk$Frontier" "allowedCount" "I", Cond.fieldLink RX2 51 "ParetoDesk$Frontier" "areaBelow" "I", Cond.methodLink RX2 47 yX9_areaBelow, Cond.instanceMethod yX9_areaBelow, Cond.selects RX9 yX9_areaBelow yX9_areaBelow, Cond.code yX9_areaBelow cX9_areaBelow 4 (some .int), Cond.methodLink RX2 53 yX2_readPoints, Cond.instanceMethod yX2_readPoints]
def wsL_box_r5 : List Cond := [Cond.selects RX2 yX2_readPoints yX2_readPoints, Cond.code yX2_readPoints cX2_readPoints 3 none, Cond.fieldLink RX2 67 "ParetoDesk$Frontier" "size" "I", Cond.fieldLink RX2 33 "ParetoDesk$Frontier" "pointAt" "[I", Cond.fieldLink RX2 70 "ParetoDesk$Stairs" "joyAt" "[I", Cond.fieldLink RX2 9 "ParetoDesk$Frontier" "gain" "[I", Cond.fieldLink RX2 15 "ParetoDesk$Frontier" "joy" "[I", Cond.fieldLink RX2 18 "ParetoDesk$Frontier" "choice" "[I", Cond.fieldLink RX2 21 "ParetoDesk$Frontier" "times" "[I", Cond.fieldLink RX2 24 "ParetoDesk$Frontier" "light" "[I", Cond.fieldLink RX2 27 "ParetoDesk$Frontier" "mark" "[I", Cond.methodLink RX2 57 yX2_readChoices, Cond.instanceMethod yX2_readChoices, Cond.selects RX2 yX2_readChoices yX2_readChoices, Cond.code yX2_readChoices cX2_readChoices 5 none, Cond.fieldLink RX2 73 "ParetoDesk$Choices" "sets" "I", Cond.fieldLink RX2 78 "ParetoDesk$Choices" "gain" "[I", Cond.fieldLink RX2 79 "ParetoDesk$Choices" "joy" "[I", Cond.fieldLink RX2 87 "ParetoDesk$Choices" "weight" "[I", Cond.methodLink RX2 80 yX2_pointWithPair, Cond.instanceMethod yX2_pointWithPair, Cond.selects RX2 yX2_pointWithPair yX2_pointWithPair, Cond.code yX2_pointWithPair cX2_pointWithPair 4 (some .int), Cond.methodLink RX2 84 yX0_reason]
def wsL_box_r6 : List Cond := [Cond.methodLink RX2 61 yX2_findVertices, Cond.instanceMethod yX2_findVertices, Cond.selects RX2 yX2_findVertices yX2_findVertices, Cond.code yX2_findVertices cX2_findVertices 2 none, Cond.fieldLink RX2 90 "ParetoDesk$Frontier" "vertexCount" "I", Cond.fieldLink RX2 30 "ParetoDesk$Frontier" "vertexPoint" "[I", Cond.methodLink RX2 93 yX2_heightOver, Cond.instanceMethod yX2_heightOver, Cond.selects RX2 yX2_heightOver yX2_heightOver, Cond.code yX2_heightOver cX2_heightOver 4 (some .int), Cond.methodLink RX2 97 yX2_gainWon, Cond.instanceMethod yX2_gainWon, Cond.selects RX2 yX2_gainWon yX2_gainWon, Cond.code yX2_gainWon cX2_gainWon 3 (some .int), Cond.methodLink RX2 100 yX2_joyLost, Cond.instanceMethod yX2_joyLost, Cond.selects RX2 yX2_joyLost yX2_joyLost, Cond.code yX2_joyLost cX2_joyLost 3 (some .int), Cond.methodLink RX2 64 yX2_markSupported, Cond.instanceMethod yX2_markSupported, Cond.selects RX2 yX2_markSupported yX2_markSupported, Cond.code yX2_markSupported cX2_markSupported 5 none, Cond.methodLink RX10 143 yX10_requireWhat, Cond.static yX10_requireWhat]
def wsL_box_r7 : List Cond := [Cond.code yX10_requireWhat cX10_requireWhat 2 none, Cond.classLink RX10 109 "java/lang/IllegalArgumentException", Cond.initialized "java/lang/IllegalArgumentException", Cond.methodLink RX10 248 yX2_supportedBetween, Cond.instanceMethod yX2_supportedBetween, Cond.selects RX2 yX2_supportedBetween yX2_supportedBetween, Cond.code yX2_supportedBetween cX2_supportedBetween 5 (some .int)]
def wsL_box : List Cond := .codeWith yL_box cL_box 5 (some .int) [(0, 10, 13, 29), (0, 10, 17, 19)] :: ((wsL_box_r1 ++ (wsL_box_r2 ++ (wsL_box_r3 ++ (wsL_box_r4 ++ (wsL_box_r5 ++ (wsL_box_r6 ++ wsL_box_r7)))))) ++ wsX100 ++ wsX20 ++ wsX80 ++ wsX00 ++ wsX90 ++ (vx_atS RX10 244 "java/lang/IndexOutOfBoundsException" ["java/lang/RuntimeException", "java/lang/Exception"]).filter goodWord ++ (vx_atS RX10 113 "java/lang/IllegalArgumentException" ["java/lang/RuntimeException", "java/lang/Exception"]).filter goodWord)
def wsL_step_r1 : List Cond := [Cond.classLink RL 19 "java/lang/IllegalArgumentException", Cond.classLink RL 64 "java/util/NoSuchElementException", Cond.methodLink RL 61 yX10_step, Cond.instanceMethod yX10_step, Cond.selects RX10 yX10_step yX10_step, Cond.initialized RX10, Cond.code yX10_step cX10_step 5 (some .int), Cond.classLink RX10 259 "java/util/NoSuchElementException", Cond.initialized "java/util/NoSuchElementException", Cond.fieldLink RX10 77 "ParetoDesk" "search" "LParetoDesk$Search;", Cond.fieldLink RX10 256 "ParetoDesk$Search" "count" "I", Cond.fieldLink RX10 264 "ParetoDesk$Search" "from" "[I", Cond.fieldLink RX10 267 "ParetoDesk$Search" "to" "[I", Cond.fieldLink RX10 70 "ParetoDesk" "frontier" "LParetoDesk$Frontier;", Cond.fieldLink RX10 276 "ParetoDesk$Search" "found" "[I", Cond.methodLink RX10 143 yX10_requireWhat, Cond.static yX10_requireWhat, Cond.code yX10_requireWhat cX10_requireWhat 2 none, Cond.classLink RX10 109 "java/lang/IllegalArgumentException", Cond.initialized "java/lang/IllegalArgumentException", Cond.methodLink RX10 253 yX10_refreshSearch, Cond.instanceMethod yX10_refreshSearch, Cond.selects RX10 yX10_refreshSearch yX10_refreshSearch, Cond.code yX10_refreshSearch cX10_refreshSearch 1 none]
def wsL_step_r2 : List Cond := [Cond.fieldLink RX10 399 "ParetoDesk" "searchFresh" "Z", Cond.methodLink RX10 188 yX10_refreshFrontier, Cond.instanceMethod yX10_refreshFrontier, Cond.selects RX10 yX10_refreshFrontier yX10_refreshFrontier, Cond.code yX10_refreshFrontier cX10_refreshFrontier 1 none, Cond.fieldLink RX10 395 "ParetoDesk" "frontierFresh" "Z", Cond.fieldLink RX10 56 "ParetoDesk" "choices" "LParetoDesk$Choices;", Cond.fieldLink RX10 27 "ParetoDesk" "now" "LParetoDesk$Setup;", Cond.fieldLink RX10 63 "ParetoDesk" "stairs" "LParetoDesk$Stairs;", Cond.fieldLink RX10 147 "ParetoDesk$Setup" "capacity" "I", Cond.methodLink RX10 405 yX0_build, Cond.instanceMethod yX0_build, Cond.selects RX0 yX0_build yX0_build, Cond.initialized RX0, Cond.code yX0_build cX0_build 5 none, Cond.fieldLink RX0 27 "ParetoDesk$Setup" "limit" "I", Cond.fieldLink RX0 33 "ParetoDesk$Choices" "limit" "I", Cond.fieldLink RX0 34 "ParetoDesk$Setup" "mustSet" "I", Cond.fieldLink RX0 37 "ParetoDesk$Choices" "mustSet" "I", Cond.fieldLink RX0 38 "ParetoDesk$Setup" "neverSet" "I", Cond.fieldLink RX0 41 "ParetoDesk$Choices" "neverSet" "I", Cond.fieldLink RX0 42 "ParetoDesk$Choices" "sets" "I", Cond.fieldLink RX0 45 "ParetoDesk$Setup" "items" "I", Cond.fieldLink RX0 9 "ParetoDesk$Choices" "weight" "[I"]
def wsL_step_r3 : List Cond := [Cond.fieldLink RX0 48 "ParetoDesk$Setup" "weight" "[I", Cond.fieldLink RX0 15 "ParetoDesk$Choices" "gain" "[I", Cond.fieldLink RX0 49 "ParetoDesk$Setup" "gain" "[I", Cond.fieldLink RX0 18 "ParetoDesk$Choices" "joy" "[I", Cond.fieldLink RX0 50 "ParetoDesk$Setup" "joy" "[I", Cond.fieldLink RX0 21 "ParetoDesk$Choices" "barred" "[I", Cond.fieldLink RX0 51 "ParetoDesk$Setup" "bars" "[I", Cond.fieldLink RX0 24 "ParetoDesk$Choices" "needed" "[I", Cond.fieldLink RX0 54 "ParetoDesk$Setup" "needs" "[I", Cond.methodLink RX10 290 yX9_build, Cond.instanceMethod yX9_build, Cond.selects RX9 yX9_build yX9_build, Cond.initialized RX9, Cond.code yX9_build cX9_build 5 none, Cond.fieldLink RX9 9 "ParetoDesk$Stairs" "joyAt" "[I", Cond.fieldLink RX9 21 "ParetoDesk$Stairs" "allowedCount" "I", Cond.fieldLink RX9 25 "ParetoDesk$Choices" "sets" "I", Cond.fieldLink RX9 34 "ParetoDesk$Choices" "gain" "[I", Cond.fieldLink RX9 37 "ParetoDesk$Choices" "joy" "[I", Cond.methodLink RX9 15 yJ7_fill_53178, Cond.static yJ7_fill_53178, Cond.initialized RJ7, Cond.code yJ7_fill_53178 cJ7_fill_53178 4 none, Cond.methodLink RX9 30 yX0_reason]
def wsL_step_r4 : List Cond := [Cond.instanceMethod yX0_reason, Cond.selects RX0 yX0_reason yX0_reason, Cond.code yX0_reason cX0_reason 3 (some .int), Cond.methodLink RX0 57 yX0_reasonBesideWeight, Cond.instanceMethod yX0_reasonBesideWeight, Cond.selects RX0 yX0_reasonBesideWeight yX0_reasonBesideWeight, Cond.code yX0_reasonBesideWeight cX0_reasonBesideWeight 2 (some .int), Cond.methodLink RX0 61 yJ6_bitCount_0f7a4, Cond.static yJ6_bitCount_0f7a4, Cond.initialized RJ6, Cond.code yJ6_bitCount_0f7a4 cJ6_bitCount_0f7a4 1 (some .int), Cond.constant RJ6 265 (1431655765), Cond.constant RJ6 266 (858993459), Cond.constant RJ6 267 (252645135), Cond.methodLink RX9 40 yX9_keepGreatest, Cond.instanceMethod yX9_keepGreatest, Cond.selects RX9 yX9_keepGreatest yX9_keepGreatest, Cond.code yX9_keepGreatest cX9_keepGreatest 3 none, Cond.methodLink RX9 44 yX9_dropBeaten, Cond.instanceMethod yX9_dropBeaten, Cond.selects RX9 yX9_dropBeaten yX9_dropBeaten, Cond.code yX9_dropBeaten cX9_dropBeaten 3 none, Cond.methodLink RX10 407 yX2_build, Cond.instanceMethod yX2_build]
def wsL_step_r5 : List Cond := [Cond.selects RX2 yX2_build yX2_build, Cond.initialized RX2, Cond.code yX2_build cX2_build 4 none, Cond.fieldLink RX2 40 "ParetoDesk$Stairs" "allowedCount" "I", Cond.fieldLink RX2 46 "ParetoDesk$Frontier" "allowedCount" "I", Cond.fieldLink RX2 51 "ParetoDesk$Frontier" "areaBelow" "I", Cond.methodLink RX2 47 yX9_areaBelow, Cond.instanceMethod yX9_areaBelow, Cond.selects RX9 yX9_areaBelow yX9_areaBelow, Cond.code yX9_areaBelow cX9_areaBelow 4 (some .int), Cond.methodLink RX2 53 yX2_readPoints, Cond.instanceMethod yX2_readPoints, Cond.selects RX2 yX2_readPoints yX2_readPoints, Cond.code yX2_readPoints cX2_readPoints 3 none, Cond.fieldLink RX2 67 "ParetoDesk$Frontier" "size" "I", Cond.fieldLink RX2 33 "ParetoDesk$Frontier" "pointAt" "[I", Cond.fieldLink RX2 70 "ParetoDesk$Stairs" "joyAt" "[I", Cond.fieldLink RX2 9 "ParetoDesk$Frontier" "gain" "[I", Cond.fieldLink RX2 15 "ParetoDesk$Frontier" "joy" "[I", Cond.fieldLink RX2 18 "ParetoDesk$Frontier" "choice" "[I", Cond.fieldLink RX2 21 "ParetoDesk$Frontier" "times" "[I", Cond.fieldLink RX2 24 "ParetoDesk$Frontier" "light" "[I", Cond.fieldLink RX2 27 "ParetoDesk$Frontier" "mark" "[I", Cond.methodLink RX2 57 yX2_readChoices]
def wsL_step_r6 : List Cond := [Cond.instanceMethod yX2_readChoices, Cond.selects RX2 yX2_readChoices yX2_readChoices, Cond.code yX2_readChoices cX2_readChoices 5 none, Cond.fieldLink RX2 73 "ParetoDesk$Choices" "sets" "I", Cond.fieldLink RX2 78 "ParetoDesk$Choices" "gain" "[I", Cond.fieldLink RX2 79 "ParetoDesk$Choices" "joy" "[I", Cond.fieldLink RX2 87 "ParetoDesk$Choices" "weight" "[I", Cond.methodLink RX2 80 yX2_pointWithPair, Cond.instanceMethod yX2_pointWithPair, Cond.selects RX2 yX2_pointWithPair yX2_pointWithPair, Cond.code yX2_pointWithPair cX2_pointWithPair 4 (some .int), Cond.methodLink RX2 84 yX0_reason, Cond.methodLink RX2 61 yX2_findVertices, Cond.instanceMethod yX2_findVertices, Cond.selects RX2 yX2_findVertices yX2_findVertices, Cond.code yX2_findVertices cX2_findVertices 2 none, Cond.fieldLink RX2 90 "ParetoDesk$Frontier" "vertexCount" "I", Cond.fieldLink RX2 30 "ParetoDesk$Frontier" "vertexPoint" "[I", Cond.methodLink RX2 93 yX2_heightOver, Cond.instanceMethod yX2_heightOver, Cond.selects RX2 yX2_heightOver yX2_heightOver, Cond.code yX2_heightOver cX2_heightOver 4 (some .int), Cond.methodLink RX2 97 yX2_gainWon, Cond.instanceMethod yX2_gainWon]
def wsL_step_r7 : List Cond := [Cond.selects RX2 yX2_gainWon yX2_gainWon, Cond.code yX2_gainWon cX2_gainWon 3 (some .int), Cond.methodLink RX2 100 yX2_joyLost, Cond.instanceMethod yX2_joyLost, Cond.selects RX2 yX2_joyLost yX2_joyLost, Cond.code yX2_joyLost cX2_joyLost 3 (some .int), Cond.methodLink RX2 64 yX2_markSupported, Cond.instanceMethod yX2_markSupported, Cond.selects RX2 yX2_markSupported yX2_markSupported, Cond.code yX2_markSupported cX2_markSupported 5 none, Cond.methodLink RX10 410 yX7_run, Cond.instanceMethod yX7_run, Cond.selects RX7 yX7_run yX7_run, Cond.initialized RX7, Cond.code yX7_run cX7_run 3 none, Cond.fieldLink RX7 21 "ParetoDesk$Search" "count" "I", Cond.fieldLink RX7 25 "ParetoDesk$Frontier" "size" "I", Cond.fieldLink RX7 18 "ParetoDesk$Search" "found" "[I", Cond.fieldLink RX7 9 "ParetoDesk$Search" "from" "[I", Cond.fieldLink RX7 15 "ParetoDesk$Search" "to" "[I", Cond.methodLink RX7 30 yX7_enqueue, Cond.instanceMethod yX7_enqueue, Cond.selects RX7 yX7_enqueue yX7_enqueue, Cond.code yX7_enqueue cX7_enqueue 3 none]
def wsL_step_r8 : List Cond := [Cond.methodLink RX7 34 yX7_findAbove, Cond.static yX7_findAbove, Cond.code yX7_findAbove cX7_findAbove 7 (some .int), Cond.methodLink RX7 38 yX2_joyLost, Cond.methodLink RX7 42 yX2_gainWon, Cond.methodLink RX7 45 yX2_greatestBy, Cond.instanceMethod yX2_greatestBy, Cond.selects RX2 yX2_greatestBy yX2_greatestBy, Cond.code yX2_greatestBy cX2_greatestBy 7 (some .int), Cond.methodLink RX2 103 yX2_valueOf, Cond.instanceMethod yX2_valueOf, Cond.selects RX2 yX2_valueOf yX2_valueOf, Cond.code yX2_valueOf cX2_valueOf 4 (some .int), Cond.methodLink RX7 48 yX2_valueOf, Cond.methodLink RX10 270 yX2_joyLost, Cond.methodLink RX10 273 yX2_gainWon]
def wsL_step : List Cond := .codeWith yL_step cL_step 5 (some .int) [(0, 10, 13, 19), (0, 10, 17, 64)] :: ((wsL_step_r1 ++ (wsL_step_r2 ++ (wsL_step_r3 ++ (wsL_step_r4 ++ (wsL_step_r5 ++ (wsL_step_r6 ++ (wsL_step_r7 ++ wsL_step_r8))))))) ++ wsX100 ++ wsX70 ++ wsX80 ++ wsX00 ++ wsX90 ++ wsX20 ++ (vx_atS RX10 263 "java/util/NoSuchElementException" ["java/lang/RuntimeException", "java/lang/Exception"]).filter goodWord ++ (vx_atS RX10 113 "java/lang/IllegalArgumentException" ["java/lang/RuntimeException", "java/lang/Exception"]).filter goodWord)
def wsL_lostWithout_r1 : List Cond := [Cond.classLink RL 29 "java/lang/IndexOutOfBoundsException", Cond.methodLink RL 66 yX10_lostWithout, Cond.instanceMethod yX10_lostWithout, Cond.selects RX10 yX10_lostWithout yX10_lostWithout, Cond.initialized RX10, Cond.code yX10_lostWithout cX10_lostWithout 2 (some .int), Cond.fieldLink RX10 70 "ParetoDesk" "frontier" "LParetoDesk$Frontier;", Cond.fieldLink RX10 201 "ParetoDesk$Frontier" "size" "I", Cond.fieldLink RX10 56 "ParetoDesk" "choices" "LParetoDesk$Choices;", Cond.fieldLink RX10 27 "ParetoDesk" "now" "LParetoDesk$Setup;", Cond.fieldLink RX10 147 "ParetoDesk$Setup" "capacity" "I", Cond.methodLink RX10 173 yX10_requireItem, Cond.instanceMethod yX10_requireItem, Cond.selects RX10 yX10_requireItem yX10_requireItem, Cond.code yX10_requireItem cX10_requireItem 2 none, Cond.classLink RX10 240 "java/lang/IndexOutOfBoundsException", Cond.initialized "java/lang/IndexOutOfBoundsException", Cond.methodLink RX10 416 yX8_hasItem, Cond.instanceMethod yX8_hasItem, Cond.selects RX8 yX8_hasItem yX8_hasItem, Cond.initialized RX8, Cond.code yX8_hasItem cX8_hasItem 2 (some .boolean), Cond.fieldLink RX8 34 "ParetoDesk$Setup" "items" "I", Cond.methodLink RX10 188 yX10_refreshFrontier]
def wsL_lostWithout_r2 : List Cond := [Cond.instanceMethod yX10_refreshFrontier, Cond.selects RX10 yX10_refreshFrontier yX10_refreshFrontier, Cond.code yX10_refreshFrontier cX10_refreshFrontier 1 none, Cond.fieldLink RX10 395 "ParetoDesk" "frontierFresh" "Z", Cond.fieldLink RX10 63 "ParetoDesk" "stairs" "LParetoDesk$Stairs;", Cond.methodLink RX10 405 yX0_build, Cond.instanceMethod yX0_build, Cond.selects RX0 yX0_build yX0_build, Cond.initialized RX0, Cond.code yX0_build cX0_build 5 none, Cond.fieldLink RX0 27 "ParetoDesk$Setup" "limit" "I", Cond.fieldLink RX0 33 "ParetoDesk$Choices" "limit" "I", Cond.fieldLink RX0 34 "ParetoDesk$Setup" "mustSet" "I", Cond.fieldLink RX0 37 "ParetoDesk$Choices" "mustSet" "I", Cond.fieldLink RX0 38 "ParetoDesk$Setup" "neverSet" "I", Cond.fieldLink RX0 41 "ParetoDesk$Choices" "neverSet" "I", Cond.fieldLink RX0 42 "ParetoDesk$Choices" "sets" "I", Cond.fieldLink RX0 45 "ParetoDesk$Setup" "items" "I", Cond.fieldLink RX0 9 "ParetoDesk$Choices" "weight" "[I", Cond.fieldLink RX0 48 "ParetoDesk$Setup" "weight" "[I", Cond.fieldLink RX0 15 "ParetoDesk$Choices" "gain" "[I", Cond.fieldLink RX0 49 "ParetoDesk$Setup" "gain" "[I", Cond.fieldLink RX0 18 "ParetoDesk$Choices" "joy" "[I", Cond.fieldLink RX0 50 "ParetoDesk$Setup" "joy" "[I"]
def wsL_lostWithout_r3 : List Cond := [Cond.fieldLink RX0 21 "ParetoDesk$Choices" "barred" "[I", Cond.fieldLink RX0 51 "ParetoDesk$Setup" "bars" "[I", Cond.fieldLink RX0 24 "ParetoDesk$Choices" "needed" "[I", Cond.fieldLink RX0 54 "ParetoDesk$Setup" "needs" "[I", Cond.methodLink RX10 290 yX9_build, Cond.instanceMethod yX9_build, Cond.selects RX9 yX9_build yX9_build, Cond.initialized RX9, Cond.code yX9_build cX9_build 5 none, Cond.fieldLink RX9 9 "ParetoDesk$Stairs" "joyAt" "[I", Cond.fieldLink RX9 21 "ParetoDesk$Stairs" "allowedCount" "I", Cond.fieldLink RX9 25 "ParetoDesk$Choices" "sets" "I", Cond.fieldLink RX9 34 "ParetoDesk$Choices" "gain" "[I", Cond.fieldLink RX9 37 "ParetoDesk$Choices" "joy" "[I", Cond.methodLink RX9 15 yJ7_fill_53178, Cond.static yJ7_fill_53178, Cond.initialized RJ7, Cond.code yJ7_fill_53178 cJ7_fill_53178 4 none, Cond.methodLink RX9 30 yX0_reason, Cond.instanceMethod yX0_reason, Cond.selects RX0 yX0_reason yX0_reason, Cond.code yX0_reason cX0_reason 3 (some .int), Cond.methodLink RX0 57 yX0_reasonBesideWeight, Cond.instanceMethod yX0_reasonBesideWeight]
def wsL_lostWithout_r4 : List Cond := [Cond.selects RX0 yX0_reasonBesideWeight yX0_reasonBesideWeight, Cond.code yX0_reasonBesideWeight cX0_reasonBesideWeight 2 (some .int), Cond.methodLink RX0 61 yJ6_bitCount_0f7a4, Cond.static yJ6_bitCount_0f7a4, Cond.initialized RJ6, Cond.code yJ6_bitCount_0f7a4 cJ6_bitCount_0f7a4 1 (some .int), Cond.constant RJ6 265 (1431655765), Cond.constant RJ6 266 (858993459), Cond.constant RJ6 267 (252645135), Cond.methodLink RX9 40 yX9_keepGreatest, Cond.instanceMethod yX9_keepGreatest, Cond.selects RX9 yX9_keepGreatest yX9_keepGreatest, Cond.code yX9_keepGreatest cX9_keepGreatest 3 none, Cond.methodLink RX9 44 yX9_dropBeaten, Cond.instanceMethod yX9_dropBeaten, Cond.selects RX9 yX9_dropBeaten yX9_dropBeaten, Cond.code yX9_dropBeaten cX9_dropBeaten 3 none, Cond.methodLink RX10 407 yX2_build, Cond.instanceMethod yX2_build, Cond.selects RX2 yX2_build yX2_build, Cond.initialized RX2, Cond.code yX2_build cX2_build 4 none, Cond.fieldLink RX2 40 "ParetoDesk$Stairs" "allowedCount" "I", Cond.fieldLink RX2 46 "ParetoDesk$Frontier" "allowedCount" "I"]
def wsL_lostWithout_r5 : List Cond := [Cond.fieldLink RX2 51 "ParetoDesk$Frontier" "areaBelow" "I", Cond.methodLink RX2 47 yX9_areaBelow, Cond.instanceMethod yX9_areaBelow, Cond.selects RX9 yX9_areaBelow yX9_areaBelow, Cond.code yX9_areaBelow cX9_areaBelow 4 (some .int), Cond.methodLink RX2 53 yX2_readPoints, Cond.instanceMethod yX2_readPoints, Cond.selects RX2 yX2_readPoints yX2_readPoints, Cond.code yX2_readPoints cX2_readPoints 3 none, Cond.fieldLink RX2 67 "ParetoDesk$Frontier" "size" "I", Cond.fieldLink RX2 33 "ParetoDesk$Frontier" "pointAt" "[I", Cond.fieldLink RX2 70 "ParetoDesk$Stairs" "joyAt" "[I", Cond.fieldLink RX2 9 "ParetoDesk$Frontier" "gain" "[I", Cond.fieldLink RX2 15 "ParetoDesk$Frontier" "joy" "[I", Cond.fieldLink RX2 18 "ParetoDesk$Frontier" "choice" "[I", Cond.fieldLink RX2 21 "ParetoDesk$Frontier" "times" "[I", Cond.fieldLink RX2 24 "ParetoDesk$Frontier" "light" "[I", Cond.fieldLink RX2 27 "ParetoDesk$Frontier" "mark" "[I", Cond.methodLink RX2 57 yX2_readChoices, Cond.instanceMethod yX2_readChoices, Cond.selects RX2 yX2_readChoices yX2_readChoices, Cond.code yX2_readChoices cX2_readChoices 5 none, Cond.fieldLink RX2 73 "ParetoDesk$Choices" "sets" "I", Cond.fieldLink RX2 78 "ParetoDesk$Choices" "gain" "[I"]
def wsL_lostWithout_r6 : List Cond := [Cond.fieldLink RX2 79 "ParetoDesk$Choices" "joy" "[I", Cond.fieldLink RX2 87 "ParetoDesk$Choices" "weight" "[I", Cond.methodLink RX2 80 yX2_pointWithPair, Cond.instanceMethod yX2_pointWithPair, Cond.selects RX2 yX2_pointWithPair yX2_pointWithPair, Cond.code yX2_pointWithPair cX2_pointWithPair 4 (some .int), Cond.methodLink RX2 84 yX0_reason, Cond.methodLink RX2 61 yX2_findVertices, Cond.instanceMethod yX2_findVertices, Cond.selects RX2 yX2_findVertices yX2_findVertices, Cond.code yX2_findVertices cX2_findVertices 2 none, Cond.fieldLink RX2 90 "ParetoDesk$Frontier" "vertexCount" "I", Cond.fieldLink RX2 30 "ParetoDesk$Frontier" "vertexPoint" "[I", Cond.methodLink RX2 93 yX2_heightOver, Cond.instanceMethod yX2_heightOver, Cond.selects RX2 yX2_heightOver yX2_heightOver, Cond.code yX2_heightOver cX2_heightOver 4 (some .int), Cond.methodLink RX2 97 yX2_gainWon, Cond.instanceMethod yX2_gainWon, Cond.selects RX2 yX2_gainWon yX2_gainWon, Cond.code yX2_gainWon cX2_gainWon 3 (some .int), Cond.methodLink RX2 100 yX2_joyLost, Cond.instanceMethod yX2_joyLost, Cond.selects RX2 yX2_joyLost yX2_joyLost]
def wsL_lostWithout_r7 : List Cond := [Cond.code yX2_joyLost cX2_joyLost 3 (some .int), Cond.methodLink RX2 64 yX2_markSupported, Cond.instanceMethod yX2_markSupported, Cond.selects RX2 yX2_markSupported yX2_markSupported, Cond.code yX2_markSupported cX2_markSupported 5 none, Cond.methodLink RX10 286 yX2_countReached, Cond.instanceMethod yX2_countReached, Cond.selects RX2 yX2_countReached yX2_countReached, Cond.code yX2_countReached cX2_countReached 7 (some .int), Cond.fieldLink RX2 36 "ParetoDesk$Frontier" "reached" "[Z"]
def wsL_lostWithout : List Cond := .codeWith yL_lostWithout cL_lostWithout 4 (some .int) [(0, 9, 12, 29)] :: ((wsL_lostWithout_r1 ++ (wsL_lostWithout_r2 ++ (wsL_lostWithout_r3 ++ (wsL_lostWithout_r4 ++ (wsL_lostWithout_r5 ++ (wsL_lostWithout_r6 ++ wsL_lostWithout_r7)))))) ++ wsX100 ++ wsX20 ++ wsX80 ++ wsX00 ++ wsX90 ++ (vx_atS RX10 244 "java/lang/IndexOutOfBoundsException" ["java/lang/RuntimeException", "java/lang/Exception"]).filter goodWord)
def wsL_worth_r1 : List Cond := [Cond.classLink RL 29 "java/lang/IndexOutOfBoundsException", Cond.methodLink RL 69 yX10_worth, Cond.instanceMethod yX10_worth, Cond.selects RX10 yX10_worth yX10_worth, Cond.initialized RX10, Cond.code yX10_worth cX10_worth 2 (some .int), Cond.fieldLink RX10 70 "ParetoDesk" "frontier" "LParetoDesk$Frontier;", Cond.fieldLink RX10 198 "ParetoDesk$Frontier" "allowedCount" "I", Cond.fieldLink RX10 63 "ParetoDesk" "stairs" "LParetoDesk$Stairs;", Cond.fieldLink RX10 56 "ParetoDesk" "choices" "LParetoDesk$Choices;", Cond.fieldLink RX10 27 "ParetoDesk" "now" "LParetoDesk$Setup;", Cond.fieldLink RX10 147 "ParetoDesk$Setup" "capacity" "I", Cond.fieldLink RX10 294 "ParetoDesk$Stairs" "allowedCount" "I", Cond.fieldLink RX10 279 "ParetoDesk$Frontier" "areaBelow" "I", Cond.methodLink RX10 173 yX10_requireItem, Cond.instanceMethod yX10_requireItem, Cond.selects RX10 yX10_requireItem yX10_requireItem, Cond.code yX10_requireItem cX10_requireItem 2 none, Cond.classLink RX10 240 "java/lang/IndexOutOfBoundsException", Cond.initialized "java/lang/IndexOutOfBoundsException", Cond.methodLink RX10 416 yX8_hasItem, Cond.instanceMethod yX8_hasItem, Cond.selects RX8 yX8_hasItem yX8_hasItem, Cond.initialized RX8]
def wsL_worth_r2 : List Cond := [Cond.code yX8_hasItem cX8_hasItem 2 (some .boolean), Cond.fieldLink RX8 34 "ParetoDesk$Setup" "items" "I", Cond.methodLink RX10 188 yX10_refreshFrontier, Cond.instanceMethod yX10_refreshFrontier, Cond.selects RX10 yX10_refreshFrontier yX10_refreshFrontier, Cond.code yX10_refreshFrontier cX10_refreshFrontier 1 none, Cond.fieldLink RX10 395 "ParetoDesk" "frontierFresh" "Z", Cond.methodLink RX10 405 yX0_build, Cond.instanceMethod yX0_build, Cond.selects RX0 yX0_build yX0_build, Cond.initialized RX0, Cond.code yX0_build cX0_build 5 none, Cond.fieldLink RX0 27 "ParetoDesk$Setup" "limit" "I", Cond.fieldLink RX0 33 "ParetoDesk$Choices" "limit" "I", Cond.fieldLink RX0 34 "ParetoDesk$Setup" "mustSet" "I", Cond.fieldLink RX0 37 "ParetoDesk$Choices" "mustSet" "I", Cond.fieldLink RX0 38 "ParetoDesk$Setup" "neverSet" "I", Cond.fieldLink RX0 41 "ParetoDesk$Choices" "neverSet" "I", Cond.fieldLink RX0 42 "ParetoDesk$Choices" "sets" "I", Cond.fieldLink RX0 45 "ParetoDesk$Setup" "items" "I", Cond.fieldLink RX0 9 "ParetoDesk$Choices" "weight" "[I", Cond.fieldLink RX0 48 "ParetoDesk$Setup" "weight" "[I", Cond.fieldLink RX0 15 "ParetoDesk$Choices" "gain" "[I", Cond.fieldLink RX0 49 "ParetoDesk$Setup" "gain" "[I"]
def wsL_worth_r3 : List Cond := [Cond.fieldLink RX0 18 "ParetoDesk$Choices" "joy" "[I", Cond.fieldLink RX0 50 "ParetoDesk$Setup" "joy" "[I", Cond.fieldLink RX0 21 "ParetoDesk$Choices" "barred" "[I", Cond.fieldLink RX0 51 "ParetoDesk$Setup" "bars" "[I", Cond.fieldLink RX0 24 "ParetoDesk$Choices" "needed" "[I", Cond.fieldLink RX0 54 "ParetoDesk$Setup" "needs" "[I", Cond.methodLink RX10 290 yX9_build, Cond.instanceMethod yX9_build, Cond.selects RX9 yX9_build yX9_build, Cond.initialized RX9, Cond.code yX9_build cX9_build 5 none, Cond.fieldLink RX9 9 "ParetoDesk$Stairs" "joyAt" "[I", Cond.fieldLink RX9 21 "ParetoDesk$Stairs" "allowedCount" "I", Cond.fieldLink RX9 25 "ParetoDesk$Choices" "sets" "I", Cond.fieldLink RX9 34 "ParetoDesk$Choices" "gain" "[I", Cond.fieldLink RX9 37 "ParetoDesk$Choices" "joy" "[I", Cond.methodLink RX9 15 yJ7_fill_53178, Cond.static yJ7_fill_53178, Cond.initialized RJ7, Cond.code yJ7_fill_53178 cJ7_fill_53178 4 none, Cond.methodLink RX9 30 yX0_reason, Cond.instanceMethod yX0_reason, Cond.selects RX0 yX0_reason yX0_reason, Cond.code yX0_reason cX0_reason 3 (some .int)]
def wsL_worth_r4 : List Cond := [Cond.methodLink RX0 57 yX0_reasonBesideWeight, Cond.instanceMethod yX0_reasonBesideWeight, Cond.selects RX0 yX0_reasonBesideWeight yX0_reasonBesideWeight, Cond.code yX0_reasonBesideWeight cX0_reasonBesideWeight 2 (some .int), Cond.methodLink RX0 61 yJ6_bitCount_0f7a4, Cond.static yJ6_bitCount_0f7a4, Cond.initialized RJ6, Cond.code yJ6_bitCount_0f7a4 cJ6_bitCount_0f7a4 1 (some .int), Cond.constant RJ6 265 (1431655765), Cond.constant RJ6 266 (858993459), Cond.constant RJ6 267 (252645135), Cond.methodLink RX9 40 yX9_keepGreatest, Cond.instanceMethod yX9_keepGreatest, Cond.selects RX9 yX9_keepGreatest yX9_keepGreatest, Cond.code yX9_keepGreatest cX9_keepGreatest 3 none, Cond.methodLink RX9 44 yX9_dropBeaten, Cond.instanceMethod yX9_dropBeaten, Cond.selects RX9 yX9_dropBeaten yX9_dropBeaten, Cond.code yX9_dropBeaten cX9_dropBeaten 3 none, Cond.methodLink RX10 407 yX2_build, Cond.instanceMethod yX2_build, Cond.selects RX2 yX2_build yX2_build, Cond.initialized RX2, Cond.code yX2_build cX2_build 4 none]
def wsL_worth_r5 : List Cond := [Cond.fieldLink RX2 40 "ParetoDesk$Stairs" "allowedCount" "I", Cond.fieldLink RX2 46 "ParetoDesk$Frontier" "allowedCount" "I", Cond.fieldLink RX2 51 "ParetoDesk$Frontier" "areaBelow" "I", Cond.methodLink RX2 47 yX9_areaBelow, Cond.instanceMethod yX9_areaBelow, Cond.selects RX9 yX9_areaBelow yX9_areaBelow, Cond.code yX9_areaBelow cX9_areaBelow 4 (some .int), Cond.methodLink RX2 53 yX2_readPoints, Cond.instanceMethod yX2_readPoints, Cond.selects RX2 yX2_readPoints yX2_readPoints, Cond.code yX2_readPoints cX2_readPoints 3 none, Cond.fieldLink RX2 67 "ParetoDesk$Frontier" "size" "I", Cond.fieldLink RX2 33 "ParetoDesk$Frontier" "pointAt" "[I", Cond.fieldLink RX2 70 "ParetoDesk$Stairs" "joyAt" "[I", Cond.fieldLink RX2 9 "ParetoDesk$Frontier" "gain" "[I", Cond.fieldLink RX2 15 "ParetoDesk$Frontier" "joy" "[I", Cond.fieldLink RX2 18 "ParetoDesk$Frontier" "choice" "[I", Cond.fieldLink RX2 21 "ParetoDesk$Frontier" "times" "[I", Cond.fieldLink RX2 24 "ParetoDesk$Frontier" "light" "[I", Cond.fieldLink RX2 27 "ParetoDesk$Frontier" "mark" "[I", Cond.methodLink RX2 57 yX2_readChoices, Cond.instanceMethod yX2_readChoices, Cond.selects RX2 yX2_readChoices yX2_readChoices, Cond.code yX2_readChoices cX2_readChoices 5 none]
def wsL_worth_r6 : List Cond := [Cond.fieldLink RX2 73 "ParetoDesk$Choices" "sets" "I", Cond.fieldLink RX2 78 "ParetoDesk$Choices" "gain" "[I", Cond.fieldLink RX2 79 "ParetoDesk$Choices" "joy" "[I", Cond.fieldLink RX2 87 "ParetoDesk$Choices" "weight" "[I", Cond.methodLink RX2 80 yX2_pointWithPair, Cond.instanceMethod yX2_pointWithPair, Cond.selects RX2 yX2_pointWithPair yX2_pointWithPair, Cond.code yX2_pointWithPair cX2_pointWithPair 4 (some .int), Cond.methodLink RX2 84 yX0_reason, Cond.methodLink RX2 61 yX2_findVertices, Cond.instanceMethod yX2_findVertices, Cond.selects RX2 yX2_findVertices yX2_findVertices, Cond.code yX2_findVertices cX2_findVertices 2 none, Cond.fieldLink RX2 90 "ParetoDesk$Frontier" "vertexCount" "I", Cond.fieldLink RX2 30 "ParetoDesk$Frontier" "vertexPoint" "[I", Cond.methodLink RX2 93 yX2_heightOver, Cond.instanceMethod yX2_heightOver, Cond.selects RX2 yX2_heightOver yX2_heightOver, Cond.code yX2_heightOver cX2_heightOver 4 (some .int), Cond.methodLink RX2 97 yX2_gainWon, Cond.instanceMethod yX2_gainWon, Cond.selects RX2 yX2_gainWon yX2_gainWon, Cond.code yX2_gainWon cX2_gainWon 3 (some .int), Cond.methodLink RX2 100 yX2_joyLost]
def wsL_worth_r7 : List Cond := [Cond.instanceMethod yX2_joyLost, Cond.selects RX2 yX2_joyLost yX2_joyLost, Cond.code yX2_joyLost cX2_joyLost 3 (some .int), Cond.methodLink RX2 64 yX2_markSupported, Cond.instanceMethod yX2_markSupported, Cond.selects RX2 yX2_markSupported yX2_markSupported, Cond.code yX2_markSupported cX2_markSupported 5 none, Cond.methodLink RX10 295 yX9_areaBelow]
def wsL_worth : List Cond := .codeWith yL_worth cL_worth 4 (some .int) [(0, 9, 12, 29)] :: ((wsL_worth_r1 ++ (wsL_worth_r2 ++ (wsL_worth_r3 ++ (wsL_worth_r4 ++ (wsL_worth_r5 ++ (wsL_worth_r6 ++ wsL_worth_r7)))))) ++ wsX100 ++ wsX20 ++ wsX80 ++ wsX90 ++ wsX00 ++ (vx_atS RX10 244 "java/lang/IndexOutOfBoundsException" ["java/lang/RuntimeException", "java/lang/Exception"]).filter goodWord)
def wsL_pointsWith_r1 : List Cond := [Cond.classLink RL 19 "java/lang/IllegalArgumentException", Cond.methodLink RL 72 yX10_pointsWith, Cond.instanceMethod yX10_pointsWith, Cond.selects RX10 yX10_pointsWith yX10_pointsWith, Cond.initialized RX10, Cond.code yX10_pointsWith cX10_pointsWith 2 (some .int), Cond.fieldLink RX10 63 "ParetoDesk" "stairs" "LParetoDesk$Stairs;", Cond.fieldLink RX10 56 "ParetoDesk" "choices" "LParetoDesk$Choices;", Cond.methodLink RX10 297 yX10_requireCapacity, Cond.static yX10_requireCapacity, Cond.code yX10_requireCapacity cX10_requireCapacity 1 none, Cond.classLink RX10 109 "java/lang/IllegalArgumentException", Cond.initialized "java/lang/IllegalArgumentException", Cond.methodLink RX10 188 yX10_refreshFrontier, Cond.instanceMethod yX10_refreshFrontier, Cond.selects RX10 yX10_refreshFrontier yX10_refreshFrontier, Cond.code yX10_refreshFrontier cX10_refreshFrontier 1 none, Cond.fieldLink RX10 395 "ParetoDesk" "frontierFresh" "Z", Cond.fieldLink RX10 27 "ParetoDesk" "now" "LParetoDesk$Setup;", Cond.fieldLink RX10 147 "ParetoDesk$Setup" "capacity" "I", Cond.fieldLink RX10 70 "ParetoDesk" "frontier" "LParetoDesk$Frontier;", Cond.methodLink RX10 405 yX0_build, Cond.instanceMethod yX0_build, Cond.selects RX0 yX0_build yX0_build]
def wsL_pointsWith_r2 : List Cond := [Cond.initialized RX0, Cond.code yX0_build cX0_build 5 none, Cond.fieldLink RX0 27 "ParetoDesk$Setup" "limit" "I", Cond.fieldLink RX0 33 "ParetoDesk$Choices" "limit" "I", Cond.fieldLink RX0 34 "ParetoDesk$Setup" "mustSet" "I", Cond.fieldLink RX0 37 "ParetoDesk$Choices" "mustSet" "I", Cond.fieldLink RX0 38 "ParetoDesk$Setup" "neverSet" "I", Cond.fieldLink RX0 41 "ParetoDesk$Choices" "neverSet" "I", Cond.fieldLink RX0 42 "ParetoDesk$Choices" "sets" "I", Cond.fieldLink RX0 45 "ParetoDesk$Setup" "items" "I", Cond.fieldLink RX0 9 "ParetoDesk$Choices" "weight" "[I", Cond.fieldLink RX0 48 "ParetoDesk$Setup" "weight" "[I", Cond.fieldLink RX0 15 "ParetoDesk$Choices" "gain" "[I", Cond.fieldLink RX0 49 "ParetoDesk$Setup" "gain" "[I", Cond.fieldLink RX0 18 "ParetoDesk$Choices" "joy" "[I", Cond.fieldLink RX0 50 "ParetoDesk$Setup" "joy" "[I", Cond.fieldLink RX0 21 "ParetoDesk$Choices" "barred" "[I", Cond.fieldLink RX0 51 "ParetoDesk$Setup" "bars" "[I", Cond.fieldLink RX0 24 "ParetoDesk$Choices" "needed" "[I", Cond.fieldLink RX0 54 "ParetoDesk$Setup" "needs" "[I", Cond.methodLink RX10 290 yX9_build, Cond.instanceMethod yX9_build, Cond.selects RX9 yX9_build yX9_build, Cond.initialized RX9]
def wsL_pointsWith_r3 : List Cond := [Cond.code yX9_build cX9_build 5 none, Cond.fieldLink RX9 9 "ParetoDesk$Stairs" "joyAt" "[I", Cond.fieldLink RX9 21 "ParetoDesk$Stairs" "allowedCount" "I", Cond.fieldLink RX9 25 "ParetoDesk$Choices" "sets" "I", Cond.fieldLink RX9 34 "ParetoDesk$Choices" "gain" "[I", Cond.fieldLink RX9 37 "ParetoDesk$Choices" "joy" "[I", Cond.methodLink RX9 15 yJ7_fill_53178, Cond.static yJ7_fill_53178, Cond.initialized RJ7, Cond.code yJ7_fill_53178 cJ7_fill_53178 4 none, Cond.methodLink RX9 30 yX0_reason, Cond.instanceMethod yX0_reason, Cond.selects RX0 yX0_reason yX0_reason, Cond.code yX0_reason cX0_reason 3 (some .int), Cond.methodLink RX0 57 yX0_reasonBesideWeight, Cond.instanceMethod yX0_reasonBesideWeight, Cond.selects RX0 yX0_reasonBesideWeight yX0_reasonBesideWeight, Cond.code yX0_reasonBesideWeight cX0_reasonBesideWeight 2 (some .int), Cond.methodLink RX0 61 yJ6_bitCount_0f7a4, Cond.static yJ6_bitCount_0f7a4, Cond.initialized RJ6, Cond.code yJ6_bitCount_0f7a4 cJ6_bitCount_0f7a4 1 (some .int), Cond.constant RJ6 265 (1431655765), Cond.constant RJ6 266 (858993459)]
def wsL_pointsWith_r4 : List Cond := [Cond.constant RJ6 267 (252645135), Cond.methodLink RX9 40 yX9_keepGreatest, Cond.instanceMethod yX9_keepGreatest, Cond.selects RX9 yX9_keepGreatest yX9_keepGreatest, Cond.code yX9_keepGreatest cX9_keepGreatest 3 none, Cond.methodLink RX9 44 yX9_dropBeaten, Cond.instanceMethod yX9_dropBeaten, Cond.selects RX9 yX9_dropBeaten yX9_dropBeaten, Cond.code yX9_dropBeaten cX9_dropBeaten 3 none, Cond.methodLink RX10 407 yX2_build, Cond.instanceMethod yX2_build, Cond.selects RX2 yX2_build yX2_build, Cond.initialized RX2, Cond.code yX2_build cX2_build 4 none, Cond.fieldLink RX2 40 "ParetoDesk$Stairs" "allowedCount" "I", Cond.fieldLink RX2 46 "ParetoDesk$Frontier" "allowedCount" "I", Cond.fieldLink RX2 51 "ParetoDesk$Frontier" "areaBelow" "I", Cond.methodLink RX2 47 yX9_areaBelow, Cond.instanceMethod yX9_areaBelow, Cond.selects RX9 yX9_areaBelow yX9_areaBelow, Cond.code yX9_areaBelow cX9_areaBelow 4 (some .int), Cond.methodLink RX2 53 yX2_readPoints, Cond.instanceMethod yX2_readPoints, Cond.selects RX2 yX2_readPoints yX2_readPoints]
def wsL_pointsWith_r5 : List Cond := [Cond.code yX2_readPoints cX2_readPoints 3 none, Cond.fieldLink RX2 67 "ParetoDesk$Frontier" "size" "I", Cond.fieldLink RX2 33 "ParetoDesk$Frontier" "pointAt" "[I", Cond.fieldLink RX2 70 "ParetoDesk$Stairs" "joyAt" "[I", Cond.fieldLink RX2 9 "ParetoDesk$Frontier" "gain" "[I", Cond.fieldLink RX2 15 "ParetoDesk$Frontier" "joy" "[I", Cond.fieldLink RX2 18 "ParetoDesk$Frontier" "choice" "[I", Cond.fieldLink RX2 21 "ParetoDesk$Frontier" "times" "[I", Cond.fieldLink RX2 24 "ParetoDesk$Frontier" "light" "[I", Cond.fieldLink RX2 27 "ParetoDesk$Frontier" "mark" "[I", Cond.methodLink RX2 57 yX2_readChoices, Cond.instanceMethod yX2_readChoices, Cond.selects RX2 yX2_readChoices yX2_readChoices, Cond.code yX2_readChoices cX2_readChoices 5 none, Cond.fieldLink RX2 73 "ParetoDesk$Choices" "sets" "I", Cond.fieldLink RX2 78 "ParetoDesk$Choices" "gain" "[I", Cond.fieldLink RX2 79 "ParetoDesk$Choices" "joy" "[I", Cond.fieldLink RX2 87 "ParetoDesk$Choices" "weight" "[I", Cond.methodLink RX2 80 yX2_pointWithPair, Cond.instanceMethod yX2_pointWithPair, Cond.selects RX2 yX2_pointWithPair yX2_pointWithPair, Cond.code yX2_pointWithPair cX2_pointWithPair 4 (some .int), Cond.methodLink RX2 84 yX0_reason, Cond.methodLink RX2 61 yX2_findVertices]
def wsL_pointsWith_r6 : List Cond := [Cond.instanceMethod yX2_findVertices, Cond.selects RX2 yX2_findVertices yX2_findVertices, Cond.code yX2_findVertices cX2_findVertices 2 none, Cond.fieldLink RX2 90 "ParetoDesk$Frontier" "vertexCount" "I", Cond.fieldLink RX2 30 "ParetoDesk$Frontier" "vertexPoint" "[I", Cond.methodLink RX2 93 yX2_heightOver, Cond.instanceMethod yX2_heightOver, Cond.selects RX2 yX2_heightOver yX2_heightOver, Cond.code yX2_heightOver cX2_heightOver 4 (some .int), Cond.methodLink RX2 97 yX2_gainWon, Cond.instanceMethod yX2_gainWon, Cond.selects RX2 yX2_gainWon yX2_gainWon, Cond.code yX2_gainWon cX2_gainWon 3 (some .int), Cond.methodLink RX2 100 yX2_joyLost, Cond.instanceMethod yX2_joyLost, Cond.selects RX2 yX2_joyLost yX2_joyLost, Cond.code yX2_joyLost cX2_joyLost 3 (some .int), Cond.methodLink RX2 64 yX2_markSupported, Cond.instanceMethod yX2_markSupported, Cond.selects RX2 yX2_markSupported yX2_markSupported, Cond.code yX2_markSupported cX2_markSupported 5 none, Cond.methodLink RX10 300 yX9_countCorners, Cond.instanceMethod yX9_countCorners, Cond.selects RX9 yX9_countCorners yX9_countCorners]
def wsL_pointsWith_r7 : List Cond := [Cond.code yX9_countCorners cX9_countCorners 3 (some .int)]
def wsL_pointsWith : List Cond := .codeWith yL_pointsWith cL_pointsWith 4 (some .int) [(0, 9, 12, 19)] :: ((wsL_pointsWith_r1 ++ (wsL_pointsWith_r2 ++ (wsL_pointsWith_r3 ++ (wsL_pointsWith_r4 ++ (wsL_pointsWith_r5 ++ (wsL_pointsWith_r6 ++ wsL_pointsWith_r7)))))) ++ wsX100 ++ wsX80 ++ wsX00 ++ wsX90 ++ wsX20 ++ (vx_atS RX10 113 "java/lang/IllegalArgumentException" ["java/lang/RuntimeException", "java/lang/Exception"]).filter goodWord)
def wsL_nearTo_r1 : List Cond := [Cond.classLink RL 19 "java/lang/IllegalArgumentException", Cond.methodLink RL 75 yX10_nearTo, Cond.instanceMethod yX10_nearTo, Cond.selects RX10 yX10_nearTo yX10_nearTo, Cond.initialized RX10, Cond.code yX10_nearTo cX10_nearTo 6 (some .int), Cond.fieldLink RX10 70 "ParetoDesk" "frontier" "LParetoDesk$Frontier;", Cond.fieldLink RX10 201 "ParetoDesk$Frontier" "size" "I", Cond.fieldLink RX10 209 "ParetoDesk$Frontier" "choice" "[I", Cond.methodLink RX10 185 yX10_requireSet, Cond.instanceMethod yX10_requireSet, Cond.selects RX10 yX10_requireSet yX10_requireSet, Cond.code yX10_requireSet cX10_requireSet 2 none, Cond.classLink RX10 109 "java/lang/IllegalArgumentException", Cond.initialized "java/lang/IllegalArgumentException", Cond.fieldLink RX10 27 "ParetoDesk" "now" "LParetoDesk$Setup;", Cond.methodLink RX10 282 yX8_everyItem, Cond.instanceMethod yX8_everyItem, Cond.selects RX8 yX8_everyItem yX8_everyItem, Cond.initialized RX8, Cond.code yX8_everyItem cX8_everyItem 1 (some .int), Cond.fieldLink RX8 34 "ParetoDesk$Setup" "items" "I", Cond.methodLink RX10 188 yX10_refreshFrontier, Cond.instanceMethod yX10_refreshFrontier]
def wsL_nearTo_r2 : List Cond := [Cond.selects RX10 yX10_refreshFrontier yX10_refreshFrontier, Cond.code yX10_refreshFrontier cX10_refreshFrontier 1 none, Cond.fieldLink RX10 395 "ParetoDesk" "frontierFresh" "Z", Cond.fieldLink RX10 56 "ParetoDesk" "choices" "LParetoDesk$Choices;", Cond.fieldLink RX10 63 "ParetoDesk" "stairs" "LParetoDesk$Stairs;", Cond.fieldLink RX10 147 "ParetoDesk$Setup" "capacity" "I", Cond.methodLink RX10 405 yX0_build, Cond.instanceMethod yX0_build, Cond.selects RX0 yX0_build yX0_build, Cond.initialized RX0, Cond.code yX0_build cX0_build 5 none, Cond.fieldLink RX0 27 "ParetoDesk$Setup" "limit" "I", Cond.fieldLink RX0 33 "ParetoDesk$Choices" "limit" "I", Cond.fieldLink RX0 34 "ParetoDesk$Setup" "mustSet" "I", Cond.fieldLink RX0 37 "ParetoDesk$Choices" "mustSet" "I", Cond.fieldLink RX0 38 "ParetoDesk$Setup" "neverSet" "I", Cond.fieldLink RX0 41 "ParetoDesk$Choices" "neverSet" "I", Cond.fieldLink RX0 42 "ParetoDesk$Choices" "sets" "I", Cond.fieldLink RX0 45 "ParetoDesk$Setup" "items" "I", Cond.fieldLink RX0 9 "ParetoDesk$Choices" "weight" "[I", Cond.fieldLink RX0 48 "ParetoDesk$Setup" "weight" "[I", Cond.fieldLink RX0 15 "ParetoDesk$Choices" "gain" "[I", Cond.fieldLink RX0 49 "ParetoDesk$Setup" "gain" "[I", Cond.fieldLink RX0 18 "ParetoDesk$Choices" "joy" "[I"]
def wsL_nearTo_r3 : List Cond := [Cond.fieldLink RX0 50 "ParetoDesk$Setup" "joy" "[I", Cond.fieldLink RX0 21 "ParetoDesk$Choices" "barred" "[I", Cond.fieldLink RX0 51 "ParetoDesk$Setup" "bars" "[I", Cond.fieldLink RX0 24 "ParetoDesk$Choices" "needed" "[I", Cond.fieldLink RX0 54 "ParetoDesk$Setup" "needs" "[I", Cond.methodLink RX10 290 yX9_build, Cond.instanceMethod yX9_build, Cond.selects RX9 yX9_build yX9_build, Cond.initialized RX9, Cond.code yX9_build cX9_build 5 none, Cond.fieldLink RX9 9 "ParetoDesk$Stairs" "joyAt" "[I", Cond.fieldLink RX9 21 "ParetoDesk$Stairs" "allowedCount" "I", Cond.fieldLink RX9 25 "ParetoDesk$Choices" "sets" "I", Cond.fieldLink RX9 34 "ParetoDesk$Choices" "gain" "[I", Cond.fieldLink RX9 37 "ParetoDesk$Choices" "joy" "[I", Cond.methodLink RX9 15 yJ7_fill_53178, Cond.static yJ7_fill_53178, Cond.initialized RJ7, Cond.code yJ7_fill_53178 cJ7_fill_53178 4 none, Cond.methodLink RX9 30 yX0_reason, Cond.instanceMethod yX0_reason, Cond.selects RX0 yX0_reason yX0_reason, Cond.code yX0_reason cX0_reason 3 (some .int), Cond.methodLink RX0 57 yX0_reasonBesideWeight]
def wsL_nearTo_r4 : List Cond := [Cond.instanceMethod yX0_reasonBesideWeight, Cond.selects RX0 yX0_reasonBesideWeight yX0_reasonBesideWeight, Cond.code yX0_reasonBesideWeight cX0_reasonBesideWeight 2 (some .int), Cond.methodLink RX0 61 yJ6_bitCount_0f7a4, Cond.static yJ6_bitCount_0f7a4, Cond.initialized RJ6, Cond.code yJ6_bitCount_0f7a4 cJ6_bitCount_0f7a4 1 (some .int), Cond.constant RJ6 265 (1431655765), Cond.constant RJ6 266 (858993459), Cond.constant RJ6 267 (252645135), Cond.methodLink RX9 40 yX9_keepGreatest, Cond.instanceMethod yX9_keepGreatest, Cond.selects RX9 yX9_keepGreatest yX9_keepGreatest, Cond.code yX9_keepGreatest cX9_keepGreatest 3 none, Cond.methodLink RX9 44 yX9_dropBeaten, Cond.instanceMethod yX9_dropBeaten, Cond.selects RX9 yX9_dropBeaten yX9_dropBeaten, Cond.code yX9_dropBeaten cX9_dropBeaten 3 none, Cond.methodLink RX10 407 yX2_build, Cond.instanceMethod yX2_build, Cond.selects RX2 yX2_build yX2_build, Cond.initialized RX2, Cond.code yX2_build cX2_build 4 none, Cond.fieldLink RX2 40 "ParetoDesk$Stairs" "allowedCount" "I"]
def wsL_nearTo_r5 : List Cond := [Cond.fieldLink RX2 46 "ParetoDesk$Frontier" "allowedCount" "I", Cond.fieldLink RX2 51 "ParetoDesk$Frontier" "areaBelow" "I", Cond.methodLink RX2 47 yX9_areaBelow, Cond.instanceMethod yX9_areaBelow, Cond.selects RX9 yX9_areaBelow yX9_areaBelow, Cond.code yX9_areaBelow cX9_areaBelow 4 (some .int), Cond.methodLink RX2 53 yX2_readPoints, Cond.instanceMethod yX2_readPoints, Cond.selects RX2 yX2_readPoints yX2_readPoints, Cond.code yX2_readPoints cX2_readPoints 3 none, Cond.fieldLink RX2 67 "ParetoDesk$Frontier" "size" "I", Cond.fieldLink RX2 33 "ParetoDesk$Frontier" "pointAt" "[I", Cond.fieldLink RX2 70 "ParetoDesk$Stairs" "joyAt" "[I", Cond.fieldLink RX2 9 "ParetoDesk$Frontier" "gain" "[I", Cond.fieldLink RX2 15 "ParetoDesk$Frontier" "joy" "[I", Cond.fieldLink RX2 18 "ParetoDesk$Frontier" "choice" "[I", Cond.fieldLink RX2 21 "ParetoDesk$Frontier" "times" "[I", Cond.fieldLink RX2 24 "ParetoDesk$Frontier" "light" "[I", Cond.fieldLink RX2 27 "ParetoDesk$Frontier" "mark" "[I", Cond.methodLink RX2 57 yX2_readChoices, Cond.instanceMethod yX2_readChoices, Cond.selects RX2 yX2_readChoices yX2_readChoices, Cond.code yX2_readChoices cX2_readChoices 5 none, Cond.fieldLink RX2 73 "ParetoDesk$Choices" "sets" "I"]
def wsL_nearTo_r6 : List Cond := [Cond.fieldLink RX2 78 "ParetoDesk$Choices" "gain" "[I", Cond.fieldLink RX2 79 "ParetoDesk$Choices" "joy" "[I", Cond.fieldLink RX2 87 "ParetoDesk$Choices" "weight" "[I", Cond.methodLink RX2 80 yX2_pointWithPair, Cond.instanceMethod yX2_pointWithPair, Cond.selects RX2 yX2_pointWithPair yX2_pointWithPair, Cond.code yX2_pointWithPair cX2_pointWithPair 4 (some .int), Cond.methodLink RX2 84 yX0_reason, Cond.methodLink RX2 61 yX2_findVertices, Cond.instanceMethod yX2_findVertices, Cond.selects RX2 yX2_findVertices yX2_findVertices, Cond.code yX2_findVertices cX2_findVertices 2 none, Cond.fieldLink RX2 90 "ParetoDesk$Frontier" "vertexCount" "I", Cond.fieldLink RX2 30 "ParetoDesk$Frontier" "vertexPoint" "[I", Cond.methodLink RX2 93 yX2_heightOver, Cond.instanceMethod yX2_heightOver, Cond.selects RX2 yX2_heightOver yX2_heightOver, Cond.code yX2_heightOver cX2_heightOver 4 (some .int), Cond.methodLink RX2 97 yX2_gainWon, Cond.instanceMethod yX2_gainWon, Cond.selects RX2 yX2_gainWon yX2_gainWon, Cond.code yX2_gainWon cX2_gainWon 3 (some .int), Cond.methodLink RX2 100 yX2_joyLost, Cond.instanceMethod yX2_joyLost]
def wsL_nearTo_r7 : List Cond := [Cond.selects RX2 yX2_joyLost yX2_joyLost, Cond.code yX2_joyLost cX2_joyLost 3 (some .int), Cond.methodLink RX2 64 yX2_markSupported, Cond.instanceMethod yX2_markSupported, Cond.selects RX2 yX2_markSupported yX2_markSupported, Cond.code yX2_markSupported cX2_markSupported 5 none, Cond.methodLink RX10 306 yJ6_bitCount_0f7a4]
def wsL_nearTo : List Cond := .codeWith yL_nearTo cL_nearTo 4 (some .int) [(0, 9, 12, 19)] :: ((wsL_nearTo_r1 ++ (wsL_nearTo_r2 ++ (wsL_nearTo_r3 ++ (wsL_nearTo_r4 ++ (wsL_nearTo_r5 ++ (wsL_nearTo_r6 ++ wsL_nearTo_r7)))))) ++ wsX100 ++ wsX20 ++ wsX80 ++ wsX00 ++ wsX90 ++ (vx_atS RX10 113 "java/lang/IllegalArgumentException" ["java/lang/RuntimeException", "java/lang/Exception"]).filter goodWord)
def wsL_apart_r1 : List Cond := [Cond.classLink RL 29 "java/lang/IndexOutOfBoundsException", Cond.methodLink RL 78 yX10_apart, Cond.instanceMethod yX10_apart, Cond.selects RX10 yX10_apart yX10_apart, Cond.initialized RX10, Cond.code yX10_apart cX10_apart 3 (some .int), Cond.fieldLink RX10 70 "ParetoDesk" "frontier" "LParetoDesk$Frontier;", Cond.fieldLink RX10 209 "ParetoDesk$Frontier" "choice" "[I", Cond.methodLink RX10 204 yX10_requirePoint, Cond.instanceMethod yX10_requirePoint, Cond.selects RX10 yX10_requirePoint yX10_requirePoint, Cond.code yX10_requirePoint cX10_requirePoint 2 none, Cond.classLink RX10 240 "java/lang/IndexOutOfBoundsException", Cond.initialized "java/lang/IndexOutOfBoundsException", Cond.fieldLink RX10 201 "ParetoDesk$Frontier" "size" "I", Cond.methodLink RX10 188 yX10_refreshFrontier, Cond.instanceMethod yX10_refreshFrontier, Cond.selects RX10 yX10_refreshFrontier yX10_refreshFrontier, Cond.code yX10_refreshFrontier cX10_refreshFrontier 1 none, Cond.fieldLink RX10 395 "ParetoDesk" "frontierFresh" "Z", Cond.fieldLink RX10 56 "ParetoDesk" "choices" "LParetoDesk$Choices;", Cond.fieldLink RX10 27 "ParetoDesk" "now" "LParetoDesk$Setup;", Cond.fieldLink RX10 63 "ParetoDesk" "stairs" "LParetoDesk$Stairs;", Cond.fieldLink RX10 147 "ParetoDesk$Setup" "capacity" "I"]
def wsL_apart_r2 : List Cond := [Cond.methodLink RX10 405 yX0_build, Cond.instanceMethod yX0_build, Cond.selects RX0 yX0_build yX0_build, Cond.initialized RX0, Cond.code yX0_build cX0_build 5 none, Cond.fieldLink RX0 27 "ParetoDesk$Setup" "limit" "I", Cond.fieldLink RX0 33 "ParetoDesk$Choices" "limit" "I", Cond.fieldLink RX0 34 "ParetoDesk$Setup" "mustSet" "I", Cond.fieldLink RX0 37 "ParetoDesk$Choices" "mustSet" "I", Cond.fieldLink RX0 38 "ParetoDesk$Setup" "neverSet" "I", Cond.fieldLink RX0 41 "ParetoDesk$Choices" "neverSet" "I", Cond.fieldLink RX0 42 "ParetoDesk$Choices" "sets" "I", Cond.fieldLink RX0 45 "ParetoDesk$Setup" "items" "I", Cond.fieldLink RX0 9 "ParetoDesk$Choices" "weight" "[I", Cond.fieldLink RX0 48 "ParetoDesk$Setup" "weight" "[I", Cond.fieldLink RX0 15 "ParetoDesk$Choices" "gain" "[I", Cond.fieldLink RX0 49 "ParetoDesk$Setup" "gain" "[I", Cond.fieldLink RX0 18 "ParetoDesk$Choices" "joy" "[I", Cond.fieldLink RX0 50 "ParetoDesk$Setup" "joy" "[I", Cond.fieldLink RX0 21 "ParetoDesk$Choices" "barred" "[I", Cond.fieldLink RX0 51 "ParetoDesk$Setup" "bars" "[I", Cond.fieldLink RX0 24 "ParetoDesk$Choices" "needed" "[I", Cond.fieldLink RX0 54 "ParetoDesk$Setup" "needs" "[I", Cond.methodLink RX10 290 yX9_build]
def wsL_apart_r3 : List Cond := [Cond.instanceMethod yX9_build, Cond.selects RX9 yX9_build yX9_build, Cond.initialized RX9, Cond.code yX9_build cX9_build 5 none, Cond.fieldLink RX9 9 "ParetoDesk$Stairs" "joyAt" "[I", Cond.fieldLink RX9 21 "ParetoDesk$Stairs" "allowedCount" "I", Cond.fieldLink RX9 25 "ParetoDesk$Choices" "sets" "I", Cond.fieldLink RX9 34 "ParetoDesk$Choices" "gain" "[I", Cond.fieldLink RX9 37 "ParetoDesk$Choices" "joy" "[I", Cond.methodLink RX9 15 yJ7_fill_53178, Cond.static yJ7_fill_53178, Cond.initialized RJ7, Cond.code yJ7_fill_53178 cJ7_fill_53178 4 none, Cond.methodLink RX9 30 yX0_reason, Cond.instanceMethod yX0_reason, Cond.selects RX0 yX0_reason yX0_reason, Cond.code yX0_reason cX0_reason 3 (some .int), Cond.methodLink RX0 57 yX0_reasonBesideWeight, Cond.instanceMethod yX0_reasonBesideWeight, Cond.selects RX0 yX0_reasonBesideWeight yX0_reasonBesideWeight, Cond.code yX0_reasonBesideWeight cX0_reasonBesideWeight 2 (some .int), Cond.methodLink RX0 61 yJ6_bitCount_0f7a4, Cond.static yJ6_bitCount_0f7a4, Cond.initialized RJ6]
def wsL_apart_r4 : List Cond := [Cond.code yJ6_bitCount_0f7a4 cJ6_bitCount_0f7a4 1 (some .int), Cond.constant RJ6 265 (1431655765), Cond.constant RJ6 266 (858993459), Cond.constant RJ6 267 (252645135), Cond.methodLink RX9 40 yX9_keepGreatest, Cond.instanceMethod yX9_keepGreatest, Cond.selects RX9 yX9_keepGreatest yX9_keepGreatest, Cond.code yX9_keepGreatest cX9_keepGreatest 3 none, Cond.methodLink RX9 44 yX9_dropBeaten, Cond.instanceMethod yX9_dropBeaten, Cond.selects RX9 yX9_dropBeaten yX9_dropBeaten, Cond.code yX9_dropBeaten cX9_dropBeaten 3 none, Cond.methodLink RX10 407 yX2_build, Cond.instanceMethod yX2_build, Cond.selects RX2 yX2_build yX2_build, Cond.initialized RX2, Cond.code yX2_build cX2_build 4 none, Cond.fieldLink RX2 40 "ParetoDesk$Stairs" "allowedCount" "I", Cond.fieldLink RX2 46 "ParetoDesk$Frontier" "allowedCount" "I", Cond.fieldLink RX2 51 "ParetoDesk$Frontier" "areaBelow" "I", Cond.methodLink RX2 47 yX9_areaBelow, Cond.instanceMethod yX9_areaBelow, Cond.selects RX9 yX9_areaBelow yX9_areaBelow, Cond.code yX9_areaBelow cX9_areaBelow 4 (some .int)]
def wsL_apart_r5 : List Cond := [Cond.methodLink RX2 53 yX2_readPoints, Cond.instanceMethod yX2_readPoints, Cond.selects RX2 yX2_readPoints yX2_readPoints, Cond.code yX2_readPoints cX2_readPoints 3 none, Cond.fieldLink RX2 67 "ParetoDesk$Frontier" "size" "I", Cond.fieldLink RX2 33 "ParetoDesk$Frontier" "pointAt" "[I", Cond.fieldLink RX2 70 "ParetoDesk$Stairs" "joyAt" "[I", Cond.fieldLink RX2 9 "ParetoDesk$Frontier" "gain" "[I", Cond.fieldLink RX2 15 "ParetoDesk$Frontier" "joy" "[I", Cond.fieldLink RX2 18 "ParetoDesk$Frontier" "choice" "[I", Cond.fieldLink RX2 21 "ParetoDesk$Frontier" "times" "[I", Cond.fieldLink RX2 24 "ParetoDesk$Frontier" "light" "[I", Cond.fieldLink RX2 27 "ParetoDesk$Frontier" "mark" "[I", Cond.methodLink RX2 57 yX2_readChoices, Cond.instanceMethod yX2_readChoices, Cond.selects RX2 yX2_readChoices yX2_readChoices, Cond.code yX2_readChoices cX2_readChoices 5 none, Cond.fieldLink RX2 73 "ParetoDesk$Choices" "sets" "I", Cond.fieldLink RX2 78 "ParetoDesk$Choices" "gain" "[I", Cond.fieldLink RX2 79 "ParetoDesk$Choices" "joy" "[I", Cond.fieldLink RX2 87 "ParetoDesk$Choices" "weight" "[I", Cond.methodLink RX2 80 yX2_pointWithPair, Cond.instanceMethod yX2_pointWithPair, Cond.selects RX2 yX2_pointWithPair yX2_pointWithPair]
def wsL_apart_r6 : List Cond := [Cond.code yX2_pointWithPair cX2_pointWithPair 4 (some .int), Cond.methodLink RX2 84 yX0_reason, Cond.methodLink RX2 61 yX2_findVertices, Cond.instanceMethod yX2_findVertices, Cond.selects RX2 yX2_findVertices yX2_findVertices, Cond.code yX2_findVertices cX2_findVertices 2 none, Cond.fieldLink RX2 90 "ParetoDesk$Frontier" "vertexCount" "I", Cond.fieldLink RX2 30 "ParetoDesk$Frontier" "vertexPoint" "[I", Cond.methodLink RX2 93 yX2_heightOver, Cond.instanceMethod yX2_heightOver, Cond.selects RX2 yX2_heightOver yX2_heightOver, Cond.code yX2_heightOver cX2_heightOver 4 (some .int), Cond.methodLink RX2 97 yX2_gainWon, Cond.instanceMethod yX2_gainWon, Cond.selects RX2 yX2_gainWon yX2_gainWon, Cond.code yX2_gainWon cX2_gainWon 3 (some .int), Cond.methodLink RX2 100 yX2_joyLost, Cond.instanceMethod yX2_joyLost, Cond.selects RX2 yX2_joyLost yX2_joyLost, Cond.code yX2_joyLost cX2_joyLost 3 (some .int), Cond.methodLink RX2 64 yX2_markSupported, Cond.instanceMethod yX2_markSupported, Cond.selects RX2 yX2_markSupported yX2_markSupported, Cond.code yX2_markSupported cX2_markSupported 5 none]
def wsL_apart_r7 : List Cond := [Cond.methodLink RX10 306 yJ6_bitCount_0f7a4]
def wsL_apart : List Cond := .codeWith yL_apart cL_apart 5 (some .int) [(0, 10, 13, 29)] :: ((wsL_apart_r1 ++ (wsL_apart_r2 ++ (wsL_apart_r3 ++ (wsL_apart_r4 ++ (wsL_apart_r5 ++ (wsL_apart_r6 ++ wsL_apart_r7)))))) ++ wsX100 ++ wsX20 ++ wsX80 ++ wsX00 ++ wsX90 ++ (vx_atS RX10 244 "java/lang/IndexOutOfBoundsException" ["java/lang/RuntimeException", "java/lang/Exception"]).filter goodWord)
def wsL_layerSize_r1 : List Cond := [Cond.classLink RL 29 "java/lang/IndexOutOfBoundsException", Cond.methodLink RL 81 yX10_layerSize, Cond.instanceMethod yX10_layerSize, Cond.selects RX10 yX10_layerSize yX10_layerSize, Cond.initialized RX10, Cond.code yX10_layerSize cX10_layerSize 2 (some .int), Cond.classLink RX10 240 "java/lang/IndexOutOfBoundsException", Cond.initialized "java/lang/IndexOutOfBoundsException", Cond.fieldLink RX10 84 "ParetoDesk" "layering" "LParetoDesk$Layers;", Cond.fieldLink RX10 315 "ParetoDesk$Layers" "count" "I", Cond.fieldLink RX10 318 "ParetoDesk$Layers" "size" "[I", Cond.methodLink RX10 312 yX10_refreshLayers, Cond.instanceMethod yX10_refreshLayers, Cond.selects RX10 yX10_refreshLayers yX10_refreshLayers, Cond.code yX10_refreshLayers cX10_refreshLayers 1 none, Cond.fieldLink RX10 402 "ParetoDesk" "layersFresh" "Z", Cond.fieldLink RX10 56 "ParetoDesk" "choices" "LParetoDesk$Choices;", Cond.fieldLink RX10 27 "ParetoDesk" "now" "LParetoDesk$Setup;", Cond.fieldLink RX10 147 "ParetoDesk$Setup" "capacity" "I", Cond.methodLink RX10 188 yX10_refreshFrontier, Cond.instanceMethod yX10_refreshFrontier, Cond.selects RX10 yX10_refreshFrontier yX10_refreshFrontier, Cond.code yX10_refreshFrontier cX10_refreshFrontier 1 none, Cond.fieldLink RX10 395 "ParetoDesk" "frontierFresh" "Z"]
def wsL_layerSize_r2 : List Cond := [Cond.fieldLink RX10 63 "ParetoDesk" "stairs" "LParetoDesk$Stairs;", Cond.fieldLink RX10 70 "ParetoDesk" "frontier" "LParetoDesk$Frontier;", Cond.methodLink RX10 405 yX0_build, Cond.instanceMethod yX0_build, Cond.selects RX0 yX0_build yX0_build, Cond.initialized RX0, Cond.code yX0_build cX0_build 5 none, Cond.fieldLink RX0 27 "ParetoDesk$Setup" "limit" "I", Cond.fieldLink RX0 33 "ParetoDesk$Choices" "limit" "I", Cond.fieldLink RX0 34 "ParetoDesk$Setup" "mustSet" "I", Cond.fieldLink RX0 37 "ParetoDesk$Choices" "mustSet" "I", Cond.fieldLink RX0 38 "ParetoDesk$Setup" "neverSet" "I", Cond.fieldLink RX0 41 "ParetoDesk$Choices" "neverSet" "I", Cond.fieldLink RX0 42 "ParetoDesk$Choices" "sets" "I", Cond.fieldLink RX0 45 "ParetoDesk$Setup" "items" "I", Cond.fieldLink RX0 9 "ParetoDesk$Choices" "weight" "[I", Cond.fieldLink RX0 48 "ParetoDesk$Setup" "weight" "[I", Cond.fieldLink RX0 15 "ParetoDesk$Choices" "gain" "[I", Cond.fieldLink RX0 49 "ParetoDesk$Setup" "gain" "[I", Cond.fieldLink RX0 18 "ParetoDesk$Choices" "joy" "[I", Cond.fieldLink RX0 50 "ParetoDesk$Setup" "joy" "[I", Cond.fieldLink RX0 21 "ParetoDesk$Choices" "barred" "[I", Cond.fieldLink RX0 51 "ParetoDesk$Setup" "bars" "[I", Cond.fieldLink RX0 24 "ParetoDesk$Choices" "needed" "[I"]
def wsL_layerSize_r3 : List Cond := [Cond.fieldLink RX0 54 "ParetoDesk$Setup" "needs" "[I", Cond.methodLink RX10 290 yX9_build, Cond.instanceMethod yX9_build, Cond.selects RX9 yX9_build yX9_build, Cond.initialized RX9, Cond.code yX9_build cX9_build 5 none, Cond.fieldLink RX9 9 "ParetoDesk$Stairs" "joyAt" "[I", Cond.fieldLink RX9 21 "ParetoDesk$Stairs" "allowedCount" "I", Cond.fieldLink RX9 25 "ParetoDesk$Choices" "sets" "I", Cond.fieldLink RX9 34 "ParetoDesk$Choices" "gain" "[I", Cond.fieldLink RX9 37 "ParetoDesk$Choices" "joy" "[I", Cond.methodLink RX9 15 yJ7_fill_53178, Cond.static yJ7_fill_53178, Cond.initialized RJ7, Cond.code yJ7_fill_53178 cJ7_fill_53178 4 none, Cond.methodLink RX9 30 yX0_reason, Cond.instanceMethod yX0_reason, Cond.selects RX0 yX0_reason yX0_reason, Cond.code yX0_reason cX0_reason 3 (some .int), Cond.methodLink RX0 57 yX0_reasonBesideWeight, Cond.instanceMethod yX0_reasonBesideWeight, Cond.selects RX0 yX0_reasonBesideWeight yX0_reasonBesideWeight, Cond.code yX0_reasonBesideWeight cX0_reasonBesideWeight 2 (some .int), Cond.methodLink RX0 61 yJ6_bitCount_0f7a4]
def wsL_layerSize_r4 : List Cond := [Cond.static yJ6_bitCount_0f7a4, Cond.initialized RJ6, Cond.code yJ6_bitCount_0f7a4 cJ6_bitCount_0f7a4 1 (some .int), Cond.constant RJ6 265 (1431655765), Cond.constant RJ6 266 (858993459), Cond.constant RJ6 267 (252645135), Cond.methodLink RX9 40 yX9_keepGreatest, Cond.instanceMethod yX9_keepGreatest, Cond.selects RX9 yX9_keepGreatest yX9_keepGreatest, Cond.code yX9_keepGreatest cX9_keepGreatest 3 none, Cond.methodLink RX9 44 yX9_dropBeaten, Cond.instanceMethod yX9_dropBeaten, Cond.selects RX9 yX9_dropBeaten yX9_dropBeaten, Cond.code yX9_dropBeaten cX9_dropBeaten 3 none, Cond.methodLink RX10 407 yX2_build, Cond.instanceMethod yX2_build, Cond.selects RX2 yX2_build yX2_build, Cond.initialized RX2, Cond.code yX2_build cX2_build 4 none, Cond.fieldLink RX2 40 "ParetoDesk$Stairs" "allowedCount" "I", Cond.fieldLink RX2 46 "ParetoDesk$Frontier" "allowedCount" "I", Cond.fieldLink RX2 51 "ParetoDesk$Frontier" "areaBelow" "I", Cond.methodLink RX2 47 yX9_areaBelow, Cond.instanceMethod yX9_areaBelow]
def wsL_layerSize_r5 : List Cond := [Cond.selects RX9 yX9_areaBelow yX9_areaBelow, Cond.code yX9_areaBelow cX9_areaBelow 4 (some .int), Cond.methodLink RX2 53 yX2_readPoints, Cond.instanceMethod yX2_readPoints, Cond.selects RX2 yX2_readPoints yX2_readPoints, Cond.code yX2_readPoints cX2_readPoints 3 none, Cond.fieldLink RX2 67 "ParetoDesk$Frontier" "size" "I", Cond.fieldLink RX2 33 "ParetoDesk$Frontier" "pointAt" "[I", Cond.fieldLink RX2 70 "ParetoDesk$Stairs" "joyAt" "[I", Cond.fieldLink RX2 9 "ParetoDesk$Frontier" "gain" "[I", Cond.fieldLink RX2 15 "ParetoDesk$Frontier" "joy" "[I", Cond.fieldLink RX2 18 "ParetoDesk$Frontier" "choice" "[I", Cond.fieldLink RX2 21 "ParetoDesk$Frontier" "times" "[I", Cond.fieldLink RX2 24 "ParetoDesk$Frontier" "light" "[I", Cond.fieldLink RX2 27 "ParetoDesk$Frontier" "mark" "[I", Cond.methodLink RX2 57 yX2_readChoices, Cond.instanceMethod yX2_readChoices, Cond.selects RX2 yX2_readChoices yX2_readChoices, Cond.code yX2_readChoices cX2_readChoices 5 none, Cond.fieldLink RX2 73 "ParetoDesk$Choices" "sets" "I", Cond.fieldLink RX2 78 "ParetoDesk$Choices" "gain" "[I", Cond.fieldLink RX2 79 "ParetoDesk$Choices" "joy" "[I", Cond.fieldLink RX2 87 "ParetoDesk$Choices" "weight" "[I", Cond.methodLink RX2 80 yX2_pointWithPair]
def wsL_layerSize_r6 : List Cond := [Cond.instanceMethod yX2_pointWithPair, Cond.selects RX2 yX2_pointWithPair yX2_pointWithPair, Cond.code yX2_pointWithPair cX2_pointWithPair 4 (some .int), Cond.methodLink RX2 84 yX0_reason, Cond.methodLink RX2 61 yX2_findVertices, Cond.instanceMethod yX2_findVertices, Cond.selects RX2 yX2_findVertices yX2_findVertices, Cond.code yX2_findVertices cX2_findVertices 2 none, Cond.fieldLink RX2 90 "ParetoDesk$Frontier" "vertexCount" "I", Cond.fieldLink RX2 30 "ParetoDesk$Frontier" "vertexPoint" "[I", Cond.methodLink RX2 93 yX2_heightOver, Cond.instanceMethod yX2_heightOver, Cond.selects RX2 yX2_heightOver yX2_heightOver, Cond.code yX2_heightOver cX2_heightOver 4 (some .int), Cond.methodLink RX2 97 yX2_gainWon, Cond.instanceMethod yX2_gainWon, Cond.selects RX2 yX2_gainWon yX2_gainWon, Cond.code yX2_gainWon cX2_gainWon 3 (some .int), Cond.methodLink RX2 100 yX2_joyLost, Cond.instanceMethod yX2_joyLost, Cond.selects RX2 yX2_joyLost yX2_joyLost, Cond.code yX2_joyLost cX2_joyLost 3 (some .int), Cond.methodLink RX2 64 yX2_markSupported, Cond.instanceMethod yX2_markSupported]
def wsL_layerSize_r7 : List Cond := [Cond.selects RX2 yX2_markSupported yX2_markSupported, Cond.code yX2_markSupported cX2_markSupported 5 none, Cond.methodLink RX10 413 yX3_build, Cond.instanceMethod yX3_build, Cond.selects RX3 yX3_build yX3_build, Cond.initialized RX3, Cond.code yX3_build cX3_build 4 none, Cond.fieldLink RX3 33 "ParetoDesk$Layers" "count" "I", Cond.methodLink RX3 37 yX3_sortByJoy, Cond.instanceMethod yX3_sortByJoy, Cond.selects RX3 yX3_sortByJoy yX3_sortByJoy, Cond.code yX3_sortByJoy cX3_sortByJoy 4 none, Cond.fieldLink RX3 21 "ParetoDesk$Layers" "firstOfJoy" "[I", Cond.fieldLink RX3 54 "ParetoDesk$Choices" "sets" "I", Cond.fieldLink RX3 9 "ParetoDesk$Layers" "layer" "[I", Cond.fieldLink RX3 63 "ParetoDesk$Choices" "joy" "[I", Cond.fieldLink RX3 24 "ParetoDesk$Layers" "nextOfJoy" "[I", Cond.methodLink RX3 48 yJ7_fill_53178, Cond.methodLink RX3 59 yX0_reason, Cond.methodLink RX3 66 yX3_putAhead, Cond.static yX3_putAhead, Cond.code yX3_putAhead cX3_putAhead 4 none, Cond.methodLink RX3 41 yX3_sortByGain, Cond.instanceMethod yX3_sortByGain]
def wsL_layerSize_r8 : List Cond := [Cond.selects RX3 yX3_sortByGain yX3_sortByGain, Cond.code yX3_sortByGain cX3_sortByGain 5 none, Cond.fieldLink RX3 27 "ParetoDesk$Layers" "firstOfGain" "[I", Cond.fieldLink RX3 70 "ParetoDesk$Choices" "gain" "[I", Cond.fieldLink RX3 30 "ParetoDesk$Layers" "nextOfGain" "[I", Cond.methodLink RX3 45 yX3_placeGain, Cond.instanceMethod yX3_placeGain, Cond.selects RX3 yX3_placeGain yX3_placeGain, Cond.code yX3_placeGain cX3_placeGain 7 none, Cond.methodLink RX3 73 yX3_placePair, Cond.instanceMethod yX3_placePair, Cond.selects RX3 yX3_placePair yX3_placePair, Cond.code yX3_placePair cX3_placePair 3 (some .int), Cond.fieldLink RX3 15 "ParetoDesk$Layers" "size" "[I", Cond.fieldLink RX3 18 "ParetoDesk$Layers" "topJoy" "[I", Cond.methodLink RX3 77 yX3_firstLayerBelow, Cond.instanceMethod yX3_firstLayerBelow, Cond.selects RX3 yX3_firstLayerBelow yX3_firstLayerBelow, Cond.code yX3_firstLayerBelow cX3_firstLayerBelow 6 (some .int)]
def wsL_layerSize : List Cond := .codeWith yL_layerSize cL_layerSize 4 (some .int) [(0, 9, 12, 29)] :: ((wsL_layerSize_r1 ++ (wsL_layerSize_r2 ++ (wsL_layerSize_r3 ++ (wsL_layerSize_r4 ++ (wsL_layerSize_r5 ++ (wsL_layerSize_r6 ++ (wsL_layerSize_r7 ++ wsL_layerSize_r8))))))) ++ wsX100 ++ wsX30 ++ wsX80 ++ wsX00 ++ wsX90 ++ wsX20 ++ (vx_atS RX10 244 "java/lang/IndexOutOfBoundsException" ["java/lang/RuntimeException", "java/lang/Exception"]).filter goodWord)
def wsL_layerOf_r1 : List Cond := [Cond.classLink RL 19 "java/lang/IllegalArgumentException", Cond.methodLink RL 84 yX10_layerOf, Cond.instanceMethod yX10_layerOf, Cond.selects RX10 yX10_layerOf yX10_layerOf, Cond.initialized RX10, Cond.code yX10_layerOf cX10_layerOf 2 (some .int), Cond.fieldLink RX10 84 "ParetoDesk" "layering" "LParetoDesk$Layers;", Cond.fieldLink RX10 320 "ParetoDesk$Layers" "layer" "[I", Cond.methodLink RX10 185 yX10_requireSet, Cond.instanceMethod yX10_requireSet, Cond.selects RX10 yX10_requireSet yX10_requireSet, Cond.code yX10_requireSet cX10_requireSet 2 none, Cond.classLink RX10 109 "java/lang/IllegalArgumentException", Cond.initialized "java/lang/IllegalArgumentException", Cond.fieldLink RX10 27 "ParetoDesk" "now" "LParetoDesk$Setup;", Cond.methodLink RX10 282 yX8_everyItem, Cond.instanceMethod yX8_everyItem, Cond.selects RX8 yX8_everyItem yX8_everyItem, Cond.initialized RX8, Cond.code yX8_everyItem cX8_everyItem 1 (some .int), Cond.fieldLink RX8 34 "ParetoDesk$Setup" "items" "I", Cond.methodLink RX10 312 yX10_refreshLayers, Cond.instanceMethod yX10_refreshLayers, Cond.selects RX10 yX10_refreshLayers yX10_refreshLayers]
def wsL_layerOf_r2 : List Cond := [Cond.code yX10_refreshLayers cX10_refreshLayers 1 none, Cond.fieldLink RX10 402 "ParetoDesk" "layersFresh" "Z", Cond.fieldLink RX10 56 "ParetoDesk" "choices" "LParetoDesk$Choices;", Cond.fieldLink RX10 147 "ParetoDesk$Setup" "capacity" "I", Cond.methodLink RX10 188 yX10_refreshFrontier, Cond.instanceMethod yX10_refreshFrontier, Cond.selects RX10 yX10_refreshFrontier yX10_refreshFrontier, Cond.code yX10_refreshFrontier cX10_refreshFrontier 1 none, Cond.fieldLink RX10 395 "ParetoDesk" "frontierFresh" "Z", Cond.fieldLink RX10 63 "ParetoDesk" "stairs" "LParetoDesk$Stairs;", Cond.fieldLink RX10 70 "ParetoDesk" "frontier" "LParetoDesk$Frontier;", Cond.methodLink RX10 405 yX0_build, Cond.instanceMethod yX0_build, Cond.selects RX0 yX0_build yX0_build, Cond.initialized RX0, Cond.code yX0_build cX0_build 5 none, Cond.fieldLink RX0 27 "ParetoDesk$Setup" "limit" "I", Cond.fieldLink RX0 33 "ParetoDesk$Choices" "limit" "I", Cond.fieldLink RX0 34 "ParetoDesk$Setup" "mustSet" "I", Cond.fieldLink RX0 37 "ParetoDesk$Choices" "mustSet" "I", Cond.fieldLink RX0 38 "ParetoDesk$Setup" "neverSet" "I", Cond.fieldLink RX0 41 "ParetoDesk$Choices" "neverSet" "I", Cond.fieldLink RX0 42 "ParetoDesk$Choices" "sets" "I", Cond.fieldLink RX0 45 "ParetoDesk$Setup" "items" "I"]
def wsL_layerOf_r3 : List Cond := [Cond.fieldLink RX0 9 "ParetoDesk$Choices" "weight" "[I", Cond.fieldLink RX0 48 "ParetoDesk$Setup" "weight" "[I", Cond.fieldLink RX0 15 "ParetoDesk$Choices" "gain" "[I", Cond.fieldLink RX0 49 "ParetoDesk$Setup" "gain" "[I", Cond.fieldLink RX0 18 "ParetoDesk$Choices" "joy" "[I", Cond.fieldLink RX0 50 "ParetoDesk$Setup" "joy" "[I", Cond.fieldLink RX0 21 "ParetoDesk$Choices" "barred" "[I", Cond.fieldLink RX0 51 "ParetoDesk$Setup" "bars" "[I", Cond.fieldLink RX0 24 "ParetoDesk$Choices" "needed" "[I", Cond.fieldLink RX0 54 "ParetoDesk$Setup" "needs" "[I", Cond.methodLink RX10 290 yX9_build, Cond.instanceMethod yX9_build, Cond.selects RX9 yX9_build yX9_build, Cond.initialized RX9, Cond.code yX9_build cX9_build 5 none, Cond.fieldLink RX9 9 "ParetoDesk$Stairs" "joyAt" "[I", Cond.fieldLink RX9 21 "ParetoDesk$Stairs" "allowedCount" "I", Cond.fieldLink RX9 25 "ParetoDesk$Choices" "sets" "I", Cond.fieldLink RX9 34 "ParetoDesk$Choices" "gain" "[I", Cond.fieldLink RX9 37 "ParetoDesk$Choices" "joy" "[I", Cond.methodLink RX9 15 yJ7_fill_53178, Cond.static yJ7_fill_53178, Cond.initialized RJ7, Cond.code yJ7_fill_53178 cJ7_fill_53178 4 none]
def wsL_layerOf_r4 : List Cond := [Cond.methodLink RX9 30 yX0_reason, Cond.instanceMethod yX0_reason, Cond.selects RX0 yX0_reason yX0_reason, Cond.code yX0_reason cX0_reason 3 (some .int), Cond.methodLink RX0 57 yX0_reasonBesideWeight, Cond.instanceMethod yX0_reasonBesideWeight, Cond.selects RX0 yX0_reasonBesideWeight yX0_reasonBesideWeight, Cond.code yX0_reasonBesideWeight cX0_reasonBesideWeight 2 (some .int), Cond.methodLink RX0 61 yJ6_bitCount_0f7a4, Cond.static yJ6_bitCount_0f7a4, Cond.initialized RJ6, Cond.code yJ6_bitCount_0f7a4 cJ6_bitCount_0f7a4 1 (some .int), Cond.constant RJ6 265 (1431655765), Cond.constant RJ6 266 (858993459), Cond.constant RJ6 267 (252645135), Cond.methodLink RX9 40 yX9_keepGreatest, Cond.instanceMethod yX9_keepGreatest, Cond.selects RX9 yX9_keepGreatest yX9_keepGreatest, Cond.code yX9_keepGreatest cX9_keepGreatest 3 none, Cond.methodLink RX9 44 yX9_dropBeaten, Cond.instanceMethod yX9_dropBeaten, Cond.selects RX9 yX9_dropBeaten yX9_dropBeaten, Cond.code yX9_dropBeaten cX9_dropBeaten 3 none, Cond.methodLink RX10 407 yX2_build]
def wsL_layerOf_r5 : List Cond := [Cond.instanceMethod yX2_build, Cond.selects RX2 yX2_build yX2_build, Cond.initialized RX2, Cond.code yX2_build cX2_build 4 none, Cond.fieldLink RX2 40 "ParetoDesk$Stairs" "allowedCount" "I", Cond.fieldLink RX2 46 "ParetoDesk$Frontier" "allowedCount" "I", Cond.fieldLink RX2 51 "ParetoDesk$Frontier" "areaBelow" "I", Cond.methodLink RX2 47 yX9_areaBelow, Cond.instanceMethod yX9_areaBelow, Cond.selects RX9 yX9_areaBelow yX9_areaBelow, Cond.code yX9_areaBelow cX9_areaBelow 4 (some .int), Cond.methodLink RX2 53 yX2_readPoints, Cond.instanceMethod yX2_readPoints, Cond.selects RX2 yX2_readPoints yX2_readPoints, Cond.code yX2_readPoints cX2_readPoints 3 none, Cond.fieldLink RX2 67 "ParetoDesk$Frontier" "size" "I", Cond.fieldLink RX2 33 "ParetoDesk$Frontier" "pointAt" "[I", Cond.fieldLink RX2 70 "ParetoDesk$Stairs" "joyAt" "[I", Cond.fieldLink RX2 9 "ParetoDesk$Frontier" "gain" "[I", Cond.fieldLink RX2 15 "ParetoDesk$Frontier" "joy" "[I", Cond.fieldLink RX2 18 "ParetoDesk$Frontier" "choice" "[I", Cond.fieldLink RX2 21 "ParetoDesk$Frontier" "times" "[I", Cond.fieldLink RX2 24 "ParetoDesk$Frontier" "light" "[I", Cond.fieldLink RX2 27 "ParetoDesk$Frontier" "mark" "[I"]
def wsL_layerOf_r6 : List Cond := [Cond.methodLink RX2 57 yX2_readChoices, Cond.instanceMethod yX2_readChoices, Cond.selects RX2 yX2_readChoices yX2_readChoices, Cond.code yX2_readChoices cX2_readChoices 5 none, Cond.fieldLink RX2 73 "ParetoDesk$Choices" "sets" "I", Cond.fieldLink RX2 78 "ParetoDesk$Choices" "gain" "[I", Cond.fieldLink RX2 79 "ParetoDesk$Choices" "joy" "[I", Cond.fieldLink RX2 87 "ParetoDesk$Choices" "weight" "[I", Cond.methodLink RX2 80 yX2_pointWithPair, Cond.instanceMethod yX2_pointWithPair, Cond.selects RX2 yX2_pointWithPair yX2_pointWithPair, Cond.code yX2_pointWithPair cX2_pointWithPair 4 (some .int), Cond.methodLink RX2 84 yX0_reason, Cond.methodLink RX2 61 yX2_findVertices, Cond.instanceMethod yX2_findVertices, Cond.selects RX2 yX2_findVertices yX2_findVertices, Cond.code yX2_findVertices cX2_findVertices 2 none, Cond.fieldLink RX2 90 "ParetoDesk$Frontier" "vertexCount" "I", Cond.fieldLink RX2 30 "ParetoDesk$Frontier" "vertexPoint" "[I", Cond.methodLink RX2 93 yX2_heightOver, Cond.instanceMethod yX2_heightOver, Cond.selects RX2 yX2_heightOver yX2_heightOver, Cond.code yX2_heightOver cX2_heightOver 4 (some .int), Cond.methodLink RX2 97 yX2_gainWon]
def wsL_layerOf_r7 : List Cond := [Cond.instanceMethod yX2_gainWon, Cond.selects RX2 yX2_gainWon yX2_gainWon, Cond.code yX2_gainWon cX2_gainWon 3 (some .int), Cond.methodLink RX2 100 yX2_joyLost, Cond.instanceMethod yX2_joyLost, Cond.selects RX2 yX2_joyLost yX2_joyLost, Cond.code yX2_joyLost cX2_joyLost 3 (some .int), Cond.methodLink RX2 64 yX2_markSupported, Cond.instanceMethod yX2_markSupported, Cond.selects RX2 yX2_markSupported yX2_markSupported, Cond.code yX2_markSupported cX2_markSupported 5 none, Cond.methodLink RX10 413 yX3_build, Cond.instanceMethod yX3_build, Cond.selects RX3 yX3_build yX3_build, Cond.initialized RX3, Cond.code yX3_build cX3_build 4 none, Cond.fieldLink RX3 33 "ParetoDesk$Layers" "count" "I", Cond.methodLink RX3 37 yX3_sortByJoy, Cond.instanceMethod yX3_sortByJoy, Cond.selects RX3 yX3_sortByJoy yX3_sortByJoy, Cond.code yX3_sortByJoy cX3_sortByJoy 4 none, Cond.fieldLink RX3 21 "ParetoDesk$Layers" "firstOfJoy" "[I", Cond.fieldLink RX3 54 "ParetoDesk$Choices" "sets" "I", Cond.fieldLink RX3 9 "ParetoDesk$Layers" "layer" "[I"]
def wsL_layerOf_r8 : List Cond := [Cond.fieldLink RX3 63 "ParetoDesk$Choices" "joy" "[I", Cond.fieldLink RX3 24 "ParetoDesk$Layers" "nextOfJoy" "[I", Cond.methodLink RX3 48 yJ7_fill_53178, Cond.methodLink RX3 59 yX0_reason, Cond.methodLink RX3 66 yX3_putAhead, Cond.static yX3_putAhead, Cond.code yX3_putAhead cX3_putAhead 4 none, Cond.methodLink RX3 41 yX3_sortByGain, Cond.instanceMethod yX3_sortByGain, Cond.selects RX3 yX3_sortByGain yX3_sortByGain, Cond.code yX3_sortByGain cX3_sortByGain 5 none, Cond.fieldLink RX3 27 "ParetoDesk$Layers" "firstOfGain" "[I", Cond.fieldLink RX3 70 "ParetoDesk$Choices" "gain" "[I", Cond.fieldLink RX3 30 "ParetoDesk$Layers" "nextOfGain" "[I", Cond.methodLink RX3 45 yX3_placeGain, Cond.instanceMethod yX3_placeGain, Cond.selects RX3 yX3_placeGain yX3_placeGain, Cond.code yX3_placeGain cX3_placeGain 7 none, Cond.methodLink RX3 73 yX3_placePair, Cond.instanceMethod yX3_placePair, Cond.selects RX3 yX3_placePair yX3_placePair, Cond.code yX3_placePair cX3_placePair 3 (some .int), Cond.fieldLink RX3 15 "ParetoDesk$Layers" "size" "[I", Cond.fieldLink RX3 18 "ParetoDesk$Layers" "topJoy" "[I"]
def wsL_layerOf_r9 : List Cond := [Cond.methodLink RX3 77 yX3_firstLayerBelow, Cond.instanceMethod yX3_firstLayerBelow, Cond.selects RX3 yX3_firstLayerBelow yX3_firstLayerBelow, Cond.code yX3_firstLayerBelow cX3_firstLayerBelow 6 (some .int)]
def wsL_layerOf : List Cond := .codeWith yL_layerOf cL_layerOf 4 (some .int) [(0, 9, 12, 19)] :: ((wsL_layerOf_r1 ++ (wsL_layerOf_r2 ++ (wsL_layerOf_r3 ++ (wsL_layerOf_r4 ++ (wsL_layerOf_r5 ++ (wsL_layerOf_r6 ++ (wsL_layerOf_r7 ++ (wsL_layerOf_r8 ++ wsL_layerOf_r9)))))))) ++ wsX100 ++ wsX30 ++ wsX80 ++ wsX00 ++ wsX90 ++ wsX20 ++ (vx_atS RX10 113 "java/lang/IllegalArgumentException" ["java/lang/RuntimeException", "java/lang/Exception"]).filter goodWord)
def wsL_climb_r1 : List Cond := [Cond.classLink RL 19 "java/lang/IllegalArgumentException", Cond.methodLink RL 87 yX10_climb, Cond.instanceMethod yX10_climb, Cond.selects RX10 yX10_climb yX10_climb, Cond.initialized RX10, Cond.code yX10_climb cX10_climb 3 (some .int), Cond.fieldLink RX10 91 "ParetoDesk" "climber" "LParetoDesk$Climber;", Cond.fieldLink RX10 56 "ParetoDesk" "choices" "LParetoDesk$Choices;", Cond.fieldLink RX10 27 "ParetoDesk" "now" "LParetoDesk$Setup;", Cond.fieldLink RX10 327 "ParetoDesk$Climber" "at" "I", Cond.methodLink RX10 228 yX10_requireWeights, Cond.static yX10_requireWeights, Cond.code yX10_requireWeights cX10_requireWeights 2 none, Cond.classLink RX10 109 "java/lang/IllegalArgumentException", Cond.initialized "java/lang/IllegalArgumentException", Cond.methodLink RX10 330 yX10_requireValue, Cond.static yX10_requireValue, Cond.code yX10_requireValue cX10_requireValue 1 none, Cond.methodLink RX10 188 yX10_refreshFrontier, Cond.instanceMethod yX10_refreshFrontier, Cond.selects RX10 yX10_refreshFrontier yX10_refreshFrontier, Cond.code yX10_refreshFrontier cX10_refreshFrontier 1 none, Cond.fieldLink RX10 395 "ParetoDesk" "frontierFresh" "Z", Cond.fieldLink RX10 63 "ParetoDesk" "stairs" "LParetoDesk$Stairs;"]
def wsL_climb_r2 : List Cond := [Cond.fieldLink RX10 147 "ParetoDesk$Setup" "capacity" "I", Cond.fieldLink RX10 70 "ParetoDesk" "frontier" "LParetoDesk$Frontier;", Cond.methodLink RX10 405 yX0_build, Cond.instanceMethod yX0_build, Cond.selects RX0 yX0_build yX0_build, Cond.initialized RX0, Cond.code yX0_build cX0_build 5 none, Cond.fieldLink RX0 27 "ParetoDesk$Setup" "limit" "I", Cond.fieldLink RX0 33 "ParetoDesk$Choices" "limit" "I", Cond.fieldLink RX0 34 "ParetoDesk$Setup" "mustSet" "I", Cond.fieldLink RX0 37 "ParetoDesk$Choices" "mustSet" "I", Cond.fieldLink RX0 38 "ParetoDesk$Setup" "neverSet" "I", Cond.fieldLink RX0 41 "ParetoDesk$Choices" "neverSet" "I", Cond.fieldLink RX0 42 "ParetoDesk$Choices" "sets" "I", Cond.fieldLink RX0 45 "ParetoDesk$Setup" "items" "I", Cond.fieldLink RX0 9 "ParetoDesk$Choices" "weight" "[I", Cond.fieldLink RX0 48 "ParetoDesk$Setup" "weight" "[I", Cond.fieldLink RX0 15 "ParetoDesk$Choices" "gain" "[I", Cond.fieldLink RX0 49 "ParetoDesk$Setup" "gain" "[I", Cond.fieldLink RX0 18 "ParetoDesk$Choices" "joy" "[I", Cond.fieldLink RX0 50 "ParetoDesk$Setup" "joy" "[I", Cond.fieldLink RX0 21 "ParetoDesk$Choices" "barred" "[I", Cond.fieldLink RX0 51 "ParetoDesk$Setup" "bars" "[I", Cond.fieldLink RX0 24 "ParetoDesk$Choices" "needed" "[I"]
def wsL_climb_r3 : List Cond := [Cond.fieldLink RX0 54 "ParetoDesk$Setup" "needs" "[I", Cond.methodLink RX10 290 yX9_build, Cond.instanceMethod yX9_build, Cond.selects RX9 yX9_build yX9_build, Cond.initialized RX9, Cond.code yX9_build cX9_build 5 none, Cond.fieldLink RX9 9 "ParetoDesk$Stairs" "joyAt" "[I", Cond.fieldLink RX9 21 "ParetoDesk$Stairs" "allowedCount" "I", Cond.fieldLink RX9 25 "ParetoDesk$Choices" "sets" "I", Cond.fieldLink RX9 34 "ParetoDesk$Choices" "gain" "[I", Cond.fieldLink RX9 37 "ParetoDesk$Choices" "joy" "[I", Cond.methodLink RX9 15 yJ7_fill_53178, Cond.static yJ7_fill_53178, Cond.initialized RJ7, Cond.code yJ7_fill_53178 cJ7_fill_53178 4 none, Cond.methodLink RX9 30 yX0_reason, Cond.instanceMethod yX0_reason, Cond.selects RX0 yX0_reason yX0_reason, Cond.code yX0_reason cX0_reason 3 (some .int), Cond.methodLink RX0 57 yX0_reasonBesideWeight, Cond.instanceMethod yX0_reasonBesideWeight, Cond.selects RX0 yX0_reasonBesideWeight yX0_reasonBesideWeight, Cond.code yX0_reasonBesideWeight cX0_reasonBesideWeight 2 (some .int), Cond.methodLink RX0 61 yJ6_bitCount_0f7a4]
def wsL_climb_r4 : List Cond := [Cond.static yJ6_bitCount_0f7a4, Cond.initialized RJ6, Cond.code yJ6_bitCount_0f7a4 cJ6_bitCount_0f7a4 1 (some .int), Cond.constant RJ6 265 (1431655765), Cond.constant RJ6 266 (858993459), Cond.constant RJ6 267 (252645135), Cond.methodLink RX9 40 yX9_keepGreatest, Cond.instanceMethod yX9_keepGreatest, Cond.selects RX9 yX9_keepGreatest yX9_keepGreatest, Cond.code yX9_keepGreatest cX9_keepGreatest 3 none, Cond.methodLink RX9 44 yX9_dropBeaten, Cond.instanceMethod yX9_dropBeaten, Cond.selects RX9 yX9_dropBeaten yX9_dropBeaten, Cond.code yX9_dropBeaten cX9_dropBeaten 3 none, Cond.methodLink RX10 407 yX2_build, Cond.instanceMethod yX2_build, Cond.selects RX2 yX2_build yX2_build, Cond.initialized RX2, Cond.code yX2_build cX2_build 4 none, Cond.fieldLink RX2 40 "ParetoDesk$Stairs" "allowedCount" "I", Cond.fieldLink RX2 46 "ParetoDesk$Frontier" "allowedCount" "I", Cond.fieldLink RX2 51 "ParetoDesk$Frontier" "areaBelow" "I", Cond.methodLink RX2 47 yX9_areaBelow, Cond.instanceMethod yX9_areaBelow]
def wsL_climb_r5 : List Cond := [Cond.selects RX9 yX9_areaBelow yX9_areaBelow, Cond.code yX9_areaBelow cX9_areaBelow 4 (some .int), Cond.methodLink RX2 53 yX2_readPoints, Cond.instanceMethod yX2_readPoints, Cond.selects RX2 yX2_readPoints yX2_readPoints, Cond.code yX2_readPoints cX2_readPoints 3 none, Cond.fieldLink RX2 67 "ParetoDesk$Frontier" "size" "I", Cond.fieldLink RX2 33 "ParetoDesk$Frontier" "pointAt" "[I", Cond.fieldLink RX2 70 "ParetoDesk$Stairs" "joyAt" "[I", Cond.fieldLink RX2 9 "ParetoDesk$Frontier" "gain" "[I", Cond.fieldLink RX2 15 "ParetoDesk$Frontier" "joy" "[I", Cond.fieldLink RX2 18 "ParetoDesk$Frontier" "choice" "[I", Cond.fieldLink RX2 21 "ParetoDesk$Frontier" "times" "[I", Cond.fieldLink RX2 24 "ParetoDesk$Frontier" "light" "[I", Cond.fieldLink RX2 27 "ParetoDesk$Frontier" "mark" "[I", Cond.methodLink RX2 57 yX2_readChoices, Cond.instanceMethod yX2_readChoices, Cond.selects RX2 yX2_readChoices yX2_readChoices, Cond.code yX2_readChoices cX2_readChoices 5 none, Cond.fieldLink RX2 73 "ParetoDesk$Choices" "sets" "I", Cond.fieldLink RX2 78 "ParetoDesk$Choices" "gain" "[I", Cond.fieldLink RX2 79 "ParetoDesk$Choices" "joy" "[I", Cond.fieldLink RX2 87 "ParetoDesk$Choices" "weight" "[I", Cond.methodLink RX2 80 yX2_pointWithPair]
def wsL_climb_r6 : List Cond := [Cond.instanceMethod yX2_pointWithPair, Cond.selects RX2 yX2_pointWithPair yX2_pointWithPair, Cond.code yX2_pointWithPair cX2_pointWithPair 4 (some .int), Cond.methodLink RX2 84 yX0_reason, Cond.methodLink RX2 61 yX2_findVertices, Cond.instanceMethod yX2_findVertices, Cond.selects RX2 yX2_findVertices yX2_findVertices, Cond.code yX2_findVertices cX2_findVertices 2 none, Cond.fieldLink RX2 90 "ParetoDesk$Frontier" "vertexCount" "I", Cond.fieldLink RX2 30 "ParetoDesk$Frontier" "vertexPoint" "[I", Cond.methodLink RX2 93 yX2_heightOver, Cond.instanceMethod yX2_heightOver, Cond.selects RX2 yX2_heightOver yX2_heightOver, Cond.code yX2_heightOver cX2_heightOver 4 (some .int), Cond.methodLink RX2 97 yX2_gainWon, Cond.instanceMethod yX2_gainWon, Cond.selects RX2 yX2_gainWon yX2_gainWon, Cond.code yX2_gainWon cX2_gainWon 3 (some .int), Cond.methodLink RX2 100 yX2_joyLost, Cond.instanceMethod yX2_joyLost, Cond.selects RX2 yX2_joyLost yX2_joyLost, Cond.code yX2_joyLost cX2_joyLost 3 (some .int), Cond.methodLink RX2 64 yX2_markSupported, Cond.instanceMethod yX2_markSupported]
def wsL_climb_r7 : List Cond := [Cond.selects RX2 yX2_markSupported yX2_markSupported, Cond.code yX2_markSupported cX2_markSupported 5 none, Cond.methodLink RX10 323 yX1_run, Cond.instanceMethod yX1_run, Cond.selects RX1 yX1_run yX1_run, Cond.initialized RX1, Cond.code yX1_run cX1_run 6 none, Cond.fieldLink RX1 9 "ParetoDesk$Setup" "hand" "I", Cond.fieldLink RX1 15 "ParetoDesk$Climber" "at" "I", Cond.fieldLink RX1 20 "ParetoDesk$Climber" "steps" "I", Cond.fieldLink RX1 27 "ParetoDesk$Climber" "bestValue" "I", Cond.fieldLink RX1 34 "ParetoDesk$Climber" "bestSet" "I", Cond.methodLink RX1 23 yX1_lookAround, Cond.instanceMethod yX1_lookAround, Cond.selects RX1 yX1_lookAround yX1_lookAround, Cond.code yX1_lookAround cX1_lookAround 8 none, Cond.fieldLink RX1 37 "ParetoDesk$Setup" "items" "I", Cond.fieldLink RX1 40 "ParetoDesk$Setup" "capacity" "I", Cond.methodLink RX1 43 yX1_lookAt, Cond.instanceMethod yX1_lookAt, Cond.selects RX1 yX1_lookAt yX1_lookAt, Cond.code yX1_lookAt cX1_lookAt 7 none, Cond.methodLink RX1 51 yX0_reason, Cond.methodLink RX1 30 yX1_value]
def wsL_climb_r8 : List Cond := [Cond.static yX1_value, Cond.code yX1_value cX1_value 4 (some .int), Cond.fieldLink RX1 57 "ParetoDesk$Choices" "gain" "[I", Cond.fieldLink RX1 61 "ParetoDesk$Choices" "joy" "[I", Cond.static yX10_hasBit, Cond.code yX10_hasBit cX10_hasBit 2 (some .boolean)]
def wsL_climb : List Cond := .codeWith yL_climb cL_climb 5 (some .int) [(0, 10, 13, 19)] :: ((wsL_climb_r1 ++ (wsL_climb_r2 ++ (wsL_climb_r3 ++ (wsL_climb_r4 ++ (wsL_climb_r5 ++ (wsL_climb_r6 ++ (wsL_climb_r7 ++ wsL_climb_r8))))))) ++ wsX100 ++ wsX10 ++ wsX80 ++ wsX00 ++ wsX90 ++ wsX20 ++ (vx_atS RX10 113 "java/lang/IllegalArgumentException" ["java/lang/RuntimeException", "java/lang/Exception"]).filter goodWord)
def wsL_addItem_r1 : List Cond := [Cond.classLink RL 19 "java/lang/IllegalArgumentException", Cond.classLink RL 13 "java/lang/IllegalStateException", Cond.methodLink RL 90 yX10_addItem, Cond.instanceMethod yX10_addItem, Cond.selects RX10 yX10_addItem yX10_addItem, Cond.initialized RX10, Cond.code yX10_addItem cX10_addItem 4 (some .int), Cond.classLink RX10 98 "java/lang/IllegalStateException", Cond.initialized "java/lang/IllegalStateException", Cond.fieldLink RX10 27 "ParetoDesk" "now" "LParetoDesk$Setup;", Cond.fieldLink RX10 140 "ParetoDesk$Setup" "items" "I", Cond.fieldLink RX10 34 "ParetoDesk" "past" "LParetoDesk$Past;", Cond.methodLink RX10 330 yX10_requireValue, Cond.static yX10_requireValue, Cond.code yX10_requireValue cX10_requireValue 1 none, Cond.classLink RX10 109 "java/lang/IllegalArgumentException", Cond.initialized "java/lang/IllegalArgumentException", Cond.methodLink RX10 127 yX6_push, Cond.instanceMethod yX6_push, Cond.selects RX6 yX6_push yX6_push, Cond.initialized RX6, Cond.code yX6_push cX6_push 2 none, Cond.fieldLink RX6 18 "ParetoDesk$Past" "count" "I", Cond.fieldLink RX6 11 "ParetoDesk$Past" "setups" "[LParetoDesk$Setup;"]
def wsL_addItem_r2 : List Cond := [Cond.methodLink RX6 22 yX6_forgetOldest, Cond.instanceMethod yX6_forgetOldest, Cond.selects RX6 yX6_forgetOldest yX6_forgetOldest, Cond.code yX6_forgetOldest cX6_forgetOldest 3 none, Cond.methodLink RX6 25 yX8_copyFrom, Cond.instanceMethod yX8_copyFrom, Cond.selects RX8 yX8_copyFrom yX8_copyFrom, Cond.initialized RX8, Cond.code yX8_copyFrom cX8_copyFrom 2 none, Cond.fieldLink RX8 34 "ParetoDesk$Setup" "items" "I", Cond.fieldLink RX8 9 "ParetoDesk$Setup" "capacity" "I", Cond.fieldLink RX8 15 "ParetoDesk$Setup" "limit" "I", Cond.fieldLink RX8 43 "ParetoDesk$Setup" "mustSet" "I", Cond.fieldLink RX8 46 "ParetoDesk$Setup" "neverSet" "I", Cond.fieldLink RX8 49 "ParetoDesk$Setup" "hand" "I", Cond.fieldLink RX8 18 "ParetoDesk$Setup" "weight" "[I", Cond.methodLink RX8 52 arraycopyName, Cond.native arraycopyName, Cond.static arraycopyName, Cond.initialized "java/lang/System", Cond.fieldLink RX8 22 "ParetoDesk$Setup" "gain" "[I", Cond.fieldLink RX8 25 "ParetoDesk$Setup" "joy" "[I", Cond.fieldLink RX8 28 "ParetoDesk$Setup" "bars" "[I", Cond.fieldLink RX8 31 "ParetoDesk$Setup" "needs" "[I"]
def wsL_addItem_r3 : List Cond := [Cond.methodLink RX10 335 yX8_addLast, Cond.instanceMethod yX8_addLast, Cond.selects RX8 yX8_addLast yX8_addLast, Cond.code yX8_addLast cX8_addLast 4 none, Cond.methodLink RX10 137 yX10_markChanged, Cond.instanceMethod yX10_markChanged, Cond.selects RX10 yX10_markChanged yX10_markChanged, Cond.code yX10_markChanged cX10_markChanged 1 none, Cond.fieldLink RX10 395 "ParetoDesk" "frontierFresh" "Z", Cond.fieldLink RX10 399 "ParetoDesk" "searchFresh" "Z", Cond.fieldLink RX10 402 "ParetoDesk" "layersFresh" "Z"]
def wsL_addItem : List Cond := .codeWith yL_addItem cL_addItem 6 (some .int) [(0, 12, 15, 19), (0, 12, 19, 13)] :: ((wsL_addItem_r1 ++ (wsL_addItem_r2 ++ wsL_addItem_r3)) ++ wsX100 ++ wsX80 ++ wsX60 ++ (vx_atS RX10 102 "java/lang/IllegalStateException" ["java/lang/RuntimeException", "java/lang/Exception"]).filter goodWord ++ (vx_atS RX10 113 "java/lang/IllegalArgumentException" ["java/lang/RuntimeException", "java/lang/Exception"]).filter goodWord)
def wsL_dropItem_r1 : List Cond := [Cond.classLink RL 29 "java/lang/IndexOutOfBoundsException", Cond.methodLink RL 94 yX10_dropItem, Cond.instanceMethod yX10_dropItem, Cond.selects RX10 yX10_dropItem yX10_dropItem, Cond.initialized RX10, Cond.code yX10_dropItem cX10_dropItem 2 (some .int), Cond.fieldLink RX10 34 "ParetoDesk" "past" "LParetoDesk$Past;", Cond.fieldLink RX10 27 "ParetoDesk" "now" "LParetoDesk$Setup;", Cond.fieldLink RX10 140 "ParetoDesk$Setup" "items" "I", Cond.methodLink RX10 173 yX10_requireItem, Cond.instanceMethod yX10_requireItem, Cond.selects RX10 yX10_requireItem yX10_requireItem, Cond.code yX10_requireItem cX10_requireItem 2 none, Cond.classLink RX10 240 "java/lang/IndexOutOfBoundsException", Cond.initialized "java/lang/IndexOutOfBoundsException", Cond.methodLink RX10 416 yX8_hasItem, Cond.instanceMethod yX8_hasItem, Cond.selects RX8 yX8_hasItem yX8_hasItem, Cond.initialized RX8, Cond.code yX8_hasItem cX8_hasItem 2 (some .boolean), Cond.fieldLink RX8 34 "ParetoDesk$Setup" "items" "I", Cond.methodLink RX10 127 yX6_push, Cond.instanceMethod yX6_push, Cond.selects RX6 yX6_push yX6_push]
def wsL_dropItem_r2 : List Cond := [Cond.initialized RX6, Cond.code yX6_push cX6_push 2 none, Cond.fieldLink RX6 18 "ParetoDesk$Past" "count" "I", Cond.fieldLink RX6 11 "ParetoDesk$Past" "setups" "[LParetoDesk$Setup;", Cond.methodLink RX6 22 yX6_forgetOldest, Cond.instanceMethod yX6_forgetOldest, Cond.selects RX6 yX6_forgetOldest yX6_forgetOldest, Cond.code yX6_forgetOldest cX6_forgetOldest 3 none, Cond.methodLink RX6 25 yX8_copyFrom, Cond.instanceMethod yX8_copyFrom, Cond.selects RX8 yX8_copyFrom yX8_copyFrom, Cond.code yX8_copyFrom cX8_copyFrom 2 none, Cond.fieldLink RX8 9 "ParetoDesk$Setup" "capacity" "I", Cond.fieldLink RX8 15 "ParetoDesk$Setup" "limit" "I", Cond.fieldLink RX8 43 "ParetoDesk$Setup" "mustSet" "I", Cond.fieldLink RX8 46 "ParetoDesk$Setup" "neverSet" "I", Cond.fieldLink RX8 49 "ParetoDesk$Setup" "hand" "I", Cond.fieldLink RX8 18 "ParetoDesk$Setup" "weight" "[I", Cond.methodLink RX8 52 arraycopyName, Cond.native arraycopyName, Cond.static arraycopyName, Cond.initialized "java/lang/System", Cond.fieldLink RX8 22 "ParetoDesk$Setup" "gain" "[I", Cond.fieldLink RX8 25 "ParetoDesk$Setup" "joy" "[I"]
def wsL_dropItem_r3 : List Cond := [Cond.fieldLink RX8 28 "ParetoDesk$Setup" "bars" "[I", Cond.fieldLink RX8 31 "ParetoDesk$Setup" "needs" "[I", Cond.methodLink RX10 339 yX8_drop, Cond.instanceMethod yX8_drop, Cond.selects RX8 yX8_drop yX8_drop, Cond.code yX8_drop cX8_drop 3 none, Cond.methodLink RX8 58 yX8_withoutPlace, Cond.static yX8_withoutPlace, Cond.code yX8_withoutPlace cX8_withoutPlace 4 (some .int), Cond.methodLink RX10 137 yX10_markChanged, Cond.instanceMethod yX10_markChanged, Cond.selects RX10 yX10_markChanged yX10_markChanged, Cond.code yX10_markChanged cX10_markChanged 1 none, Cond.fieldLink RX10 395 "ParetoDesk" "frontierFresh" "Z", Cond.fieldLink RX10 399 "ParetoDesk" "searchFresh" "Z", Cond.fieldLink RX10 402 "ParetoDesk" "layersFresh" "Z"]
def wsL_dropItem : List Cond := .codeWith yL_dropItem cL_dropItem 4 (some .int) [(0, 9, 12, 29)] :: ((wsL_dropItem_r1 ++ (wsL_dropItem_r2 ++ wsL_dropItem_r3)) ++ wsX100 ++ wsX80 ++ wsX60 ++ (vx_atS RX10 244 "java/lang/IndexOutOfBoundsException" ["java/lang/RuntimeException", "java/lang/Exception"]).filter goodWord)
def wsL_setItem_r1 : List Cond := [Cond.classLink RL 29 "java/lang/IndexOutOfBoundsException", Cond.classLink RL 19 "java/lang/IllegalArgumentException", Cond.methodLink RL 97 yX10_setItem, Cond.instanceMethod yX10_setItem, Cond.selects RX10 yX10_setItem yX10_setItem, Cond.initialized RX10, Cond.code yX10_setItem cX10_setItem 6 (some .int), Cond.fieldLink RX10 34 "ParetoDesk" "past" "LParetoDesk$Past;", Cond.fieldLink RX10 27 "ParetoDesk" "now" "LParetoDesk$Setup;", Cond.fieldLink RX10 176 "ParetoDesk$Setup" "weight" "[I", Cond.fieldLink RX10 179 "ParetoDesk$Setup" "gain" "[I", Cond.fieldLink RX10 182 "ParetoDesk$Setup" "joy" "[I", Cond.methodLink RX10 173 yX10_requireItem, Cond.instanceMethod yX10_requireItem, Cond.selects RX10 yX10_requireItem yX10_requireItem, Cond.code yX10_requireItem cX10_requireItem 2 none, Cond.classLink RX10 240 "java/lang/IndexOutOfBoundsException", Cond.initialized "java/lang/IndexOutOfBoundsException", Cond.methodLink RX10 416 yX8_hasItem, Cond.instanceMethod yX8_hasItem, Cond.selects RX8 yX8_hasItem yX8_hasItem, Cond.initialized RX8, Cond.code yX8_hasItem cX8_hasItem 2 (some .boolean), Cond.fieldLink RX8 34 "ParetoDesk$Setup" "items" "I"]
def wsL_setItem_r2 : List Cond := [Cond.methodLink RX10 143 yX10_requireWhat, Cond.static yX10_requireWhat, Cond.code yX10_requireWhat cX10_requireWhat 2 none, Cond.classLink RX10 109 "java/lang/IllegalArgumentException", Cond.initialized "java/lang/IllegalArgumentException", Cond.methodLink RX10 330 yX10_requireValue, Cond.static yX10_requireValue, Cond.code yX10_requireValue cX10_requireValue 1 none, Cond.methodLink RX10 127 yX6_push, Cond.instanceMethod yX6_push, Cond.selects RX6 yX6_push yX6_push, Cond.initialized RX6, Cond.code yX6_push cX6_push 2 none, Cond.fieldLink RX6 18 "ParetoDesk$Past" "count" "I", Cond.fieldLink RX6 11 "ParetoDesk$Past" "setups" "[LParetoDesk$Setup;", Cond.methodLink RX6 22 yX6_forgetOldest, Cond.instanceMethod yX6_forgetOldest, Cond.selects RX6 yX6_forgetOldest yX6_forgetOldest, Cond.code yX6_forgetOldest cX6_forgetOldest 3 none, Cond.methodLink RX6 25 yX8_copyFrom, Cond.instanceMethod yX8_copyFrom, Cond.selects RX8 yX8_copyFrom yX8_copyFrom, Cond.code yX8_copyFrom cX8_copyFrom 2 none, Cond.fieldLink RX8 9 "ParetoDesk$Setup" "capacity" "I"]
def wsL_setItem_r3 : List Cond := [Cond.fieldLink RX8 15 "ParetoDesk$Setup" "limit" "I", Cond.fieldLink RX8 43 "ParetoDesk$Setup" "mustSet" "I", Cond.fieldLink RX8 46 "ParetoDesk$Setup" "neverSet" "I", Cond.fieldLink RX8 49 "ParetoDesk$Setup" "hand" "I", Cond.fieldLink RX8 18 "ParetoDesk$Setup" "weight" "[I", Cond.methodLink RX8 52 arraycopyName, Cond.native arraycopyName, Cond.static arraycopyName, Cond.initialized "java/lang/System", Cond.fieldLink RX8 22 "ParetoDesk$Setup" "gain" "[I", Cond.fieldLink RX8 25 "ParetoDesk$Setup" "joy" "[I", Cond.fieldLink RX8 28 "ParetoDesk$Setup" "bars" "[I", Cond.fieldLink RX8 31 "ParetoDesk$Setup" "needs" "[I", Cond.methodLink RX10 137 yX10_markChanged, Cond.instanceMethod yX10_markChanged, Cond.selects RX10 yX10_markChanged yX10_markChanged, Cond.code yX10_markChanged cX10_markChanged 1 none, Cond.fieldLink RX10 395 "ParetoDesk" "frontierFresh" "Z", Cond.fieldLink RX10 399 "ParetoDesk" "searchFresh" "Z", Cond.fieldLink RX10 402 "ParetoDesk" "layersFresh" "Z"]
def wsL_setItem : List Cond := .codeWith yL_setItem cL_setItem 6 (some .int) [(0, 12, 15, 29), (0, 12, 19, 19)] :: ((wsL_setItem_r1 ++ (wsL_setItem_r2 ++ wsL_setItem_r3)) ++ wsX100 ++ wsX80 ++ wsX60 ++ (vx_atS RX10 244 "java/lang/IndexOutOfBoundsException" ["java/lang/RuntimeException", "java/lang/Exception"]).filter goodWord ++ (vx_atS RX10 113 "java/lang/IllegalArgumentException" ["java/lang/RuntimeException", "java/lang/Exception"]).filter goodWord)
def wsL_setCapacity_r1 : List Cond := [Cond.classLink RL 19 "java/lang/IllegalArgumentException", Cond.methodLink RL 100 yX10_setCapacity, Cond.instanceMethod yX10_setCapacity, Cond.selects RX10 yX10_setCapacity yX10_setCapacity, Cond.initialized RX10, Cond.code yX10_setCapacity cX10_setCapacity 3 (some .int), Cond.fieldLink RX10 34 "ParetoDesk" "past" "LParetoDesk$Past;", Cond.fieldLink RX10 27 "ParetoDesk" "now" "LParetoDesk$Setup;", Cond.fieldLink RX10 147 "ParetoDesk$Setup" "capacity" "I", Cond.methodLink RX10 297 yX10_requireCapacity, Cond.static yX10_requireCapacity, Cond.code yX10_requireCapacity cX10_requireCapacity 1 none, Cond.classLink RX10 109 "java/lang/IllegalArgumentException", Cond.initialized "java/lang/IllegalArgumentException", Cond.methodLink RX10 127 yX6_push, Cond.instanceMethod yX6_push, Cond.selects RX6 yX6_push yX6_push, Cond.initialized RX6, Cond.code yX6_push cX6_push 2 none, Cond.fieldLink RX6 18 "ParetoDesk$Past" "count" "I", Cond.fieldLink RX6 11 "ParetoDesk$Past" "setups" "[LParetoDesk$Setup;", Cond.methodLink RX6 22 yX6_forgetOldest, Cond.instanceMethod yX6_forgetOldest, Cond.selects RX6 yX6_forgetOldest yX6_forgetOldest]
def wsL_setCapacity_r2 : List Cond := [Cond.code yX6_forgetOldest cX6_forgetOldest 3 none, Cond.methodLink RX6 25 yX8_copyFrom, Cond.instanceMethod yX8_copyFrom, Cond.selects RX8 yX8_copyFrom yX8_copyFrom, Cond.initialized RX8, Cond.code yX8_copyFrom cX8_copyFrom 2 none, Cond.fieldLink RX8 34 "ParetoDesk$Setup" "items" "I", Cond.fieldLink RX8 9 "ParetoDesk$Setup" "capacity" "I", Cond.fieldLink RX8 15 "ParetoDesk$Setup" "limit" "I", Cond.fieldLink RX8 43 "ParetoDesk$Setup" "mustSet" "I", Cond.fieldLink RX8 46 "ParetoDesk$Setup" "neverSet" "I", Cond.fieldLink RX8 49 "ParetoDesk$Setup" "hand" "I", Cond.fieldLink RX8 18 "ParetoDesk$Setup" "weight" "[I", Cond.methodLink RX8 52 arraycopyName, Cond.native arraycopyName, Cond.static arraycopyName, Cond.initialized "java/lang/System", Cond.fieldLink RX8 22 "ParetoDesk$Setup" "gain" "[I", Cond.fieldLink RX8 25 "ParetoDesk$Setup" "joy" "[I", Cond.fieldLink RX8 28 "ParetoDesk$Setup" "bars" "[I", Cond.fieldLink RX8 31 "ParetoDesk$Setup" "needs" "[I", Cond.methodLink RX10 137 yX10_markChanged, Cond.instanceMethod yX10_markChanged, Cond.selects RX10 yX10_markChanged yX10_markChanged]
def wsL_setCapacity_r3 : List Cond := [Cond.code yX10_markChanged cX10_markChanged 1 none, Cond.fieldLink RX10 395 "ParetoDesk" "frontierFresh" "Z", Cond.fieldLink RX10 399 "ParetoDesk" "searchFresh" "Z", Cond.fieldLink RX10 402 "ParetoDesk" "layersFresh" "Z"]
def wsL_setCapacity : List Cond := .codeWith yL_setCapacity cL_setCapacity 4 (some .int) [(0, 9, 12, 19)] :: ((wsL_setCapacity_r1 ++ (wsL_setCapacity_r2 ++ wsL_setCapacity_r3)) ++ wsX100 ++ wsX80 ++ wsX60 ++ (vx_atS RX10 113 "java/lang/IllegalArgumentException" ["java/lang/RuntimeException", "java/lang/Exception"]).filter goodWord)
def wsL_setLimit_r1 : List Cond := [Cond.classLink RL 19 "java/lang/IllegalArgumentException", Cond.methodLink RL 103 yX10_setLimit, Cond.instanceMethod yX10_setLimit, Cond.selects RX10 yX10_setLimit yX10_setLimit, Cond.initialized RX10, Cond.code yX10_setLimit cX10_setLimit 3 (some .int), Cond.classLink RX10 109 "java/lang/IllegalArgumentException", Cond.initialized "java/lang/IllegalArgumentException", Cond.fieldLink RX10 34 "ParetoDesk" "past" "LParetoDesk$Past;", Cond.fieldLink RX10 27 "ParetoDesk" "now" "LParetoDesk$Setup;", Cond.fieldLink RX10 150 "ParetoDesk$Setup" "limit" "I", Cond.methodLink RX10 127 yX6_push, Cond.instanceMethod yX6_push, Cond.selects RX6 yX6_push yX6_push, Cond.initialized RX6, Cond.code yX6_push cX6_push 2 none, Cond.fieldLink RX6 18 "ParetoDesk$Past" "count" "I", Cond.fieldLink RX6 11 "ParetoDesk$Past" "setups" "[LParetoDesk$Setup;", Cond.methodLink RX6 22 yX6_forgetOldest, Cond.instanceMethod yX6_forgetOldest, Cond.selects RX6 yX6_forgetOldest yX6_forgetOldest, Cond.code yX6_forgetOldest cX6_forgetOldest 3 none, Cond.methodLink RX6 25 yX8_copyFrom, Cond.instanceMethod yX8_copyFrom]
def wsL_setLimit_r2 : List Cond := [Cond.selects RX8 yX8_copyFrom yX8_copyFrom, Cond.initialized RX8, Cond.code yX8_copyFrom cX8_copyFrom 2 none, Cond.fieldLink RX8 34 "ParetoDesk$Setup" "items" "I", Cond.fieldLink RX8 9 "ParetoDesk$Setup" "capacity" "I", Cond.fieldLink RX8 15 "ParetoDesk$Setup" "limit" "I", Cond.fieldLink RX8 43 "ParetoDesk$Setup" "mustSet" "I", Cond.fieldLink RX8 46 "ParetoDesk$Setup" "neverSet" "I", Cond.fieldLink RX8 49 "ParetoDesk$Setup" "hand" "I", Cond.fieldLink RX8 18 "ParetoDesk$Setup" "weight" "[I", Cond.methodLink RX8 52 arraycopyName, Cond.native arraycopyName, Cond.static arraycopyName, Cond.initialized "java/lang/System", Cond.fieldLink RX8 22 "ParetoDesk$Setup" "gain" "[I", Cond.fieldLink RX8 25 "ParetoDesk$Setup" "joy" "[I", Cond.fieldLink RX8 28 "ParetoDesk$Setup" "bars" "[I", Cond.fieldLink RX8 31 "ParetoDesk$Setup" "needs" "[I", Cond.methodLink RX10 137 yX10_markChanged, Cond.instanceMethod yX10_markChanged, Cond.selects RX10 yX10_markChanged yX10_markChanged, Cond.code yX10_markChanged cX10_markChanged 1 none, Cond.fieldLink RX10 395 "ParetoDesk" "frontierFresh" "Z", Cond.fieldLink RX10 399 "ParetoDesk" "searchFresh" "Z"]
def wsL_setLimit_r3 : List Cond := [Cond.fieldLink RX10 402 "ParetoDesk" "layersFresh" "Z"]
def wsL_setLimit : List Cond := .codeWith yL_setLimit cL_setLimit 4 (some .int) [(0, 9, 12, 19)] :: ((wsL_setLimit_r1 ++ (wsL_setLimit_r2 ++ wsL_setLimit_r3)) ++ wsX100 ++ wsX80 ++ wsX60 ++ (vx_atS RX10 113 "java/lang/IllegalArgumentException" ["java/lang/RuntimeException", "java/lang/Exception"]).filter goodWord)
def wsL_bar_r1 : List Cond := [Cond.classLink RL 29 "java/lang/IndexOutOfBoundsException", Cond.classLink RL 19 "java/lang/IllegalArgumentException", Cond.methodLink RL 106 yX10_bar, Cond.instanceMethod yX10_bar, Cond.selects RX10 yX10_bar yX10_bar, Cond.initialized RX10, Cond.code yX10_bar cX10_bar 5 (some .boolean), Cond.fieldLink RX10 34 "ParetoDesk" "past" "LParetoDesk$Past;", Cond.fieldLink RX10 27 "ParetoDesk" "now" "LParetoDesk$Setup;", Cond.fieldLink RX10 153 "ParetoDesk$Setup" "bars" "[I", Cond.methodLink RX10 344 yX10_requireTwoItems, Cond.instanceMethod yX10_requireTwoItems, Cond.selects RX10 yX10_requireTwoItems yX10_requireTwoItems, Cond.code yX10_requireTwoItems cX10_requireTwoItems 3 none, Cond.classLink RX10 109 "java/lang/IllegalArgumentException", Cond.initialized "java/lang/IllegalArgumentException", Cond.methodLink RX10 173 yX10_requireItem, Cond.instanceMethod yX10_requireItem, Cond.selects RX10 yX10_requireItem yX10_requireItem, Cond.code yX10_requireItem cX10_requireItem 2 none, Cond.classLink RX10 240 "java/lang/IndexOutOfBoundsException", Cond.initialized "java/lang/IndexOutOfBoundsException", Cond.methodLink RX10 416 yX8_hasItem, Cond.instanceMethod yX8_hasItem]
def wsL_bar_r2 : List Cond := [Cond.selects RX8 yX8_hasItem yX8_hasItem, Cond.initialized RX8, Cond.code yX8_hasItem cX8_hasItem 2 (some .boolean), Cond.fieldLink RX8 34 "ParetoDesk$Setup" "items" "I", Cond.methodLink RX10 127 yX6_push, Cond.instanceMethod yX6_push, Cond.selects RX6 yX6_push yX6_push, Cond.initialized RX6, Cond.code yX6_push cX6_push 2 none, Cond.fieldLink RX6 18 "ParetoDesk$Past" "count" "I", Cond.fieldLink RX6 11 "ParetoDesk$Past" "setups" "[LParetoDesk$Setup;", Cond.methodLink RX6 22 yX6_forgetOldest, Cond.instanceMethod yX6_forgetOldest, Cond.selects RX6 yX6_forgetOldest yX6_forgetOldest, Cond.code yX6_forgetOldest cX6_forgetOldest 3 none, Cond.methodLink RX6 25 yX8_copyFrom, Cond.instanceMethod yX8_copyFrom, Cond.selects RX8 yX8_copyFrom yX8_copyFrom, Cond.code yX8_copyFrom cX8_copyFrom 2 none, Cond.fieldLink RX8 9 "ParetoDesk$Setup" "capacity" "I", Cond.fieldLink RX8 15 "ParetoDesk$Setup" "limit" "I", Cond.fieldLink RX8 43 "ParetoDesk$Setup" "mustSet" "I", Cond.fieldLink RX8 46 "ParetoDesk$Setup" "neverSet" "I", Cond.fieldLink RX8 49 "ParetoDesk$Setup" "hand" "I"]
def wsL_bar_r3 : List Cond := [Cond.fieldLink RX8 18 "ParetoDesk$Setup" "weight" "[I", Cond.methodLink RX8 52 arraycopyName, Cond.native arraycopyName, Cond.static arraycopyName, Cond.initialized "java/lang/System", Cond.fieldLink RX8 22 "ParetoDesk$Setup" "gain" "[I", Cond.fieldLink RX8 25 "ParetoDesk$Setup" "joy" "[I", Cond.fieldLink RX8 28 "ParetoDesk$Setup" "bars" "[I", Cond.fieldLink RX8 31 "ParetoDesk$Setup" "needs" "[I", Cond.methodLink RX10 347 yX10_hasBit, Cond.static yX10_hasBit, Cond.code yX10_hasBit cX10_hasBit 2 (some .boolean), Cond.methodLink RX10 351 yX10_withBit, Cond.static yX10_withBit, Cond.code yX10_withBit cX10_withBit 3 (some .int), Cond.methodLink RX10 137 yX10_markChanged, Cond.instanceMethod yX10_markChanged, Cond.selects RX10 yX10_markChanged yX10_markChanged, Cond.code yX10_markChanged cX10_markChanged 1 none, Cond.fieldLink RX10 395 "ParetoDesk" "frontierFresh" "Z", Cond.fieldLink RX10 399 "ParetoDesk" "searchFresh" "Z", Cond.fieldLink RX10 402 "ParetoDesk" "layersFresh" "Z"]
def wsL_bar : List Cond := .codeWith yL_bar cL_bar 6 (some .int) [(0, 19, 22, 29), (0, 19, 26, 19)] :: ((wsL_bar_r1 ++ (wsL_bar_r2 ++ wsL_bar_r3)) ++ wsX100 ++ wsX80 ++ wsX60 ++ (vx_atS RX10 113 "java/lang/IllegalArgumentException" ["java/lang/RuntimeException", "java/lang/Exception"]).filter goodWord ++ (vx_atS RX10 244 "java/lang/IndexOutOfBoundsException" ["java/lang/RuntimeException", "java/lang/Exception"]).filter goodWord)
def wsL_need_r1 : List Cond := [Cond.classLink RL 29 "java/lang/IndexOutOfBoundsException", Cond.classLink RL 19 "java/lang/IllegalArgumentException", Cond.methodLink RL 110 yX10_need, Cond.instanceMethod yX10_need, Cond.selects RX10 yX10_need yX10_need, Cond.initialized RX10, Cond.code yX10_need cX10_need 5 (some .boolean), Cond.fieldLink RX10 34 "ParetoDesk" "past" "LParetoDesk$Past;", Cond.fieldLink RX10 27 "ParetoDesk" "now" "LParetoDesk$Setup;", Cond.fieldLink RX10 161 "ParetoDesk$Setup" "needs" "[I", Cond.methodLink RX10 344 yX10_requireTwoItems, Cond.instanceMethod yX10_requireTwoItems, Cond.selects RX10 yX10_requireTwoItems yX10_requireTwoItems, Cond.code yX10_requireTwoItems cX10_requireTwoItems 3 none, Cond.classLink RX10 109 "java/lang/IllegalArgumentException", Cond.initialized "java/lang/IllegalArgumentException", Cond.methodLink RX10 173 yX10_requireItem, Cond.instanceMethod yX10_requireItem, Cond.selects RX10 yX10_requireItem yX10_requireItem, Cond.code yX10_requireItem cX10_requireItem 2 none, Cond.classLink RX10 240 "java/lang/IndexOutOfBoundsException", Cond.initialized "java/lang/IndexOutOfBoundsException", Cond.methodLink RX10 416 yX8_hasItem, Cond.instanceMethod yX8_hasItem]
def wsL_need_r2 : List Cond := [Cond.selects RX8 yX8_hasItem yX8_hasItem, Cond.initialized RX8, Cond.code yX8_hasItem cX8_hasItem 2 (some .boolean), Cond.fieldLink RX8 34 "ParetoDesk$Setup" "items" "I", Cond.methodLink RX10 127 yX6_push, Cond.instanceMethod yX6_push, Cond.selects RX6 yX6_push yX6_push, Cond.initialized RX6, Cond.code yX6_push cX6_push 2 none, Cond.fieldLink RX6 18 "ParetoDesk$Past" "count" "I", Cond.fieldLink RX6 11 "ParetoDesk$Past" "setups" "[LParetoDesk$Setup;", Cond.methodLink RX6 22 yX6_forgetOldest, Cond.instanceMethod yX6_forgetOldest, Cond.selects RX6 yX6_forgetOldest yX6_forgetOldest, Cond.code yX6_forgetOldest cX6_forgetOldest 3 none, Cond.methodLink RX6 25 yX8_copyFrom, Cond.instanceMethod yX8_copyFrom, Cond.selects RX8 yX8_copyFrom yX8_copyFrom, Cond.code yX8_copyFrom cX8_copyFrom 2 none, Cond.fieldLink RX8 9 "ParetoDesk$Setup" "capacity" "I", Cond.fieldLink RX8 15 "ParetoDesk$Setup" "limit" "I", Cond.fieldLink RX8 43 "ParetoDesk$Setup" "mustSet" "I", Cond.fieldLink RX8 46 "ParetoDesk$Setup" "neverSet" "I", Cond.fieldLink RX8 49 "ParetoDesk$Setup" "hand" "I"]
def wsL_need_r3 : List Cond := [Cond.fieldLink RX8 18 "ParetoDesk$Setup" "weight" "[I", Cond.methodLink RX8 52 arraycopyName, Cond.native arraycopyName, Cond.static arraycopyName, Cond.initialized "java/lang/System", Cond.fieldLink RX8 22 "ParetoDesk$Setup" "gain" "[I", Cond.fieldLink RX8 25 "ParetoDesk$Setup" "joy" "[I", Cond.fieldLink RX8 28 "ParetoDesk$Setup" "bars" "[I", Cond.fieldLink RX8 31 "ParetoDesk$Setup" "needs" "[I", Cond.methodLink RX10 347 yX10_hasBit, Cond.static yX10_hasBit, Cond.code yX10_hasBit cX10_hasBit 2 (some .boolean), Cond.methodLink RX10 351 yX10_withBit, Cond.static yX10_withBit, Cond.code yX10_withBit cX10_withBit 3 (some .int), Cond.methodLink RX10 137 yX10_markChanged, Cond.instanceMethod yX10_markChanged, Cond.selects RX10 yX10_markChanged yX10_markChanged, Cond.code yX10_markChanged cX10_markChanged 1 none, Cond.fieldLink RX10 395 "ParetoDesk" "frontierFresh" "Z", Cond.fieldLink RX10 399 "ParetoDesk" "searchFresh" "Z", Cond.fieldLink RX10 402 "ParetoDesk" "layersFresh" "Z"]
def wsL_need : List Cond := .codeWith yL_need cL_need 6 (some .int) [(0, 19, 22, 29), (0, 19, 26, 19)] :: ((wsL_need_r1 ++ (wsL_need_r2 ++ wsL_need_r3)) ++ wsX100 ++ wsX80 ++ wsX60 ++ (vx_atS RX10 113 "java/lang/IllegalArgumentException" ["java/lang/RuntimeException", "java/lang/Exception"]).filter goodWord ++ (vx_atS RX10 244 "java/lang/IndexOutOfBoundsException" ["java/lang/RuntimeException", "java/lang/Exception"]).filter goodWord)
def wsL_must_r1 : List Cond := [Cond.classLink RL 29 "java/lang/IndexOutOfBoundsException", Cond.methodLink RL 113 yX10_must, Cond.instanceMethod yX10_must, Cond.selects RX10 yX10_must yX10_must, Cond.initialized RX10, Cond.code yX10_must cX10_must 4 (some .boolean), Cond.fieldLink RX10 34 "ParetoDesk" "past" "LParetoDesk$Past;", Cond.fieldLink RX10 27 "ParetoDesk" "now" "LParetoDesk$Setup;", Cond.fieldLink RX10 164 "ParetoDesk$Setup" "mustSet" "I", Cond.methodLink RX10 173 yX10_requireItem, Cond.instanceMethod yX10_requireItem, Cond.selects RX10 yX10_requireItem yX10_requireItem, Cond.code yX10_requireItem cX10_requireItem 2 none, Cond.classLink RX10 240 "java/lang/IndexOutOfBoundsException", Cond.initialized "java/lang/IndexOutOfBoundsException", Cond.methodLink RX10 416 yX8_hasItem, Cond.instanceMethod yX8_hasItem, Cond.selects RX8 yX8_hasItem yX8_hasItem, Cond.initialized RX8, Cond.code yX8_hasItem cX8_hasItem 2 (some .boolean), Cond.fieldLink RX8 34 "ParetoDesk$Setup" "items" "I", Cond.methodLink RX10 127 yX6_push, Cond.instanceMethod yX6_push, Cond.selects RX6 yX6_push yX6_push]
def wsL_must_r2 : List Cond := [Cond.initialized RX6, Cond.code yX6_push cX6_push 2 none, Cond.fieldLink RX6 18 "ParetoDesk$Past" "count" "I", Cond.fieldLink RX6 11 "ParetoDesk$Past" "setups" "[LParetoDesk$Setup;", Cond.methodLink RX6 22 yX6_forgetOldest, Cond.instanceMethod yX6_forgetOldest, Cond.selects RX6 yX6_forgetOldest yX6_forgetOldest, Cond.code yX6_forgetOldest cX6_forgetOldest 3 none, Cond.methodLink RX6 25 yX8_copyFrom, Cond.instanceMethod yX8_copyFrom, Cond.selects RX8 yX8_copyFrom yX8_copyFrom, Cond.code yX8_copyFrom cX8_copyFrom 2 none, Cond.fieldLink RX8 9 "ParetoDesk$Setup" "capacity" "I", Cond.fieldLink RX8 15 "ParetoDesk$Setup" "limit" "I", Cond.fieldLink RX8 43 "ParetoDesk$Setup" "mustSet" "I", Cond.fieldLink RX8 46 "ParetoDesk$Setup" "neverSet" "I", Cond.fieldLink RX8 49 "ParetoDesk$Setup" "hand" "I", Cond.fieldLink RX8 18 "ParetoDesk$Setup" "weight" "[I", Cond.methodLink RX8 52 arraycopyName, Cond.native arraycopyName, Cond.static arraycopyName, Cond.initialized "java/lang/System", Cond.fieldLink RX8 22 "ParetoDesk$Setup" "gain" "[I", Cond.fieldLink RX8 25 "ParetoDesk$Setup" "joy" "[I"]
def wsL_must_r3 : List Cond := [Cond.fieldLink RX8 28 "ParetoDesk$Setup" "bars" "[I", Cond.fieldLink RX8 31 "ParetoDesk$Setup" "needs" "[I", Cond.methodLink RX10 347 yX10_hasBit, Cond.static yX10_hasBit, Cond.code yX10_hasBit cX10_hasBit 2 (some .boolean), Cond.methodLink RX10 351 yX10_withBit, Cond.static yX10_withBit, Cond.code yX10_withBit cX10_withBit 3 (some .int), Cond.methodLink RX10 137 yX10_markChanged, Cond.instanceMethod yX10_markChanged, Cond.selects RX10 yX10_markChanged yX10_markChanged, Cond.code yX10_markChanged cX10_markChanged 1 none, Cond.fieldLink RX10 395 "ParetoDesk" "frontierFresh" "Z", Cond.fieldLink RX10 399 "ParetoDesk" "searchFresh" "Z", Cond.fieldLink RX10 402 "ParetoDesk" "layersFresh" "Z"]
def wsL_must : List Cond := .codeWith yL_must cL_must 5 (some .int) [(0, 17, 20, 29)] :: ((wsL_must_r1 ++ (wsL_must_r2 ++ wsL_must_r3)) ++ wsX100 ++ wsX80 ++ wsX60 ++ (vx_atS RX10 244 "java/lang/IndexOutOfBoundsException" ["java/lang/RuntimeException", "java/lang/Exception"]).filter goodWord)
def wsL_never_r1 : List Cond := [Cond.classLink RL 29 "java/lang/IndexOutOfBoundsException", Cond.methodLink RL 117 yX10_never, Cond.instanceMethod yX10_never, Cond.selects RX10 yX10_never yX10_never, Cond.initialized RX10, Cond.code yX10_never cX10_never 4 (some .boolean), Cond.fieldLink RX10 34 "ParetoDesk" "past" "LParetoDesk$Past;", Cond.fieldLink RX10 27 "ParetoDesk" "now" "LParetoDesk$Setup;", Cond.fieldLink RX10 167 "ParetoDesk$Setup" "neverSet" "I", Cond.methodLink RX10 173 yX10_requireItem, Cond.instanceMethod yX10_requireItem, Cond.selects RX10 yX10_requireItem yX10_requireItem, Cond.code yX10_requireItem cX10_requireItem 2 none, Cond.classLink RX10 240 "java/lang/IndexOutOfBoundsException", Cond.initialized "java/lang/IndexOutOfBoundsException", Cond.methodLink RX10 416 yX8_hasItem, Cond.instanceMethod yX8_hasItem, Cond.selects RX8 yX8_hasItem yX8_hasItem, Cond.initialized RX8, Cond.code yX8_hasItem cX8_hasItem 2 (some .boolean), Cond.fieldLink RX8 34 "ParetoDesk$Setup" "items" "I", Cond.methodLink RX10 127 yX6_push, Cond.instanceMethod yX6_push, Cond.selects RX6 yX6_push yX6_push]
def wsL_never_r2 : List Cond := [Cond.initialized RX6, Cond.code yX6_push cX6_push 2 none, Cond.fieldLink RX6 18 "ParetoDesk$Past" "count" "I", Cond.fieldLink RX6 11 "ParetoDesk$Past" "setups" "[LParetoDesk$Setup;", Cond.methodLink RX6 22 yX6_forgetOldest, Cond.instanceMethod yX6_forgetOldest, Cond.selects RX6 yX6_forgetOldest yX6_forgetOldest, Cond.code yX6_forgetOldest cX6_forgetOldest 3 none, Cond.methodLink RX6 25 yX8_copyFrom, Cond.instanceMethod yX8_copyFrom, Cond.selects RX8 yX8_copyFrom yX8_copyFrom, Cond.code yX8_copyFrom cX8_copyFrom 2 none, Cond.fieldLink RX8 9 "ParetoDesk$Setup" "capacity" "I", Cond.fieldLink RX8 15 "ParetoDesk$Setup" "limit" "I", Cond.fieldLink RX8 43 "ParetoDesk$Setup" "mustSet" "I", Cond.fieldLink RX8 46 "ParetoDesk$Setup" "neverSet" "I", Cond.fieldLink RX8 49 "ParetoDesk$Setup" "hand" "I", Cond.fieldLink RX8 18 "ParetoDesk$Setup" "weight" "[I", Cond.methodLink RX8 52 arraycopyName, Cond.native arraycopyName, Cond.static arraycopyName, Cond.initialized "java/lang/System", Cond.fieldLink RX8 22 "ParetoDesk$Setup" "gain" "[I", Cond.fieldLink RX8 25 "ParetoDesk$Setup" "joy" "[I"]
def wsL_never_r3 : List Cond := [Cond.fieldLink RX8 28 "ParetoDesk$Setup" "bars" "[I", Cond.fieldLink RX8 31 "ParetoDesk$Setup" "needs" "[I", Cond.methodLink RX10 347 yX10_hasBit, Cond.static yX10_hasBit, Cond.code yX10_hasBit cX10_hasBit 2 (some .boolean), Cond.methodLink RX10 351 yX10_withBit, Cond.static yX10_withBit, Cond.code yX10_withBit cX10_withBit 3 (some .int), Cond.methodLink RX10 137 yX10_markChanged, Cond.instanceMethod yX10_markChanged, Cond.selects RX10 yX10_markChanged yX10_markChanged, Cond.code yX10_markChanged cX10_markChanged 1 none, Cond.fieldLink RX10 395 "ParetoDesk" "frontierFresh" "Z", Cond.fieldLink RX10 399 "ParetoDesk" "searchFresh" "Z", Cond.fieldLink RX10 402 "ParetoDesk" "layersFresh" "Z"]
def wsL_never : List Cond := .codeWith yL_never cL_never 5 (some .int) [(0, 17, 20, 29)] :: ((wsL_never_r1 ++ (wsL_never_r2 ++ wsL_never_r3)) ++ wsX100 ++ wsX80 ++ wsX60 ++ (vx_atS RX10 244 "java/lang/IndexOutOfBoundsException" ["java/lang/RuntimeException", "java/lang/Exception"]).filter goodWord)
def wsL_choose_r1 : List Cond := [Cond.classLink RL 19 "java/lang/IllegalArgumentException", Cond.classLink RL 13 "java/lang/IllegalStateException", Cond.methodLink RL 120 yX10_choose, Cond.instanceMethod yX10_choose, Cond.selects RX10 yX10_choose yX10_choose, Cond.initialized RX10, Cond.code yX10_choose cX10_choose 3 (some .int), Cond.fieldLink RX10 27 "ParetoDesk" "now" "LParetoDesk$Setup;", Cond.fieldLink RX10 170 "ParetoDesk$Setup" "hand" "I", Cond.methodLink RX10 185 yX10_requireSet, Cond.instanceMethod yX10_requireSet, Cond.selects RX10 yX10_requireSet yX10_requireSet, Cond.code yX10_requireSet cX10_requireSet 2 none, Cond.classLink RX10 109 "java/lang/IllegalArgumentException", Cond.initialized "java/lang/IllegalArgumentException", Cond.methodLink RX10 282 yX8_everyItem, Cond.instanceMethod yX8_everyItem, Cond.selects RX8 yX8_everyItem yX8_everyItem, Cond.initialized RX8, Cond.code yX8_everyItem cX8_everyItem 1 (some .int), Cond.fieldLink RX8 34 "ParetoDesk$Setup" "items" "I", Cond.methodLink RX10 355 yX10_requireAllowed, Cond.instanceMethod yX10_requireAllowed, Cond.selects RX10 yX10_requireAllowed yX10_requireAllowed]
def wsL_choose_r2 : List Cond := [Cond.code yX10_requireAllowed cX10_requireAllowed 2 none, Cond.classLink RX10 98 "java/lang/IllegalStateException", Cond.initialized "java/lang/IllegalStateException", Cond.fieldLink RX10 56 "ParetoDesk" "choices" "LParetoDesk$Choices;", Cond.fieldLink RX10 147 "ParetoDesk$Setup" "capacity" "I", Cond.methodLink RX10 188 yX10_refreshFrontier, Cond.instanceMethod yX10_refreshFrontier, Cond.selects RX10 yX10_refreshFrontier yX10_refreshFrontier, Cond.code yX10_refreshFrontier cX10_refreshFrontier 1 none, Cond.fieldLink RX10 395 "ParetoDesk" "frontierFresh" "Z", Cond.fieldLink RX10 63 "ParetoDesk" "stairs" "LParetoDesk$Stairs;", Cond.fieldLink RX10 70 "ParetoDesk" "frontier" "LParetoDesk$Frontier;", Cond.methodLink RX10 405 yX0_build, Cond.instanceMethod yX0_build, Cond.selects RX0 yX0_build yX0_build, Cond.initialized RX0, Cond.code yX0_build cX0_build 5 none, Cond.fieldLink RX0 27 "ParetoDesk$Setup" "limit" "I", Cond.fieldLink RX0 33 "ParetoDesk$Choices" "limit" "I", Cond.fieldLink RX0 34 "ParetoDesk$Setup" "mustSet" "I", Cond.fieldLink RX0 37 "ParetoDesk$Choices" "mustSet" "I", Cond.fieldLink RX0 38 "ParetoDesk$Setup" "neverSet" "I", Cond.fieldLink RX0 41 "ParetoDesk$Choices" "neverSet" "I", Cond.fieldLink RX0 42 "ParetoDesk$Choices" "sets" "I"]
def wsL_choose_r3 : List Cond := [Cond.fieldLink RX0 45 "ParetoDesk$Setup" "items" "I", Cond.fieldLink RX0 9 "ParetoDesk$Choices" "weight" "[I", Cond.fieldLink RX0 48 "ParetoDesk$Setup" "weight" "[I", Cond.fieldLink RX0 15 "ParetoDesk$Choices" "gain" "[I", Cond.fieldLink RX0 49 "ParetoDesk$Setup" "gain" "[I", Cond.fieldLink RX0 18 "ParetoDesk$Choices" "joy" "[I", Cond.fieldLink RX0 50 "ParetoDesk$Setup" "joy" "[I", Cond.fieldLink RX0 21 "ParetoDesk$Choices" "barred" "[I", Cond.fieldLink RX0 51 "ParetoDesk$Setup" "bars" "[I", Cond.fieldLink RX0 24 "ParetoDesk$Choices" "needed" "[I", Cond.fieldLink RX0 54 "ParetoDesk$Setup" "needs" "[I", Cond.methodLink RX10 290 yX9_build, Cond.instanceMethod yX9_build, Cond.selects RX9 yX9_build yX9_build, Cond.initialized RX9, Cond.code yX9_build cX9_build 5 none, Cond.fieldLink RX9 9 "ParetoDesk$Stairs" "joyAt" "[I", Cond.fieldLink RX9 21 "ParetoDesk$Stairs" "allowedCount" "I", Cond.fieldLink RX9 25 "ParetoDesk$Choices" "sets" "I", Cond.fieldLink RX9 34 "ParetoDesk$Choices" "gain" "[I", Cond.fieldLink RX9 37 "ParetoDesk$Choices" "joy" "[I", Cond.methodLink RX9 15 yJ7_fill_53178, Cond.static yJ7_fill_53178, Cond.initialized RJ7]
def wsL_choose_r4 : List Cond := [Cond.code yJ7_fill_53178 cJ7_fill_53178 4 none, Cond.methodLink RX9 30 yX0_reason, Cond.instanceMethod yX0_reason, Cond.selects RX0 yX0_reason yX0_reason, Cond.code yX0_reason cX0_reason 3 (some .int), Cond.methodLink RX0 57 yX0_reasonBesideWeight, Cond.instanceMethod yX0_reasonBesideWeight, Cond.selects RX0 yX0_reasonBesideWeight yX0_reasonBesideWeight, Cond.code yX0_reasonBesideWeight cX0_reasonBesideWeight 2 (some .int), Cond.methodLink RX0 61 yJ6_bitCount_0f7a4, Cond.static yJ6_bitCount_0f7a4, Cond.initialized RJ6, Cond.code yJ6_bitCount_0f7a4 cJ6_bitCount_0f7a4 1 (some .int), Cond.constant RJ6 265 (1431655765), Cond.constant RJ6 266 (858993459), Cond.constant RJ6 267 (252645135), Cond.methodLink RX9 40 yX9_keepGreatest, Cond.instanceMethod yX9_keepGreatest, Cond.selects RX9 yX9_keepGreatest yX9_keepGreatest, Cond.code yX9_keepGreatest cX9_keepGreatest 3 none, Cond.methodLink RX9 44 yX9_dropBeaten, Cond.instanceMethod yX9_dropBeaten, Cond.selects RX9 yX9_dropBeaten yX9_dropBeaten, Cond.code yX9_dropBeaten cX9_dropBeaten 3 none]
def wsL_choose_r5 : List Cond := [Cond.methodLink RX10 407 yX2_build, Cond.instanceMethod yX2_build, Cond.selects RX2 yX2_build yX2_build, Cond.initialized RX2, Cond.code yX2_build cX2_build 4 none, Cond.fieldLink RX2 40 "ParetoDesk$Stairs" "allowedCount" "I", Cond.fieldLink RX2 46 "ParetoDesk$Frontier" "allowedCount" "I", Cond.fieldLink RX2 51 "ParetoDesk$Frontier" "areaBelow" "I", Cond.methodLink RX2 47 yX9_areaBelow, Cond.instanceMethod yX9_areaBelow, Cond.selects RX9 yX9_areaBelow yX9_areaBelow, Cond.code yX9_areaBelow cX9_areaBelow 4 (some .int), Cond.methodLink RX2 53 yX2_readPoints, Cond.instanceMethod yX2_readPoints, Cond.selects RX2 yX2_readPoints yX2_readPoints, Cond.code yX2_readPoints cX2_readPoints 3 none, Cond.fieldLink RX2 67 "ParetoDesk$Frontier" "size" "I", Cond.fieldLink RX2 33 "ParetoDesk$Frontier" "pointAt" "[I", Cond.fieldLink RX2 70 "ParetoDesk$Stairs" "joyAt" "[I", Cond.fieldLink RX2 9 "ParetoDesk$Frontier" "gain" "[I", Cond.fieldLink RX2 15 "ParetoDesk$Frontier" "joy" "[I", Cond.fieldLink RX2 18 "ParetoDesk$Frontier" "choice" "[I", Cond.fieldLink RX2 21 "ParetoDesk$Frontier" "times" "[I", Cond.fieldLink RX2 24 "ParetoDesk$Frontier" "light" "[I"]
def wsL_choose_r6 : List Cond := [Cond.fieldLink RX2 27 "ParetoDesk$Frontier" "mark" "[I", Cond.methodLink RX2 57 yX2_readChoices, Cond.instanceMethod yX2_readChoices, Cond.selects RX2 yX2_readChoices yX2_readChoices, Cond.code yX2_readChoices cX2_readChoices 5 none, Cond.fieldLink RX2 73 "ParetoDesk$Choices" "sets" "I", Cond.fieldLink RX2 78 "ParetoDesk$Choices" "gain" "[I", Cond.fieldLink RX2 79 "ParetoDesk$Choices" "joy" "[I", Cond.fieldLink RX2 87 "ParetoDesk$Choices" "weight" "[I", Cond.methodLink RX2 80 yX2_pointWithPair, Cond.instanceMethod yX2_pointWithPair, Cond.selects RX2 yX2_pointWithPair yX2_pointWithPair, Cond.code yX2_pointWithPair cX2_pointWithPair 4 (some .int), Cond.methodLink RX2 84 yX0_reason, Cond.methodLink RX2 61 yX2_findVertices, Cond.instanceMethod yX2_findVertices, Cond.selects RX2 yX2_findVertices yX2_findVertices, Cond.code yX2_findVertices cX2_findVertices 2 none, Cond.fieldLink RX2 90 "ParetoDesk$Frontier" "vertexCount" "I", Cond.fieldLink RX2 30 "ParetoDesk$Frontier" "vertexPoint" "[I", Cond.methodLink RX2 93 yX2_heightOver, Cond.instanceMethod yX2_heightOver, Cond.selects RX2 yX2_heightOver yX2_heightOver, Cond.code yX2_heightOver cX2_heightOver 4 (some .int)]
def wsL_choose_r7 : List Cond := [Cond.methodLink RX2 97 yX2_gainWon, Cond.instanceMethod yX2_gainWon, Cond.selects RX2 yX2_gainWon yX2_gainWon, Cond.code yX2_gainWon cX2_gainWon 3 (some .int), Cond.methodLink RX2 100 yX2_joyLost, Cond.instanceMethod yX2_joyLost, Cond.selects RX2 yX2_joyLost yX2_joyLost, Cond.code yX2_joyLost cX2_joyLost 3 (some .int), Cond.methodLink RX2 64 yX2_markSupported, Cond.instanceMethod yX2_markSupported, Cond.selects RX2 yX2_markSupported yX2_markSupported, Cond.code yX2_markSupported cX2_markSupported 5 none, Cond.methodLink RX10 191 yX0_reason, Cond.methodLink RX10 358 yX10_takeInHand, Cond.instanceMethod yX10_takeInHand, Cond.selects RX10 yX10_takeInHand yX10_takeInHand, Cond.code yX10_takeInHand cX10_takeInHand 2 none, Cond.fieldLink RX10 34 "ParetoDesk" "past" "LParetoDesk$Past;", Cond.methodLink RX10 127 yX6_push, Cond.instanceMethod yX6_push, Cond.selects RX6 yX6_push yX6_push, Cond.initialized RX6, Cond.code yX6_push cX6_push 2 none, Cond.fieldLink RX6 18 "ParetoDesk$Past" "count" "I"]
def wsL_choose_r8 : List Cond := [Cond.fieldLink RX6 11 "ParetoDesk$Past" "setups" "[LParetoDesk$Setup;", Cond.methodLink RX6 22 yX6_forgetOldest, Cond.instanceMethod yX6_forgetOldest, Cond.selects RX6 yX6_forgetOldest yX6_forgetOldest, Cond.code yX6_forgetOldest cX6_forgetOldest 3 none, Cond.methodLink RX6 25 yX8_copyFrom, Cond.instanceMethod yX8_copyFrom, Cond.selects RX8 yX8_copyFrom yX8_copyFrom, Cond.code yX8_copyFrom cX8_copyFrom 2 none, Cond.fieldLink RX8 9 "ParetoDesk$Setup" "capacity" "I", Cond.fieldLink RX8 15 "ParetoDesk$Setup" "limit" "I", Cond.fieldLink RX8 43 "ParetoDesk$Setup" "mustSet" "I", Cond.fieldLink RX8 46 "ParetoDesk$Setup" "neverSet" "I", Cond.fieldLink RX8 49 "ParetoDesk$Setup" "hand" "I", Cond.fieldLink RX8 18 "ParetoDesk$Setup" "weight" "[I", Cond.methodLink RX8 52 arraycopyName, Cond.native arraycopyName, Cond.static arraycopyName, Cond.initialized "java/lang/System", Cond.fieldLink RX8 22 "ParetoDesk$Setup" "gain" "[I", Cond.fieldLink RX8 25 "ParetoDesk$Setup" "joy" "[I", Cond.fieldLink RX8 28 "ParetoDesk$Setup" "bars" "[I", Cond.fieldLink RX8 31 "ParetoDesk$Setup" "needs" "[I"]
def wsL_choose : List Cond := .codeWith yL_choose cL_choose 4 (some .int) [(0, 9, 12, 19), (0, 9, 15, 13)] :: ((wsL_choose_r1 ++ (wsL_choose_r2 ++ (wsL_choose_r3 ++ (wsL_choose_r4 ++ (wsL_choose_r5 ++ (wsL_choose_r6 ++ (wsL_choose_r7 ++ wsL_choose_r8))))))) ++ wsX100 ++ wsX80 ++ wsX00 ++ wsX90 ++ wsX20 ++ wsX60 ++ (vx_atS RX10 113 "java/lang/IllegalArgumentException" ["java/lang/RuntimeException", "java/lang/Exception"]).filter goodWord ++ (vx_atS RX10 102 "java/lang/IllegalStateException" ["java/lang/RuntimeException", "java/lang/Exception"]).filter goodWord)
def wsL_chooseBest_r1 : List Cond := [Cond.classLink RL 19 "java/lang/IllegalArgumentException", Cond.classLink RL 13 "java/lang/IllegalStateException", Cond.methodLink RL 123 yX10_chooseBest, Cond.instanceMethod yX10_chooseBest, Cond.selects RX10 yX10_chooseBest yX10_chooseBest, Cond.initialized RX10, Cond.code yX10_chooseBest cX10_chooseBest 4 (some .int), Cond.classLink RX10 98 "java/lang/IllegalStateException", Cond.initialized "java/lang/IllegalStateException", Cond.fieldLink RX10 70 "ParetoDesk" "frontier" "LParetoDesk$Frontier;", Cond.fieldLink RX10 209 "ParetoDesk$Frontier" "choice" "[I", Cond.fieldLink RX10 27 "ParetoDesk" "now" "LParetoDesk$Setup;", Cond.fieldLink RX10 170 "ParetoDesk$Setup" "hand" "I", Cond.methodLink RX10 228 yX10_requireWeights, Cond.static yX10_requireWeights, Cond.code yX10_requireWeights cX10_requireWeights 2 none, Cond.classLink RX10 109 "java/lang/IllegalArgumentException", Cond.initialized "java/lang/IllegalArgumentException", Cond.methodLink RX10 330 yX10_requireValue, Cond.static yX10_requireValue, Cond.code yX10_requireValue cX10_requireValue 1 none, Cond.methodLink RX10 188 yX10_refreshFrontier, Cond.instanceMethod yX10_refreshFrontier, Cond.selects RX10 yX10_refreshFrontier yX10_refreshFrontier]
def wsL_chooseBest_r2 : List Cond := [Cond.code yX10_refreshFrontier cX10_refreshFrontier 1 none, Cond.fieldLink RX10 395 "ParetoDesk" "frontierFresh" "Z", Cond.fieldLink RX10 56 "ParetoDesk" "choices" "LParetoDesk$Choices;", Cond.fieldLink RX10 63 "ParetoDesk" "stairs" "LParetoDesk$Stairs;", Cond.fieldLink RX10 147 "ParetoDesk$Setup" "capacity" "I", Cond.methodLink RX10 405 yX0_build, Cond.instanceMethod yX0_build, Cond.selects RX0 yX0_build yX0_build, Cond.initialized RX0, Cond.code yX0_build cX0_build 5 none, Cond.fieldLink RX0 27 "ParetoDesk$Setup" "limit" "I", Cond.fieldLink RX0 33 "ParetoDesk$Choices" "limit" "I", Cond.fieldLink RX0 34 "ParetoDesk$Setup" "mustSet" "I", Cond.fieldLink RX0 37 "ParetoDesk$Choices" "mustSet" "I", Cond.fieldLink RX0 38 "ParetoDesk$Setup" "neverSet" "I", Cond.fieldLink RX0 41 "ParetoDesk$Choices" "neverSet" "I", Cond.fieldLink RX0 42 "ParetoDesk$Choices" "sets" "I", Cond.fieldLink RX0 45 "ParetoDesk$Setup" "items" "I", Cond.fieldLink RX0 9 "ParetoDesk$Choices" "weight" "[I", Cond.fieldLink RX0 48 "ParetoDesk$Setup" "weight" "[I", Cond.fieldLink RX0 15 "ParetoDesk$Choices" "gain" "[I", Cond.fieldLink RX0 49 "ParetoDesk$Setup" "gain" "[I", Cond.fieldLink RX0 18 "ParetoDesk$Choices" "joy" "[I", Cond.fieldLink RX0 50 "ParetoDesk$Setup" "joy" "[I"]
def wsL_chooseBest_r3 : List Cond := [Cond.fieldLink RX0 21 "ParetoDesk$Choices" "barred" "[I", Cond.fieldLink RX0 51 "ParetoDesk$Setup" "bars" "[I", Cond.fieldLink RX0 24 "ParetoDesk$Choices" "needed" "[I", Cond.fieldLink RX0 54 "ParetoDesk$Setup" "needs" "[I", Cond.methodLink RX10 290 yX9_build, Cond.instanceMethod yX9_build, Cond.selects RX9 yX9_build yX9_build, Cond.initialized RX9, Cond.code yX9_build cX9_build 5 none, Cond.fieldLink RX9 9 "ParetoDesk$Stairs" "joyAt" "[I", Cond.fieldLink RX9 21 "ParetoDesk$Stairs" "allowedCount" "I", Cond.fieldLink RX9 25 "ParetoDesk$Choices" "sets" "I", Cond.fieldLink RX9 34 "ParetoDesk$Choices" "gain" "[I", Cond.fieldLink RX9 37 "ParetoDesk$Choices" "joy" "[I", Cond.methodLink RX9 15 yJ7_fill_53178, Cond.static yJ7_fill_53178, Cond.initialized RJ7, Cond.code yJ7_fill_53178 cJ7_fill_53178 4 none, Cond.methodLink RX9 30 yX0_reason, Cond.instanceMethod yX0_reason, Cond.selects RX0 yX0_reason yX0_reason, Cond.code yX0_reason cX0_reason 3 (some .int), Cond.methodLink RX0 57 yX0_reasonBesideWeight, Cond.instanceMethod yX0_reasonBesideWeight]
def wsL_chooseBest_r4 : List Cond := [Cond.selects RX0 yX0_reasonBesideWeight yX0_reasonBesideWeight, Cond.code yX0_reasonBesideWeight cX0_reasonBesideWeight 2 (some .int), Cond.methodLink RX0 61 yJ6_bitCount_0f7a4, Cond.static yJ6_bitCount_0f7a4, Cond.initialized RJ6, Cond.code yJ6_bitCount_0f7a4 cJ6_bitCount_0f7a4 1 (some .int), Cond.constant RJ6 265 (1431655765), Cond.constant RJ6 266 (858993459), Cond.constant RJ6 267 (252645135), Cond.methodLink RX9 40 yX9_keepGreatest, Cond.instanceMethod yX9_keepGreatest, Cond.selects RX9 yX9_keepGreatest yX9_keepGreatest, Cond.code yX9_keepGreatest cX9_keepGreatest 3 none, Cond.methodLink RX9 44 yX9_dropBeaten, Cond.instanceMethod yX9_dropBeaten, Cond.selects RX9 yX9_dropBeaten yX9_dropBeaten, Cond.code yX9_dropBeaten cX9_dropBeaten 3 none, Cond.methodLink RX10 407 yX2_build, Cond.instanceMethod yX2_build, Cond.selects RX2 yX2_build yX2_build, Cond.initialized RX2, Cond.code yX2_build cX2_build 4 none, Cond.fieldLink RX2 40 "ParetoDesk$Stairs" "allowedCount" "I", Cond.fieldLink RX2 46 "ParetoDesk$Frontier" "allowedCount" "I"]
def wsL_chooseBest_r5 : List Cond := [Cond.fieldLink RX2 51 "ParetoDesk$Frontier" "areaBelow" "I", Cond.methodLink RX2 47 yX9_areaBelow, Cond.instanceMethod yX9_areaBelow, Cond.selects RX9 yX9_areaBelow yX9_areaBelow, Cond.code yX9_areaBelow cX9_areaBelow 4 (some .int), Cond.methodLink RX2 53 yX2_readPoints, Cond.instanceMethod yX2_readPoints, Cond.selects RX2 yX2_readPoints yX2_readPoints, Cond.code yX2_readPoints cX2_readPoints 3 none, Cond.fieldLink RX2 67 "ParetoDesk$Frontier" "size" "I", Cond.fieldLink RX2 33 "ParetoDesk$Frontier" "pointAt" "[I", Cond.fieldLink RX2 70 "ParetoDesk$Stairs" "joyAt" "[I", Cond.fieldLink RX2 9 "ParetoDesk$Frontier" "gain" "[I", Cond.fieldLink RX2 15 "ParetoDesk$Frontier" "joy" "[I", Cond.fieldLink RX2 18 "ParetoDesk$Frontier" "choice" "[I", Cond.fieldLink RX2 21 "ParetoDesk$Frontier" "times" "[I", Cond.fieldLink RX2 24 "ParetoDesk$Frontier" "light" "[I", Cond.fieldLink RX2 27 "ParetoDesk$Frontier" "mark" "[I", Cond.methodLink RX2 57 yX2_readChoices, Cond.instanceMethod yX2_readChoices, Cond.selects RX2 yX2_readChoices yX2_readChoices, Cond.code yX2_readChoices cX2_readChoices 5 none, Cond.fieldLink RX2 73 "ParetoDesk$Choices" "sets" "I", Cond.fieldLink RX2 78 "ParetoDesk$Choices" "gain" "[I"]
def wsL_chooseBest_r6 : List Cond := [Cond.fieldLink RX2 79 "ParetoDesk$Choices" "joy" "[I", Cond.fieldLink RX2 87 "ParetoDesk$Choices" "weight" "[I", Cond.methodLink RX2 80 yX2_pointWithPair, Cond.instanceMethod yX2_pointWithPair, Cond.selects RX2 yX2_pointWithPair yX2_pointWithPair, Cond.code yX2_pointWithPair cX2_pointWithPair 4 (some .int), Cond.methodLink RX2 84 yX0_reason, Cond.methodLink RX2 61 yX2_findVertices, Cond.instanceMethod yX2_findVertices, Cond.selects RX2 yX2_findVertices yX2_findVertices, Cond.code yX2_findVertices cX2_findVertices 2 none, Cond.fieldLink RX2 90 "ParetoDesk$Frontier" "vertexCount" "I", Cond.fieldLink RX2 30 "ParetoDesk$Frontier" "vertexPoint" "[I", Cond.methodLink RX2 93 yX2_heightOver, Cond.instanceMethod yX2_heightOver, Cond.selects RX2 yX2_heightOver yX2_heightOver, Cond.code yX2_heightOver cX2_heightOver 4 (some .int), Cond.methodLink RX2 97 yX2_gainWon, Cond.instanceMethod yX2_gainWon, Cond.selects RX2 yX2_gainWon yX2_gainWon, Cond.code yX2_gainWon cX2_gainWon 3 (some .int), Cond.methodLink RX2 100 yX2_joyLost, Cond.instanceMethod yX2_joyLost, Cond.selects RX2 yX2_joyLost yX2_joyLost]
def wsL_chooseBest_r7 : List Cond := [Cond.code yX2_joyLost cX2_joyLost 3 (some .int), Cond.methodLink RX2 64 yX2_markSupported, Cond.instanceMethod yX2_markSupported, Cond.selects RX2 yX2_markSupported yX2_markSupported, Cond.code yX2_markSupported cX2_markSupported 5 none, Cond.methodLink RX10 231 yX2_greatestBy, Cond.instanceMethod yX2_greatestBy, Cond.selects RX2 yX2_greatestBy yX2_greatestBy, Cond.code yX2_greatestBy cX2_greatestBy 7 (some .int), Cond.methodLink RX2 103 yX2_valueOf, Cond.instanceMethod yX2_valueOf, Cond.selects RX2 yX2_valueOf yX2_valueOf, Cond.code yX2_valueOf cX2_valueOf 4 (some .int), Cond.methodLink RX10 358 yX10_takeInHand, Cond.instanceMethod yX10_takeInHand, Cond.selects RX10 yX10_takeInHand yX10_takeInHand, Cond.code yX10_takeInHand cX10_takeInHand 2 none, Cond.fieldLink RX10 34 "ParetoDesk" "past" "LParetoDesk$Past;", Cond.methodLink RX10 127 yX6_push, Cond.instanceMethod yX6_push, Cond.selects RX6 yX6_push yX6_push, Cond.initialized RX6, Cond.code yX6_push cX6_push 2 none, Cond.fieldLink RX6 18 "ParetoDesk$Past" "count" "I"]
def wsL_chooseBest_r8 : List Cond := [Cond.fieldLink RX6 11 "ParetoDesk$Past" "setups" "[LParetoDesk$Setup;", Cond.methodLink RX6 22 yX6_forgetOldest, Cond.instanceMethod yX6_forgetOldest, Cond.selects RX6 yX6_forgetOldest yX6_forgetOldest, Cond.code yX6_forgetOldest cX6_forgetOldest 3 none, Cond.methodLink RX6 25 yX8_copyFrom, Cond.instanceMethod yX8_copyFrom, Cond.selects RX8 yX8_copyFrom yX8_copyFrom, Cond.initialized RX8, Cond.code yX8_copyFrom cX8_copyFrom 2 none, Cond.fieldLink RX8 34 "ParetoDesk$Setup" "items" "I", Cond.fieldLink RX8 9 "ParetoDesk$Setup" "capacity" "I", Cond.fieldLink RX8 15 "ParetoDesk$Setup" "limit" "I", Cond.fieldLink RX8 43 "ParetoDesk$Setup" "mustSet" "I", Cond.fieldLink RX8 46 "ParetoDesk$Setup" "neverSet" "I", Cond.fieldLink RX8 49 "ParetoDesk$Setup" "hand" "I", Cond.fieldLink RX8 18 "ParetoDesk$Setup" "weight" "[I", Cond.methodLink RX8 52 arraycopyName, Cond.native arraycopyName, Cond.static arraycopyName, Cond.initialized "java/lang/System", Cond.fieldLink RX8 22 "ParetoDesk$Setup" "gain" "[I", Cond.fieldLink RX8 25 "ParetoDesk$Setup" "joy" "[I", Cond.fieldLink RX8 28 "ParetoDesk$Setup" "bars" "[I"]
def wsL_chooseBest_r9 : List Cond := [Cond.fieldLink RX8 31 "ParetoDesk$Setup" "needs" "[I"]
def wsL_chooseBest : List Cond := .codeWith yL_chooseBest cL_chooseBest 5 (some .int) [(0, 10, 13, 19), (0, 10, 17, 13)] :: ((wsL_chooseBest_r1 ++ (wsL_chooseBest_r2 ++ (wsL_chooseBest_r3 ++ (wsL_chooseBest_r4 ++ (wsL_chooseBest_r5 ++ (wsL_chooseBest_r6 ++ (wsL_chooseBest_r7 ++ (wsL_chooseBest_r8 ++ wsL_chooseBest_r9)))))))) ++ wsX100 ++ wsX20 ++ wsX80 ++ wsX00 ++ wsX90 ++ wsX60 ++ (vx_atS RX10 102 "java/lang/IllegalStateException" ["java/lang/RuntimeException", "java/lang/Exception"]).filter goodWord ++ (vx_atS RX10 113 "java/lang/IllegalArgumentException" ["java/lang/RuntimeException", "java/lang/Exception"]).filter goodWord)
def wsL_improve_r1 : List Cond := [Cond.classLink RL 19 "java/lang/IllegalArgumentException", Cond.methodLink RL 126 yX10_improve, Cond.instanceMethod yX10_improve, Cond.selects RX10 yX10_improve yX10_improve, Cond.initialized RX10, Cond.code yX10_improve cX10_improve 3 (some .int), Cond.fieldLink RX10 91 "ParetoDesk" "climber" "LParetoDesk$Climber;", Cond.fieldLink RX10 56 "ParetoDesk" "choices" "LParetoDesk$Choices;", Cond.fieldLink RX10 27 "ParetoDesk" "now" "LParetoDesk$Setup;", Cond.fieldLink RX10 327 "ParetoDesk$Climber" "at" "I", Cond.fieldLink RX10 363 "ParetoDesk$Climber" "steps" "I", Cond.methodLink RX10 228 yX10_requireWeights, Cond.static yX10_requireWeights, Cond.code yX10_requireWeights cX10_requireWeights 2 none, Cond.classLink RX10 109 "java/lang/IllegalArgumentException", Cond.initialized "java/lang/IllegalArgumentException", Cond.methodLink RX10 330 yX10_requireValue, Cond.static yX10_requireValue, Cond.code yX10_requireValue cX10_requireValue 1 none, Cond.methodLink RX10 188 yX10_refreshFrontier, Cond.instanceMethod yX10_refreshFrontier, Cond.selects RX10 yX10_refreshFrontier yX10_refreshFrontier, Cond.code yX10_refreshFrontier cX10_refreshFrontier 1 none, Cond.fieldLink RX10 395 "ParetoDesk" "frontierFresh" "Z"]
def wsL_improve_r2 : List Cond := [Cond.fieldLink RX10 63 "ParetoDesk" "stairs" "LParetoDesk$Stairs;", Cond.fieldLink RX10 147 "ParetoDesk$Setup" "capacity" "I", Cond.fieldLink RX10 70 "ParetoDesk" "frontier" "LParetoDesk$Frontier;", Cond.methodLink RX10 405 yX0_build, Cond.instanceMethod yX0_build, Cond.selects RX0 yX0_build yX0_build, Cond.initialized RX0, Cond.code yX0_build cX0_build 5 none, Cond.fieldLink RX0 27 "ParetoDesk$Setup" "limit" "I", Cond.fieldLink RX0 33 "ParetoDesk$Choices" "limit" "I", Cond.fieldLink RX0 34 "ParetoDesk$Setup" "mustSet" "I", Cond.fieldLink RX0 37 "ParetoDesk$Choices" "mustSet" "I", Cond.fieldLink RX0 38 "ParetoDesk$Setup" "neverSet" "I", Cond.fieldLink RX0 41 "ParetoDesk$Choices" "neverSet" "I", Cond.fieldLink RX0 42 "ParetoDesk$Choices" "sets" "I", Cond.fieldLink RX0 45 "ParetoDesk$Setup" "items" "I", Cond.fieldLink RX0 9 "ParetoDesk$Choices" "weight" "[I", Cond.fieldLink RX0 48 "ParetoDesk$Setup" "weight" "[I", Cond.fieldLink RX0 15 "ParetoDesk$Choices" "gain" "[I", Cond.fieldLink RX0 49 "ParetoDesk$Setup" "gain" "[I", Cond.fieldLink RX0 18 "ParetoDesk$Choices" "joy" "[I", Cond.fieldLink RX0 50 "ParetoDesk$Setup" "joy" "[I", Cond.fieldLink RX0 21 "ParetoDesk$Choices" "barred" "[I", Cond.fieldLink RX0 51 "ParetoDesk$Setup" "bars" "[I"]
def wsL_improve_r3 : List Cond := [Cond.fieldLink RX0 24 "ParetoDesk$Choices" "needed" "[I", Cond.fieldLink RX0 54 "ParetoDesk$Setup" "needs" "[I", Cond.methodLink RX10 290 yX9_build, Cond.instanceMethod yX9_build, Cond.selects RX9 yX9_build yX9_build, Cond.initialized RX9, Cond.code yX9_build cX9_build 5 none, Cond.fieldLink RX9 9 "ParetoDesk$Stairs" "joyAt" "[I", Cond.fieldLink RX9 21 "ParetoDesk$Stairs" "allowedCount" "I", Cond.fieldLink RX9 25 "ParetoDesk$Choices" "sets" "I", Cond.fieldLink RX9 34 "ParetoDesk$Choices" "gain" "[I", Cond.fieldLink RX9 37 "ParetoDesk$Choices" "joy" "[I", Cond.methodLink RX9 15 yJ7_fill_53178, Cond.static yJ7_fill_53178, Cond.initialized RJ7, Cond.code yJ7_fill_53178 cJ7_fill_53178 4 none, Cond.methodLink RX9 30 yX0_reason, Cond.instanceMethod yX0_reason, Cond.selects RX0 yX0_reason yX0_reason, Cond.code yX0_reason cX0_reason 3 (some .int), Cond.methodLink RX0 57 yX0_reasonBesideWeight, Cond.instanceMethod yX0_reasonBesideWeight, Cond.selects RX0 yX0_reasonBesideWeight yX0_reasonBesideWeight, Cond.code yX0_reasonBesideWeight cX0_reasonBesideWeight 2 (some .int)]
def wsL_improve_r4 : List Cond := [Cond.methodLink RX0 61 yJ6_bitCount_0f7a4, Cond.static yJ6_bitCount_0f7a4, Cond.initialized RJ6, Cond.code yJ6_bitCount_0f7a4 cJ6_bitCount_0f7a4 1 (some .int), Cond.constant RJ6 265 (1431655765), Cond.constant RJ6 266 (858993459), Cond.constant RJ6 267 (252645135), Cond.methodLink RX9 40 yX9_keepGreatest, Cond.instanceMethod yX9_keepGreatest, Cond.selects RX9 yX9_keepGreatest yX9_keepGreatest, Cond.code yX9_keepGreatest cX9_keepGreatest 3 none, Cond.methodLink RX9 44 yX9_dropBeaten, Cond.instanceMethod yX9_dropBeaten, Cond.selects RX9 yX9_dropBeaten yX9_dropBeaten, Cond.code yX9_dropBeaten cX9_dropBeaten 3 none, Cond.methodLink RX10 407 yX2_build, Cond.instanceMethod yX2_build, Cond.selects RX2 yX2_build yX2_build, Cond.initialized RX2, Cond.code yX2_build cX2_build 4 none, Cond.fieldLink RX2 40 "ParetoDesk$Stairs" "allowedCount" "I", Cond.fieldLink RX2 46 "ParetoDesk$Frontier" "allowedCount" "I", Cond.fieldLink RX2 51 "ParetoDesk$Frontier" "areaBelow" "I", Cond.methodLink RX2 47 yX9_areaBelow]
def wsL_improve_r5 : List Cond := [Cond.instanceMethod yX9_areaBelow, Cond.selects RX9 yX9_areaBelow yX9_areaBelow, Cond.code yX9_areaBelow cX9_areaBelow 4 (some .int), Cond.methodLink RX2 53 yX2_readPoints, Cond.instanceMethod yX2_readPoints, Cond.selects RX2 yX2_readPoints yX2_readPoints, Cond.code yX2_readPoints cX2_readPoints 3 none, Cond.fieldLink RX2 67 "ParetoDesk$Frontier" "size" "I", Cond.fieldLink RX2 33 "ParetoDesk$Frontier" "pointAt" "[I", Cond.fieldLink RX2 70 "ParetoDesk$Stairs" "joyAt" "[I", Cond.fieldLink RX2 9 "ParetoDesk$Frontier" "gain" "[I", Cond.fieldLink RX2 15 "ParetoDesk$Frontier" "joy" "[I", Cond.fieldLink RX2 18 "ParetoDesk$Frontier" "choice" "[I", Cond.fieldLink RX2 21 "ParetoDesk$Frontier" "times" "[I", Cond.fieldLink RX2 24 "ParetoDesk$Frontier" "light" "[I", Cond.fieldLink RX2 27 "ParetoDesk$Frontier" "mark" "[I", Cond.methodLink RX2 57 yX2_readChoices, Cond.instanceMethod yX2_readChoices, Cond.selects RX2 yX2_readChoices yX2_readChoices, Cond.code yX2_readChoices cX2_readChoices 5 none, Cond.fieldLink RX2 73 "ParetoDesk$Choices" "sets" "I", Cond.fieldLink RX2 78 "ParetoDesk$Choices" "gain" "[I", Cond.fieldLink RX2 79 "ParetoDesk$Choices" "joy" "[I", Cond.fieldLink RX2 87 "ParetoDesk$Choices" "weight" "[I"]
def wsL_improve_r6 : List Cond := [Cond.methodLink RX2 80 yX2_pointWithPair, Cond.instanceMethod yX2_pointWithPair, Cond.selects RX2 yX2_pointWithPair yX2_pointWithPair, Cond.code yX2_pointWithPair cX2_pointWithPair 4 (some .int), Cond.methodLink RX2 84 yX0_reason, Cond.methodLink RX2 61 yX2_findVertices, Cond.instanceMethod yX2_findVertices, Cond.selects RX2 yX2_findVertices yX2_findVertices, Cond.code yX2_findVertices cX2_findVertices 2 none, Cond.fieldLink RX2 90 "ParetoDesk$Frontier" "vertexCount" "I", Cond.fieldLink RX2 30 "ParetoDesk$Frontier" "vertexPoint" "[I", Cond.methodLink RX2 93 yX2_heightOver, Cond.instanceMethod yX2_heightOver, Cond.selects RX2 yX2_heightOver yX2_heightOver, Cond.code yX2_heightOver cX2_heightOver 4 (some .int), Cond.methodLink RX2 97 yX2_gainWon, Cond.instanceMethod yX2_gainWon, Cond.selects RX2 yX2_gainWon yX2_gainWon, Cond.code yX2_gainWon cX2_gainWon 3 (some .int), Cond.methodLink RX2 100 yX2_joyLost, Cond.instanceMethod yX2_joyLost, Cond.selects RX2 yX2_joyLost yX2_joyLost, Cond.code yX2_joyLost cX2_joyLost 3 (some .int), Cond.methodLink RX2 64 yX2_markSupported]
def wsL_improve_r7 : List Cond := [Cond.instanceMethod yX2_markSupported, Cond.selects RX2 yX2_markSupported yX2_markSupported, Cond.code yX2_markSupported cX2_markSupported 5 none, Cond.methodLink RX10 323 yX1_run, Cond.instanceMethod yX1_run, Cond.selects RX1 yX1_run yX1_run, Cond.initialized RX1, Cond.code yX1_run cX1_run 6 none, Cond.fieldLink RX1 9 "ParetoDesk$Setup" "hand" "I", Cond.fieldLink RX1 15 "ParetoDesk$Climber" "at" "I", Cond.fieldLink RX1 20 "ParetoDesk$Climber" "steps" "I", Cond.fieldLink RX1 27 "ParetoDesk$Climber" "bestValue" "I", Cond.fieldLink RX1 34 "ParetoDesk$Climber" "bestSet" "I", Cond.methodLink RX1 23 yX1_lookAround, Cond.instanceMethod yX1_lookAround, Cond.selects RX1 yX1_lookAround yX1_lookAround, Cond.code yX1_lookAround cX1_lookAround 8 none, Cond.fieldLink RX1 37 "ParetoDesk$Setup" "items" "I", Cond.fieldLink RX1 40 "ParetoDesk$Setup" "capacity" "I", Cond.methodLink RX1 43 yX1_lookAt, Cond.instanceMethod yX1_lookAt, Cond.selects RX1 yX1_lookAt yX1_lookAt, Cond.code yX1_lookAt cX1_lookAt 7 none, Cond.methodLink RX1 51 yX0_reason]
def wsL_improve_r8 : List Cond := [Cond.methodLink RX1 30 yX1_value, Cond.static yX1_value, Cond.code yX1_value cX1_value 4 (some .int), Cond.fieldLink RX1 57 "ParetoDesk$Choices" "gain" "[I", Cond.fieldLink RX1 61 "ParetoDesk$Choices" "joy" "[I", Cond.static yX10_hasBit, Cond.code yX10_hasBit cX10_hasBit 2 (some .boolean), Cond.methodLink RX10 358 yX10_takeInHand, Cond.instanceMethod yX10_takeInHand, Cond.selects RX10 yX10_takeInHand yX10_takeInHand, Cond.code yX10_takeInHand cX10_takeInHand 2 none, Cond.fieldLink RX10 34 "ParetoDesk" "past" "LParetoDesk$Past;", Cond.fieldLink RX10 170 "ParetoDesk$Setup" "hand" "I", Cond.methodLink RX10 127 yX6_push, Cond.instanceMethod yX6_push, Cond.selects RX6 yX6_push yX6_push, Cond.initialized RX6, Cond.code yX6_push cX6_push 2 none, Cond.fieldLink RX6 18 "ParetoDesk$Past" "count" "I", Cond.fieldLink RX6 11 "ParetoDesk$Past" "setups" "[LParetoDesk$Setup;", Cond.methodLink RX6 22 yX6_forgetOldest, Cond.instanceMethod yX6_forgetOldest, Cond.selects RX6 yX6_forgetOldest yX6_forgetOldest, Cond.code yX6_forgetOldest cX6_forgetOldest 3 none]
def wsL_improve_r9 : List Cond := [Cond.methodLink RX6 25 yX8_copyFrom, Cond.instanceMethod yX8_copyFrom, Cond.selects RX8 yX8_copyFrom yX8_copyFrom, Cond.initialized RX8, Cond.code yX8_copyFrom cX8_copyFrom 2 none, Cond.fieldLink RX8 34 "ParetoDesk$Setup" "items" "I", Cond.fieldLink RX8 9 "ParetoDesk$Setup" "capacity" "I", Cond.fieldLink RX8 15 "ParetoDesk$Setup" "limit" "I", Cond.fieldLink RX8 43 "ParetoDesk$Setup" "mustSet" "I", Cond.fieldLink RX8 46 "ParetoDesk$Setup" "neverSet" "I", Cond.fieldLink RX8 49 "ParetoDesk$Setup" "hand" "I", Cond.fieldLink RX8 18 "ParetoDesk$Setup" "weight" "[I", Cond.methodLink RX8 52 arraycopyName, Cond.native arraycopyName, Cond.static arraycopyName, Cond.initialized "java/lang/System", Cond.fieldLink RX8 22 "ParetoDesk$Setup" "gain" "[I", Cond.fieldLink RX8 25 "ParetoDesk$Setup" "joy" "[I", Cond.fieldLink RX8 28 "ParetoDesk$Setup" "bars" "[I", Cond.fieldLink RX8 31 "ParetoDesk$Setup" "needs" "[I"]
def wsL_improve : List Cond := .codeWith yL_improve cL_improve 5 (some .int) [(0, 10, 13, 19)] :: ((wsL_improve_r1 ++ (wsL_improve_r2 ++ (wsL_improve_r3 ++ (wsL_improve_r4 ++ (wsL_improve_r5 ++ (wsL_improve_r6 ++ (wsL_improve_r7 ++ (wsL_improve_r8 ++ wsL_improve_r9)))))))) ++ wsX100 ++ wsX10 ++ wsX80 ++ wsX00 ++ wsX90 ++ wsX20 ++ wsX60 ++ (vx_atS RX10 113 "java/lang/IllegalArgumentException" ["java/lang/RuntimeException", "java/lang/Exception"]).filter goodWord)
def wsL_take_r1 : List Cond := [Cond.classLink RL 29 "java/lang/IndexOutOfBoundsException", Cond.classLink RL 13 "java/lang/IllegalStateException", Cond.methodLink RL 129 yX10_take, Cond.instanceMethod yX10_take, Cond.selects RX10 yX10_take yX10_take, Cond.initialized RX10, Cond.code yX10_take cX10_take 3 (some .int), Cond.classLink RX10 98 "java/lang/IllegalStateException", Cond.initialized "java/lang/IllegalStateException", Cond.fieldLink RX10 27 "ParetoDesk" "now" "LParetoDesk$Setup;", Cond.fieldLink RX10 170 "ParetoDesk$Setup" "hand" "I", Cond.fieldLink RX10 56 "ParetoDesk" "choices" "LParetoDesk$Choices;", Cond.fieldLink RX10 195 "ParetoDesk$Choices" "weight" "[I", Cond.methodLink RX10 173 yX10_requireItem, Cond.instanceMethod yX10_requireItem, Cond.selects RX10 yX10_requireItem yX10_requireItem, Cond.code yX10_requireItem cX10_requireItem 2 none, Cond.classLink RX10 240 "java/lang/IndexOutOfBoundsException", Cond.initialized "java/lang/IndexOutOfBoundsException", Cond.methodLink RX10 416 yX8_hasItem, Cond.instanceMethod yX8_hasItem, Cond.selects RX8 yX8_hasItem yX8_hasItem, Cond.initialized RX8, Cond.code yX8_hasItem cX8_hasItem 2 (some .boolean)]
def wsL_take_r2 : List Cond := [Cond.fieldLink RX8 34 "ParetoDesk$Setup" "items" "I", Cond.methodLink RX10 347 yX10_hasBit, Cond.static yX10_hasBit, Cond.code yX10_hasBit cX10_hasBit 2 (some .boolean), Cond.methodLink RX10 351 yX10_withBit, Cond.static yX10_withBit, Cond.code yX10_withBit cX10_withBit 3 (some .int), Cond.methodLink RX10 355 yX10_requireAllowed, Cond.instanceMethod yX10_requireAllowed, Cond.selects RX10 yX10_requireAllowed yX10_requireAllowed, Cond.code yX10_requireAllowed cX10_requireAllowed 2 none, Cond.fieldLink RX10 147 "ParetoDesk$Setup" "capacity" "I", Cond.methodLink RX10 188 yX10_refreshFrontier, Cond.instanceMethod yX10_refreshFrontier, Cond.selects RX10 yX10_refreshFrontier yX10_refreshFrontier, Cond.code yX10_refreshFrontier cX10_refreshFrontier 1 none, Cond.fieldLink RX10 395 "ParetoDesk" "frontierFresh" "Z", Cond.fieldLink RX10 63 "ParetoDesk" "stairs" "LParetoDesk$Stairs;", Cond.fieldLink RX10 70 "ParetoDesk" "frontier" "LParetoDesk$Frontier;", Cond.methodLink RX10 405 yX0_build, Cond.instanceMethod yX0_build, Cond.selects RX0 yX0_build yX0_build, Cond.initialized RX0, Cond.code yX0_build cX0_build 5 none]
def wsL_take_r3 : List Cond := [Cond.fieldLink RX0 27 "ParetoDesk$Setup" "limit" "I", Cond.fieldLink RX0 33 "ParetoDesk$Choices" "limit" "I", Cond.fieldLink RX0 34 "ParetoDesk$Setup" "mustSet" "I", Cond.fieldLink RX0 37 "ParetoDesk$Choices" "mustSet" "I", Cond.fieldLink RX0 38 "ParetoDesk$Setup" "neverSet" "I", Cond.fieldLink RX0 41 "ParetoDesk$Choices" "neverSet" "I", Cond.fieldLink RX0 42 "ParetoDesk$Choices" "sets" "I", Cond.fieldLink RX0 45 "ParetoDesk$Setup" "items" "I", Cond.fieldLink RX0 9 "ParetoDesk$Choices" "weight" "[I", Cond.fieldLink RX0 48 "ParetoDesk$Setup" "weight" "[I", Cond.fieldLink RX0 15 "ParetoDesk$Choices" "gain" "[I", Cond.fieldLink RX0 49 "ParetoDesk$Setup" "gain" "[I", Cond.fieldLink RX0 18 "ParetoDesk$Choices" "joy" "[I", Cond.fieldLink RX0 50 "ParetoDesk$Setup" "joy" "[I", Cond.fieldLink RX0 21 "ParetoDesk$Choices" "barred" "[I", Cond.fieldLink RX0 51 "ParetoDesk$Setup" "bars" "[I", Cond.fieldLink RX0 24 "ParetoDesk$Choices" "needed" "[I", Cond.fieldLink RX0 54 "ParetoDesk$Setup" "needs" "[I", Cond.methodLink RX10 290 yX9_build, Cond.instanceMethod yX9_build, Cond.selects RX9 yX9_build yX9_build, Cond.initialized RX9, Cond.code yX9_build cX9_build 5 none, Cond.fieldLink RX9 9 "ParetoDesk$Stairs" "joyAt" "[I"]
def wsL_take_r4 : List Cond := [Cond.fieldLink RX9 21 "ParetoDesk$Stairs" "allowedCount" "I", Cond.fieldLink RX9 25 "ParetoDesk$Choices" "sets" "I", Cond.fieldLink RX9 34 "ParetoDesk$Choices" "gain" "[I", Cond.fieldLink RX9 37 "ParetoDesk$Choices" "joy" "[I", Cond.methodLink RX9 15 yJ7_fill_53178, Cond.static yJ7_fill_53178, Cond.initialized RJ7, Cond.code yJ7_fill_53178 cJ7_fill_53178 4 none, Cond.methodLink RX9 30 yX0_reason, Cond.instanceMethod yX0_reason, Cond.selects RX0 yX0_reason yX0_reason, Cond.code yX0_reason cX0_reason 3 (some .int), Cond.methodLink RX0 57 yX0_reasonBesideWeight, Cond.instanceMethod yX0_reasonBesideWeight, Cond.selects RX0 yX0_reasonBesideWeight yX0_reasonBesideWeight, Cond.code yX0_reasonBesideWeight cX0_reasonBesideWeight 2 (some .int), Cond.methodLink RX0 61 yJ6_bitCount_0f7a4, Cond.static yJ6_bitCount_0f7a4, Cond.initialized RJ6, Cond.code yJ6_bitCount_0f7a4 cJ6_bitCount_0f7a4 1 (some .int), Cond.constant RJ6 265 (1431655765), Cond.constant RJ6 266 (858993459), Cond.constant RJ6 267 (252645135), Cond.methodLink RX9 40 yX9_keepGreatest]
def wsL_take_r5 : List Cond := [Cond.instanceMethod yX9_keepGreatest, Cond.selects RX9 yX9_keepGreatest yX9_keepGreatest, Cond.code yX9_keepGreatest cX9_keepGreatest 3 none, Cond.methodLink RX9 44 yX9_dropBeaten, Cond.instanceMethod yX9_dropBeaten, Cond.selects RX9 yX9_dropBeaten yX9_dropBeaten, Cond.code yX9_dropBeaten cX9_dropBeaten 3 none, Cond.methodLink RX10 407 yX2_build, Cond.instanceMethod yX2_build, Cond.selects RX2 yX2_build yX2_build, Cond.initialized RX2, Cond.code yX2_build cX2_build 4 none, Cond.fieldLink RX2 40 "ParetoDesk$Stairs" "allowedCount" "I", Cond.fieldLink RX2 46 "ParetoDesk$Frontier" "allowedCount" "I", Cond.fieldLink RX2 51 "ParetoDesk$Frontier" "areaBelow" "I", Cond.methodLink RX2 47 yX9_areaBelow, Cond.instanceMethod yX9_areaBelow, Cond.selects RX9 yX9_areaBelow yX9_areaBelow, Cond.code yX9_areaBelow cX9_areaBelow 4 (some .int), Cond.methodLink RX2 53 yX2_readPoints, Cond.instanceMethod yX2_readPoints, Cond.selects RX2 yX2_readPoints yX2_readPoints, Cond.code yX2_readPoints cX2_readPoints 3 none, Cond.fieldLink RX2 67 "ParetoDesk$Frontier" "size" "I"]
def wsL_take_r6 : List Cond := [Cond.fieldLink RX2 33 "ParetoDesk$Frontier" "pointAt" "[I", Cond.fieldLink RX2 70 "ParetoDesk$Stairs" "joyAt" "[I", Cond.fieldLink RX2 9 "ParetoDesk$Frontier" "gain" "[I", Cond.fieldLink RX2 15 "ParetoDesk$Frontier" "joy" "[I", Cond.fieldLink RX2 18 "ParetoDesk$Frontier" "choice" "[I", Cond.fieldLink RX2 21 "ParetoDesk$Frontier" "times" "[I", Cond.fieldLink RX2 24 "ParetoDesk$Frontier" "light" "[I", Cond.fieldLink RX2 27 "ParetoDesk$Frontier" "mark" "[I", Cond.methodLink RX2 57 yX2_readChoices, Cond.instanceMethod yX2_readChoices, Cond.selects RX2 yX2_readChoices yX2_readChoices, Cond.code yX2_readChoices cX2_readChoices 5 none, Cond.fieldLink RX2 73 "ParetoDesk$Choices" "sets" "I", Cond.fieldLink RX2 78 "ParetoDesk$Choices" "gain" "[I", Cond.fieldLink RX2 79 "ParetoDesk$Choices" "joy" "[I", Cond.fieldLink RX2 87 "ParetoDesk$Choices" "weight" "[I", Cond.methodLink RX2 80 yX2_pointWithPair, Cond.instanceMethod yX2_pointWithPair, Cond.selects RX2 yX2_pointWithPair yX2_pointWithPair, Cond.code yX2_pointWithPair cX2_pointWithPair 4 (some .int), Cond.methodLink RX2 84 yX0_reason, Cond.methodLink RX2 61 yX2_findVertices, Cond.instanceMethod yX2_findVertices, Cond.selects RX2 yX2_findVertices yX2_findVertices]
def wsL_take_r7 : List Cond := [Cond.code yX2_findVertices cX2_findVertices 2 none, Cond.fieldLink RX2 90 "ParetoDesk$Frontier" "vertexCount" "I", Cond.fieldLink RX2 30 "ParetoDesk$Frontier" "vertexPoint" "[I", Cond.methodLink RX2 93 yX2_heightOver, Cond.instanceMethod yX2_heightOver, Cond.selects RX2 yX2_heightOver yX2_heightOver, Cond.code yX2_heightOver cX2_heightOver 4 (some .int), Cond.methodLink RX2 97 yX2_gainWon, Cond.instanceMethod yX2_gainWon, Cond.selects RX2 yX2_gainWon yX2_gainWon, Cond.code yX2_gainWon cX2_gainWon 3 (some .int), Cond.methodLink RX2 100 yX2_joyLost, Cond.instanceMethod yX2_joyLost, Cond.selects RX2 yX2_joyLost yX2_joyLost, Cond.code yX2_joyLost cX2_joyLost 3 (some .int), Cond.methodLink RX2 64 yX2_markSupported, Cond.instanceMethod yX2_markSupported, Cond.selects RX2 yX2_markSupported yX2_markSupported, Cond.code yX2_markSupported cX2_markSupported 5 none, Cond.methodLink RX10 191 yX0_reason, Cond.methodLink RX10 358 yX10_takeInHand, Cond.instanceMethod yX10_takeInHand, Cond.selects RX10 yX10_takeInHand yX10_takeInHand, Cond.code yX10_takeInHand cX10_takeInHand 2 none]
def wsL_take_r8 : List Cond := [Cond.fieldLink RX10 34 "ParetoDesk" "past" "LParetoDesk$Past;", Cond.methodLink RX10 127 yX6_push, Cond.instanceMethod yX6_push, Cond.selects RX6 yX6_push yX6_push, Cond.initialized RX6, Cond.code yX6_push cX6_push 2 none, Cond.fieldLink RX6 18 "ParetoDesk$Past" "count" "I", Cond.fieldLink RX6 11 "ParetoDesk$Past" "setups" "[LParetoDesk$Setup;", Cond.methodLink RX6 22 yX6_forgetOldest, Cond.instanceMethod yX6_forgetOldest, Cond.selects RX6 yX6_forgetOldest yX6_forgetOldest, Cond.code yX6_forgetOldest cX6_forgetOldest 3 none, Cond.methodLink RX6 25 yX8_copyFrom, Cond.instanceMethod yX8_copyFrom, Cond.selects RX8 yX8_copyFrom yX8_copyFrom, Cond.code yX8_copyFrom cX8_copyFrom 2 none, Cond.fieldLink RX8 9 "ParetoDesk$Setup" "capacity" "I", Cond.fieldLink RX8 15 "ParetoDesk$Setup" "limit" "I", Cond.fieldLink RX8 43 "ParetoDesk$Setup" "mustSet" "I", Cond.fieldLink RX8 46 "ParetoDesk$Setup" "neverSet" "I", Cond.fieldLink RX8 49 "ParetoDesk$Setup" "hand" "I", Cond.fieldLink RX8 18 "ParetoDesk$Setup" "weight" "[I", Cond.methodLink RX8 52 arraycopyName, Cond.native arraycopyName]
def wsL_take_r9 : List Cond := [Cond.static arraycopyName, Cond.initialized "java/lang/System", Cond.fieldLink RX8 22 "ParetoDesk$Setup" "gain" "[I", Cond.fieldLink RX8 25 "ParetoDesk$Setup" "joy" "[I", Cond.fieldLink RX8 28 "ParetoDesk$Setup" "bars" "[I", Cond.fieldLink RX8 31 "ParetoDesk$Setup" "needs" "[I"]
def wsL_take : List Cond := .codeWith yL_take cL_take 4 (some .int) [(0, 9, 12, 29), (0, 9, 15, 13)] :: ((wsL_take_r1 ++ (wsL_take_r2 ++ (wsL_take_r3 ++ (wsL_take_r4 ++ (wsL_take_r5 ++ (wsL_take_r6 ++ (wsL_take_r7 ++ (wsL_take_r8 ++ wsL_take_r9)))))))) ++ wsX100 ++ wsX80 ++ wsX00 ++ wsX90 ++ wsX20 ++ wsX60 ++ (vx_atS RX10 102 "java/lang/IllegalStateException" ["java/lang/RuntimeException", "java/lang/Exception"]).filter goodWord ++ (vx_atS RX10 244 "java/lang/IndexOutOfBoundsException" ["java/lang/RuntimeException", "java/lang/Exception"]).filter goodWord)
def wsL_leave_r1 : List Cond := [Cond.classLink RL 29 "java/lang/IndexOutOfBoundsException", Cond.classLink RL 13 "java/lang/IllegalStateException", Cond.methodLink RL 132 yX10_leave, Cond.instanceMethod yX10_leave, Cond.selects RX10 yX10_leave yX10_leave, Cond.initialized RX10, Cond.code yX10_leave cX10_leave 3 (some .int), Cond.classLink RX10 98 "java/lang/IllegalStateException", Cond.initialized "java/lang/IllegalStateException", Cond.fieldLink RX10 27 "ParetoDesk" "now" "LParetoDesk$Setup;", Cond.fieldLink RX10 170 "ParetoDesk$Setup" "hand" "I", Cond.fieldLink RX10 56 "ParetoDesk" "choices" "LParetoDesk$Choices;", Cond.fieldLink RX10 195 "ParetoDesk$Choices" "weight" "[I", Cond.methodLink RX10 173 yX10_requireItem, Cond.instanceMethod yX10_requireItem, Cond.selects RX10 yX10_requireItem yX10_requireItem, Cond.code yX10_requireItem cX10_requireItem 2 none, Cond.classLink RX10 240 "java/lang/IndexOutOfBoundsException", Cond.initialized "java/lang/IndexOutOfBoundsException", Cond.methodLink RX10 416 yX8_hasItem, Cond.instanceMethod yX8_hasItem, Cond.selects RX8 yX8_hasItem yX8_hasItem, Cond.initialized RX8, Cond.code yX8_hasItem cX8_hasItem 2 (some .boolean)]
def wsL_leave_r2 : List Cond := [Cond.fieldLink RX8 34 "ParetoDesk$Setup" "items" "I", Cond.methodLink RX10 347 yX10_hasBit, Cond.static yX10_hasBit, Cond.code yX10_hasBit cX10_hasBit 2 (some .boolean), Cond.methodLink RX10 351 yX10_withBit, Cond.static yX10_withBit, Cond.code yX10_withBit cX10_withBit 3 (some .int), Cond.methodLink RX10 355 yX10_requireAllowed, Cond.instanceMethod yX10_requireAllowed, Cond.selects RX10 yX10_requireAllowed yX10_requireAllowed, Cond.code yX10_requireAllowed cX10_requireAllowed 2 none, Cond.fieldLink RX10 147 "ParetoDesk$Setup" "capacity" "I", Cond.methodLink RX10 188 yX10_refreshFrontier, Cond.instanceMethod yX10_refreshFrontier, Cond.selects RX10 yX10_refreshFrontier yX10_refreshFrontier, Cond.code yX10_refreshFrontier cX10_refreshFrontier 1 none, Cond.fieldLink RX10 395 "ParetoDesk" "frontierFresh" "Z", Cond.fieldLink RX10 63 "ParetoDesk" "stairs" "LParetoDesk$Stairs;", Cond.fieldLink RX10 70 "ParetoDesk" "frontier" "LParetoDesk$Frontier;", Cond.methodLink RX10 405 yX0_build, Cond.instanceMethod yX0_build, Cond.selects RX0 yX0_build yX0_build, Cond.initialized RX0, Cond.code yX0_build cX0_build 5 none]
def wsL_leave_r3 : List Cond := [Cond.fieldLink RX0 27 "ParetoDesk$Setup" "limit" "I", Cond.fieldLink RX0 33 "ParetoDesk$Choices" "limit" "I", Cond.fieldLink RX0 34 "ParetoDesk$Setup" "mustSet" "I", Cond.fieldLink RX0 37 "ParetoDesk$Choices" "mustSet" "I", Cond.fieldLink RX0 38 "ParetoDesk$Setup" "neverSet" "I", Cond.fieldLink RX0 41 "ParetoDesk$Choices" "neverSet" "I", Cond.fieldLink RX0 42 "ParetoDesk$Choices" "sets" "I", Cond.fieldLink RX0 45 "ParetoDesk$Setup" "items" "I", Cond.fieldLink RX0 9 "ParetoDesk$Choices" "weight" "[I", Cond.fieldLink RX0 48 "ParetoDesk$Setup" "weight" "[I", Cond.fieldLink RX0 15 "ParetoDesk$Choices" "gain" "[I", Cond.fieldLink RX0 49 "ParetoDesk$Setup" "gain" "[I", Cond.fieldLink RX0 18 "ParetoDesk$Choices" "joy" "[I", Cond.fieldLink RX0 50 "ParetoDesk$Setup" "joy" "[I", Cond.fieldLink RX0 21 "ParetoDesk$Choices" "barred" "[I", Cond.fieldLink RX0 51 "ParetoDesk$Setup" "bars" "[I", Cond.fieldLink RX0 24 "ParetoDesk$Choices" "needed" "[I", Cond.fieldLink RX0 54 "ParetoDesk$Setup" "needs" "[I", Cond.methodLink RX10 290 yX9_build, Cond.instanceMethod yX9_build, Cond.selects RX9 yX9_build yX9_build, Cond.initialized RX9, Cond.code yX9_build cX9_build 5 none, Cond.fieldLink RX9 9 "ParetoDesk$Stairs" "joyAt" "[I"]
def wsL_leave_r4 : List Cond := [Cond.fieldLink RX9 21 "ParetoDesk$Stairs" "allowedCount" "I", Cond.fieldLink RX9 25 "ParetoDesk$Choices" "sets" "I", Cond.fieldLink RX9 34 "ParetoDesk$Choices" "gain" "[I", Cond.fieldLink RX9 37 "ParetoDesk$Choices" "joy" "[I", Cond.methodLink RX9 15 yJ7_fill_53178, Cond.static yJ7_fill_53178, Cond.initialized RJ7, Cond.code yJ7_fill_53178 cJ7_fill_53178 4 none, Cond.methodLink RX9 30 yX0_reason, Cond.instanceMethod yX0_reason, Cond.selects RX0 yX0_reason yX0_reason, Cond.code yX0_reason cX0_reason 3 (some .int), Cond.methodLink RX0 57 yX0_reasonBesideWeight, Cond.instanceMethod yX0_reasonBesideWeight, Cond.selects RX0 yX0_reasonBesideWeight yX0_reasonBesideWeight, Cond.code yX0_reasonBesideWeight cX0_reasonBesideWeight 2 (some .int), Cond.methodLink RX0 61 yJ6_bitCount_0f7a4, Cond.static yJ6_bitCount_0f7a4, Cond.initialized RJ6, Cond.code yJ6_bitCount_0f7a4 cJ6_bitCount_0f7a4 1 (some .int), Cond.constant RJ6 265 (1431655765), Cond.constant RJ6 266 (858993459), Cond.constant RJ6 267 (252645135), Cond.methodLink RX9 40 yX9_keepGreatest]
def wsL_leave_r5 : List Cond := [Cond.instanceMethod yX9_keepGreatest, Cond.selects RX9 yX9_keepGreatest yX9_keepGreatest, Cond.code yX9_keepGreatest cX9_keepGreatest 3 none, Cond.methodLink RX9 44 yX9_dropBeaten, Cond.instanceMethod yX9_dropBeaten, Cond.selects RX9 yX9_dropBeaten yX9_dropBeaten, Cond.code yX9_dropBeaten cX9_dropBeaten 3 none, Cond.methodLink RX10 407 yX2_build, Cond.instanceMethod yX2_build, Cond.selects RX2 yX2_build yX2_build, Cond.initialized RX2, Cond.code yX2_build cX2_build 4 none, Cond.fieldLink RX2 40 "ParetoDesk$Stairs" "allowedCount" "I", Cond.fieldLink RX2 46 "ParetoDesk$Frontier" "allowedCount" "I", Cond.fieldLink RX2 51 "ParetoDesk$Frontier" "areaBelow" "I", Cond.methodLink RX2 47 yX9_areaBelow, Cond.instanceMethod yX9_areaBelow, Cond.selects RX9 yX9_areaBelow yX9_areaBelow, Cond.code yX9_areaBelow cX9_areaBelow 4 (some .int), Cond.methodLink RX2 53 yX2_readPoints, Cond.instanceMethod yX2_readPoints, Cond.selects RX2 yX2_readPoints yX2_readPoints, Cond.code yX2_readPoints cX2_readPoints 3 none, Cond.fieldLink RX2 67 "ParetoDesk$Frontier" "size" "I"]
def wsL_leave_r6 : List Cond := [Cond.fieldLink RX2 33 "ParetoDesk$Frontier" "pointAt" "[I", Cond.fieldLink RX2 70 "ParetoDesk$Stairs" "joyAt" "[I", Cond.fieldLink RX2 9 "ParetoDesk$Frontier" "gain" "[I", Cond.fieldLink RX2 15 "ParetoDesk$Frontier" "joy" "[I", Cond.fieldLink RX2 18 "ParetoDesk$Frontier" "choice" "[I", Cond.fieldLink RX2 21 "ParetoDesk$Frontier" "times" "[I", Cond.fieldLink RX2 24 "ParetoDesk$Frontier" "light" "[I", Cond.fieldLink RX2 27 "ParetoDesk$Frontier" "mark" "[I", Cond.methodLink RX2 57 yX2_readChoices, Cond.instanceMethod yX2_readChoices, Cond.selects RX2 yX2_readChoices yX2_readChoices, Cond.code yX2_readChoices cX2_readChoices 5 none, Cond.fieldLink RX2 73 "ParetoDesk$Choices" "sets" "I", Cond.fieldLink RX2 78 "ParetoDesk$Choices" "gain" "[I", Cond.fieldLink RX2 79 "ParetoDesk$Choices" "joy" "[I", Cond.fieldLink RX2 87 "ParetoDesk$Choices" "weight" "[I", Cond.methodLink RX2 80 yX2_pointWithPair, Cond.instanceMethod yX2_pointWithPair, Cond.selects RX2 yX2_pointWithPair yX2_pointWithPair, Cond.code yX2_pointWithPair cX2_pointWithPair 4 (some .int), Cond.methodLink RX2 84 yX0_reason, Cond.methodLink RX2 61 yX2_findVertices, Cond.instanceMethod yX2_findVertices, Cond.selects RX2 yX2_findVertices yX2_findVertices]
def wsL_leave_r7 : List Cond := [Cond.code yX2_findVertices cX2_findVertices 2 none, Cond.fieldLink RX2 90 "ParetoDesk$Frontier" "vertexCount" "I", Cond.fieldLink RX2 30 "ParetoDesk$Frontier" "vertexPoint" "[I", Cond.methodLink RX2 93 yX2_heightOver, Cond.instanceMethod yX2_heightOver, Cond.selects RX2 yX2_heightOver yX2_heightOver, Cond.code yX2_heightOver cX2_heightOver 4 (some .int), Cond.methodLink RX2 97 yX2_gainWon, Cond.instanceMethod yX2_gainWon, Cond.selects RX2 yX2_gainWon yX2_gainWon, Cond.code yX2_gainWon cX2_gainWon 3 (some .int), Cond.methodLink RX2 100 yX2_joyLost, Cond.instanceMethod yX2_joyLost, Cond.selects RX2 yX2_joyLost yX2_joyLost, Cond.code yX2_joyLost cX2_joyLost 3 (some .int), Cond.methodLink RX2 64 yX2_markSupported, Cond.instanceMethod yX2_markSupported, Cond.selects RX2 yX2_markSupported yX2_markSupported, Cond.code yX2_markSupported cX2_markSupported 5 none, Cond.methodLink RX10 191 yX0_reason, Cond.methodLink RX10 358 yX10_takeInHand, Cond.instanceMethod yX10_takeInHand, Cond.selects RX10 yX10_takeInHand yX10_takeInHand, Cond.code yX10_takeInHand cX10_takeInHand 2 none]
def wsL_leave_r8 : List Cond := [Cond.fieldLink RX10 34 "ParetoDesk" "past" "LParetoDesk$Past;", Cond.methodLink RX10 127 yX6_push, Cond.instanceMethod yX6_push, Cond.selects RX6 yX6_push yX6_push, Cond.initialized RX6, Cond.code yX6_push cX6_push 2 none, Cond.fieldLink RX6 18 "ParetoDesk$Past" "count" "I", Cond.fieldLink RX6 11 "ParetoDesk$Past" "setups" "[LParetoDesk$Setup;", Cond.methodLink RX6 22 yX6_forgetOldest, Cond.instanceMethod yX6_forgetOldest, Cond.selects RX6 yX6_forgetOldest yX6_forgetOldest, Cond.code yX6_forgetOldest cX6_forgetOldest 3 none, Cond.methodLink RX6 25 yX8_copyFrom, Cond.instanceMethod yX8_copyFrom, Cond.selects RX8 yX8_copyFrom yX8_copyFrom, Cond.code yX8_copyFrom cX8_copyFrom 2 none, Cond.fieldLink RX8 9 "ParetoDesk$Setup" "capacity" "I", Cond.fieldLink RX8 15 "ParetoDesk$Setup" "limit" "I", Cond.fieldLink RX8 43 "ParetoDesk$Setup" "mustSet" "I", Cond.fieldLink RX8 46 "ParetoDesk$Setup" "neverSet" "I", Cond.fieldLink RX8 49 "ParetoDesk$Setup" "hand" "I", Cond.fieldLink RX8 18 "ParetoDesk$Setup" "weight" "[I", Cond.methodLink RX8 52 arraycopyName, Cond.native arraycopyName]
def wsL_leave_r9 : List Cond := [Cond.static arraycopyName, Cond.initialized "java/lang/System", Cond.fieldLink RX8 22 "ParetoDesk$Setup" "gain" "[I", Cond.fieldLink RX8 25 "ParetoDesk$Setup" "joy" "[I", Cond.fieldLink RX8 28 "ParetoDesk$Setup" "bars" "[I", Cond.fieldLink RX8 31 "ParetoDesk$Setup" "needs" "[I"]
def wsL_leave : List Cond := .codeWith yL_leave cL_leave 4 (some .int) [(0, 9, 12, 29), (0, 9, 15, 13)] :: ((wsL_leave_r1 ++ (wsL_leave_r2 ++ (wsL_leave_r3 ++ (wsL_leave_r4 ++ (wsL_leave_r5 ++ (wsL_leave_r6 ++ (wsL_leave_r7 ++ (wsL_leave_r8 ++ wsL_leave_r9)))))))) ++ wsX100 ++ wsX80 ++ wsX00 ++ wsX90 ++ wsX20 ++ wsX60 ++ (vx_atS RX10 102 "java/lang/IllegalStateException" ["java/lang/RuntimeException", "java/lang/Exception"]).filter goodWord ++ (vx_atS RX10 244 "java/lang/IndexOutOfBoundsException" ["java/lang/RuntimeException", "java/lang/Exception"]).filter goodWord)
def wsL_keep_r1 : List Cond := [Cond.classLink RL 29 "java/lang/IndexOutOfBoundsException", Cond.methodLink RL 135 yX10_keep, Cond.instanceMethod yX10_keep, Cond.selects RX10 yX10_keep yX10_keep, Cond.initialized RX10, Cond.code yX10_keep cX10_keep 2 (some .int), Cond.fieldLink RX10 38 "ParetoDesk" "slots" "[LParetoDesk$Setup;", Cond.fieldLink RX10 27 "ParetoDesk" "now" "LParetoDesk$Setup;", Cond.fieldLink RX10 42 "ParetoDesk" "slotUsed" "[Z", Cond.fieldLink RX10 140 "ParetoDesk$Setup" "items" "I", Cond.methodLink RX10 370 yX10_requireSlot, Cond.static yX10_requireSlot, Cond.code yX10_requireSlot cX10_requireSlot 1 none, Cond.classLink RX10 240 "java/lang/IndexOutOfBoundsException", Cond.initialized "java/lang/IndexOutOfBoundsException", Cond.methodLink RX10 134 yX8_copyFrom, Cond.instanceMethod yX8_copyFrom, Cond.selects RX8 yX8_copyFrom yX8_copyFrom, Cond.initialized RX8, Cond.code yX8_copyFrom cX8_copyFrom 2 none, Cond.fieldLink RX8 34 "ParetoDesk$Setup" "items" "I", Cond.fieldLink RX8 9 "ParetoDesk$Setup" "capacity" "I", Cond.fieldLink RX8 15 "ParetoDesk$Setup" "limit" "I", Cond.fieldLink RX8 43 "ParetoDesk$Setup" "mustSet" "I"]
def wsL_keep_r2 : List Cond := [Cond.fieldLink RX8 46 "ParetoDesk$Setup" "neverSet" "I", Cond.fieldLink RX8 49 "ParetoDesk$Setup" "hand" "I", Cond.fieldLink RX8 18 "ParetoDesk$Setup" "weight" "[I", Cond.methodLink RX8 52 arraycopyName, Cond.native arraycopyName, Cond.static arraycopyName, Cond.initialized "java/lang/System", Cond.fieldLink RX8 22 "ParetoDesk$Setup" "gain" "[I", Cond.fieldLink RX8 25 "ParetoDesk$Setup" "joy" "[I", Cond.fieldLink RX8 28 "ParetoDesk$Setup" "bars" "[I", Cond.fieldLink RX8 31 "ParetoDesk$Setup" "needs" "[I"]
def wsL_keep : List Cond := .codeWith yL_keep cL_keep 4 (some .int) [(0, 9, 12, 29)] :: ((wsL_keep_r1 ++ wsL_keep_r2) ++ wsX100 ++ wsX80 ++ (vx_atS RX10 244 "java/lang/IndexOutOfBoundsException" ["java/lang/RuntimeException", "java/lang/Exception"]).filter goodWord)
def wsL_restore_r1 : List Cond := [Cond.classLink RL 29 "java/lang/IndexOutOfBoundsException", Cond.classLink RL 13 "java/lang/IllegalStateException", Cond.methodLink RL 138 yX10_restore, Cond.instanceMethod yX10_restore, Cond.selects RX10 yX10_restore yX10_restore, Cond.initialized RX10, Cond.code yX10_restore cX10_restore 2 (some .int), Cond.classLink RX10 98 "java/lang/IllegalStateException", Cond.initialized "java/lang/IllegalStateException", Cond.fieldLink RX10 42 "ParetoDesk" "slotUsed" "[Z", Cond.fieldLink RX10 34 "ParetoDesk" "past" "LParetoDesk$Past;", Cond.fieldLink RX10 27 "ParetoDesk" "now" "LParetoDesk$Setup;", Cond.fieldLink RX10 38 "ParetoDesk" "slots" "[LParetoDesk$Setup;", Cond.fieldLink RX10 140 "ParetoDesk$Setup" "items" "I", Cond.methodLink RX10 370 yX10_requireSlot, Cond.static yX10_requireSlot, Cond.code yX10_requireSlot cX10_requireSlot 1 none, Cond.classLink RX10 240 "java/lang/IndexOutOfBoundsException", Cond.initialized "java/lang/IndexOutOfBoundsException", Cond.methodLink RX10 127 yX6_push, Cond.instanceMethod yX6_push, Cond.selects RX6 yX6_push yX6_push, Cond.initialized RX6, Cond.code yX6_push cX6_push 2 none]
def wsL_restore_r2 : List Cond := [Cond.fieldLink RX6 18 "ParetoDesk$Past" "count" "I", Cond.fieldLink RX6 11 "ParetoDesk$Past" "setups" "[LParetoDesk$Setup;", Cond.methodLink RX6 22 yX6_forgetOldest, Cond.instanceMethod yX6_forgetOldest, Cond.selects RX6 yX6_forgetOldest yX6_forgetOldest, Cond.code yX6_forgetOldest cX6_forgetOldest 3 none, Cond.methodLink RX6 25 yX8_copyFrom, Cond.instanceMethod yX8_copyFrom, Cond.selects RX8 yX8_copyFrom yX8_copyFrom, Cond.initialized RX8, Cond.code yX8_copyFrom cX8_copyFrom 2 none, Cond.fieldLink RX8 34 "ParetoDesk$Setup" "items" "I", Cond.fieldLink RX8 9 "ParetoDesk$Setup" "capacity" "I", Cond.fieldLink RX8 15 "ParetoDesk$Setup" "limit" "I", Cond.fieldLink RX8 43 "ParetoDesk$Setup" "mustSet" "I", Cond.fieldLink RX8 46 "ParetoDesk$Setup" "neverSet" "I", Cond.fieldLink RX8 49 "ParetoDesk$Setup" "hand" "I", Cond.fieldLink RX8 18 "ParetoDesk$Setup" "weight" "[I", Cond.methodLink RX8 52 arraycopyName, Cond.native arraycopyName, Cond.static arraycopyName, Cond.initialized "java/lang/System", Cond.fieldLink RX8 22 "ParetoDesk$Setup" "gain" "[I", Cond.fieldLink RX8 25 "ParetoDesk$Setup" "joy" "[I"]
def wsL_restore_r3 : List Cond := [Cond.fieldLink RX8 28 "ParetoDesk$Setup" "bars" "[I", Cond.fieldLink RX8 31 "ParetoDesk$Setup" "needs" "[I", Cond.methodLink RX10 134 yX8_copyFrom, Cond.methodLink RX10 137 yX10_markChanged, Cond.instanceMethod yX10_markChanged, Cond.selects RX10 yX10_markChanged yX10_markChanged, Cond.code yX10_markChanged cX10_markChanged 1 none, Cond.fieldLink RX10 395 "ParetoDesk" "frontierFresh" "Z", Cond.fieldLink RX10 399 "ParetoDesk" "searchFresh" "Z", Cond.fieldLink RX10 402 "ParetoDesk" "layersFresh" "Z"]
def wsL_restore : List Cond := .codeWith yL_restore cL_restore 4 (some .int) [(0, 9, 12, 29), (0, 9, 15, 13)] :: ((wsL_restore_r1 ++ (wsL_restore_r2 ++ wsL_restore_r3)) ++ wsX100 ++ wsX80 ++ wsX60 ++ (vx_atS RX10 102 "java/lang/IllegalStateException" ["java/lang/RuntimeException", "java/lang/Exception"]).filter goodWord ++ (vx_atS RX10 244 "java/lang/IndexOutOfBoundsException" ["java/lang/RuntimeException", "java/lang/Exception"]).filter goodWord)
def wsL_undo_r1 : List Cond := [Cond.classLink RL 13 "java/lang/IllegalStateException", Cond.methodLink RL 141 yX10_undo, Cond.instanceMethod yX10_undo, Cond.selects RX10 yX10_undo yX10_undo, Cond.initialized RX10, Cond.code yX10_undo cX10_undo 1 (some .int), Cond.classLink RX10 98 "java/lang/IllegalStateException", Cond.initialized "java/lang/IllegalStateException", Cond.fieldLink RX10 34 "ParetoDesk" "past" "LParetoDesk$Past;", Cond.fieldLink RX10 375 "ParetoDesk$Past" "count" "I", Cond.fieldLink RX10 27 "ParetoDesk" "now" "LParetoDesk$Setup;", Cond.methodLink RX10 378 yX6_pop, Cond.instanceMethod yX6_pop, Cond.selects RX6 yX6_pop yX6_pop, Cond.initialized RX6, Cond.code yX6_pop cX6_pop 2 none, Cond.fieldLink RX6 18 "ParetoDesk$Past" "count" "I", Cond.fieldLink RX6 11 "ParetoDesk$Past" "setups" "[LParetoDesk$Setup;", Cond.methodLink RX6 25 yX8_copyFrom, Cond.instanceMethod yX8_copyFrom, Cond.selects RX8 yX8_copyFrom yX8_copyFrom, Cond.initialized RX8, Cond.code yX8_copyFrom cX8_copyFrom 2 none, Cond.fieldLink RX8 34 "ParetoDesk$Setup" "items" "I"]
def wsL_undo_r2 : List Cond := [Cond.fieldLink RX8 9 "ParetoDesk$Setup" "capacity" "I", Cond.fieldLink RX8 15 "ParetoDesk$Setup" "limit" "I", Cond.fieldLink RX8 43 "ParetoDesk$Setup" "mustSet" "I", Cond.fieldLink RX8 46 "ParetoDesk$Setup" "neverSet" "I", Cond.fieldLink RX8 49 "ParetoDesk$Setup" "hand" "I", Cond.fieldLink RX8 18 "ParetoDesk$Setup" "weight" "[I", Cond.methodLink RX8 52 arraycopyName, Cond.native arraycopyName, Cond.static arraycopyName, Cond.initialized "java/lang/System", Cond.fieldLink RX8 22 "ParetoDesk$Setup" "gain" "[I", Cond.fieldLink RX8 25 "ParetoDesk$Setup" "joy" "[I", Cond.fieldLink RX8 28 "ParetoDesk$Setup" "bars" "[I", Cond.fieldLink RX8 31 "ParetoDesk$Setup" "needs" "[I", Cond.methodLink RX10 137 yX10_markChanged, Cond.instanceMethod yX10_markChanged, Cond.selects RX10 yX10_markChanged yX10_markChanged, Cond.code yX10_markChanged cX10_markChanged 1 none, Cond.fieldLink RX10 395 "ParetoDesk" "frontierFresh" "Z", Cond.fieldLink RX10 399 "ParetoDesk" "searchFresh" "Z", Cond.fieldLink RX10 402 "ParetoDesk" "layersFresh" "Z"]
def wsL_undo : List Cond := .codeWith yL_undo cL_undo 3 (some .int) [(0, 8, 11, 13)] :: ((wsL_undo_r1 ++ wsL_undo_r2) ++ wsX100 ++ wsX60 ++ wsX80 ++ (vx_atS RX10 102 "java/lang/IllegalStateException" ["java/lang/RuntimeException", "java/lang/Exception"]).filter goodWord)
def wsL_outputByte : List Cond := .codeWith yL_outputByte cL_outputByte 4 (some .int) [(0, 9, 12, 29)] :: ([.classLink RL 29 "java/lang/IndexOutOfBoundsException", .methodLink RL 145 yX10_outputByte, .instanceMethod yX10_outputByte, .selects RX10 yX10_outputByte yX10_outputByte, .initialized RX10, .code yX10_outputByte cX10_outputByte 2 (some .int), .classLink RX10 240 "java/lang/IndexOutOfBoundsException", .initialized "java/lang/IndexOutOfBoundsException", .fieldLink RX10 49 "ParetoDesk" "output" "LParetoDesk$Output;", .fieldLink RX10 381 "ParetoDesk$Output" "length" "I", .fieldLink RX10 392 "ParetoDesk$Output" "bytes" "[B"] ++ wsX100 ++ wsX40 ++ (vx_atS RX10 244 "java/lang/IndexOutOfBoundsException" ["java/lang/RuntimeException", "java/lang/Exception"]).filter goodWord)
theorem dX0_init_0 : decode cX0_init 0 = .ok (.aload_n 0, 1) := by decide +kernel
theorem dX0_init_1 : decode cX0_init 1 = .ok (.invokespecial 3, 3) := by decide +kernel
theorem dX0_init_4 : decode cX0_init 4 = .ok (.aload_n 0, 1) := by decide +kernel
theorem dX0_init_5 : decode cX0_init 5 = .ok (.sipush 4096, 3) := by decide +kernel
theorem dX0_init_8 : decode cX0_init 8 = .ok (.newarray .int, 2) := by decide +kernel
theorem dX0_init_10 : decode cX0_init 10 = .ok (.putfield 9, 3) := by decide +kernel
theorem dX0_init_13 : decode cX0_init 13 = .ok (.aload_n 0, 1) := by decide +kernel
theorem dX0_init_14 : decode cX0_init 14 = .ok (.sipush 4096, 3) := by decide +kernel
theorem dX0_init_17 : decode cX0_init 17 = .ok (.newarray .int, 2) := by decide +kernel
theorem dX0_init_19 : decode cX0_init 19 = .ok (.putfield 15, 3) := by decide +kernel
theorem dX0_init_22 : decode cX0_init 22 = .ok (.aload_n 0, 1) := by decide +kernel
theorem dX0_init_23 : decode cX0_init 23 = .ok (.sipush 4096, 3) := by decide +kernel
theorem dX0_init_26 : decode cX0_init 26 = .ok (.newarray .int, 2) := by decide +kernel
theorem dX0_init_28 : decode cX0_init 28 = .ok (.putfield 18, 3) := by decide +kernel
theorem dX0_init_31 : decode cX0_init 31 = .ok (.aload_n 0, 1) := by decide +kernel
theorem dX0_init_32 : decode cX0_init 32 = .ok (.sipush 4096, 3) := by decide +kernel
theorem dX0_init_35 : decode cX0_init 35 = .ok (.newarray .int, 2) := by decide +kernel
theorem dX0_init_37 : decode cX0_init 37 = .ok (.putfield 21, 3) := by decide +kernel
theorem dX0_init_40 : decode cX0_init 40 = .ok (.aload_n 0, 1) := by decide +kernel
theorem dX0_init_41 : decode cX0_init 41 = .ok (.sipush 4096, 3) := by decide +kernel
theorem dX0_init_44 : decode cX0_init 44 = .ok (.newarray .int, 2) := by decide +kernel
theorem dX0_init_46 : decode cX0_init 46 = .ok (.putfield 24, 3) := by decide +kernel
theorem dX0_init_49 : decode cX0_init 49 = .ok (.return_, 1) := by decide +kernel
theorem dX0_build_0 : decode cX0_build 0 = .ok (.aload_n 0, 1) := by decide +kernel
theorem dX0_build_1 : decode cX0_build 1 = .ok (.aload_n 1, 1) := by decide +kernel
theorem dX0_build_2 : decode cX0_build 2 = .ok (.getfield 27, 3) := by decide +kernel
theorem dX0_build_5 : decode cX0_build 5 = .ok (.putfield 33, 3) := by decide +kernel
theorem dX0_build_8 : decode cX0_build 8 = .ok (.aload_n 0, 1) := by decide +kernel
theorem dX0_build_9 : decode cX0_build 9 = .ok (.aload_n 1, 1) := by decide +kernel
theorem dX0_build_10 : decode cX0_build 10 = .ok (.getfield 34, 3) := by decide +kernel
theorem dX0_build_13 : decode cX0_build 13 = .ok (.putfield 37, 3) := by decide +kernel
theorem dX0_build_16 : decode cX0_build 16 = .ok (.aload_n 0, 1) := by decide +kernel
theorem dX0_build_17 : decode cX0_build 17 = .ok (.aload_n 1, 1) := by decide +kernel
theorem dX0_build_18 : decode cX0_build 18 = .ok (.getfield 38, 3) := by decide +kernel
theorem dX0_build_21 : decode cX0_build 21 = .ok (.putfield 41, 3) := by decide +kernel
theorem dX0_build_24 : decode cX0_build 24 = .ok (.aload_n 0, 1) := by decide +kernel
theorem dX0_build_25 : decode cX0_build 25 = .ok (.iconst 1, 1) := by decide +kernel
theorem dX0_build_26 : decode cX0_build 26 = .ok (.putfield 42, 3) := by decide +kernel
theorem dX0_build_29 : decode cX0_build 29 = .ok (.iconst 0, 1) := by decide +kernel
theorem dX0_build_30 : decode cX0_build 30 = .ok (.istore_n 2, 1) := by decide +kernel
theorem dX0_build_31 : decode cX0_build 31 = .ok (.iload_n 2, 1) := by decide +kernel
theorem dX0_build_32 : decode cX0_build 32 = .ok (.aload_n 1, 1) := by decide +kernel
theorem dX0_build_33 : decode cX0_build 33 = .ok (.getfield 45, 3) := by decide +kernel
theorem dX0_build_36 : decode cX0_build 36 = .ok (.if_icmp .ge 156, 3) := by decide +kernel
theorem dX0_build_39 : decode cX0_build 39 = .ok (.iload_n 2, 1) := by decide +kernel
theorem dX0_build_40 : decode cX0_build 40 = .ok (.bipush 12, 2) := by decide +kernel
theorem dX0_build_42 : decode cX0_build 42 = .ok (.if_icmp .ge 150, 3) := by decide +kernel
theorem dX0_build_45 : decode cX0_build 45 = .ok (.iconst 1, 1) := by decide +kernel
theorem dX0_build_46 : decode cX0_build 46 = .ok (.iload_n 2, 1) := by decide +kernel
theorem dX0_build_47 : decode cX0_build 47 = .ok (.ishl, 1) := by decide +kernel
theorem dX0_build_48 : decode cX0_build 48 = .ok (.istore_n 3, 1) := by decide +kernel
theorem dX0_build_49 : decode cX0_build 49 = .ok (.iconst 0, 1) := by decide +kernel
theorem dX0_build_50 : decode cX0_build 50 = .ok (.istore 4, 2) := by decide +kernel
theorem dX0_build_52 : decode cX0_build 52 = .ok (.iload 4, 2) := by decide +kernel
theorem dX0_build_54 : decode cX0_build 54 = .ok (.iload_n 3, 1) := by decide +kernel
theorem dX0_build_55 : decode cX0_build 55 = .ok (.if_icmp .ge 124, 3) := by decide +kernel
theorem dX0_build_58 : decode cX0_build 58 = .ok (.aload_n 0, 1) := by decide +kernel
theorem dX0_build_59 : decode cX0_build 59 = .ok (.getfield 9, 3) := by decide +kernel
theorem dX0_build_62 : decode cX0_build 62 = .ok (.iload_n 3, 1) := by decide +kernel
theorem dX0_build_63 : decode cX0_build 63 = .ok (.iload 4, 2) := by decide +kernel
theorem dX0_build_65 : decode cX0_build 65 = .ok (.iadd, 1) := by decide +kernel
theorem dX0_build_66 : decode cX0_build 66 = .ok (.aload_n 0, 1) := by decide +kernel
theorem dX0_build_67 : decode cX0_build 67 = .ok (.getfield 9, 3) := by decide +kernel
theorem dX0_build_70 : decode cX0_build 70 = .ok (.iload 4, 2) := by decide +kernel
theorem dX0_build_72 : decode cX0_build 72 = .ok (.iaload, 1) := by decide +kernel
theorem dX0_build_73 : decode cX0_build 73 = .ok (.aload_n 1, 1) := by decide +kernel
theorem dX0_build_74 : decode cX0_build 74 = .ok (.getfield 48, 3) := by decide +kernel
theorem dX0_build_77 : decode cX0_build 77 = .ok (.iload_n 2, 1) := by decide +kernel
theorem dX0_build_78 : decode cX0_build 78 = .ok (.iaload, 1) := by decide +kernel
theorem dX0_build_79 : decode cX0_build 79 = .ok (.iadd, 1) := by decide +kernel
theorem dX0_build_80 : decode cX0_build 80 = .ok (.iastore, 1) := by decide +kernel
theorem dX0_build_81 : decode cX0_build 81 = .ok (.aload_n 0, 1) := by decide +kernel
theorem dX0_build_82 : decode cX0_build 82 = .ok (.getfield 15, 3) := by decide +kernel
theorem dX0_build_85 : decode cX0_build 85 = .ok (.iload_n 3, 1) := by decide +kernel
theorem dX0_build_86 : decode cX0_build 86 = .ok (.iload 4, 2) := by decide +kernel
theorem dX0_build_88 : decode cX0_build 88 = .ok (.iadd, 1) := by decide +kernel
theorem dX0_build_89 : decode cX0_build 89 = .ok (.aload_n 0, 1) := by decide +kernel
theorem dX0_build_90 : decode cX0_build 90 = .ok (.getfield 15, 3) := by decide +kernel
theorem dX0_build_93 : decode cX0_build 93 = .ok (.iload 4, 2) := by decide +kernel
theorem dX0_build_95 : decode cX0_build 95 = .ok (.iaload, 1) := by decide +kernel
theorem dX0_build_96 : decode cX0_build 96 = .ok (.aload_n 1, 1) := by decide +kernel
theorem dX0_build_97 : decode cX0_build 97 = .ok (.getfield 49, 3) := by decide +kernel
theorem dX0_build_100 : decode cX0_build 100 = .ok (.iload_n 2, 1) := by decide +kernel
theorem dX0_build_101 : decode cX0_build 101 = .ok (.iaload, 1) := by decide +kernel
theorem dX0_build_102 : decode cX0_build 102 = .ok (.iadd, 1) := by decide +kernel
theorem dX0_build_103 : decode cX0_build 103 = .ok (.iastore, 1) := by decide +kernel
theorem dX0_build_104 : decode cX0_build 104 = .ok (.aload_n 0, 1) := by decide +kernel
theorem dX0_build_105 : decode cX0_build 105 = .ok (.getfield 18, 3) := by decide +kernel
theorem dX0_build_108 : decode cX0_build 108 = .ok (.iload_n 3, 1) := by decide +kernel
theorem dX0_build_109 : decode cX0_build 109 = .ok (.iload 4, 2) := by decide +kernel
theorem dX0_build_111 : decode cX0_build 111 = .ok (.iadd, 1) := by decide +kernel
theorem dX0_build_112 : decode cX0_build 112 = .ok (.aload_n 0, 1) := by decide +kernel
theorem dX0_build_113 : decode cX0_build 113 = .ok (.getfield 18, 3) := by decide +kernel
theorem dX0_build_116 : decode cX0_build 116 = .ok (.iload 4, 2) := by decide +kernel
theorem dX0_build_118 : decode cX0_build 118 = .ok (.iaload, 1) := by decide +kernel
theorem dX0_build_119 : decode cX0_build 119 = .ok (.aload_n 1, 1) := by decide +kernel
theorem dX0_build_120 : decode cX0_build 120 = .ok (.getfield 50, 3) := by decide +kernel
theorem dX0_build_123 : decode cX0_build 123 = .ok (.iload_n 2, 1) := by decide +kernel
theorem dX0_build_124 : decode cX0_build 124 = .ok (.iaload, 1) := by decide +kernel
theorem dX0_build_125 : decode cX0_build 125 = .ok (.iadd, 1) := by decide +kernel
theorem dX0_build_126 : decode cX0_build 126 = .ok (.iastore, 1) := by decide +kernel
theorem dX0_build_127 : decode cX0_build 127 = .ok (.aload_n 0, 1) := by decide +kernel
theorem dX0_build_128 : decode cX0_build 128 = .ok (.getfield 21, 3) := by decide +kernel
theorem dX0_build_131 : decode cX0_build 131 = .ok (.iload_n 3, 1) := by decide +kernel
theorem dX0_build_132 : decode cX0_build 132 = .ok (.iload 4, 2) := by decide +kernel
theorem dX0_build_134 : decode cX0_build 134 = .ok (.iadd, 1) := by decide +kernel
theorem dX0_build_135 : decode cX0_build 135 = .ok (.aload_n 0, 1) := by decide +kernel
theorem dX0_build_136 : decode cX0_build 136 = .ok (.getfield 21, 3) := by decide +kernel
theorem dX0_build_139 : decode cX0_build 139 = .ok (.iload 4, 2) := by decide +kernel
theorem dX0_build_141 : decode cX0_build 141 = .ok (.iaload, 1) := by decide +kernel
theorem dX0_build_142 : decode cX0_build 142 = .ok (.aload_n 1, 1) := by decide +kernel
theorem dX0_build_143 : decode cX0_build 143 = .ok (.getfield 51, 3) := by decide +kernel
theorem dX0_build_146 : decode cX0_build 146 = .ok (.iload_n 2, 1) := by decide +kernel
theorem dX0_build_147 : decode cX0_build 147 = .ok (.iaload, 1) := by decide +kernel
theorem dX0_build_148 : decode cX0_build 148 = .ok (.ior, 1) := by decide +kernel
theorem dX0_build_149 : decode cX0_build 149 = .ok (.iastore, 1) := by decide +kernel
theorem dX0_build_150 : decode cX0_build 150 = .ok (.aload_n 0, 1) := by decide +kernel
theorem dX0_build_151 : decode cX0_build 151 = .ok (.getfield 24, 3) := by decide +kernel
theorem dX0_build_154 : decode cX0_build 154 = .ok (.iload_n 3, 1) := by decide +kernel
theorem dX0_build_155 : decode cX0_build 155 = .ok (.iload 4, 2) := by decide +kernel
theorem dX0_build_157 : decode cX0_build 157 = .ok (.iadd, 1) := by decide +kernel
theorem dX0_build_158 : decode cX0_build 158 = .ok (.aload_n 0, 1) := by decide +kernel
theorem dX0_build_159 : decode cX0_build 159 = .ok (.getfield 24, 3) := by decide +kernel
theorem dX0_build_162 : decode cX0_build 162 = .ok (.iload 4, 2) := by decide +kernel
theorem dX0_build_164 : decode cX0_build 164 = .ok (.iaload, 1) := by decide +kernel
theorem dX0_build_165 : decode cX0_build 165 = .ok (.aload_n 1, 1) := by decide +kernel
theorem dX0_build_166 : decode cX0_build 166 = .ok (.getfield 54, 3) := by decide +kernel
theorem dX0_build_169 : decode cX0_build 169 = .ok (.iload_n 2, 1) := by decide +kernel
theorem dX0_build_170 : decode cX0_build 170 = .ok (.iaload, 1) := by decide +kernel
theorem dX0_build_171 : decode cX0_build 171 = .ok (.ior, 1) := by decide +kernel
theorem dX0_build_172 : decode cX0_build 172 = .ok (.iastore, 1) := by decide +kernel
theorem dX0_build_173 : decode cX0_build 173 = .ok (.iinc 4 1, 3) := by decide +kernel
theorem dX0_build_176 : decode cX0_build 176 = .ok (.goto (-124), 3) := by decide +kernel
theorem dX0_build_179 : decode cX0_build 179 = .ok (.aload_n 0, 1) := by decide +kernel
theorem dX0_build_180 : decode cX0_build 180 = .ok (.iconst 2, 1) := by decide +kernel
theorem dX0_build_181 : decode cX0_build 181 = .ok (.iload_n 3, 1) := by decide +kernel
theorem dX0_build_182 : decode cX0_build 182 = .ok (.imul, 1) := by decide +kernel
theorem dX0_build_183 : decode cX0_build 183 = .ok (.putfield 42, 3) := by decide +kernel
theorem dX0_build_186 : decode cX0_build 186 = .ok (.iinc 2 1, 3) := by decide +kernel
theorem dX0_build_189 : decode cX0_build 189 = .ok (.goto (-158), 3) := by decide +kernel
theorem dX0_build_192 : decode cX0_build 192 = .ok (.return_, 1) := by decide +kernel
set_option maxRecDepth 20000 in
theorem ggX0_reason_X0_reasonBesideWeight : GoodIn wsX0_reason wsX0_reasonBesideWeight := goodIn_r _ [6, 7, 8, 9, 10, 11, 12, 13, 14, 15, 16, 17, 18, 19, 20, 21, 22, 23, 24, 25, 26, 27] (by decide +kernel) (by decide +kernel)
set_option maxRecDepth 20000 in
theorem gX0_reason_X0_reasonBesideWeight : GoodIn wsX0_reason (wsV RX0 57 RX0 yX0_reasonBesideWeight wsX0_reasonBesideWeight) := goodIn_app (goodIn_of _ (by decide +kernel)) ggX0_reason_X0_reasonBesideWeight
theorem dX0_reason_0 : decode cX0_reason 0 = .ok (.aload_n 0, 1) := by decide +kernel
theorem dX0_reason_1 : decode cX0_reason 1 = .ok (.getfield 9, 3) := by decide +kernel
theorem dX0_reason_4 : decode cX0_reason 4 = .ok (.iload_n 1, 1) := by decide +kernel
theorem dX0_reason_5 : decode cX0_reason 5 = .ok (.iaload, 1) := by decide +kernel
theorem dX0_reason_6 : decode cX0_reason 6 = .ok (.iload_n 2, 1) := by decide +kernel
theorem dX0_reason_7 : decode cX0_reason 7 = .ok (.if_icmp .le 7, 3) := by decide +kernel
theorem dX0_reason_10 : decode cX0_reason 10 = .ok (.iconst 1, 1) := by decide +kernel
theorem dX0_reason_11 : decode cX0_reason 11 = .ok (.goto 8, 3) := by decide +kernel
theorem dX0_reason_14 : decode cX0_reason 14 = .ok (.aload_n 0, 1) := by decide +kernel
theorem dX0_reason_15 : decode cX0_reason 15 = .ok (.iload_n 1, 1) := by decide +kernel
theorem dX0_reason_16 : decode cX0_reason 16 = .ok (.invokevirtual 57, 3) := by decide +kernel
theorem dX0_reason_19 : decode cX0_reason 19 = .ok (.ireturn, 1) := by decide +kernel
set_option maxRecDepth 20000 in
theorem ggX0_reasonBesideWeight_J6_bitCount_0f7a4 : GoodIn wsX0_reasonBesideWeight wsJ6_bitCount_0f7a4 := goodIn_r _ [9, 10, 11, 12] (by decide +kernel) (by decide +kernel)
set_option maxRecDepth 20000 in
theorem gX0_reasonBesideWeight_J6_bitCount_0f7a4 : GoodIn wsX0_reasonBesideWeight (va_wsS RX0 61 yJ6_bitCount_0f7a4 wsJ6_bitCount_0f7a4) := goodIn_app (goodIn_of _ (by decide +kernel)) ggX0_reasonBesideWeight_J6_bitCount_0f7a4
theorem dX0_reasonBesideWeight_0 : decode cX0_reasonBesideWeight 0 = .ok (.iload_n 1, 1) := by decide +kernel
theorem dX0_reasonBesideWeight_1 : decode cX0_reasonBesideWeight 1 = .ok (.invokestatic 61, 3) := by decide +kernel
theorem dX0_reasonBesideWeight_4 : decode cX0_reasonBesideWeight 4 = .ok (.aload_n 0, 1) := by decide +kernel
theorem dX0_reasonBesideWeight_5 : decode cX0_reasonBesideWeight 5 = .ok (.getfield 33, 3) := by decide +kernel
theorem dX0_reasonBesideWeight_8 : decode cX0_reasonBesideWeight 8 = .ok (.if_icmp .le 5, 3) := by decide +kernel
theorem dX0_reasonBesideWeight_11 : decode cX0_reasonBesideWeight 11 = .ok (.iconst 2, 1) := by decide +kernel
theorem dX0_reasonBesideWeight_12 : decode cX0_reasonBesideWeight 12 = .ok (.ireturn, 1) := by decide +kernel
theorem dX0_reasonBesideWeight_13 : decode cX0_reasonBesideWeight 13 = .ok (.aload_n 0, 1) := by decide +kernel
theorem dX0_reasonBesideWeight_14 : decode cX0_reasonBesideWeight 14 = .ok (.getfield 21, 3) := by decide +kernel
theorem dX0_reasonBesideWeight_17 : decode cX0_reasonBesideWeight 17 = .ok (.iload_n 1, 1) := by decide +kernel
theorem dX0_reasonBesideWeight_18 : decode cX0_reasonBesideWeight 18 = .ok (.iaload, 1) := by decide +kernel
theorem dX0_reasonBesideWeight_19 : decode cX0_reasonBesideWeight 19 = .ok (.iload_n 1, 1) := by decide +kernel
theorem dX0_reasonBesideWeight_20 : decode cX0_reasonBesideWeight 20 = .ok (.iand, 1) := by decide +kernel
theorem dX0_reasonBesideWeight_21 : decode cX0_reasonBesideWeight 21 = .ok (.ifCond .eq 5, 3) := by decide +kernel
theorem dX0_reasonBesideWeight_24 : decode cX0_reasonBesideWeight 24 = .ok (.iconst 3, 1) := by decide +kernel
theorem dX0_reasonBesideWeight_25 : decode cX0_reasonBesideWeight 25 = .ok (.ireturn, 1) := by decide +kernel
theorem dX0_reasonBesideWeight_26 : decode cX0_reasonBesideWeight 26 = .ok (.aload_n 0, 1) := by decide +kernel
theorem dX0_reasonBesideWeight_27 : decode cX0_reasonBesideWeight 27 = .ok (.getfield 24, 3) := by decide +kernel
theorem dX0_reasonBesideWeight_30 : decode cX0_reasonBesideWeight 30 = .ok (.iload_n 1, 1) := by decide +kernel
theorem dX0_reasonBesideWeight_31 : decode cX0_reasonBesideWeight 31 = .ok (.iaload, 1) := by decide +kernel
theorem dX0_reasonBesideWeight_32 : decode cX0_reasonBesideWeight 32 = .ok (.iload_n 1, 1) := by decide +kernel
theorem dX0_reasonBesideWeight_33 : decode cX0_reasonBesideWeight 33 = .ok (.iconst (-1), 1) := by decide +kernel
theorem dX0_reasonBesideWeight_34 : decode cX0_reasonBesideWeight 34 = .ok (.ixor, 1) := by decide +kernel
theorem dX0_reasonBesideWeight_35 : decode cX0_reasonBesideWeight 35 = .ok (.iand, 1) := by decide +kernel
theorem dX0_reasonBesideWeight_36 : decode cX0_reasonBesideWeight 36 = .ok (.ifCond .eq 5, 3) := by decide +kernel
theorem dX0_reasonBesideWeight_39 : decode cX0_reasonBesideWeight 39 = .ok (.iconst 4, 1) := by decide +kernel
theorem dX0_reasonBesideWeight_40 : decode cX0_reasonBesideWeight 40 = .ok (.ireturn, 1) := by decide +kernel
theorem dX0_reasonBesideWeight_41 : decode cX0_reasonBesideWeight 41 = .ok (.aload_n 0, 1) := by decide +kernel
theorem dX0_reasonBesideWeight_42 : decode cX0_reasonBesideWeight 42 = .ok (.getfield 37, 3) := by decide +kernel
theorem dX0_reasonBesideWeight_45 : decode cX0_reasonBesideWeight 45 = .ok (.iload_n 1, 1) := by decide +kernel
theorem dX0_reasonBesideWeight_46 : decode cX0_reasonBesideWeight 46 = .ok (.iconst (-1), 1) := by decide +kernel
theorem dX0_reasonBesideWeight_47 : decode cX0_reasonBesideWeight 47 = .ok (.ixor, 1) := by decide +kernel
theorem dX0_reasonBesideWeight_48 : decode cX0_reasonBesideWeight 48 = .ok (.iand, 1) := by decide +kernel
theorem dX0_reasonBesideWeight_49 : decode cX0_reasonBesideWeight 49 = .ok (.ifCond .eq 5, 3) := by decide +kernel
theorem dX0_reasonBesideWeight_52 : decode cX0_reasonBesideWeight 52 = .ok (.iconst 5, 1) := by decide +kernel
theorem dX0_reasonBesideWeight_53 : decode cX0_reasonBesideWeight 53 = .ok (.ireturn, 1) := by decide +kernel
theorem dX0_reasonBesideWeight_54 : decode cX0_reasonBesideWeight 54 = .ok (.aload_n 0, 1) := by decide +kernel
theorem dX0_reasonBesideWeight_55 : decode cX0_reasonBesideWeight 55 = .ok (.getfield 41, 3) := by decide +kernel
theorem dX0_reasonBesideWeight_58 : decode cX0_reasonBesideWeight 58 = .ok (.iload_n 1, 1) := by decide +kernel
theorem dX0_reasonBesideWeight_59 : decode cX0_reasonBesideWeight 59 = .ok (.iand, 1) := by decide +kernel
theorem dX0_reasonBesideWeight_60 : decode cX0_reasonBesideWeight 60 = .ok (.ifCond .eq 8, 3) := by decide +kernel
theorem dX0_reasonBesideWeight_63 : decode cX0_reasonBesideWeight 63 = .ok (.bipush 6, 2) := by decide +kernel
theorem dX0_reasonBesideWeight_65 : decode cX0_reasonBesideWeight 65 = .ok (.goto 4, 3) := by decide +kernel
theorem dX0_reasonBesideWeight_68 : decode cX0_reasonBesideWeight 68 = .ok (.iconst 0, 1) := by decide +kernel
theorem dX0_reasonBesideWeight_69 : decode cX0_reasonBesideWeight 69 = .ok (.ireturn, 1) := by decide +kernel
set_option maxRecDepth 20000 in
theorem ggX0_leastWeight_X0_reasonBesideWeight : GoodIn wsX0_leastWeight wsX0_reasonBesideWeight := goodIn_r _ [9, 10, 11, 12, 13, 14, 15, 16, 17, 18, 19, 20, 21, 22, 23, 24, 25, 26, 27, 28, 29, 30] (by decide +kernel) (by decide +kernel)
set_option maxRecDepth 20000 in
theorem gX0_leastWeight_X0_reasonBesideWeight : GoodIn wsX0_leastWeight (wsV RX0 57 RX0 yX0_reasonBesideWeight wsX0_reasonBesideWeight) := goodIn_app (goodIn_of _ (by decide +kernel)) ggX0_leastWeight_X0_reasonBesideWeight
theorem dX0_leastWeight_0 : decode cX0_leastWeight 0 = .ok (.sipush 1000, 3) := by decide +kernel
theorem dX0_leastWeight_3 : decode cX0_leastWeight 3 = .ok (.istore_n 3, 1) := by decide +kernel
theorem dX0_leastWeight_4 : decode cX0_leastWeight 4 = .ok (.iconst 0, 1) := by decide +kernel
theorem dX0_leastWeight_5 : decode cX0_leastWeight 5 = .ok (.istore 4, 2) := by decide +kernel
theorem dX0_leastWeight_7 : decode cX0_leastWeight 7 = .ok (.iload 4, 2) := by decide +kernel
theorem dX0_leastWeight_9 : decode cX0_leastWeight 9 = .ok (.aload_n 0, 1) := by decide +kernel
theorem dX0_leastWeight_10 : decode cX0_leastWeight 10 = .ok (.getfield 42, 3) := by decide +kernel
theorem dX0_leastWeight_13 : decode cX0_leastWeight 13 = .ok (.if_icmp .ge 67, 3) := by decide +kernel
theorem dX0_leastWeight_16 : decode cX0_leastWeight 16 = .ok (.iload 4, 2) := by decide +kernel
theorem dX0_leastWeight_18 : decode cX0_leastWeight 18 = .ok (.sipush 4096, 3) := by decide +kernel
theorem dX0_leastWeight_21 : decode cX0_leastWeight 21 = .ok (.if_icmp .ge 59, 3) := by decide +kernel
theorem dX0_leastWeight_24 : decode cX0_leastWeight 24 = .ok (.aload_n 0, 1) := by decide +kernel
theorem dX0_leastWeight_25 : decode cX0_leastWeight 25 = .ok (.getfield 9, 3) := by decide +kernel
theorem dX0_leastWeight_28 : decode cX0_leastWeight 28 = .ok (.iload 4, 2) := by decide +kernel
theorem dX0_leastWeight_30 : decode cX0_leastWeight 30 = .ok (.iaload, 1) := by decide +kernel
theorem dX0_leastWeight_31 : decode cX0_leastWeight 31 = .ok (.iload_n 3, 1) := by decide +kernel
theorem dX0_leastWeight_32 : decode cX0_leastWeight 32 = .ok (.if_icmp .ge 42, 3) := by decide +kernel
theorem dX0_leastWeight_35 : decode cX0_leastWeight 35 = .ok (.aload_n 0, 1) := by decide +kernel
theorem dX0_leastWeight_36 : decode cX0_leastWeight 36 = .ok (.getfield 15, 3) := by decide +kernel
theorem dX0_leastWeight_39 : decode cX0_leastWeight 39 = .ok (.iload 4, 2) := by decide +kernel
theorem dX0_leastWeight_41 : decode cX0_leastWeight 41 = .ok (.iaload, 1) := by decide +kernel
theorem dX0_leastWeight_42 : decode cX0_leastWeight 42 = .ok (.iload_n 1, 1) := by decide +kernel
theorem dX0_leastWeight_43 : decode cX0_leastWeight 43 = .ok (.if_icmp .lt 31, 3) := by decide +kernel
theorem dX0_leastWeight_46 : decode cX0_leastWeight 46 = .ok (.aload_n 0, 1) := by decide +kernel
theorem dX0_leastWeight_47 : decode cX0_leastWeight 47 = .ok (.getfield 18, 3) := by decide +kernel
theorem dX0_leastWeight_50 : decode cX0_leastWeight 50 = .ok (.iload 4, 2) := by decide +kernel
theorem dX0_leastWeight_52 : decode cX0_leastWeight 52 = .ok (.iaload, 1) := by decide +kernel
theorem dX0_leastWeight_53 : decode cX0_leastWeight 53 = .ok (.iload_n 2, 1) := by decide +kernel
theorem dX0_leastWeight_54 : decode cX0_leastWeight 54 = .ok (.if_icmp .lt 20, 3) := by decide +kernel
theorem dX0_leastWeight_57 : decode cX0_leastWeight 57 = .ok (.aload_n 0, 1) := by decide +kernel
theorem dX0_leastWeight_58 : decode cX0_leastWeight 58 = .ok (.iload 4, 2) := by decide +kernel
theorem dX0_leastWeight_60 : decode cX0_leastWeight 60 = .ok (.invokevirtual 57, 3) := by decide +kernel
theorem dX0_leastWeight_63 : decode cX0_leastWeight 63 = .ok (.ifCond .ne 11, 3) := by decide +kernel
theorem dX0_leastWeight_66 : decode cX0_leastWeight 66 = .ok (.aload_n 0, 1) := by decide +kernel
theorem dX0_leastWeight_67 : decode cX0_leastWeight 67 = .ok (.getfield 9, 3) := by decide +kernel
theorem dX0_leastWeight_70 : decode cX0_leastWeight 70 = .ok (.iload 4, 2) := by decide +kernel
theorem dX0_leastWeight_72 : decode cX0_leastWeight 72 = .ok (.iaload, 1) := by decide +kernel
theorem dX0_leastWeight_73 : decode cX0_leastWeight 73 = .ok (.istore_n 3, 1) := by decide +kernel
theorem dX0_leastWeight_74 : decode cX0_leastWeight 74 = .ok (.iinc 4 1, 3) := by decide +kernel
theorem dX0_leastWeight_77 : decode cX0_leastWeight 77 = .ok (.goto (-70), 3) := by decide +kernel
theorem dX0_leastWeight_80 : decode cX0_leastWeight 80 = .ok (.iload_n 3, 1) := by decide +kernel
theorem dX0_leastWeight_81 : decode cX0_leastWeight 81 = .ok (.sipush 999, 3) := by decide +kernel
theorem dX0_leastWeight_84 : decode cX0_leastWeight 84 = .ok (.if_icmp .gt 7, 3) := by decide +kernel
theorem dX0_leastWeight_87 : decode cX0_leastWeight 87 = .ok (.iload_n 3, 1) := by decide +kernel
theorem dX0_leastWeight_88 : decode cX0_leastWeight 88 = .ok (.goto 4, 3) := by decide +kernel
theorem dX0_leastWeight_91 : decode cX0_leastWeight 91 = .ok (.iconst (-1), 1) := by decide +kernel
theorem dX0_leastWeight_92 : decode cX0_leastWeight 92 = .ok (.ireturn, 1) := by decide +kernel
theorem dX1_init_0 : decode cX1_init 0 = .ok (.aload_n 0, 1) := by decide +kernel
theorem dX1_init_1 : decode cX1_init 1 = .ok (.invokespecial 3, 3) := by decide +kernel
theorem dX1_init_4 : decode cX1_init 4 = .ok (.return_, 1) := by decide +kernel
set_option maxRecDepth 20000 in
theorem ggX1_run_X1_lookAround : GoodIn wsX1_run wsX1_lookAround := goodIn_r _ [10, 5, 4, 11, 2, 12, 13, 14, 15, 9, 16, 17, 18, 19, 20, 21, 22, 23, 24, 25, 26, 27, 28, 29, 30, 31, 32, 33, 34, 35, 36, 37, 38, 39, 40, 41, 42, 43, 44, 45, 46, 58, 59, 60, 61, 47, 48, 49, 50, 51, 52, 53, 54, 55, 56, 57, 62, 63, 64, 65, 66, 67, 68, 69, 70] (by decide +kernel) (by decide +kernel)
set_option maxRecDepth 20000 in
theorem gX1_run_X1_lookAround : GoodIn wsX1_run (wsV RX1 23 RX1 yX1_lookAround wsX1_lookAround) := goodIn_app (goodIn_of _ (by decide +kernel)) ggX1_run_X1_lookAround
set_option maxRecDepth 20000 in
theorem ggX1_run_X1_value : GoodIn wsX1_run wsX1_value := goodIn_r _ [41, 42, 43, 62, 63, 64, 65, 66, 67, 68, 69, 70] (by decide +kernel) (by decide +kernel)
set_option maxRecDepth 20000 in
theorem gX1_run_X1_value : GoodIn wsX1_run (va_wsS RX1 30 yX1_value wsX1_value) := goodIn_app (goodIn_of _ (by decide +kernel)) ggX1_run_X1_value
theorem dX1_run_0 : decode cX1_run 0 = .ok (.aload_n 0, 1) := by decide +kernel
theorem dX1_run_1 : decode cX1_run 1 = .ok (.aload_n 2, 1) := by decide +kernel
theorem dX1_run_2 : decode cX1_run 2 = .ok (.getfield 9, 3) := by decide +kernel
theorem dX1_run_5 : decode cX1_run 5 = .ok (.putfield 15, 3) := by decide +kernel
theorem dX1_run_8 : decode cX1_run 8 = .ok (.aload_n 0, 1) := by decide +kernel
theorem dX1_run_9 : decode cX1_run 9 = .ok (.iconst 0, 1) := by decide +kernel
theorem dX1_run_10 : decode cX1_run 10 = .ok (.putfield 20, 3) := by decide +kernel
theorem dX1_run_13 : decode cX1_run 13 = .ok (.iconst 0, 1) := by decide +kernel
theorem dX1_run_14 : decode cX1_run 14 = .ok (.istore 5, 2) := by decide +kernel
theorem dX1_run_16 : decode cX1_run 16 = .ok (.iload 5, 2) := by decide +kernel
theorem dX1_run_18 : decode cX1_run 18 = .ok (.sipush 4096, 3) := by decide +kernel
theorem dX1_run_21 : decode cX1_run 21 = .ok (.if_icmp .ge 55, 3) := by decide +kernel
theorem dX1_run_24 : decode cX1_run 24 = .ok (.aload_n 0, 1) := by decide +kernel
theorem dX1_run_25 : decode cX1_run 25 = .ok (.aload_n 1, 1) := by decide +kernel
theorem dX1_run_26 : decode cX1_run 26 = .ok (.aload_n 2, 1) := by decide +kernel
theorem dX1_run_27 : decode cX1_run 27 = .ok (.iload_n 3, 1) := by decide +kernel
theorem dX1_run_28 : decode cX1_run 28 = .ok (.iload 4, 2) := by decide +kernel
theorem dX1_run_30 : decode cX1_run 30 = .ok (.invokevirtual 23, 3) := by decide +kernel
theorem dX1_run_33 : decode cX1_run 33 = .ok (.aload_n 0, 1) := by decide +kernel
theorem dX1_run_34 : decode cX1_run 34 = .ok (.getfield 27, 3) := by decide +kernel
theorem dX1_run_37 : decode cX1_run 37 = .ok (.aload_n 1, 1) := by decide +kernel
theorem dX1_run_38 : decode cX1_run 38 = .ok (.aload_n 0, 1) := by decide +kernel
theorem dX1_run_39 : decode cX1_run 39 = .ok (.getfield 15, 3) := by decide +kernel
theorem dX1_run_42 : decode cX1_run 42 = .ok (.iload_n 3, 1) := by decide +kernel
theorem dX1_run_43 : decode cX1_run 43 = .ok (.iload 4, 2) := by decide +kernel
theorem dX1_run_45 : decode cX1_run 45 = .ok (.invokestatic 30, 3) := by decide +kernel
theorem dX1_run_48 : decode cX1_run 48 = .ok (.if_icmp .gt 4, 3) := by decide +kernel
theorem dX1_run_51 : decode cX1_run 51 = .ok (.return_, 1) := by decide +kernel
theorem dX1_run_52 : decode cX1_run 52 = .ok (.aload_n 0, 1) := by decide +kernel
theorem dX1_run_53 : decode cX1_run 53 = .ok (.aload_n 0, 1) := by decide +kernel
theorem dX1_run_54 : decode cX1_run 54 = .ok (.getfield 34, 3) := by decide +kernel
theorem dX1_run_57 : decode cX1_run 57 = .ok (.putfield 15, 3) := by decide +kernel
theorem dX1_run_60 : decode cX1_run 60 = .ok (.aload_n 0, 1) := by decide +kernel
theorem dX1_run_61 : decode cX1_run 61 = .ok (.dup, 1) := by decide +kernel
theorem dX1_run_62 : decode cX1_run 62 = .ok (.getfield 20, 3) := by decide +kernel
theorem dX1_run_65 : decode cX1_run 65 = .ok (.iconst 1, 1) := by decide +kernel
theorem dX1_run_66 : decode cX1_run 66 = .ok (.iadd, 1) := by decide +kernel
theorem dX1_run_67 : decode cX1_run 67 = .ok (.putfield 20, 3) := by decide +kernel
theorem dX1_run_70 : decode cX1_run 70 = .ok (.iinc 5 1, 3) := by decide +kernel
theorem dX1_run_73 : decode cX1_run 73 = .ok (.goto (-57), 3) := by decide +kernel
theorem dX1_run_76 : decode cX1_run 76 = .ok (.return_, 1) := by decide +kernel
set_option maxRecDepth 20000 in
theorem ggX1_lookAround_X1_lookAt : GoodIn wsX1_lookAround wsX1_lookAt := goodIn_r _ [10, 2, 1, 11, 12, 13, 14, 15, 16, 17, 18, 19, 20, 21, 22, 23, 24, 25, 26, 27, 28, 29, 30, 31, 32, 33, 34, 9, 35, 36, 37, 41, 42, 43, 44, 56, 57, 58, 59, 60, 61, 62, 63, 64] (by decide +kernel) (by decide +kernel)
set_option maxRecDepth 20000 in
theorem gX1_lookAround_X1_lookAt : GoodIn wsX1_lookAround (wsV RX1 43 RX1 yX1_lookAt wsX1_lookAt) := goodIn_app (goodIn_of _ (by decide +kernel)) ggX1_lookAround_X1_lookAt
set_option maxRecDepth 20000 in
theorem ggX1_lookAround_X10_hasBit : GoodIn wsX1_lookAround wsX10_hasBit := goodIn_r _ [40] (by decide +kernel) (by decide +kernel)
set_option maxRecDepth 20000 in
theorem gX1_lookAround_X10_hasBit_n47 : GoodIn wsX1_lookAround (wsX10_hasBit) := ggX1_lookAround_X10_hasBit
theorem dX1_lookAround_0 : decode cX1_lookAround 0 = .ok (.aload_n 0, 1) := by decide +kernel
theorem dX1_lookAround_1 : decode cX1_lookAround 1 = .ok (.iconst (-1), 1) := by decide +kernel
theorem dX1_lookAround_2 : decode cX1_lookAround 2 = .ok (.putfield 34, 3) := by decide +kernel
theorem dX1_lookAround_5 : decode cX1_lookAround 5 = .ok (.aload_n 0, 1) := by decide +kernel
theorem dX1_lookAround_6 : decode cX1_lookAround 6 = .ok (.iconst (-1), 1) := by decide +kernel
theorem dX1_lookAround_7 : decode cX1_lookAround 7 = .ok (.putfield 27, 3) := by decide +kernel
theorem dX1_lookAround_10 : decode cX1_lookAround 10 = .ok (.iconst 0, 1) := by decide +kernel
theorem dX1_lookAround_11 : decode cX1_lookAround 11 = .ok (.istore 5, 2) := by decide +kernel
theorem dX1_lookAround_13 : decode cX1_lookAround 13 = .ok (.iload 5, 2) := by decide +kernel
theorem dX1_lookAround_15 : decode cX1_lookAround 15 = .ok (.aload_n 2, 1) := by decide +kernel
theorem dX1_lookAround_16 : decode cX1_lookAround 16 = .ok (.getfield 37, 3) := by decide +kernel
theorem dX1_lookAround_19 : decode cX1_lookAround 19 = .ok (.if_icmp .ge 90, 3) := by decide +kernel
theorem dX1_lookAround_22 : decode cX1_lookAround 22 = .ok (.aload_n 0, 1) := by decide +kernel
theorem dX1_lookAround_23 : decode cX1_lookAround 23 = .ok (.getfield 15, 3) := by decide +kernel
theorem dX1_lookAround_26 : decode cX1_lookAround 26 = .ok (.iconst 1, 1) := by decide +kernel
theorem dX1_lookAround_27 : decode cX1_lookAround 27 = .ok (.iload 5, 2) := by decide +kernel
theorem dX1_lookAround_29 : decode cX1_lookAround 29 = .ok (.ishl, 1) := by decide +kernel
theorem dX1_lookAround_30 : decode cX1_lookAround 30 = .ok (.ixor, 1) := by decide +kernel
theorem dX1_lookAround_31 : decode cX1_lookAround 31 = .ok (.istore 6, 2) := by decide +kernel
theorem dX1_lookAround_33 : decode cX1_lookAround 33 = .ok (.aload_n 0, 1) := by decide +kernel
theorem dX1_lookAround_34 : decode cX1_lookAround 34 = .ok (.aload_n 1, 1) := by decide +kernel
theorem dX1_lookAround_35 : decode cX1_lookAround 35 = .ok (.aload_n 2, 1) := by decide +kernel
theorem dX1_lookAround_36 : decode cX1_lookAround 36 = .ok (.getfield 40, 3) := by decide +kernel
theorem dX1_lookAround_39 : decode cX1_lookAround 39 = .ok (.iload 6, 2) := by decide +kernel
theorem dX1_lookAround_41 : decode cX1_lookAround 41 = .ok (.iload_n 3, 1) := by decide +kernel
theorem dX1_lookAround_42 : decode cX1_lookAround 42 = .ok (.iload 4, 2) := by decide +kernel
theorem dX1_lookAround_44 : decode cX1_lookAround 44 = .ok (.invokevirtual 43, 3) := by decide +kernel
theorem dX1_lookAround_47 : decode cX1_lookAround 47 = .ok (.iconst 0, 1) := by decide +kernel
theorem dX1_lookAround_48 : decode cX1_lookAround 48 = .ok (.istore 7, 2) := by decide +kernel
theorem dX1_lookAround_50 : decode cX1_lookAround 50 = .ok (.iload 7, 2) := by decide +kernel
theorem dX1_lookAround_52 : decode cX1_lookAround 52 = .ok (.iload 5, 2) := by decide +kernel
theorem dX1_lookAround_54 : decode cX1_lookAround 54 = .ok (.if_icmp .ge 49, 3) := by decide +kernel
theorem dX1_lookAround_57 : decode cX1_lookAround 57 = .ok (.aload_n 0, 1) := by decide +kernel
theorem dX1_lookAround_58 : decode cX1_lookAround 58 = .ok (.getfield 15, 3) := by decide +kernel
theorem dX1_lookAround_61 : decode cX1_lookAround 61 = .ok (.iload 5, 2) := by decide +kernel
theorem dX1_lookAround_63 : decode cX1_lookAround 63 = .ok (.invokestatic 47, 3) := by decide +kernel
theorem dX1_lookAround_66 : decode cX1_lookAround 66 = .ok (.aload_n 0, 1) := by decide +kernel
theorem dX1_lookAround_67 : decode cX1_lookAround 67 = .ok (.getfield 15, 3) := by decide +kernel
theorem dX1_lookAround_70 : decode cX1_lookAround 70 = .ok (.iload 7, 2) := by decide +kernel
theorem dX1_lookAround_72 : decode cX1_lookAround 72 = .ok (.invokestatic 47, 3) := by decide +kernel
theorem dX1_lookAround_75 : decode cX1_lookAround 75 = .ok (.if_icmp .eq 22, 3) := by decide +kernel
theorem dX1_lookAround_78 : decode cX1_lookAround 78 = .ok (.aload_n 0, 1) := by decide +kernel
theorem dX1_lookAround_79 : decode cX1_lookAround 79 = .ok (.aload_n 1, 1) := by decide +kernel
theorem dX1_lookAround_80 : decode cX1_lookAround 80 = .ok (.aload_n 2, 1) := by decide +kernel
theorem dX1_lookAround_81 : decode cX1_lookAround 81 = .ok (.getfield 40, 3) := by decide +kernel
theorem dX1_lookAround_84 : decode cX1_lookAround 84 = .ok (.iload 6, 2) := by decide +kernel
theorem dX1_lookAround_86 : decode cX1_lookAround 86 = .ok (.iconst 1, 1) := by decide +kernel
theorem dX1_lookAround_87 : decode cX1_lookAround 87 = .ok (.iload 7, 2) := by decide +kernel
theorem dX1_lookAround_89 : decode cX1_lookAround 89 = .ok (.ishl, 1) := by decide +kernel
theorem dX1_lookAround_90 : decode cX1_lookAround 90 = .ok (.ixor, 1) := by decide +kernel
theorem dX1_lookAround_91 : decode cX1_lookAround 91 = .ok (.iload_n 3, 1) := by decide +kernel
theorem dX1_lookAround_92 : decode cX1_lookAround 92 = .ok (.iload 4, 2) := by decide +kernel
theorem dX1_lookAround_94 : decode cX1_lookAround 94 = .ok (.invokevirtual 43, 3) := by decide +kernel
theorem dX1_lookAround_97 : decode cX1_lookAround 97 = .ok (.iinc 7 1, 3) := by decide +kernel
theorem dX1_lookAround_100 : decode cX1_lookAround 100 = .ok (.goto (-50), 3) := by decide +kernel
theorem dX1_lookAround_103 : decode cX1_lookAround 103 = .ok (.iinc 5 1, 3) := by decide +kernel
theorem dX1_lookAround_106 : decode cX1_lookAround 106 = .ok (.goto (-93), 3) := by decide +kernel
theorem dX1_lookAround_109 : decode cX1_lookAround 109 = .ok (.return_, 1) := by decide +kernel
set_option maxRecDepth 20000 in
theorem ggX1_lookAt_X0_reason : GoodIn wsX1_lookAt wsX0_reason := goodIn_r _ [7, 8, 9, 10, 11, 6, 12, 13, 14, 15, 16, 17, 18, 19, 20, 21, 22, 23, 24, 35, 36, 37, 38, 39, 40, 41, 42, 43] (by decide +kernel) (by decide +kernel)
set_option maxRecDepth 20000 in
theorem gX1_lookAt_X0_reason : GoodIn wsX1_lookAt (wsV RX1 51 RX0 yX0_reason wsX0_reason) := goodIn_app (goodIn_of _ (by decide +kernel)) ggX1_lookAt_X0_reason
set_option maxRecDepth 20000 in
theorem ggX1_lookAt_X1_value : GoodIn wsX1_lookAt wsX1_value := goodIn_r _ [28, 29, 30, 35, 36, 37, 38, 39, 40, 41, 42, 43] (by decide +kernel) (by decide +kernel)
set_option maxRecDepth 20000 in
theorem gX1_lookAt_X1_value : GoodIn wsX1_lookAt (va_wsS RX1 30 yX1_value wsX1_value) := goodIn_app (goodIn_of _ (by decide +kernel)) ggX1_lookAt_X1_value
theorem dX1_lookAt_0 : decode cX1_lookAt 0 = .ok (.aload_n 1, 1) := by decide +kernel
theorem dX1_lookAt_1 : decode cX1_lookAt 1 = .ok (.iload_n 3, 1) := by decide +kernel
theorem dX1_lookAt_2 : decode cX1_lookAt 2 = .ok (.iload_n 2, 1) := by decide +kernel
theorem dX1_lookAt_3 : decode cX1_lookAt 3 = .ok (.invokevirtual 51, 3) := by decide +kernel
theorem dX1_lookAt_6 : decode cX1_lookAt 6 = .ok (.ifCond .eq 4, 3) := by decide +kernel
theorem dX1_lookAt_9 : decode cX1_lookAt 9 = .ok (.return_, 1) := by decide +kernel
theorem dX1_lookAt_10 : decode cX1_lookAt 10 = .ok (.aload_n 1, 1) := by decide +kernel
theorem dX1_lookAt_11 : decode cX1_lookAt 11 = .ok (.iload_n 3, 1) := by decide +kernel
theorem dX1_lookAt_12 : decode cX1_lookAt 12 = .ok (.iload 4, 2) := by decide +kernel
theorem dX1_lookAt_14 : decode cX1_lookAt 14 = .ok (.iload 5, 2) := by decide +kernel
theorem dX1_lookAt_16 : decode cX1_lookAt 16 = .ok (.invokestatic 30, 3) := by decide +kernel
theorem dX1_lookAt_19 : decode cX1_lookAt 19 = .ok (.istore 6, 2) := by decide +kernel
theorem dX1_lookAt_21 : decode cX1_lookAt 21 = .ok (.iload 6, 2) := by decide +kernel
theorem dX1_lookAt_23 : decode cX1_lookAt 23 = .ok (.aload_n 0, 1) := by decide +kernel
theorem dX1_lookAt_24 : decode cX1_lookAt 24 = .ok (.getfield 27, 3) := by decide +kernel
theorem dX1_lookAt_27 : decode cX1_lookAt 27 = .ok (.if_icmp .gt 20, 3) := by decide +kernel
theorem dX1_lookAt_30 : decode cX1_lookAt 30 = .ok (.iload 6, 2) := by decide +kernel
theorem dX1_lookAt_32 : decode cX1_lookAt 32 = .ok (.aload_n 0, 1) := by decide +kernel
theorem dX1_lookAt_33 : decode cX1_lookAt 33 = .ok (.getfield 27, 3) := by decide +kernel
theorem dX1_lookAt_36 : decode cX1_lookAt 36 = .ok (.if_icmp .ne 22, 3) := by decide +kernel
theorem dX1_lookAt_39 : decode cX1_lookAt 39 = .ok (.iload_n 3, 1) := by decide +kernel
theorem dX1_lookAt_40 : decode cX1_lookAt 40 = .ok (.aload_n 0, 1) := by decide +kernel
theorem dX1_lookAt_41 : decode cX1_lookAt 41 = .ok (.getfield 34, 3) := by decide +kernel
theorem dX1_lookAt_44 : decode cX1_lookAt 44 = .ok (.if_icmp .ge 14, 3) := by decide +kernel
theorem dX1_lookAt_47 : decode cX1_lookAt 47 = .ok (.aload_n 0, 1) := by decide +kernel
theorem dX1_lookAt_48 : decode cX1_lookAt 48 = .ok (.iload_n 3, 1) := by decide +kernel
theorem dX1_lookAt_49 : decode cX1_lookAt 49 = .ok (.putfield 34, 3) := by decide +kernel
theorem dX1_lookAt_52 : decode cX1_lookAt 52 = .ok (.aload_n 0, 1) := by decide +kernel
theorem dX1_lookAt_53 : decode cX1_lookAt 53 = .ok (.iload 6, 2) := by decide +kernel
theorem dX1_lookAt_55 : decode cX1_lookAt 55 = .ok (.putfield 27, 3) := by decide +kernel
theorem dX1_lookAt_58 : decode cX1_lookAt 58 = .ok (.return_, 1) := by decide +kernel
theorem dX1_value_0 : decode cX1_value 0 = .ok (.iload_n 2, 1) := by decide +kernel
theorem dX1_value_1 : decode cX1_value 1 = .ok (.aload_n 0, 1) := by decide +kernel
theorem dX1_value_2 : decode cX1_value 2 = .ok (.getfield 57, 3) := by decide +kernel
theorem dX1_value_5 : decode cX1_value 5 = .ok (.iload_n 1, 1) := by decide +kernel
theorem dX1_value_6 : decode cX1_value 6 = .ok (.iaload, 1) := by decide +kernel
theorem dX1_value_7 : decode cX1_value 7 = .ok (.imul, 1) := by decide +kernel
theorem dX1_value_8 : decode cX1_value 8 = .ok (.iload_n 3, 1) := by decide +kernel
theorem dX1_value_9 : decode cX1_value 9 = .ok (.aload_n 0, 1) := by decide +kernel
theorem dX1_value_10 : decode cX1_value 10 = .ok (.getfield 61, 3) := by decide +kernel
theorem dX1_value_13 : decode cX1_value 13 = .ok (.iload_n 1, 1) := by decide +kernel
theorem dX1_value_14 : decode cX1_value 14 = .ok (.iaload, 1) := by decide +kernel
theorem dX1_value_15 : decode cX1_value 15 = .ok (.imul, 1) := by decide +kernel
theorem dX1_value_16 : decode cX1_value 16 = .ok (.iadd, 1) := by decide +kernel
theorem dX1_value_17 : decode cX1_value 17 = .ok (.ireturn, 1) := by decide +kernel
theorem dX2_init_0 : decode cX2_init 0 = .ok (.aload_n 0, 1) := by decide +kernel
theorem dX2_init_1 : decode cX2_init 1 = .ok (.invokespecial 3, 3) := by decide +kernel
theorem dX2_init_4 : decode cX2_init 4 = .ok (.aload_n 0, 1) := by decide +kernel
theorem dX2_init_5 : decode cX2_init 5 = .ok (.sipush 1189, 3) := by decide +kernel
theorem dX2_init_8 : decode cX2_init 8 = .ok (.newarray .int, 2) := by decide +kernel
theorem dX2_init_10 : decode cX2_init 10 = .ok (.putfield 9, 3) := by decide +kernel
theorem dX2_init_13 : decode cX2_init 13 = .ok (.aload_n 0, 1) := by decide +kernel
theorem dX2_init_14 : decode cX2_init 14 = .ok (.sipush 1189, 3) := by decide +kernel
theorem dX2_init_17 : decode cX2_init 17 = .ok (.newarray .int, 2) := by decide +kernel
theorem dX2_init_19 : decode cX2_init 19 = .ok (.putfield 15, 3) := by decide +kernel
theorem dX2_init_22 : decode cX2_init 22 = .ok (.aload_n 0, 1) := by decide +kernel
theorem dX2_init_23 : decode cX2_init 23 = .ok (.sipush 1189, 3) := by decide +kernel
theorem dX2_init_26 : decode cX2_init 26 = .ok (.newarray .int, 2) := by decide +kernel
theorem dX2_init_28 : decode cX2_init 28 = .ok (.putfield 18, 3) := by decide +kernel
theorem dX2_init_31 : decode cX2_init 31 = .ok (.aload_n 0, 1) := by decide +kernel
theorem dX2_init_32 : decode cX2_init 32 = .ok (.sipush 1189, 3) := by decide +kernel
theorem dX2_init_35 : decode cX2_init 35 = .ok (.newarray .int, 2) := by decide +kernel
theorem dX2_init_37 : decode cX2_init 37 = .ok (.putfield 21, 3) := by decide +kernel
theorem dX2_init_40 : decode cX2_init 40 = .ok (.aload_n 0, 1) := by decide +kernel
theorem dX2_init_41 : decode cX2_init 41 = .ok (.sipush 1189, 3) := by decide +kernel
theorem dX2_init_44 : decode cX2_init 44 = .ok (.newarray .int, 2) := by decide +kernel
theorem dX2_init_46 : decode cX2_init 46 = .ok (.putfield 24, 3) := by decide +kernel
theorem dX2_init_49 : decode cX2_init 49 = .ok (.aload_n 0, 1) := by decide +kernel
theorem dX2_init_50 : decode cX2_init 50 = .ok (.sipush 1189, 3) := by decide +kernel
theorem dX2_init_53 : decode cX2_init 53 = .ok (.newarray .int, 2) := by decide +kernel
theorem dX2_init_55 : decode cX2_init 55 = .ok (.putfield 27, 3) := by decide +kernel
theorem dX2_init_58 : decode cX2_init 58 = .ok (.aload_n 0, 1) := by decide +kernel
theorem dX2_init_59 : decode cX2_init 59 = .ok (.sipush 1189, 3) := by decide +kernel
theorem dX2_init_62 : decode cX2_init 62 = .ok (.newarray .int, 2) := by decide +kernel
theorem dX2_init_64 : decode cX2_init 64 = .ok (.putfield 30, 3) := by decide +kernel
theorem dX2_init_67 : decode cX2_init 67 = .ok (.aload_n 0, 1) := by decide +kernel
theorem dX2_init_68 : decode cX2_init 68 = .ok (.sipush 1189, 3) := by decide +kernel
theorem dX2_init_71 : decode cX2_init 71 = .ok (.newarray .int, 2) := by decide +kernel
theorem dX2_init_73 : decode cX2_init 73 = .ok (.putfield 33, 3) := by decide +kernel
theorem dX2_init_76 : decode cX2_init 76 = .ok (.aload_n 0, 1) := by decide +kernel
theorem dX2_init_77 : decode cX2_init 77 = .ok (.sipush 1189, 3) := by decide +kernel
theorem dX2_init_80 : decode cX2_init 80 = .ok (.newarray .boolean, 2) := by decide +kernel
theorem dX2_init_82 : decode cX2_init 82 = .ok (.putfield 36, 3) := by decide +kernel
theorem dX2_init_85 : decode cX2_init 85 = .ok (.return_, 1) := by decide +kernel
set_option maxRecDepth 20000 in
theorem ggX2_build_X9_areaBelow : GoodIn wsX2_build wsX9_areaBelow := goodIn_r _ [8, 9, 80, 81] (by decide +kernel) (by decide +kernel)
set_option maxRecDepth 20000 in
theorem gX2_build_X9_areaBelow : GoodIn wsX2_build (wsV RX2 47 RX9 yX9_areaBelow wsX9_areaBelow) := goodIn_app (goodIn_of _ (by decide +kernel)) ggX2_build_X9_areaBelow
set_option maxRecDepth 20000 in
theorem ggX2_build_X2_readPoints : GoodIn wsX2_build wsX2_readPoints := goodIn_r _ [14, 15, 16, 17, 18, 19, 20, 21, 22, 23, 82, 83, 84, 85, 86, 87, 88, 89, 90, 91, 92, 93, 94, 80, 81] (by decide +kernel) (by decide +kernel)
set_option maxRecDepth 20000 in
theorem gX2_build_X2_readPoints : GoodIn wsX2_build (wsV RX2 53 RX2 yX2_readPoints wsX2_readPoints) := goodIn_app (goodIn_of _ (by decide +kernel)) ggX2_build_X2_readPoints
set_option maxRecDepth 20000 in
theorem ggX2_build_X2_readChoices : GoodIn wsX2_build wsX2_readChoices := goodIn_r _ [27, 28, 29, 30, 21, 20, 22, 31, 32, 33, 34, 13, 35, 16, 19, 36, 37, 38, 39, 40, 41, 42, 43, 44, 45, 46, 47, 48, 49, 50, 51, 52, 53, 54, 55, 56, 57, 95, 96, 97, 98, 99, 100, 101, 102, 103, 82, 83, 84, 85, 86, 87, 88, 89, 90, 91, 92, 93, 94] (by decide +kernel) (by decide +kernel)
set_option maxRecDepth 20000 in
theorem gX2_build_X2_readChoices : GoodIn wsX2_build (wsV RX2 57 RX2 yX2_readChoices wsX2_readChoices) := goodIn_app (goodIn_of _ (by decide +kernel)) ggX2_build_X2_readChoices
set_option maxRecDepth 20000 in
theorem ggX2_build_X2_findVertices : GoodIn wsX2_build wsX2_findVertices := goodIn_r _ [61, 62, 15, 63, 64, 65, 66, 13, 67, 68, 69, 70, 71, 18, 72, 73, 74, 75, 19, 82, 83, 84, 85, 86, 87, 88, 89, 90, 91, 92, 93, 94] (by decide +kernel) (by decide +kernel)
set_option maxRecDepth 20000 in
theorem gX2_build_X2_findVertices : GoodIn wsX2_build (wsV RX2 61 RX2 yX2_findVertices wsX2_findVertices) := goodIn_app (goodIn_of _ (by decide +kernel)) ggX2_build_X2_findVertices
set_option maxRecDepth 20000 in
theorem ggX2_build_X2_markSupported : GoodIn wsX2_build wsX2_markSupported := goodIn_r _ [79, 62, 23, 63, 64, 65, 66, 13, 67, 68, 69, 70, 71, 18, 72, 73, 74, 75, 19, 82, 83, 84, 85, 86, 87, 88, 89, 90, 91, 92, 93, 94] (by decide +kernel) (by decide +kernel)
set_option maxRecDepth 20000 in
theorem gX2_build_X2_markSupported : GoodIn wsX2_build (wsV RX2 64 RX2 yX2_markSupported wsX2_markSupported) := goodIn_app (goodIn_of _ (by decide +kernel)) ggX2_build_X2_markSupported
theorem dX2_build_0 : decode cX2_build 0 = .ok (.aload_n 0, 1) := by decide +kernel
theorem dX2_build_1 : decode cX2_build 1 = .ok (.aload_n 3, 1) := by decide +kernel
theorem dX2_build_2 : decode cX2_build 2 = .ok (.getfield 40, 3) := by decide +kernel
theorem dX2_build_5 : decode cX2_build 5 = .ok (.putfield 46, 3) := by decide +kernel
theorem dX2_build_8 : decode cX2_build 8 = .ok (.aload_n 0, 1) := by decide +kernel
theorem dX2_build_9 : decode cX2_build 9 = .ok (.aload_n 3, 1) := by decide +kernel
theorem dX2_build_10 : decode cX2_build 10 = .ok (.invokevirtual 47, 3) := by decide +kernel
theorem dX2_build_13 : decode cX2_build 13 = .ok (.putfield 51, 3) := by decide +kernel
theorem dX2_build_16 : decode cX2_build 16 = .ok (.aload_n 0, 1) := by decide +kernel
theorem dX2_build_17 : decode cX2_build 17 = .ok (.aload_n 3, 1) := by decide +kernel
theorem dX2_build_18 : decode cX2_build 18 = .ok (.invokevirtual 53, 3) := by decide +kernel
theorem dX2_build_21 : decode cX2_build 21 = .ok (.aload_n 0, 1) := by decide +kernel
theorem dX2_build_22 : decode cX2_build 22 = .ok (.aload_n 1, 1) := by decide +kernel
theorem dX2_build_23 : decode cX2_build 23 = .ok (.iload_n 2, 1) := by decide +kernel
theorem dX2_build_24 : decode cX2_build 24 = .ok (.invokevirtual 57, 3) := by decide +kernel
theorem dX2_build_27 : decode cX2_build 27 = .ok (.aload_n 0, 1) := by decide +kernel
theorem dX2_build_28 : decode cX2_build 28 = .ok (.invokevirtual 61, 3) := by decide +kernel
theorem dX2_build_31 : decode cX2_build 31 = .ok (.aload_n 0, 1) := by decide +kernel
theorem dX2_build_32 : decode cX2_build 32 = .ok (.invokevirtual 64, 3) := by decide +kernel
theorem dX2_build_35 : decode cX2_build 35 = .ok (.return_, 1) := by decide +kernel
theorem dX2_readPoints_0 : decode cX2_readPoints 0 = .ok (.aload_n 0, 1) := by decide +kernel
theorem dX2_readPoints_1 : decode cX2_readPoints 1 = .ok (.iconst 0, 1) := by decide +kernel
theorem dX2_readPoints_2 : decode cX2_readPoints 2 = .ok (.putfield 67, 3) := by decide +kernel
theorem dX2_readPoints_5 : decode cX2_readPoints 5 = .ok (.iconst 0, 1) := by decide +kernel
theorem dX2_readPoints_6 : decode cX2_readPoints 6 = .ok (.istore_n 2, 1) := by decide +kernel
theorem dX2_readPoints_7 : decode cX2_readPoints 7 = .ok (.iload_n 2, 1) := by decide +kernel
theorem dX2_readPoints_8 : decode cX2_readPoints 8 = .ok (.sipush 1189, 3) := by decide +kernel
theorem dX2_readPoints_11 : decode cX2_readPoints 11 = .ok (.if_icmp .ge 111, 3) := by decide +kernel
theorem dX2_readPoints_14 : decode cX2_readPoints 14 = .ok (.aload_n 0, 1) := by decide +kernel
theorem dX2_readPoints_15 : decode cX2_readPoints 15 = .ok (.getfield 33, 3) := by decide +kernel
theorem dX2_readPoints_18 : decode cX2_readPoints 18 = .ok (.iload_n 2, 1) := by decide +kernel
theorem dX2_readPoints_19 : decode cX2_readPoints 19 = .ok (.iconst (-1), 1) := by decide +kernel
theorem dX2_readPoints_20 : decode cX2_readPoints 20 = .ok (.iastore, 1) := by decide +kernel
theorem dX2_readPoints_21 : decode cX2_readPoints 21 = .ok (.aload_n 1, 1) := by decide +kernel
theorem dX2_readPoints_22 : decode cX2_readPoints 22 = .ok (.getfield 70, 3) := by decide +kernel
theorem dX2_readPoints_25 : decode cX2_readPoints 25 = .ok (.iload_n 2, 1) := by decide +kernel
theorem dX2_readPoints_26 : decode cX2_readPoints 26 = .ok (.iaload, 1) := by decide +kernel
theorem dX2_readPoints_27 : decode cX2_readPoints 27 = .ok (.iconst (-1), 1) := by decide +kernel
theorem dX2_readPoints_28 : decode cX2_readPoints 28 = .ok (.if_icmp .eq 88, 3) := by decide +kernel
theorem dX2_readPoints_31 : decode cX2_readPoints 31 = .ok (.aload_n 0, 1) := by decide +kernel
theorem dX2_readPoints_32 : decode cX2_readPoints 32 = .ok (.getfield 9, 3) := by decide +kernel
theorem dX2_readPoints_35 : decode cX2_readPoints 35 = .ok (.aload_n 0, 1) := by decide +kernel
theorem dX2_readPoints_36 : decode cX2_readPoints 36 = .ok (.getfield 67, 3) := by decide +kernel
theorem dX2_readPoints_39 : decode cX2_readPoints 39 = .ok (.iload_n 2, 1) := by decide +kernel
theorem dX2_readPoints_40 : decode cX2_readPoints 40 = .ok (.iastore, 1) := by decide +kernel
theorem dX2_readPoints_41 : decode cX2_readPoints 41 = .ok (.aload_n 0, 1) := by decide +kernel
theorem dX2_readPoints_42 : decode cX2_readPoints 42 = .ok (.getfield 15, 3) := by decide +kernel
theorem dX2_readPoints_45 : decode cX2_readPoints 45 = .ok (.aload_n 0, 1) := by decide +kernel
theorem dX2_readPoints_46 : decode cX2_readPoints 46 = .ok (.getfield 67, 3) := by decide +kernel
theorem dX2_readPoints_49 : decode cX2_readPoints 49 = .ok (.aload_n 1, 1) := by decide +kernel
theorem dX2_readPoints_50 : decode cX2_readPoints 50 = .ok (.getfield 70, 3) := by decide +kernel
theorem dX2_readPoints_53 : decode cX2_readPoints 53 = .ok (.iload_n 2, 1) := by decide +kernel
theorem dX2_readPoints_54 : decode cX2_readPoints 54 = .ok (.iaload, 1) := by decide +kernel
theorem dX2_readPoints_55 : decode cX2_readPoints 55 = .ok (.iastore, 1) := by decide +kernel
theorem dX2_readPoints_56 : decode cX2_readPoints 56 = .ok (.aload_n 0, 1) := by decide +kernel
theorem dX2_readPoints_57 : decode cX2_readPoints 57 = .ok (.getfield 18, 3) := by decide +kernel
theorem dX2_readPoints_60 : decode cX2_readPoints 60 = .ok (.aload_n 0, 1) := by decide +kernel
theorem dX2_readPoints_61 : decode cX2_readPoints 61 = .ok (.getfield 67, 3) := by decide +kernel
theorem dX2_readPoints_64 : decode cX2_readPoints 64 = .ok (.iconst 0, 1) := by decide +kernel
theorem dX2_readPoints_65 : decode cX2_readPoints 65 = .ok (.iastore, 1) := by decide +kernel
theorem dX2_readPoints_66 : decode cX2_readPoints 66 = .ok (.aload_n 0, 1) := by decide +kernel
theorem dX2_readPoints_67 : decode cX2_readPoints 67 = .ok (.getfield 21, 3) := by decide +kernel
theorem dX2_readPoints_70 : decode cX2_readPoints 70 = .ok (.aload_n 0, 1) := by decide +kernel
theorem dX2_readPoints_71 : decode cX2_readPoints 71 = .ok (.getfield 67, 3) := by decide +kernel
theorem dX2_readPoints_74 : decode cX2_readPoints 74 = .ok (.iconst 0, 1) := by decide +kernel
theorem dX2_readPoints_75 : decode cX2_readPoints 75 = .ok (.iastore, 1) := by decide +kernel
theorem dX2_readPoints_76 : decode cX2_readPoints 76 = .ok (.aload_n 0, 1) := by decide +kernel
theorem dX2_readPoints_77 : decode cX2_readPoints 77 = .ok (.getfield 24, 3) := by decide +kernel
theorem dX2_readPoints_80 : decode cX2_readPoints 80 = .ok (.aload_n 0, 1) := by decide +kernel
theorem dX2_readPoints_81 : decode cX2_readPoints 81 = .ok (.getfield 67, 3) := by decide +kernel
theorem dX2_readPoints_84 : decode cX2_readPoints 84 = .ok (.iconst 0, 1) := by decide +kernel
theorem dX2_readPoints_85 : decode cX2_readPoints 85 = .ok (.iastore, 1) := by decide +kernel
theorem dX2_readPoints_86 : decode cX2_readPoints 86 = .ok (.aload_n 0, 1) := by decide +kernel
theorem dX2_readPoints_87 : decode cX2_readPoints 87 = .ok (.getfield 27, 3) := by decide +kernel
theorem dX2_readPoints_90 : decode cX2_readPoints 90 = .ok (.aload_n 0, 1) := by decide +kernel
theorem dX2_readPoints_91 : decode cX2_readPoints 91 = .ok (.getfield 67, 3) := by decide +kernel
theorem dX2_readPoints_94 : decode cX2_readPoints 94 = .ok (.iconst 0, 1) := by decide +kernel
theorem dX2_readPoints_95 : decode cX2_readPoints 95 = .ok (.iastore, 1) := by decide +kernel
theorem dX2_readPoints_96 : decode cX2_readPoints 96 = .ok (.aload_n 0, 1) := by decide +kernel
theorem dX2_readPoints_97 : decode cX2_readPoints 97 = .ok (.getfield 33, 3) := by decide +kernel
theorem dX2_readPoints_100 : decode cX2_readPoints 100 = .ok (.iload_n 2, 1) := by decide +kernel
theorem dX2_readPoints_101 : decode cX2_readPoints 101 = .ok (.aload_n 0, 1) := by decide +kernel
theorem dX2_readPoints_102 : decode cX2_readPoints 102 = .ok (.getfield 67, 3) := by decide +kernel
theorem dX2_readPoints_105 : decode cX2_readPoints 105 = .ok (.iastore, 1) := by decide +kernel
theorem dX2_readPoints_106 : decode cX2_readPoints 106 = .ok (.aload_n 0, 1) := by decide +kernel
theorem dX2_readPoints_107 : decode cX2_readPoints 107 = .ok (.dup, 1) := by decide +kernel
theorem dX2_readPoints_108 : decode cX2_readPoints 108 = .ok (.getfield 67, 3) := by decide +kernel
theorem dX2_readPoints_111 : decode cX2_readPoints 111 = .ok (.iconst 1, 1) := by decide +kernel
theorem dX2_readPoints_112 : decode cX2_readPoints 112 = .ok (.iadd, 1) := by decide +kernel
theorem dX2_readPoints_113 : decode cX2_readPoints 113 = .ok (.putfield 67, 3) := by decide +kernel
theorem dX2_readPoints_116 : decode cX2_readPoints 116 = .ok (.iinc 2 1, 3) := by decide +kernel
theorem dX2_readPoints_119 : decode cX2_readPoints 119 = .ok (.goto (-112), 3) := by decide +kernel
theorem dX2_readPoints_122 : decode cX2_readPoints 122 = .ok (.return_, 1) := by decide +kernel
set_option maxRecDepth 20000 in
theorem ggX2_readChoices_X2_pointWithPair : GoodIn wsX2_readChoices wsX2_pointWithPair := goodIn_r _ [12, 13, 14, 46, 47, 48, 49, 50, 51, 52, 53, 54, 55, 56, 57, 58] (by decide +kernel) (by decide +kernel)
set_option maxRecDepth 20000 in
theorem gX2_readChoices_X2_pointWithPair : GoodIn wsX2_readChoices (wsV RX2 80 RX2 yX2_pointWithPair wsX2_pointWithPair) := goodIn_app (goodIn_of _ (by decide +kernel)) ggX2_readChoices_X2_pointWithPair
set_option maxRecDepth 20000 in
theorem ggX2_readChoices_X0_reason : GoodIn wsX2_readChoices wsX0_reason := goodIn_r _ [19, 20, 21, 22, 23, 18, 24, 25, 26, 27, 28, 29, 30, 31, 32, 33, 34, 35, 36, 37, 38, 39, 40, 41, 42, 43, 44, 45] (by decide +kernel) (by decide +kernel)
set_option maxRecDepth 20000 in
theorem gX2_readChoices_X0_reason : GoodIn wsX2_readChoices (wsV RX2 84 RX0 yX0_reason wsX0_reason) := goodIn_app (goodIn_of _ (by decide +kernel)) ggX2_readChoices_X0_reason
theorem dX2_readChoices_0 : decode cX2_readChoices 0 = .ok (.iconst 0, 1) := by decide +kernel
theorem dX2_readChoices_1 : decode cX2_readChoices 1 = .ok (.istore_n 3, 1) := by decide +kernel
theorem dX2_readChoices_2 : decode cX2_readChoices 2 = .ok (.iload_n 3, 1) := by decide +kernel
theorem dX2_readChoices_3 : decode cX2_readChoices 3 = .ok (.aload_n 1, 1) := by decide +kernel
theorem dX2_readChoices_4 : decode cX2_readChoices 4 = .ok (.getfield 73, 3) := by decide +kernel
theorem dX2_readChoices_7 : decode cX2_readChoices 7 = .ok (.if_icmp .ge 118, 3) := by decide +kernel
theorem dX2_readChoices_10 : decode cX2_readChoices 10 = .ok (.iload_n 3, 1) := by decide +kernel
theorem dX2_readChoices_11 : decode cX2_readChoices 11 = .ok (.sipush 4096, 3) := by decide +kernel
theorem dX2_readChoices_14 : decode cX2_readChoices 14 = .ok (.if_icmp .ge 111, 3) := by decide +kernel
theorem dX2_readChoices_17 : decode cX2_readChoices 17 = .ok (.aload_n 0, 1) := by decide +kernel
theorem dX2_readChoices_18 : decode cX2_readChoices 18 = .ok (.aload_n 1, 1) := by decide +kernel
theorem dX2_readChoices_19 : decode cX2_readChoices 19 = .ok (.getfield 78, 3) := by decide +kernel
theorem dX2_readChoices_22 : decode cX2_readChoices 22 = .ok (.iload_n 3, 1) := by decide +kernel
theorem dX2_readChoices_23 : decode cX2_readChoices 23 = .ok (.iaload, 1) := by decide +kernel
theorem dX2_readChoices_24 : decode cX2_readChoices 24 = .ok (.aload_n 1, 1) := by decide +kernel
theorem dX2_readChoices_25 : decode cX2_readChoices 25 = .ok (.getfield 79, 3) := by decide +kernel
theorem dX2_readChoices_28 : decode cX2_readChoices 28 = .ok (.iload_n 3, 1) := by decide +kernel
theorem dX2_readChoices_29 : decode cX2_readChoices 29 = .ok (.iaload, 1) := by decide +kernel
theorem dX2_readChoices_30 : decode cX2_readChoices 30 = .ok (.invokevirtual 80, 3) := by decide +kernel
theorem dX2_readChoices_33 : decode cX2_readChoices 33 = .ok (.istore 4, 2) := by decide +kernel
theorem dX2_readChoices_35 : decode cX2_readChoices 35 = .ok (.iload 4, 2) := by decide +kernel
theorem dX2_readChoices_37 : decode cX2_readChoices 37 = .ok (.iconst (-1), 1) := by decide +kernel
theorem dX2_readChoices_38 : decode cX2_readChoices 38 = .ok (.if_icmp .eq 81, 3) := by decide +kernel
theorem dX2_readChoices_41 : decode cX2_readChoices 41 = .ok (.aload_n 1, 1) := by decide +kernel
theorem dX2_readChoices_42 : decode cX2_readChoices 42 = .ok (.iload_n 3, 1) := by decide +kernel
theorem dX2_readChoices_43 : decode cX2_readChoices 43 = .ok (.iload_n 2, 1) := by decide +kernel
theorem dX2_readChoices_44 : decode cX2_readChoices 44 = .ok (.invokevirtual 84, 3) := by decide +kernel
theorem dX2_readChoices_47 : decode cX2_readChoices 47 = .ok (.ifCond .ne 72, 3) := by decide +kernel
theorem dX2_readChoices_50 : decode cX2_readChoices 50 = .ok (.aload_n 0, 1) := by decide +kernel
theorem dX2_readChoices_51 : decode cX2_readChoices 51 = .ok (.getfield 21, 3) := by decide +kernel
theorem dX2_readChoices_54 : decode cX2_readChoices 54 = .ok (.iload 4, 2) := by decide +kernel
theorem dX2_readChoices_56 : decode cX2_readChoices 56 = .ok (.iaload, 1) := by decide +kernel
theorem dX2_readChoices_57 : decode cX2_readChoices 57 = .ok (.ifCond .ne 22, 3) := by decide +kernel
theorem dX2_readChoices_60 : decode cX2_readChoices 60 = .ok (.aload_n 0, 1) := by decide +kernel
theorem dX2_readChoices_61 : decode cX2_readChoices 61 = .ok (.getfield 18, 3) := by decide +kernel
theorem dX2_readChoices_64 : decode cX2_readChoices 64 = .ok (.iload 4, 2) := by decide +kernel
theorem dX2_readChoices_66 : decode cX2_readChoices 66 = .ok (.iload_n 3, 1) := by decide +kernel
theorem dX2_readChoices_67 : decode cX2_readChoices 67 = .ok (.iastore, 1) := by decide +kernel
theorem dX2_readChoices_68 : decode cX2_readChoices 68 = .ok (.aload_n 0, 1) := by decide +kernel
theorem dX2_readChoices_69 : decode cX2_readChoices 69 = .ok (.getfield 24, 3) := by decide +kernel
theorem dX2_readChoices_72 : decode cX2_readChoices 72 = .ok (.iload 4, 2) := by decide +kernel
theorem dX2_readChoices_74 : decode cX2_readChoices 74 = .ok (.iload_n 3, 1) := by decide +kernel
theorem dX2_readChoices_75 : decode cX2_readChoices 75 = .ok (.iastore, 1) := by decide +kernel
theorem dX2_readChoices_76 : decode cX2_readChoices 76 = .ok (.goto 32, 3) := by decide +kernel
theorem dX2_readChoices_79 : decode cX2_readChoices 79 = .ok (.aload_n 1, 1) := by decide +kernel
theorem dX2_readChoices_80 : decode cX2_readChoices 80 = .ok (.getfield 87, 3) := by decide +kernel
theorem dX2_readChoices_83 : decode cX2_readChoices 83 = .ok (.iload_n 3, 1) := by decide +kernel
theorem dX2_readChoices_84 : decode cX2_readChoices 84 = .ok (.iaload, 1) := by decide +kernel
theorem dX2_readChoices_85 : decode cX2_readChoices 85 = .ok (.aload_n 1, 1) := by decide +kernel
theorem dX2_readChoices_86 : decode cX2_readChoices 86 = .ok (.getfield 87, 3) := by decide +kernel
theorem dX2_readChoices_89 : decode cX2_readChoices 89 = .ok (.aload_n 0, 1) := by decide +kernel
theorem dX2_readChoices_90 : decode cX2_readChoices 90 = .ok (.getfield 24, 3) := by decide +kernel
theorem dX2_readChoices_93 : decode cX2_readChoices 93 = .ok (.iload 4, 2) := by decide +kernel
theorem dX2_readChoices_95 : decode cX2_readChoices 95 = .ok (.iaload, 1) := by decide +kernel
theorem dX2_readChoices_96 : decode cX2_readChoices 96 = .ok (.iaload, 1) := by decide +kernel
theorem dX2_readChoices_97 : decode cX2_readChoices 97 = .ok (.if_icmp .ge 11, 3) := by decide +kernel
theorem dX2_readChoices_100 : decode cX2_readChoices 100 = .ok (.aload_n 0, 1) := by decide +kernel
theorem dX2_readChoices_101 : decode cX2_readChoices 101 = .ok (.getfield 24, 3) := by decide +kernel
theorem dX2_readChoices_104 : decode cX2_readChoices 104 = .ok (.iload 4, 2) := by decide +kernel
theorem dX2_readChoices_106 : decode cX2_readChoices 106 = .ok (.iload_n 3, 1) := by decide +kernel
theorem dX2_readChoices_107 : decode cX2_readChoices 107 = .ok (.iastore, 1) := by decide +kernel
theorem dX2_readChoices_108 : decode cX2_readChoices 108 = .ok (.aload_n 0, 1) := by decide +kernel
theorem dX2_readChoices_109 : decode cX2_readChoices 109 = .ok (.getfield 21, 3) := by decide +kernel
theorem dX2_readChoices_112 : decode cX2_readChoices 112 = .ok (.iload 4, 2) := by decide +kernel
theorem dX2_readChoices_114 : decode cX2_readChoices 114 = .ok (.dup2, 1) := by decide +kernel
theorem dX2_readChoices_115 : decode cX2_readChoices 115 = .ok (.iaload, 1) := by decide +kernel
theorem dX2_readChoices_116 : decode cX2_readChoices 116 = .ok (.iconst 1, 1) := by decide +kernel
theorem dX2_readChoices_117 : decode cX2_readChoices 117 = .ok (.iadd, 1) := by decide +kernel
theorem dX2_readChoices_118 : decode cX2_readChoices 118 = .ok (.iastore, 1) := by decide +kernel
theorem dX2_readChoices_119 : decode cX2_readChoices 119 = .ok (.iinc 3 1, 3) := by decide +kernel
theorem dX2_readChoices_122 : decode cX2_readChoices 122 = .ok (.goto (-120), 3) := by decide +kernel
theorem dX2_readChoices_125 : decode cX2_readChoices 125 = .ok (.return_, 1) := by decide +kernel
set_option maxRecDepth 20000 in
theorem ggX2_findVertices_X2_heightOver : GoodIn wsX2_findVertices wsX2_heightOver := goodIn_r _ [8, 9, 10, 11, 7, 12, 13, 14, 15, 16, 17, 18, 19, 20, 21, 22, 23, 24, 25, 26, 27, 28, 29, 30, 31] (by decide +kernel) (by decide +kernel)
set_option maxRecDepth 20000 in
theorem gX2_findVertices_X2_heightOver : GoodIn wsX2_findVertices (wsV RX2 93 RX2 yX2_heightOver wsX2_heightOver) := goodIn_app (goodIn_of _ (by decide +kernel)) ggX2_findVertices_X2_heightOver
theorem dX2_findVertices_0 : decode cX2_findVertices 0 = .ok (.aload_n 0, 1) := by decide +kernel
theorem dX2_findVertices_1 : decode cX2_findVertices 1 = .ok (.iconst 0, 1) := by decide +kernel
theorem dX2_findVertices_2 : decode cX2_findVertices 2 = .ok (.putfield 90, 3) := by decide +kernel
theorem dX2_findVertices_5 : decode cX2_findVertices 5 = .ok (.iconst 0, 1) := by decide +kernel
theorem dX2_findVertices_6 : decode cX2_findVertices 6 = .ok (.istore_n 1, 1) := by decide +kernel
theorem dX2_findVertices_7 : decode cX2_findVertices 7 = .ok (.iload_n 1, 1) := by decide +kernel
theorem dX2_findVertices_8 : decode cX2_findVertices 8 = .ok (.aload_n 0, 1) := by decide +kernel
theorem dX2_findVertices_9 : decode cX2_findVertices 9 = .ok (.getfield 67, 3) := by decide +kernel
theorem dX2_findVertices_12 : decode cX2_findVertices 12 = .ok (.if_icmp .ge 80, 3) := by decide +kernel
theorem dX2_findVertices_15 : decode cX2_findVertices 15 = .ok (.aload_n 0, 1) := by decide +kernel
theorem dX2_findVertices_16 : decode cX2_findVertices 16 = .ok (.getfield 90, 3) := by decide +kernel
theorem dX2_findVertices_19 : decode cX2_findVertices 19 = .ok (.iconst 2, 1) := by decide +kernel
theorem dX2_findVertices_20 : decode cX2_findVertices 20 = .ok (.if_icmp .lt 46, 3) := by decide +kernel
theorem dX2_findVertices_23 : decode cX2_findVertices 23 = .ok (.aload_n 0, 1) := by decide +kernel
theorem dX2_findVertices_24 : decode cX2_findVertices 24 = .ok (.aload_n 0, 1) := by decide +kernel
theorem dX2_findVertices_25 : decode cX2_findVertices 25 = .ok (.getfield 30, 3) := by decide +kernel
theorem dX2_findVertices_28 : decode cX2_findVertices 28 = .ok (.aload_n 0, 1) := by decide +kernel
theorem dX2_findVertices_29 : decode cX2_findVertices 29 = .ok (.getfield 90, 3) := by decide +kernel
theorem dX2_findVertices_32 : decode cX2_findVertices 32 = .ok (.iconst 2, 1) := by decide +kernel
theorem dX2_findVertices_33 : decode cX2_findVertices 33 = .ok (.isub, 1) := by decide +kernel
theorem dX2_findVertices_34 : decode cX2_findVertices 34 = .ok (.iaload, 1) := by decide +kernel
theorem dX2_findVertices_35 : decode cX2_findVertices 35 = .ok (.iload_n 1, 1) := by decide +kernel
theorem dX2_findVertices_36 : decode cX2_findVertices 36 = .ok (.aload_n 0, 1) := by decide +kernel
theorem dX2_findVertices_37 : decode cX2_findVertices 37 = .ok (.getfield 30, 3) := by decide +kernel
theorem dX2_findVertices_40 : decode cX2_findVertices 40 = .ok (.aload_n 0, 1) := by decide +kernel
theorem dX2_findVertices_41 : decode cX2_findVertices 41 = .ok (.getfield 90, 3) := by decide +kernel
theorem dX2_findVertices_44 : decode cX2_findVertices 44 = .ok (.iconst 1, 1) := by decide +kernel
theorem dX2_findVertices_45 : decode cX2_findVertices 45 = .ok (.isub, 1) := by decide +kernel
theorem dX2_findVertices_46 : decode cX2_findVertices 46 = .ok (.iaload, 1) := by decide +kernel
theorem dX2_findVertices_47 : decode cX2_findVertices 47 = .ok (.invokevirtual 93, 3) := by decide +kernel
theorem dX2_findVertices_50 : decode cX2_findVertices 50 = .ok (.ifCond .gt 16, 3) := by decide +kernel
theorem dX2_findVertices_53 : decode cX2_findVertices 53 = .ok (.aload_n 0, 1) := by decide +kernel
theorem dX2_findVertices_54 : decode cX2_findVertices 54 = .ok (.dup, 1) := by decide +kernel
theorem dX2_findVertices_55 : decode cX2_findVertices 55 = .ok (.getfield 90, 3) := by decide +kernel
theorem dX2_findVertices_58 : decode cX2_findVertices 58 = .ok (.iconst 1, 1) := by decide +kernel
theorem dX2_findVertices_59 : decode cX2_findVertices 59 = .ok (.isub, 1) := by decide +kernel
theorem dX2_findVertices_60 : decode cX2_findVertices 60 = .ok (.putfield 90, 3) := by decide +kernel
theorem dX2_findVertices_63 : decode cX2_findVertices 63 = .ok (.goto (-48), 3) := by decide +kernel
theorem dX2_findVertices_66 : decode cX2_findVertices 66 = .ok (.aload_n 0, 1) := by decide +kernel
theorem dX2_findVertices_67 : decode cX2_findVertices 67 = .ok (.getfield 30, 3) := by decide +kernel
theorem dX2_findVertices_70 : decode cX2_findVertices 70 = .ok (.aload_n 0, 1) := by decide +kernel
theorem dX2_findVertices_71 : decode cX2_findVertices 71 = .ok (.getfield 90, 3) := by decide +kernel
theorem dX2_findVertices_74 : decode cX2_findVertices 74 = .ok (.iload_n 1, 1) := by decide +kernel
theorem dX2_findVertices_75 : decode cX2_findVertices 75 = .ok (.iastore, 1) := by decide +kernel
theorem dX2_findVertices_76 : decode cX2_findVertices 76 = .ok (.aload_n 0, 1) := by decide +kernel
theorem dX2_findVertices_77 : decode cX2_findVertices 77 = .ok (.dup, 1) := by decide +kernel
theorem dX2_findVertices_78 : decode cX2_findVertices 78 = .ok (.getfield 90, 3) := by decide +kernel
theorem dX2_findVertices_81 : decode cX2_findVertices 81 = .ok (.iconst 1, 1) := by decide +kernel
theorem dX2_findVertices_82 : decode cX2_findVertices 82 = .ok (.iadd, 1) := by decide +kernel
theorem dX2_findVertices_83 : decode cX2_findVertices 83 = .ok (.putfield 90, 3) := by decide +kernel
theorem dX2_findVertices_86 : decode cX2_findVertices 86 = .ok (.iinc 1 1, 3) := by decide +kernel
theorem dX2_findVertices_89 : decode cX2_findVertices 89 = .ok (.goto (-82), 3) := by decide +kernel
theorem dX2_findVertices_92 : decode cX2_findVertices 92 = .ok (.return_, 1) := by decide +kernel
set_option maxRecDepth 20000 in
theorem ggX2_heightOver_X2_gainWon : GoodIn wsX2_heightOver wsX2_gainWon := goodIn_r _ [5, 6, 12, 13, 14, 15, 16, 17, 18, 19, 20, 21, 22, 23, 24] (by decide +kernel) (by decide +kernel)
set_option maxRecDepth 20000 in
theorem gX2_heightOver_X2_gainWon : GoodIn wsX2_heightOver (wsV RX2 97 RX2 yX2_gainWon wsX2_gainWon) := goodIn_app (goodIn_of _ (by decide +kernel)) ggX2_heightOver_X2_gainWon
set_option maxRecDepth 20000 in
theorem ggX2_heightOver_X2_joyLost : GoodIn wsX2_heightOver wsX2_joyLost := goodIn_r _ [10, 11, 12, 13, 14, 15, 16, 17, 18, 19, 20, 21, 22, 23, 24] (by decide +kernel) (by decide +kernel)
set_option maxRecDepth 20000 in
theorem gX2_heightOver_X2_joyLost : GoodIn wsX2_heightOver (wsV RX2 100 RX2 yX2_joyLost wsX2_joyLost) := goodIn_app (goodIn_of _ (by decide +kernel)) ggX2_heightOver_X2_joyLost
theorem dX2_heightOver_0 : decode cX2_heightOver 0 = .ok (.aload_n 0, 1) := by decide +kernel
theorem dX2_heightOver_1 : decode cX2_heightOver 1 = .ok (.iload_n 1, 1) := by decide +kernel
theorem dX2_heightOver_2 : decode cX2_heightOver 2 = .ok (.iload_n 3, 1) := by decide +kernel
theorem dX2_heightOver_3 : decode cX2_heightOver 3 = .ok (.invokevirtual 97, 3) := by decide +kernel
theorem dX2_heightOver_6 : decode cX2_heightOver 6 = .ok (.aload_n 0, 1) := by decide +kernel
theorem dX2_heightOver_7 : decode cX2_heightOver 7 = .ok (.iload_n 1, 1) := by decide +kernel
theorem dX2_heightOver_8 : decode cX2_heightOver 8 = .ok (.iload_n 2, 1) := by decide +kernel
theorem dX2_heightOver_9 : decode cX2_heightOver 9 = .ok (.invokevirtual 100, 3) := by decide +kernel
theorem dX2_heightOver_12 : decode cX2_heightOver 12 = .ok (.imul, 1) := by decide +kernel
theorem dX2_heightOver_13 : decode cX2_heightOver 13 = .ok (.aload_n 0, 1) := by decide +kernel
theorem dX2_heightOver_14 : decode cX2_heightOver 14 = .ok (.iload_n 1, 1) := by decide +kernel
theorem dX2_heightOver_15 : decode cX2_heightOver 15 = .ok (.iload_n 3, 1) := by decide +kernel
theorem dX2_heightOver_16 : decode cX2_heightOver 16 = .ok (.invokevirtual 100, 3) := by decide +kernel
theorem dX2_heightOver_19 : decode cX2_heightOver 19 = .ok (.aload_n 0, 1) := by decide +kernel
theorem dX2_heightOver_20 : decode cX2_heightOver 20 = .ok (.iload_n 1, 1) := by decide +kernel
theorem dX2_heightOver_21 : decode cX2_heightOver 21 = .ok (.iload_n 2, 1) := by decide +kernel
theorem dX2_heightOver_22 : decode cX2_heightOver 22 = .ok (.invokevirtual 97, 3) := by decide +kernel
theorem dX2_heightOver_25 : decode cX2_heightOver 25 = .ok (.imul, 1) := by decide +kernel
theorem dX2_heightOver_26 : decode cX2_heightOver 26 = .ok (.isub, 1) := by decide +kernel
theorem dX2_heightOver_27 : decode cX2_heightOver 27 = .ok (.ireturn, 1) := by decide +kernel
set_option maxRecDepth 20000 in
theorem ggX2_markSupported_X2_heightOver : GoodIn wsX2_markSupported wsX2_heightOver := goodIn_r _ [8, 9, 10, 11, 7, 12, 13, 14, 15, 16, 17, 18, 19, 20, 21, 22, 23, 24, 25, 26, 27, 28, 29, 30, 31] (by decide +kernel) (by decide +kernel)
set_option maxRecDepth 20000 in
theorem gX2_markSupported_X2_heightOver : GoodIn wsX2_markSupported (wsV RX2 93 RX2 yX2_heightOver wsX2_heightOver) := goodIn_app (goodIn_of _ (by decide +kernel)) ggX2_markSupported_X2_heightOver
theorem dX2_markSupported_0 : decode cX2_markSupported 0 = .ok (.iconst 0, 1) := by decide +kernel
theorem dX2_markSupported_1 : decode cX2_markSupported 1 = .ok (.istore_n 1, 1) := by decide +kernel
theorem dX2_markSupported_2 : decode cX2_markSupported 2 = .ok (.iload_n 1, 1) := by decide +kernel
theorem dX2_markSupported_3 : decode cX2_markSupported 3 = .ok (.aload_n 0, 1) := by decide +kernel
theorem dX2_markSupported_4 : decode cX2_markSupported 4 = .ok (.getfield 90, 3) := by decide +kernel
theorem dX2_markSupported_7 : decode cX2_markSupported 7 = .ok (.if_icmp .ge 21, 3) := by decide +kernel
theorem dX2_markSupported_10 : decode cX2_markSupported 10 = .ok (.aload_n 0, 1) := by decide +kernel
theorem dX2_markSupported_11 : decode cX2_markSupported 11 = .ok (.getfield 27, 3) := by decide +kernel
theorem dX2_markSupported_14 : decode cX2_markSupported 14 = .ok (.aload_n 0, 1) := by decide +kernel
theorem dX2_markSupported_15 : decode cX2_markSupported 15 = .ok (.getfield 30, 3) := by decide +kernel
theorem dX2_markSupported_18 : decode cX2_markSupported 18 = .ok (.iload_n 1, 1) := by decide +kernel
theorem dX2_markSupported_19 : decode cX2_markSupported 19 = .ok (.iaload, 1) := by decide +kernel
theorem dX2_markSupported_20 : decode cX2_markSupported 20 = .ok (.iconst 2, 1) := by decide +kernel
theorem dX2_markSupported_21 : decode cX2_markSupported 21 = .ok (.iastore, 1) := by decide +kernel
theorem dX2_markSupported_22 : decode cX2_markSupported 22 = .ok (.iinc 1 1, 3) := by decide +kernel
theorem dX2_markSupported_25 : decode cX2_markSupported 25 = .ok (.goto (-23), 3) := by decide +kernel
theorem dX2_markSupported_28 : decode cX2_markSupported 28 = .ok (.iconst 0, 1) := by decide +kernel
theorem dX2_markSupported_29 : decode cX2_markSupported 29 = .ok (.istore_n 1, 1) := by decide +kernel
theorem dX2_markSupported_30 : decode cX2_markSupported 30 = .ok (.iload_n 1, 1) := by decide +kernel
theorem dX2_markSupported_31 : decode cX2_markSupported 31 = .ok (.iconst 1, 1) := by decide +kernel
theorem dX2_markSupported_32 : decode cX2_markSupported 32 = .ok (.iadd, 1) := by decide +kernel
theorem dX2_markSupported_33 : decode cX2_markSupported 33 = .ok (.aload_n 0, 1) := by decide +kernel
theorem dX2_markSupported_34 : decode cX2_markSupported 34 = .ok (.getfield 90, 3) := by decide +kernel
theorem dX2_markSupported_37 : decode cX2_markSupported 37 = .ok (.if_icmp .ge 65, 3) := by decide +kernel
theorem dX2_markSupported_40 : decode cX2_markSupported 40 = .ok (.aload_n 0, 1) := by decide +kernel
theorem dX2_markSupported_41 : decode cX2_markSupported 41 = .ok (.getfield 30, 3) := by decide +kernel
theorem dX2_markSupported_44 : decode cX2_markSupported 44 = .ok (.iload_n 1, 1) := by decide +kernel
theorem dX2_markSupported_45 : decode cX2_markSupported 45 = .ok (.iaload, 1) := by decide +kernel
theorem dX2_markSupported_46 : decode cX2_markSupported 46 = .ok (.istore_n 2, 1) := by decide +kernel
theorem dX2_markSupported_47 : decode cX2_markSupported 47 = .ok (.aload_n 0, 1) := by decide +kernel
theorem dX2_markSupported_48 : decode cX2_markSupported 48 = .ok (.getfield 30, 3) := by decide +kernel
theorem dX2_markSupported_51 : decode cX2_markSupported 51 = .ok (.iload_n 1, 1) := by decide +kernel
theorem dX2_markSupported_52 : decode cX2_markSupported 52 = .ok (.iconst 1, 1) := by decide +kernel
theorem dX2_markSupported_53 : decode cX2_markSupported 53 = .ok (.iadd, 1) := by decide +kernel
theorem dX2_markSupported_54 : decode cX2_markSupported 54 = .ok (.iaload, 1) := by decide +kernel
theorem dX2_markSupported_55 : decode cX2_markSupported 55 = .ok (.istore_n 3, 1) := by decide +kernel
theorem dX2_markSupported_56 : decode cX2_markSupported 56 = .ok (.iload_n 2, 1) := by decide +kernel
theorem dX2_markSupported_57 : decode cX2_markSupported 57 = .ok (.iconst 1, 1) := by decide +kernel
theorem dX2_markSupported_58 : decode cX2_markSupported 58 = .ok (.iadd, 1) := by decide +kernel
theorem dX2_markSupported_59 : decode cX2_markSupported 59 = .ok (.istore 4, 2) := by decide +kernel
theorem dX2_markSupported_61 : decode cX2_markSupported 61 = .ok (.iload 4, 2) := by decide +kernel
theorem dX2_markSupported_63 : decode cX2_markSupported 63 = .ok (.iload_n 3, 1) := by decide +kernel
theorem dX2_markSupported_64 : decode cX2_markSupported 64 = .ok (.if_icmp .ge 32, 3) := by decide +kernel
theorem dX2_markSupported_67 : decode cX2_markSupported 67 = .ok (.aload_n 0, 1) := by decide +kernel
theorem dX2_markSupported_68 : decode cX2_markSupported 68 = .ok (.getfield 27, 3) := by decide +kernel
theorem dX2_markSupported_71 : decode cX2_markSupported 71 = .ok (.iload 4, 2) := by decide +kernel
theorem dX2_markSupported_73 : decode cX2_markSupported 73 = .ok (.aload_n 0, 1) := by decide +kernel
theorem dX2_markSupported_74 : decode cX2_markSupported 74 = .ok (.iload_n 2, 1) := by decide +kernel
theorem dX2_markSupported_75 : decode cX2_markSupported 75 = .ok (.iload_n 3, 1) := by decide +kernel
theorem dX2_markSupported_76 : decode cX2_markSupported 76 = .ok (.iload 4, 2) := by decide +kernel
theorem dX2_markSupported_78 : decode cX2_markSupported 78 = .ok (.invokevirtual 93, 3) := by decide +kernel
theorem dX2_markSupported_81 : decode cX2_markSupported 81 = .ok (.ifCond .ne 7, 3) := by decide +kernel
theorem dX2_markSupported_84 : decode cX2_markSupported 84 = .ok (.iconst 1, 1) := by decide +kernel
theorem dX2_markSupported_85 : decode cX2_markSupported 85 = .ok (.goto 4, 3) := by decide +kernel
theorem dX2_markSupported_88 : decode cX2_markSupported 88 = .ok (.iconst 0, 1) := by decide +kernel
theorem dX2_markSupported_89 : decode cX2_markSupported 89 = .ok (.iastore, 1) := by decide +kernel
theorem dX2_markSupported_90 : decode cX2_markSupported 90 = .ok (.iinc 4 1, 3) := by decide +kernel
theorem dX2_markSupported_93 : decode cX2_markSupported 93 = .ok (.goto (-32), 3) := by decide +kernel
theorem dX2_markSupported_96 : decode cX2_markSupported 96 = .ok (.iinc 1 1, 3) := by decide +kernel
theorem dX2_markSupported_99 : decode cX2_markSupported 99 = .ok (.goto (-69), 3) := by decide +kernel
theorem dX2_markSupported_102 : decode cX2_markSupported 102 = .ok (.return_, 1) := by decide +kernel
theorem dX2_gainWon_0 : decode cX2_gainWon 0 = .ok (.aload_n 0, 1) := by decide +kernel
theorem dX2_gainWon_1 : decode cX2_gainWon 1 = .ok (.getfield 9, 3) := by decide +kernel
theorem dX2_gainWon_4 : decode cX2_gainWon 4 = .ok (.iload_n 2, 1) := by decide +kernel
theorem dX2_gainWon_5 : decode cX2_gainWon 5 = .ok (.iaload, 1) := by decide +kernel
theorem dX2_gainWon_6 : decode cX2_gainWon 6 = .ok (.aload_n 0, 1) := by decide +kernel
theorem dX2_gainWon_7 : decode cX2_gainWon 7 = .ok (.getfield 9, 3) := by decide +kernel
theorem dX2_gainWon_10 : decode cX2_gainWon 10 = .ok (.iload_n 1, 1) := by decide +kernel
theorem dX2_gainWon_11 : decode cX2_gainWon 11 = .ok (.iaload, 1) := by decide +kernel
theorem dX2_gainWon_12 : decode cX2_gainWon 12 = .ok (.isub, 1) := by decide +kernel
theorem dX2_gainWon_13 : decode cX2_gainWon 13 = .ok (.ireturn, 1) := by decide +kernel
theorem dX2_joyLost_0 : decode cX2_joyLost 0 = .ok (.aload_n 0, 1) := by decide +kernel
theorem dX2_joyLost_1 : decode cX2_joyLost 1 = .ok (.getfield 15, 3) := by decide +kernel
theorem dX2_joyLost_4 : decode cX2_joyLost 4 = .ok (.iload_n 1, 1) := by decide +kernel
theorem dX2_joyLost_5 : decode cX2_joyLost 5 = .ok (.iaload, 1) := by decide +kernel
theorem dX2_joyLost_6 : decode cX2_joyLost 6 = .ok (.aload_n 0, 1) := by decide +kernel
theorem dX2_joyLost_7 : decode cX2_joyLost 7 = .ok (.getfield 15, 3) := by decide +kernel
theorem dX2_joyLost_10 : decode cX2_joyLost 10 = .ok (.iload_n 2, 1) := by decide +kernel
theorem dX2_joyLost_11 : decode cX2_joyLost 11 = .ok (.iaload, 1) := by decide +kernel
theorem dX2_joyLost_12 : decode cX2_joyLost 12 = .ok (.isub, 1) := by decide +kernel
theorem dX2_joyLost_13 : decode cX2_joyLost 13 = .ok (.ireturn, 1) := by decide +kernel
theorem dX2_supportedBetween_0 : decode cX2_supportedBetween 0 = .ok (.iconst 0, 1) := by decide +kernel
theorem dX2_supportedBetween_1 : decode cX2_supportedBetween 1 = .ok (.istore_n 3, 1) := by decide +kernel
theorem dX2_supportedBetween_2 : decode cX2_supportedBetween 2 = .ok (.iload_n 1, 1) := by decide +kernel
theorem dX2_supportedBetween_3 : decode cX2_supportedBetween 3 = .ok (.iconst 1, 1) := by decide +kernel
theorem dX2_supportedBetween_4 : decode cX2_supportedBetween 4 = .ok (.iadd, 1) := by decide +kernel
theorem dX2_supportedBetween_5 : decode cX2_supportedBetween 5 = .ok (.istore 4, 2) := by decide +kernel
theorem dX2_supportedBetween_7 : decode cX2_supportedBetween 7 = .ok (.iload 4, 2) := by decide +kernel
theorem dX2_supportedBetween_9 : decode cX2_supportedBetween 9 = .ok (.iload_n 2, 1) := by decide +kernel
theorem dX2_supportedBetween_10 : decode cX2_supportedBetween 10 = .ok (.if_icmp .ge 32, 3) := by decide +kernel
theorem dX2_supportedBetween_13 : decode cX2_supportedBetween 13 = .ok (.iload 4, 2) := by decide +kernel
theorem dX2_supportedBetween_15 : decode cX2_supportedBetween 15 = .ok (.aload_n 0, 1) := by decide +kernel
theorem dX2_supportedBetween_16 : decode cX2_supportedBetween 16 = .ok (.getfield 67, 3) := by decide +kernel
theorem dX2_supportedBetween_19 : decode cX2_supportedBetween 19 = .ok (.if_icmp .ge 23, 3) := by decide +kernel
theorem dX2_supportedBetween_22 : decode cX2_supportedBetween 22 = .ok (.aload_n 0, 1) := by decide +kernel
theorem dX2_supportedBetween_23 : decode cX2_supportedBetween 23 = .ok (.getfield 27, 3) := by decide +kernel
theorem dX2_supportedBetween_26 : decode cX2_supportedBetween 26 = .ok (.iload 4, 2) := by decide +kernel
theorem dX2_supportedBetween_28 : decode cX2_supportedBetween 28 = .ok (.iaload, 1) := by decide +kernel
theorem dX2_supportedBetween_29 : decode cX2_supportedBetween 29 = .ok (.iconst 1, 1) := by decide +kernel
theorem dX2_supportedBetween_30 : decode cX2_supportedBetween 30 = .ok (.if_icmp .lt 6, 3) := by decide +kernel
theorem dX2_supportedBetween_33 : decode cX2_supportedBetween 33 = .ok (.iinc 3 1, 3) := by decide +kernel
theorem dX2_supportedBetween_36 : decode cX2_supportedBetween 36 = .ok (.iinc 4 1, 3) := by decide +kernel
theorem dX2_supportedBetween_39 : decode cX2_supportedBetween 39 = .ok (.goto (-32), 3) := by decide +kernel
theorem dX2_supportedBetween_42 : decode cX2_supportedBetween 42 = .ok (.iload_n 3, 1) := by decide +kernel
theorem dX2_supportedBetween_43 : decode cX2_supportedBetween 43 = .ok (.ireturn, 1) := by decide +kernel
theorem dX2_pointWithPair_0 : decode cX2_pointWithPair 0 = .ok (.iload_n 1, 1) := by decide +kernel
theorem dX2_pointWithPair_1 : decode cX2_pointWithPair 1 = .ok (.ifCond .lt 10, 3) := by decide +kernel
theorem dX2_pointWithPair_4 : decode cX2_pointWithPair 4 = .ok (.iload_n 1, 1) := by decide +kernel
theorem dX2_pointWithPair_5 : decode cX2_pointWithPair 5 = .ok (.sipush 1189, 3) := by decide +kernel
theorem dX2_pointWithPair_8 : decode cX2_pointWithPair 8 = .ok (.if_icmp .lt 5, 3) := by decide +kernel
theorem dX2_pointWithPair_11 : decode cX2_pointWithPair 11 = .ok (.iconst (-1), 1) := by decide +kernel
theorem dX2_pointWithPair_12 : decode cX2_pointWithPair 12 = .ok (.ireturn, 1) := by decide +kernel
theorem dX2_pointWithPair_13 : decode cX2_pointWithPair 13 = .ok (.aload_n 0, 1) := by decide +kernel
theorem dX2_pointWithPair_14 : decode cX2_pointWithPair 14 = .ok (.getfield 33, 3) := by decide +kernel
theorem dX2_pointWithPair_17 : decode cX2_pointWithPair 17 = .ok (.iload_n 1, 1) := by decide +kernel
theorem dX2_pointWithPair_18 : decode cX2_pointWithPair 18 = .ok (.iaload, 1) := by decide +kernel
theorem dX2_pointWithPair_19 : decode cX2_pointWithPair 19 = .ok (.istore_n 3, 1) := by decide +kernel
theorem dX2_pointWithPair_20 : decode cX2_pointWithPair 20 = .ok (.iload_n 3, 1) := by decide +kernel
theorem dX2_pointWithPair_21 : decode cX2_pointWithPair 21 = .ok (.iconst (-1), 1) := by decide +kernel
theorem dX2_pointWithPair_22 : decode cX2_pointWithPair 22 = .ok (.if_icmp .eq 17, 3) := by decide +kernel
theorem dX2_pointWithPair_25 : decode cX2_pointWithPair 25 = .ok (.aload_n 0, 1) := by decide +kernel
theorem dX2_pointWithPair_26 : decode cX2_pointWithPair 26 = .ok (.getfield 15, 3) := by decide +kernel
theorem dX2_pointWithPair_29 : decode cX2_pointWithPair 29 = .ok (.iload_n 3, 1) := by decide +kernel
theorem dX2_pointWithPair_30 : decode cX2_pointWithPair 30 = .ok (.iaload, 1) := by decide +kernel
theorem dX2_pointWithPair_31 : decode cX2_pointWithPair 31 = .ok (.iload_n 2, 1) := by decide +kernel
theorem dX2_pointWithPair_32 : decode cX2_pointWithPair 32 = .ok (.if_icmp .ne 7, 3) := by decide +kernel
theorem dX2_pointWithPair_35 : decode cX2_pointWithPair 35 = .ok (.iload_n 3, 1) := by decide +kernel
theorem dX2_pointWithPair_36 : decode cX2_pointWithPair 36 = .ok (.goto 4, 3) := by decide +kernel
theorem dX2_pointWithPair_39 : decode cX2_pointWithPair 39 = .ok (.iconst (-1), 1) := by decide +kernel
theorem dX2_pointWithPair_40 : decode cX2_pointWithPair 40 = .ok (.ireturn, 1) := by decide +kernel
theorem dX2_beats_0 : decode cX2_beats 0 = .ok (.aload_n 0, 1) := by decide +kernel
theorem dX2_beats_1 : decode cX2_beats 1 = .ok (.getfield 9, 3) := by decide +kernel
theorem dX2_beats_4 : decode cX2_beats 4 = .ok (.iload_n 1, 1) := by decide +kernel
theorem dX2_beats_5 : decode cX2_beats 5 = .ok (.iaload, 1) := by decide +kernel
theorem dX2_beats_6 : decode cX2_beats 6 = .ok (.iload_n 2, 1) := by decide +kernel
theorem dX2_beats_7 : decode cX2_beats 7 = .ok (.if_icmp .lt 37, 3) := by decide +kernel
theorem dX2_beats_10 : decode cX2_beats 10 = .ok (.aload_n 0, 1) := by decide +kernel
theorem dX2_beats_11 : decode cX2_beats 11 = .ok (.getfield 15, 3) := by decide +kernel
theorem dX2_beats_14 : decode cX2_beats 14 = .ok (.iload_n 1, 1) := by decide +kernel
theorem dX2_beats_15 : decode cX2_beats 15 = .ok (.iaload, 1) := by decide +kernel
theorem dX2_beats_16 : decode cX2_beats 16 = .ok (.iload_n 3, 1) := by decide +kernel
theorem dX2_beats_17 : decode cX2_beats 17 = .ok (.if_icmp .lt 27, 3) := by decide +kernel
theorem dX2_beats_20 : decode cX2_beats 20 = .ok (.aload_n 0, 1) := by decide +kernel
theorem dX2_beats_21 : decode cX2_beats 21 = .ok (.getfield 9, 3) := by decide +kernel
theorem dX2_beats_24 : decode cX2_beats 24 = .ok (.iload_n 1, 1) := by decide +kernel
theorem dX2_beats_25 : decode cX2_beats 25 = .ok (.iaload, 1) := by decide +kernel
theorem dX2_beats_26 : decode cX2_beats 26 = .ok (.iload_n 2, 1) := by decide +kernel
theorem dX2_beats_27 : decode cX2_beats 27 = .ok (.if_icmp .gt 13, 3) := by decide +kernel
theorem dX2_beats_30 : decode cX2_beats 30 = .ok (.aload_n 0, 1) := by decide +kernel
theorem dX2_beats_31 : decode cX2_beats 31 = .ok (.getfield 15, 3) := by decide +kernel
theorem dX2_beats_34 : decode cX2_beats 34 = .ok (.iload_n 1, 1) := by decide +kernel
theorem dX2_beats_35 : decode cX2_beats 35 = .ok (.iaload, 1) := by decide +kernel
theorem dX2_beats_36 : decode cX2_beats 36 = .ok (.iload_n 3, 1) := by decide +kernel
theorem dX2_beats_37 : decode cX2_beats 37 = .ok (.if_icmp .le 7, 3) := by decide +kernel
theorem dX2_beats_40 : decode cX2_beats 40 = .ok (.iconst 1, 1) := by decide +kernel
theorem dX2_beats_41 : decode cX2_beats 41 = .ok (.goto 4, 3) := by decide +kernel
theorem dX2_beats_44 : decode cX2_beats 44 = .ok (.iconst 0, 1) := by decide +kernel
theorem dX2_beats_45 : decode cX2_beats 45 = .ok (.ireturn, 1) := by decide +kernel
theorem dX2_valueOf_0 : decode cX2_valueOf 0 = .ok (.iload_n 2, 1) := by decide +kernel
theorem dX2_valueOf_1 : decode cX2_valueOf 1 = .ok (.aload_n 0, 1) := by decide +kernel
theorem dX2_valueOf_2 : decode cX2_valueOf 2 = .ok (.getfield 9, 3) := by decide +kernel
theorem dX2_valueOf_5 : decode cX2_valueOf 5 = .ok (.iload_n 1, 1) := by decide +kernel
theorem dX2_valueOf_6 : decode cX2_valueOf 6 = .ok (.iaload, 1) := by decide +kernel
theorem dX2_valueOf_7 : decode cX2_valueOf 7 = .ok (.imul, 1) := by decide +kernel
theorem dX2_valueOf_8 : decode cX2_valueOf 8 = .ok (.iload_n 3, 1) := by decide +kernel
theorem dX2_valueOf_9 : decode cX2_valueOf 9 = .ok (.aload_n 0, 1) := by decide +kernel
theorem dX2_valueOf_10 : decode cX2_valueOf 10 = .ok (.getfield 15, 3) := by decide +kernel
theorem dX2_valueOf_13 : decode cX2_valueOf 13 = .ok (.iload_n 1, 1) := by decide +kernel
theorem dX2_valueOf_14 : decode cX2_valueOf 14 = .ok (.iaload, 1) := by decide +kernel
theorem dX2_valueOf_15 : decode cX2_valueOf 15 = .ok (.imul, 1) := by decide +kernel
theorem dX2_valueOf_16 : decode cX2_valueOf 16 = .ok (.iadd, 1) := by decide +kernel
theorem dX2_valueOf_17 : decode cX2_valueOf 17 = .ok (.ireturn, 1) := by decide +kernel
set_option maxRecDepth 20000 in
theorem ggX2_greatestBy_X2_valueOf : GoodIn wsX2_greatestBy wsX2_valueOf := goodIn_r _ [6, 7, 8, 9, 10, 11, 12, 13, 14, 15, 16, 17, 18, 19, 20, 21] (by decide +kernel) (by decide +kernel)
set_option maxRecDepth 20000 in
theorem gX2_greatestBy_X2_valueOf : GoodIn wsX2_greatestBy (wsV RX2 103 RX2 yX2_valueOf wsX2_valueOf) := goodIn_app (goodIn_of _ (by decide +kernel)) ggX2_greatestBy_X2_valueOf
theorem dX2_greatestBy_0 : decode cX2_greatestBy 0 = .ok (.iconst (-1), 1) := by decide +kernel
theorem dX2_greatestBy_1 : decode cX2_greatestBy 1 = .ok (.istore_n 3, 1) := by decide +kernel
theorem dX2_greatestBy_2 : decode cX2_greatestBy 2 = .ok (.iconst (-1), 1) := by decide +kernel
theorem dX2_greatestBy_3 : decode cX2_greatestBy 3 = .ok (.istore 4, 2) := by decide +kernel
theorem dX2_greatestBy_5 : decode cX2_greatestBy 5 = .ok (.iconst 0, 1) := by decide +kernel
theorem dX2_greatestBy_6 : decode cX2_greatestBy 6 = .ok (.istore 5, 2) := by decide +kernel
theorem dX2_greatestBy_8 : decode cX2_greatestBy 8 = .ok (.iload 5, 2) := by decide +kernel
theorem dX2_greatestBy_10 : decode cX2_greatestBy 10 = .ok (.aload_n 0, 1) := by decide +kernel
theorem dX2_greatestBy_11 : decode cX2_greatestBy 11 = .ok (.getfield 67, 3) := by decide +kernel
theorem dX2_greatestBy_14 : decode cX2_greatestBy 14 = .ok (.if_icmp .ge 33, 3) := by decide +kernel
theorem dX2_greatestBy_17 : decode cX2_greatestBy 17 = .ok (.aload_n 0, 1) := by decide +kernel
theorem dX2_greatestBy_18 : decode cX2_greatestBy 18 = .ok (.iload 5, 2) := by decide +kernel
theorem dX2_greatestBy_20 : decode cX2_greatestBy 20 = .ok (.iload_n 1, 1) := by decide +kernel
theorem dX2_greatestBy_21 : decode cX2_greatestBy 21 = .ok (.iload_n 2, 1) := by decide +kernel
theorem dX2_greatestBy_22 : decode cX2_greatestBy 22 = .ok (.invokevirtual 103, 3) := by decide +kernel
theorem dX2_greatestBy_25 : decode cX2_greatestBy 25 = .ok (.istore 6, 2) := by decide +kernel
theorem dX2_greatestBy_27 : decode cX2_greatestBy 27 = .ok (.iload 6, 2) := by decide +kernel
theorem dX2_greatestBy_29 : decode cX2_greatestBy 29 = .ok (.iload 4, 2) := by decide +kernel
theorem dX2_greatestBy_31 : decode cX2_greatestBy 31 = .ok (.if_icmp .le 10, 3) := by decide +kernel
theorem dX2_greatestBy_34 : decode cX2_greatestBy 34 = .ok (.iload 6, 2) := by decide +kernel
theorem dX2_greatestBy_36 : decode cX2_greatestBy 36 = .ok (.istore 4, 2) := by decide +kernel
theorem dX2_greatestBy_38 : decode cX2_greatestBy 38 = .ok (.iload 5, 2) := by decide +kernel
theorem dX2_greatestBy_40 : decode cX2_greatestBy 40 = .ok (.istore_n 3, 1) := by decide +kernel
theorem dX2_greatestBy_41 : decode cX2_greatestBy 41 = .ok (.iinc 5 1, 3) := by decide +kernel
theorem dX2_greatestBy_44 : decode cX2_greatestBy 44 = .ok (.goto (-36), 3) := by decide +kernel
theorem dX2_greatestBy_47 : decode cX2_greatestBy 47 = .ok (.iload_n 3, 1) := by decide +kernel
theorem dX2_greatestBy_48 : decode cX2_greatestBy 48 = .ok (.ireturn, 1) := by decide +kernel
set_option maxRecDepth 20000 in
theorem ggX2_leastLack_X2_gainWon : GoodIn wsX2_leastLack wsX2_gainWon := goodIn_r _ [10, 11, 17, 18, 19, 20, 21, 22, 23, 24, 25, 26, 27, 28, 29] (by decide +kernel) (by decide +kernel)
set_option maxRecDepth 20000 in
theorem gX2_leastLack_X2_gainWon : GoodIn wsX2_leastLack (wsV RX2 97 RX2 yX2_gainWon wsX2_gainWon) := goodIn_app (goodIn_of _ (by decide +kernel)) ggX2_leastLack_X2_gainWon
set_option maxRecDepth 20000 in
theorem ggX2_leastLack_X2_joyLost : GoodIn wsX2_leastLack wsX2_joyLost := goodIn_r _ [15, 16, 17, 18, 19, 20, 21, 22, 23, 24, 25, 26, 27, 28, 29] (by decide +kernel) (by decide +kernel)
set_option maxRecDepth 20000 in
theorem gX2_leastLack_X2_joyLost : GoodIn wsX2_leastLack (wsV RX2 100 RX2 yX2_joyLost wsX2_joyLost) := goodIn_app (goodIn_of _ (by decide +kernel)) ggX2_leastLack_X2_joyLost
theorem dX2_leastLack_0 : decode cX2_leastLack 0 = .ok (.iconst (-1), 1) := by decide +kernel
theorem dX2_leastLack_1 : decode cX2_leastLack 1 = .ok (.istore_n 3, 1) := by decide +kernel
theorem dX2_leastLack_2 : decode cX2_leastLack 2 = .ok (.iconst 0, 1) := by decide +kernel
theorem dX2_leastLack_3 : decode cX2_leastLack 3 = .ok (.istore 4, 2) := by decide +kernel
theorem dX2_leastLack_5 : decode cX2_leastLack 5 = .ok (.iconst 0, 1) := by decide +kernel
theorem dX2_leastLack_6 : decode cX2_leastLack 6 = .ok (.istore 5, 2) := by decide +kernel
theorem dX2_leastLack_8 : decode cX2_leastLack 8 = .ok (.iload 5, 2) := by decide +kernel
theorem dX2_leastLack_10 : decode cX2_leastLack 10 = .ok (.aload_n 0, 1) := by decide +kernel
theorem dX2_leastLack_11 : decode cX2_leastLack 11 = .ok (.getfield 67, 3) := by decide +kernel
theorem dX2_leastLack_14 : decode cX2_leastLack 14 = .ok (.if_icmp .ge 56, 3) := by decide +kernel
theorem dX2_leastLack_17 : decode cX2_leastLack 17 = .ok (.iload_n 1, 1) := by decide +kernel
theorem dX2_leastLack_18 : decode cX2_leastLack 18 = .ok (.aload_n 0, 1) := by decide +kernel
theorem dX2_leastLack_19 : decode cX2_leastLack 19 = .ok (.iload 5, 2) := by decide +kernel
theorem dX2_leastLack_21 : decode cX2_leastLack 21 = .ok (.aload_n 0, 1) := by decide +kernel
theorem dX2_leastLack_22 : decode cX2_leastLack 22 = .ok (.getfield 67, 3) := by decide +kernel
theorem dX2_leastLack_25 : decode cX2_leastLack 25 = .ok (.iconst 1, 1) := by decide +kernel
theorem dX2_leastLack_26 : decode cX2_leastLack 26 = .ok (.isub, 1) := by decide +kernel
theorem dX2_leastLack_27 : decode cX2_leastLack 27 = .ok (.invokevirtual 97, 3) := by decide +kernel
theorem dX2_leastLack_30 : decode cX2_leastLack 30 = .ok (.imul, 1) := by decide +kernel
theorem dX2_leastLack_31 : decode cX2_leastLack 31 = .ok (.iload_n 2, 1) := by decide +kernel
theorem dX2_leastLack_32 : decode cX2_leastLack 32 = .ok (.aload_n 0, 1) := by decide +kernel
theorem dX2_leastLack_33 : decode cX2_leastLack 33 = .ok (.iconst 0, 1) := by decide +kernel
theorem dX2_leastLack_34 : decode cX2_leastLack 34 = .ok (.iload 5, 2) := by decide +kernel
theorem dX2_leastLack_36 : decode cX2_leastLack 36 = .ok (.invokevirtual 100, 3) := by decide +kernel
theorem dX2_leastLack_39 : decode cX2_leastLack 39 = .ok (.imul, 1) := by decide +kernel
theorem dX2_leastLack_40 : decode cX2_leastLack 40 = .ok (.invokestatic 106, 3) := by decide +kernel
theorem dX2_leastLack_43 : decode cX2_leastLack 43 = .ok (.istore 6, 2) := by decide +kernel
theorem dX2_leastLack_45 : decode cX2_leastLack 45 = .ok (.iload_n 3, 1) := by decide +kernel
theorem dX2_leastLack_46 : decode cX2_leastLack 46 = .ok (.iconst (-1), 1) := by decide +kernel
theorem dX2_leastLack_47 : decode cX2_leastLack 47 = .ok (.if_icmp .eq 10, 3) := by decide +kernel
theorem dX2_leastLack_50 : decode cX2_leastLack 50 = .ok (.iload 6, 2) := by decide +kernel
theorem dX2_leastLack_52 : decode cX2_leastLack 52 = .ok (.iload 4, 2) := by decide +kernel
theorem dX2_leastLack_54 : decode cX2_leastLack 54 = .ok (.if_icmp .ge 10, 3) := by decide +kernel
theorem dX2_leastLack_57 : decode cX2_leastLack 57 = .ok (.iload 6, 2) := by decide +kernel
theorem dX2_leastLack_59 : decode cX2_leastLack 59 = .ok (.istore 4, 2) := by decide +kernel
theorem dX2_leastLack_61 : decode cX2_leastLack 61 = .ok (.iload 5, 2) := by decide +kernel
theorem dX2_leastLack_63 : decode cX2_leastLack 63 = .ok (.istore_n 3, 1) := by decide +kernel
theorem dX2_leastLack_64 : decode cX2_leastLack 64 = .ok (.iinc 5 1, 3) := by decide +kernel
theorem dX2_leastLack_67 : decode cX2_leastLack 67 = .ok (.goto (-59), 3) := by decide +kernel
theorem dX2_leastLack_70 : decode cX2_leastLack 70 = .ok (.iload_n 3, 1) := by decide +kernel
theorem dX2_leastLack_71 : decode cX2_leastLack 71 = .ok (.ireturn, 1) := by decide +kernel
set_option maxRecDepth 20000 in
theorem ggX2_countReached_X2_pointWithPair : GoodIn wsX2_countReached wsX2_pointWithPair := goodIn_r _ [10, 11, 12, 35, 36, 37, 38, 39, 40, 41, 42, 43, 44, 45, 46, 47] (by decide +kernel) (by decide +kernel)
set_option maxRecDepth 20000 in
theorem gX2_countReached_X2_pointWithPair : GoodIn wsX2_countReached (wsV RX2 80 RX2 yX2_pointWithPair wsX2_pointWithPair) := goodIn_app (goodIn_of _ (by decide +kernel)) ggX2_countReached_X2_pointWithPair
set_option maxRecDepth 20000 in
theorem ggX2_countReached_X0_reason : GoodIn wsX2_countReached wsX0_reason := goodIn_r _ [17, 18, 19, 20, 21, 16, 22, 23, 24, 25, 26, 27, 28, 29, 30, 31, 32, 33, 34, 48, 49, 50, 51, 52, 53, 54, 55, 56] (by decide +kernel) (by decide +kernel)
set_option maxRecDepth 20000 in
theorem gX2_countReached_X0_reason : GoodIn wsX2_countReached (wsV RX2 84 RX0 yX0_reason wsX0_reason) := goodIn_app (goodIn_of _ (by decide +kernel)) ggX2_countReached_X0_reason
theorem dX2_countReached_0 : decode cX2_countReached 0 = .ok (.iconst 0, 1) := by decide +kernel
theorem dX2_countReached_1 : decode cX2_countReached 1 = .ok (.istore 4, 2) := by decide +kernel
theorem dX2_countReached_3 : decode cX2_countReached 3 = .ok (.iload 4, 2) := by decide +kernel
theorem dX2_countReached_5 : decode cX2_countReached 5 = .ok (.aload_n 0, 1) := by decide +kernel
theorem dX2_countReached_6 : decode cX2_countReached 6 = .ok (.getfield 67, 3) := by decide +kernel
theorem dX2_countReached_9 : decode cX2_countReached 9 = .ok (.if_icmp .ge 17, 3) := by decide +kernel
theorem dX2_countReached_12 : decode cX2_countReached 12 = .ok (.aload_n 0, 1) := by decide +kernel
theorem dX2_countReached_13 : decode cX2_countReached 13 = .ok (.getfield 36, 3) := by decide +kernel
theorem dX2_countReached_16 : decode cX2_countReached 16 = .ok (.iload 4, 2) := by decide +kernel
theorem dX2_countReached_18 : decode cX2_countReached 18 = .ok (.iconst 0, 1) := by decide +kernel
theorem dX2_countReached_19 : decode cX2_countReached 19 = .ok (.bastore, 1) := by decide +kernel
theorem dX2_countReached_20 : decode cX2_countReached 20 = .ok (.iinc 4 1, 3) := by decide +kernel
theorem dX2_countReached_23 : decode cX2_countReached 23 = .ok (.goto (-20), 3) := by decide +kernel
theorem dX2_countReached_26 : decode cX2_countReached 26 = .ok (.iconst 0, 1) := by decide +kernel
theorem dX2_countReached_27 : decode cX2_countReached 27 = .ok (.istore 4, 2) := by decide +kernel
theorem dX2_countReached_29 : decode cX2_countReached 29 = .ok (.iconst 0, 1) := by decide +kernel
theorem dX2_countReached_30 : decode cX2_countReached 30 = .ok (.istore 5, 2) := by decide +kernel
theorem dX2_countReached_32 : decode cX2_countReached 32 = .ok (.iload 5, 2) := by decide +kernel
theorem dX2_countReached_34 : decode cX2_countReached 34 = .ok (.aload_n 1, 1) := by decide +kernel
theorem dX2_countReached_35 : decode cX2_countReached 35 = .ok (.getfield 73, 3) := by decide +kernel
theorem dX2_countReached_38 : decode cX2_countReached 38 = .ok (.if_icmp .ge 81, 3) := by decide +kernel
theorem dX2_countReached_41 : decode cX2_countReached 41 = .ok (.iload 5, 2) := by decide +kernel
theorem dX2_countReached_43 : decode cX2_countReached 43 = .ok (.sipush 4096, 3) := by decide +kernel
theorem dX2_countReached_46 : decode cX2_countReached 46 = .ok (.if_icmp .ge 73, 3) := by decide +kernel
theorem dX2_countReached_49 : decode cX2_countReached 49 = .ok (.aload_n 0, 1) := by decide +kernel
theorem dX2_countReached_50 : decode cX2_countReached 50 = .ok (.aload_n 1, 1) := by decide +kernel
theorem dX2_countReached_51 : decode cX2_countReached 51 = .ok (.getfield 78, 3) := by decide +kernel
theorem dX2_countReached_54 : decode cX2_countReached 54 = .ok (.iload 5, 2) := by decide +kernel
theorem dX2_countReached_56 : decode cX2_countReached 56 = .ok (.iaload, 1) := by decide +kernel
theorem dX2_countReached_57 : decode cX2_countReached 57 = .ok (.aload_n 1, 1) := by decide +kernel
theorem dX2_countReached_58 : decode cX2_countReached 58 = .ok (.getfield 79, 3) := by decide +kernel
theorem dX2_countReached_61 : decode cX2_countReached 61 = .ok (.iload 5, 2) := by decide +kernel
theorem dX2_countReached_63 : decode cX2_countReached 63 = .ok (.iaload, 1) := by decide +kernel
theorem dX2_countReached_64 : decode cX2_countReached 64 = .ok (.invokevirtual 80, 3) := by decide +kernel
theorem dX2_countReached_67 : decode cX2_countReached 67 = .ok (.istore 6, 2) := by decide +kernel
theorem dX2_countReached_69 : decode cX2_countReached 69 = .ok (.iload 5, 2) := by decide +kernel
theorem dX2_countReached_71 : decode cX2_countReached 71 = .ok (.iload_n 3, 1) := by decide +kernel
theorem dX2_countReached_72 : decode cX2_countReached 72 = .ok (.iand, 1) := by decide +kernel
theorem dX2_countReached_73 : decode cX2_countReached 73 = .ok (.ifCond .ne 40, 3) := by decide +kernel
theorem dX2_countReached_76 : decode cX2_countReached 76 = .ok (.iload 6, 2) := by decide +kernel
theorem dX2_countReached_78 : decode cX2_countReached 78 = .ok (.iconst (-1), 1) := by decide +kernel
theorem dX2_countReached_79 : decode cX2_countReached 79 = .ok (.if_icmp .eq 34, 3) := by decide +kernel
theorem dX2_countReached_82 : decode cX2_countReached 82 = .ok (.aload_n 0, 1) := by decide +kernel
theorem dX2_countReached_83 : decode cX2_countReached 83 = .ok (.getfield 36, 3) := by decide +kernel
theorem dX2_countReached_86 : decode cX2_countReached 86 = .ok (.iload 6, 2) := by decide +kernel
theorem dX2_countReached_88 : decode cX2_countReached 88 = .ok (.baload, 1) := by decide +kernel
theorem dX2_countReached_89 : decode cX2_countReached 89 = .ok (.ifCond .ne 24, 3) := by decide +kernel
theorem dX2_countReached_92 : decode cX2_countReached 92 = .ok (.aload_n 1, 1) := by decide +kernel
theorem dX2_countReached_93 : decode cX2_countReached 93 = .ok (.iload 5, 2) := by decide +kernel
theorem dX2_countReached_95 : decode cX2_countReached 95 = .ok (.iload_n 2, 1) := by decide +kernel
theorem dX2_countReached_96 : decode cX2_countReached 96 = .ok (.invokevirtual 84, 3) := by decide +kernel
theorem dX2_countReached_99 : decode cX2_countReached 99 = .ok (.ifCond .ne 14, 3) := by decide +kernel
theorem dX2_countReached_102 : decode cX2_countReached 102 = .ok (.aload_n 0, 1) := by decide +kernel
theorem dX2_countReached_103 : decode cX2_countReached 103 = .ok (.getfield 36, 3) := by decide +kernel
theorem dX2_countReached_106 : decode cX2_countReached 106 = .ok (.iload 6, 2) := by decide +kernel
theorem dX2_countReached_108 : decode cX2_countReached 108 = .ok (.iconst 1, 1) := by decide +kernel
theorem dX2_countReached_109 : decode cX2_countReached 109 = .ok (.bastore, 1) := by decide +kernel
theorem dX2_countReached_110 : decode cX2_countReached 110 = .ok (.iinc 4 1, 3) := by decide +kernel
theorem dX2_countReached_113 : decode cX2_countReached 113 = .ok (.iinc 5 1, 3) := by decide +kernel
theorem dX2_countReached_116 : decode cX2_countReached 116 = .ok (.goto (-84), 3) := by decide +kernel
theorem dX2_countReached_119 : decode cX2_countReached 119 = .ok (.iload 4, 2) := by decide +kernel
theorem dX2_countReached_121 : decode cX2_countReached 121 = .ok (.ireturn, 1) := by decide +kernel
theorem dX3_init_0 : decode cX3_init 0 = .ok (.aload_n 0, 1) := by decide +kernel
theorem dX3_init_1 : decode cX3_init 1 = .ok (.invokespecial 3, 3) := by decide +kernel
theorem dX3_init_4 : decode cX3_init 4 = .ok (.aload_n 0, 1) := by decide +kernel
theorem dX3_init_5 : decode cX3_init 5 = .ok (.sipush 4096, 3) := by decide +kernel
theorem dX3_init_8 : decode cX3_init 8 = .ok (.newarray .int, 2) := by decide +kernel
theorem dX3_init_10 : decode cX3_init 10 = .ok (.putfield 9, 3) := by decide +kernel
theorem dX3_init_13 : decode cX3_init 13 = .ok (.aload_n 0, 1) := by decide +kernel
theorem dX3_init_14 : decode cX3_init 14 = .ok (.sipush 2378, 3) := by decide +kernel
theorem dX3_init_17 : decode cX3_init 17 = .ok (.newarray .int, 2) := by decide +kernel
theorem dX3_init_19 : decode cX3_init 19 = .ok (.putfield 15, 3) := by decide +kernel
theorem dX3_init_22 : decode cX3_init 22 = .ok (.aload_n 0, 1) := by decide +kernel
theorem dX3_init_23 : decode cX3_init 23 = .ok (.sipush 2378, 3) := by decide +kernel
theorem dX3_init_26 : decode cX3_init 26 = .ok (.newarray .int, 2) := by decide +kernel
theorem dX3_init_28 : decode cX3_init 28 = .ok (.putfield 18, 3) := by decide +kernel
theorem dX3_init_31 : decode cX3_init 31 = .ok (.aload_n 0, 1) := by decide +kernel
theorem dX3_init_32 : decode cX3_init 32 = .ok (.sipush 1189, 3) := by decide +kernel
theorem dX3_init_35 : decode cX3_init 35 = .ok (.newarray .int, 2) := by decide +kernel
theorem dX3_init_37 : decode cX3_init 37 = .ok (.putfield 21, 3) := by decide +kernel
theorem dX3_init_40 : decode cX3_init 40 = .ok (.aload_n 0, 1) := by decide +kernel
theorem dX3_init_41 : decode cX3_init 41 = .ok (.sipush 4096, 3) := by decide +kernel
theorem dX3_init_44 : decode cX3_init 44 = .ok (.newarray .int, 2) := by decide +kernel
theorem dX3_init_46 : decode cX3_init 46 = .ok (.putfield 24, 3) := by decide +kernel
theorem dX3_init_49 : decode cX3_init 49 = .ok (.aload_n 0, 1) := by decide +kernel
theorem dX3_init_50 : decode cX3_init 50 = .ok (.sipush 1189, 3) := by decide +kernel
theorem dX3_init_53 : decode cX3_init 53 = .ok (.newarray .int, 2) := by decide +kernel
theorem dX3_init_55 : decode cX3_init 55 = .ok (.putfield 27, 3) := by decide +kernel
theorem dX3_init_58 : decode cX3_init 58 = .ok (.aload_n 0, 1) := by decide +kernel
theorem dX3_init_59 : decode cX3_init 59 = .ok (.sipush 4096, 3) := by decide +kernel
theorem dX3_init_62 : decode cX3_init 62 = .ok (.newarray .int, 2) := by decide +kernel
theorem dX3_init_64 : decode cX3_init 64 = .ok (.putfield 30, 3) := by decide +kernel
theorem dX3_init_67 : decode cX3_init 67 = .ok (.return_, 1) := by decide +kernel
set_option maxRecDepth 20000 in
theorem ggX3_build_X3_sortByJoy : GoodIn wsX3_build wsX3_sortByJoy := goodIn_r _ [6, 7, 8, 9, 10, 11, 12, 13, 14, 15, 16, 17, 18, 19, 20, 21, 22, 23, 24, 25, 26, 27, 28, 29, 30, 31, 32, 33, 34, 35, 36, 37, 38, 39, 5, 40, 62, 63, 64, 65, 66, 67, 68, 69, 70, 71, 72, 73, 74, 75, 76, 77, 78] (by decide +kernel) (by decide +kernel)
set_option maxRecDepth 20000 in
theorem gX3_build_X3_sortByJoy : GoodIn wsX3_build (wsV RX3 37 RX3 yX3_sortByJoy wsX3_sortByJoy) := goodIn_app (goodIn_of _ (by decide +kernel)) ggX3_build_X3_sortByJoy
set_option maxRecDepth 20000 in
theorem ggX3_build_X3_sortByGain : GoodIn wsX3_build wsX3_sortByGain := goodIn_r _ [44, 45, 7, 46, 47, 11, 12, 13, 14, 15, 38, 39, 5, 40, 62, 63, 64, 65, 66, 67, 68, 69, 70, 71, 72, 73, 74, 75, 76, 77, 78] (by decide +kernel) (by decide +kernel)
set_option maxRecDepth 20000 in
theorem gX3_build_X3_sortByGain : GoodIn wsX3_build (wsV RX3 41 RX3 yX3_sortByGain wsX3_sortByGain) := goodIn_app (goodIn_of _ (by decide +kernel)) ggX3_build_X3_sortByGain
set_option maxRecDepth 20000 in
theorem ggX3_build_X3_placeGain : GoodIn wsX3_build wsX3_placeGain := goodIn_r _ [51, 45, 10, 9, 47, 52, 53, 54, 5, 55, 1, 56, 57, 58, 59, 60, 61, 62, 63, 64, 65, 66, 67, 68, 69, 70, 71, 72, 73, 74, 75, 76, 77, 78] (by decide +kernel) (by decide +kernel)
set_option maxRecDepth 20000 in
theorem gX3_build_X3_placeGain : GoodIn wsX3_build (wsV RX3 45 RX3 yX3_placeGain wsX3_placeGain) := goodIn_app (goodIn_of _ (by decide +kernel)) ggX3_build_X3_placeGain
theorem dX3_build_0 : decode cX3_build 0 = .ok (.aload_n 0, 1) := by decide +kernel
theorem dX3_build_1 : decode cX3_build 1 = .ok (.iconst 0, 1) := by decide +kernel
theorem dX3_build_2 : decode cX3_build 2 = .ok (.putfield 33, 3) := by decide +kernel
theorem dX3_build_5 : decode cX3_build 5 = .ok (.aload_n 0, 1) := by decide +kernel
theorem dX3_build_6 : decode cX3_build 6 = .ok (.aload_n 1, 1) := by decide +kernel
theorem dX3_build_7 : decode cX3_build 7 = .ok (.iload_n 2, 1) := by decide +kernel
theorem dX3_build_8 : decode cX3_build 8 = .ok (.invokevirtual 37, 3) := by decide +kernel
theorem dX3_build_11 : decode cX3_build 11 = .ok (.aload_n 0, 1) := by decide +kernel
theorem dX3_build_12 : decode cX3_build 12 = .ok (.aload_n 1, 1) := by decide +kernel
theorem dX3_build_13 : decode cX3_build 13 = .ok (.invokevirtual 41, 3) := by decide +kernel
theorem dX3_build_16 : decode cX3_build 16 = .ok (.sipush 1188, 3) := by decide +kernel
theorem dX3_build_19 : decode cX3_build 19 = .ok (.istore_n 3, 1) := by decide +kernel
theorem dX3_build_20 : decode cX3_build 20 = .ok (.iload_n 3, 1) := by decide +kernel
theorem dX3_build_21 : decode cX3_build 21 = .ok (.ifCond .lt 15, 3) := by decide +kernel
theorem dX3_build_24 : decode cX3_build 24 = .ok (.aload_n 0, 1) := by decide +kernel
theorem dX3_build_25 : decode cX3_build 25 = .ok (.aload_n 1, 1) := by decide +kernel
theorem dX3_build_26 : decode cX3_build 26 = .ok (.iload_n 3, 1) := by decide +kernel
theorem dX3_build_27 : decode cX3_build 27 = .ok (.invokevirtual 45, 3) := by decide +kernel
theorem dX3_build_30 : decode cX3_build 30 = .ok (.iinc 3 (-1), 3) := by decide +kernel
theorem dX3_build_33 : decode cX3_build 33 = .ok (.goto (-13), 3) := by decide +kernel
theorem dX3_build_36 : decode cX3_build 36 = .ok (.return_, 1) := by decide +kernel
set_option maxRecDepth 20000 in
theorem ggX3_sortByJoy_J7_fill_53178 : GoodIn wsX3_sortByJoy wsJ7_fill_53178 := goodIn_r _ [9] (by decide +kernel) (by decide +kernel)
set_option maxRecDepth 20000 in
theorem gX3_sortByJoy_J7_fill_53178 : GoodIn wsX3_sortByJoy (va_wsS RX3 48 yJ7_fill_53178 wsJ7_fill_53178) := goodIn_app (goodIn_of _ (by decide +kernel)) ggX3_sortByJoy_J7_fill_53178
set_option maxRecDepth 20000 in
theorem ggX3_sortByJoy_X0_reason : GoodIn wsX3_sortByJoy wsX0_reason := goodIn_r _ [14, 15, 16, 17, 18, 13, 19, 20, 21, 22, 23, 24, 25, 26, 27, 28, 29, 30, 31, 44, 45, 46, 47, 48, 49, 50, 51, 52] (by decide +kernel) (by decide +kernel)
set_option maxRecDepth 20000 in
theorem gX3_sortByJoy_X0_reason : GoodIn wsX3_sortByJoy (wsV RX3 59 RX0 yX0_reason wsX0_reason) := goodIn_app (goodIn_of _ (by decide +kernel)) ggX3_sortByJoy_X0_reason
set_option maxRecDepth 20000 in
theorem ggX3_sortByJoy_X3_putAhead : GoodIn wsX3_sortByJoy wsX3_putAhead := goodIn_r _ [35] (by decide +kernel) (by decide +kernel)
set_option maxRecDepth 20000 in
theorem gX3_sortByJoy_X3_putAhead : GoodIn wsX3_sortByJoy (va_wsS RX3 66 yX3_putAhead wsX3_putAhead) := goodIn_app (goodIn_of _ (by decide +kernel)) ggX3_sortByJoy_X3_putAhead
theorem dX3_sortByJoy_0 : decode cX3_sortByJoy 0 = .ok (.aload_n 0, 1) := by decide +kernel
theorem dX3_sortByJoy_1 : decode cX3_sortByJoy 1 = .ok (.getfield 21, 3) := by decide +kernel
theorem dX3_sortByJoy_4 : decode cX3_sortByJoy 4 = .ok (.iconst (-1), 1) := by decide +kernel
theorem dX3_sortByJoy_5 : decode cX3_sortByJoy 5 = .ok (.invokestatic 48, 3) := by decide +kernel
theorem dX3_sortByJoy_8 : decode cX3_sortByJoy 8 = .ok (.iconst 0, 1) := by decide +kernel
theorem dX3_sortByJoy_9 : decode cX3_sortByJoy 9 = .ok (.istore_n 3, 1) := by decide +kernel
theorem dX3_sortByJoy_10 : decode cX3_sortByJoy 10 = .ok (.iload_n 3, 1) := by decide +kernel
theorem dX3_sortByJoy_11 : decode cX3_sortByJoy 11 = .ok (.aload_n 1, 1) := by decide +kernel
theorem dX3_sortByJoy_12 : decode cX3_sortByJoy 12 = .ok (.getfield 54, 3) := by decide +kernel
theorem dX3_sortByJoy_15 : decode cX3_sortByJoy 15 = .ok (.if_icmp .ge 50, 3) := by decide +kernel
theorem dX3_sortByJoy_18 : decode cX3_sortByJoy 18 = .ok (.iload_n 3, 1) := by decide +kernel
theorem dX3_sortByJoy_19 : decode cX3_sortByJoy 19 = .ok (.sipush 4096, 3) := by decide +kernel
theorem dX3_sortByJoy_22 : decode cX3_sortByJoy 22 = .ok (.if_icmp .ge 43, 3) := by decide +kernel
theorem dX3_sortByJoy_25 : decode cX3_sortByJoy 25 = .ok (.aload_n 0, 1) := by decide +kernel
theorem dX3_sortByJoy_26 : decode cX3_sortByJoy 26 = .ok (.getfield 9, 3) := by decide +kernel
theorem dX3_sortByJoy_29 : decode cX3_sortByJoy 29 = .ok (.iload_n 3, 1) := by decide +kernel
theorem dX3_sortByJoy_30 : decode cX3_sortByJoy 30 = .ok (.iconst (-1), 1) := by decide +kernel
theorem dX3_sortByJoy_31 : decode cX3_sortByJoy 31 = .ok (.iastore, 1) := by decide +kernel
theorem dX3_sortByJoy_32 : decode cX3_sortByJoy 32 = .ok (.aload_n 1, 1) := by decide +kernel
theorem dX3_sortByJoy_33 : decode cX3_sortByJoy 33 = .ok (.iload_n 3, 1) := by decide +kernel
theorem dX3_sortByJoy_34 : decode cX3_sortByJoy 34 = .ok (.iload_n 2, 1) := by decide +kernel
theorem dX3_sortByJoy_35 : decode cX3_sortByJoy 35 = .ok (.invokevirtual 59, 3) := by decide +kernel
theorem dX3_sortByJoy_38 : decode cX3_sortByJoy 38 = .ok (.ifCond .ne 21, 3) := by decide +kernel
theorem dX3_sortByJoy_41 : decode cX3_sortByJoy 41 = .ok (.iload_n 3, 1) := by decide +kernel
theorem dX3_sortByJoy_42 : decode cX3_sortByJoy 42 = .ok (.aload_n 1, 1) := by decide +kernel
theorem dX3_sortByJoy_43 : decode cX3_sortByJoy 43 = .ok (.getfield 63, 3) := by decide +kernel
theorem dX3_sortByJoy_46 : decode cX3_sortByJoy 46 = .ok (.iload_n 3, 1) := by decide +kernel
theorem dX3_sortByJoy_47 : decode cX3_sortByJoy 47 = .ok (.iaload, 1) := by decide +kernel
theorem dX3_sortByJoy_48 : decode cX3_sortByJoy 48 = .ok (.aload_n 0, 1) := by decide +kernel
theorem dX3_sortByJoy_49 : decode cX3_sortByJoy 49 = .ok (.getfield 21, 3) := by decide +kernel
theorem dX3_sortByJoy_52 : decode cX3_sortByJoy 52 = .ok (.aload_n 0, 1) := by decide +kernel
theorem dX3_sortByJoy_53 : decode cX3_sortByJoy 53 = .ok (.getfield 24, 3) := by decide +kernel
theorem dX3_sortByJoy_56 : decode cX3_sortByJoy 56 = .ok (.invokestatic 66, 3) := by decide +kernel
theorem dX3_sortByJoy_59 : decode cX3_sortByJoy 59 = .ok (.iinc 3 1, 3) := by decide +kernel
theorem dX3_sortByJoy_62 : decode cX3_sortByJoy 62 = .ok (.goto (-52), 3) := by decide +kernel
theorem dX3_sortByJoy_65 : decode cX3_sortByJoy 65 = .ok (.return_, 1) := by decide +kernel
set_option maxRecDepth 20000 in
theorem ggX3_sortByGain_J7_fill_53178 : GoodIn wsX3_sortByGain wsJ7_fill_53178 := goodIn_r _ [9] (by decide +kernel) (by decide +kernel)
set_option maxRecDepth 20000 in
theorem gX3_sortByGain_J7_fill_53178 : GoodIn wsX3_sortByGain (va_wsS RX3 48 yJ7_fill_53178 wsJ7_fill_53178) := goodIn_app (goodIn_of _ (by decide +kernel)) ggX3_sortByGain_J7_fill_53178
set_option maxRecDepth 20000 in
theorem ggX3_sortByGain_X3_putAhead : GoodIn wsX3_sortByGain wsX3_putAhead := goodIn_r _ [13] (by decide +kernel) (by decide +kernel)
set_option maxRecDepth 20000 in
theorem gX3_sortByGain_X3_putAhead : GoodIn wsX3_sortByGain (va_wsS RX3 66 yX3_putAhead wsX3_putAhead) := goodIn_app (goodIn_of _ (by decide +kernel)) ggX3_sortByGain_X3_putAhead
theorem dX3_sortByGain_0 : decode cX3_sortByGain 0 = .ok (.aload_n 0, 1) := by decide +kernel
theorem dX3_sortByGain_1 : decode cX3_sortByGain 1 = .ok (.getfield 27, 3) := by decide +kernel
theorem dX3_sortByGain_4 : decode cX3_sortByGain 4 = .ok (.iconst (-1), 1) := by decide +kernel
theorem dX3_sortByGain_5 : decode cX3_sortByGain 5 = .ok (.invokestatic 48, 3) := by decide +kernel
theorem dX3_sortByGain_8 : decode cX3_sortByGain 8 = .ok (.iconst 0, 1) := by decide +kernel
theorem dX3_sortByGain_9 : decode cX3_sortByGain 9 = .ok (.istore_n 2, 1) := by decide +kernel
theorem dX3_sortByGain_10 : decode cX3_sortByGain 10 = .ok (.iload_n 2, 1) := by decide +kernel
theorem dX3_sortByGain_11 : decode cX3_sortByGain 11 = .ok (.sipush 1189, 3) := by decide +kernel
theorem dX3_sortByGain_14 : decode cX3_sortByGain 14 = .ok (.if_icmp .ge 63, 3) := by decide +kernel
theorem dX3_sortByGain_17 : decode cX3_sortByGain 17 = .ok (.aload_n 0, 1) := by decide +kernel
theorem dX3_sortByGain_18 : decode cX3_sortByGain 18 = .ok (.getfield 21, 3) := by decide +kernel
theorem dX3_sortByGain_21 : decode cX3_sortByGain 21 = .ok (.iload_n 2, 1) := by decide +kernel
theorem dX3_sortByGain_22 : decode cX3_sortByGain 22 = .ok (.iaload, 1) := by decide +kernel
theorem dX3_sortByGain_23 : decode cX3_sortByGain 23 = .ok (.istore_n 3, 1) := by decide +kernel
theorem dX3_sortByGain_24 : decode cX3_sortByGain 24 = .ok (.iconst 0, 1) := by decide +kernel
theorem dX3_sortByGain_25 : decode cX3_sortByGain 25 = .ok (.istore 4, 2) := by decide +kernel
theorem dX3_sortByGain_27 : decode cX3_sortByGain 27 = .ok (.iload 4, 2) := by decide +kernel
theorem dX3_sortByGain_29 : decode cX3_sortByGain 29 = .ok (.sipush 4096, 3) := by decide +kernel
theorem dX3_sortByGain_32 : decode cX3_sortByGain 32 = .ok (.if_icmp .ge 39, 3) := by decide +kernel
theorem dX3_sortByGain_35 : decode cX3_sortByGain 35 = .ok (.iload_n 3, 1) := by decide +kernel
theorem dX3_sortByGain_36 : decode cX3_sortByGain 36 = .ok (.iconst (-1), 1) := by decide +kernel
theorem dX3_sortByGain_37 : decode cX3_sortByGain 37 = .ok (.if_icmp .eq 34, 3) := by decide +kernel
theorem dX3_sortByGain_40 : decode cX3_sortByGain 40 = .ok (.iload_n 3, 1) := by decide +kernel
theorem dX3_sortByGain_41 : decode cX3_sortByGain 41 = .ok (.aload_n 1, 1) := by decide +kernel
theorem dX3_sortByGain_42 : decode cX3_sortByGain 42 = .ok (.getfield 70, 3) := by decide +kernel
theorem dX3_sortByGain_45 : decode cX3_sortByGain 45 = .ok (.iload_n 3, 1) := by decide +kernel
theorem dX3_sortByGain_46 : decode cX3_sortByGain 46 = .ok (.iaload, 1) := by decide +kernel
theorem dX3_sortByGain_47 : decode cX3_sortByGain 47 = .ok (.aload_n 0, 1) := by decide +kernel
theorem dX3_sortByGain_48 : decode cX3_sortByGain 48 = .ok (.getfield 27, 3) := by decide +kernel
theorem dX3_sortByGain_51 : decode cX3_sortByGain 51 = .ok (.aload_n 0, 1) := by decide +kernel
theorem dX3_sortByGain_52 : decode cX3_sortByGain 52 = .ok (.getfield 30, 3) := by decide +kernel
theorem dX3_sortByGain_55 : decode cX3_sortByGain 55 = .ok (.invokestatic 66, 3) := by decide +kernel
theorem dX3_sortByGain_58 : decode cX3_sortByGain 58 = .ok (.aload_n 0, 1) := by decide +kernel
theorem dX3_sortByGain_59 : decode cX3_sortByGain 59 = .ok (.getfield 24, 3) := by decide +kernel
theorem dX3_sortByGain_62 : decode cX3_sortByGain 62 = .ok (.iload_n 3, 1) := by decide +kernel
theorem dX3_sortByGain_63 : decode cX3_sortByGain 63 = .ok (.iaload, 1) := by decide +kernel
theorem dX3_sortByGain_64 : decode cX3_sortByGain 64 = .ok (.istore_n 3, 1) := by decide +kernel
theorem dX3_sortByGain_65 : decode cX3_sortByGain 65 = .ok (.iinc 4 1, 3) := by decide +kernel
theorem dX3_sortByGain_68 : decode cX3_sortByGain 68 = .ok (.goto (-41), 3) := by decide +kernel
theorem dX3_sortByGain_71 : decode cX3_sortByGain 71 = .ok (.iinc 2 1, 3) := by decide +kernel
theorem dX3_sortByGain_74 : decode cX3_sortByGain 74 = .ok (.goto (-64), 3) := by decide +kernel
theorem dX3_sortByGain_77 : decode cX3_sortByGain 77 = .ok (.return_, 1) := by decide +kernel
theorem dX3_putAhead_0 : decode cX3_putAhead 0 = .ok (.iload_n 1, 1) := by decide +kernel
theorem dX3_putAhead_1 : decode cX3_putAhead 1 = .ok (.ifCond .lt 20, 3) := by decide +kernel
theorem dX3_putAhead_4 : decode cX3_putAhead 4 = .ok (.iload_n 1, 1) := by decide +kernel
theorem dX3_putAhead_5 : decode cX3_putAhead 5 = .ok (.sipush 1189, 3) := by decide +kernel
theorem dX3_putAhead_8 : decode cX3_putAhead 8 = .ok (.if_icmp .ge 13, 3) := by decide +kernel
theorem dX3_putAhead_11 : decode cX3_putAhead 11 = .ok (.aload_n 3, 1) := by decide +kernel
theorem dX3_putAhead_12 : decode cX3_putAhead 12 = .ok (.iload_n 0, 1) := by decide +kernel
theorem dX3_putAhead_13 : decode cX3_putAhead 13 = .ok (.aload_n 2, 1) := by decide +kernel
theorem dX3_putAhead_14 : decode cX3_putAhead 14 = .ok (.iload_n 1, 1) := by decide +kernel
theorem dX3_putAhead_15 : decode cX3_putAhead 15 = .ok (.iaload, 1) := by decide +kernel
theorem dX3_putAhead_16 : decode cX3_putAhead 16 = .ok (.iastore, 1) := by decide +kernel
theorem dX3_putAhead_17 : decode cX3_putAhead 17 = .ok (.aload_n 2, 1) := by decide +kernel
theorem dX3_putAhead_18 : decode cX3_putAhead 18 = .ok (.iload_n 1, 1) := by decide +kernel
theorem dX3_putAhead_19 : decode cX3_putAhead 19 = .ok (.iload_n 0, 1) := by decide +kernel
theorem dX3_putAhead_20 : decode cX3_putAhead 20 = .ok (.iastore, 1) := by decide +kernel
theorem dX3_putAhead_21 : decode cX3_putAhead 21 = .ok (.return_, 1) := by decide +kernel
set_option maxRecDepth 20000 in
theorem ggX3_placeGain_X3_placePair : GoodIn wsX3_placeGain wsX3_placePair := goodIn_r _ [9, 10, 11, 12, 13, 14, 15, 8, 16, 17, 18, 19, 20, 21, 22, 23, 24] (by decide +kernel) (by decide +kernel)
set_option maxRecDepth 20000 in
theorem gX3_placeGain_X3_placePair : GoodIn wsX3_placeGain (wsV RX3 73 RX3 yX3_placePair wsX3_placePair) := goodIn_app (goodIn_of _ (by decide +kernel)) ggX3_placeGain_X3_placePair
theorem dX3_placeGain_0 : decode cX3_placeGain 0 = .ok (.aload_n 0, 1) := by decide +kernel
theorem dX3_placeGain_1 : decode cX3_placeGain 1 = .ok (.getfield 27, 3) := by decide +kernel
theorem dX3_placeGain_4 : decode cX3_placeGain 4 = .ok (.iload_n 2, 1) := by decide +kernel
theorem dX3_placeGain_5 : decode cX3_placeGain 5 = .ok (.iaload, 1) := by decide +kernel
theorem dX3_placeGain_6 : decode cX3_placeGain 6 = .ok (.istore_n 3, 1) := by decide +kernel
theorem dX3_placeGain_7 : decode cX3_placeGain 7 = .ok (.iconst (-1), 1) := by decide +kernel
theorem dX3_placeGain_8 : decode cX3_placeGain 8 = .ok (.istore 4, 2) := by decide +kernel
theorem dX3_placeGain_10 : decode cX3_placeGain 10 = .ok (.iconst (-1), 1) := by decide +kernel
theorem dX3_placeGain_11 : decode cX3_placeGain 11 = .ok (.istore 5, 2) := by decide +kernel
theorem dX3_placeGain_13 : decode cX3_placeGain 13 = .ok (.iconst 0, 1) := by decide +kernel
theorem dX3_placeGain_14 : decode cX3_placeGain 14 = .ok (.istore 6, 2) := by decide +kernel
theorem dX3_placeGain_16 : decode cX3_placeGain 16 = .ok (.iload 6, 2) := by decide +kernel
theorem dX3_placeGain_18 : decode cX3_placeGain 18 = .ok (.sipush 4096, 3) := by decide +kernel
theorem dX3_placeGain_21 : decode cX3_placeGain 21 = .ok (.if_icmp .ge 56, 3) := by decide +kernel
theorem dX3_placeGain_24 : decode cX3_placeGain 24 = .ok (.iload_n 3, 1) := by decide +kernel
theorem dX3_placeGain_25 : decode cX3_placeGain 25 = .ok (.iconst (-1), 1) := by decide +kernel
theorem dX3_placeGain_26 : decode cX3_placeGain 26 = .ok (.if_icmp .eq 51, 3) := by decide +kernel
theorem dX3_placeGain_29 : decode cX3_placeGain 29 = .ok (.aload_n 1, 1) := by decide +kernel
theorem dX3_placeGain_30 : decode cX3_placeGain 30 = .ok (.getfield 63, 3) := by decide +kernel
theorem dX3_placeGain_33 : decode cX3_placeGain 33 = .ok (.iload_n 3, 1) := by decide +kernel
theorem dX3_placeGain_34 : decode cX3_placeGain 34 = .ok (.iaload, 1) := by decide +kernel
theorem dX3_placeGain_35 : decode cX3_placeGain 35 = .ok (.iload 4, 2) := by decide +kernel
theorem dX3_placeGain_37 : decode cX3_placeGain 37 = .ok (.if_icmp .eq 19, 3) := by decide +kernel
theorem dX3_placeGain_40 : decode cX3_placeGain 40 = .ok (.aload_n 1, 1) := by decide +kernel
theorem dX3_placeGain_41 : decode cX3_placeGain 41 = .ok (.getfield 63, 3) := by decide +kernel
theorem dX3_placeGain_44 : decode cX3_placeGain 44 = .ok (.iload_n 3, 1) := by decide +kernel
theorem dX3_placeGain_45 : decode cX3_placeGain 45 = .ok (.iaload, 1) := by decide +kernel
theorem dX3_placeGain_46 : decode cX3_placeGain 46 = .ok (.istore 4, 2) := by decide +kernel
theorem dX3_placeGain_48 : decode cX3_placeGain 48 = .ok (.aload_n 0, 1) := by decide +kernel
theorem dX3_placeGain_49 : decode cX3_placeGain 49 = .ok (.iload 4, 2) := by decide +kernel
theorem dX3_placeGain_51 : decode cX3_placeGain 51 = .ok (.invokevirtual 73, 3) := by decide +kernel
theorem dX3_placeGain_54 : decode cX3_placeGain 54 = .ok (.istore 5, 2) := by decide +kernel
theorem dX3_placeGain_56 : decode cX3_placeGain 56 = .ok (.aload_n 0, 1) := by decide +kernel
theorem dX3_placeGain_57 : decode cX3_placeGain 57 = .ok (.getfield 9, 3) := by decide +kernel
theorem dX3_placeGain_60 : decode cX3_placeGain 60 = .ok (.iload_n 3, 1) := by decide +kernel
theorem dX3_placeGain_61 : decode cX3_placeGain 61 = .ok (.iload 5, 2) := by decide +kernel
theorem dX3_placeGain_63 : decode cX3_placeGain 63 = .ok (.iastore, 1) := by decide +kernel
theorem dX3_placeGain_64 : decode cX3_placeGain 64 = .ok (.aload_n 0, 1) := by decide +kernel
theorem dX3_placeGain_65 : decode cX3_placeGain 65 = .ok (.getfield 30, 3) := by decide +kernel
theorem dX3_placeGain_68 : decode cX3_placeGain 68 = .ok (.iload_n 3, 1) := by decide +kernel
theorem dX3_placeGain_69 : decode cX3_placeGain 69 = .ok (.iaload, 1) := by decide +kernel
theorem dX3_placeGain_70 : decode cX3_placeGain 70 = .ok (.istore_n 3, 1) := by decide +kernel
theorem dX3_placeGain_71 : decode cX3_placeGain 71 = .ok (.iinc 6 1, 3) := by decide +kernel
theorem dX3_placeGain_74 : decode cX3_placeGain 74 = .ok (.goto (-58), 3) := by decide +kernel
theorem dX3_placeGain_77 : decode cX3_placeGain 77 = .ok (.return_, 1) := by decide +kernel
set_option maxRecDepth 20000 in
theorem ggX3_placePair_X3_firstLayerBelow : GoodIn wsX3_placePair wsX3_firstLayerBelow := goodIn_r _ [8, 1, 3, 9, 10, 11, 12, 13, 14, 15, 16] (by decide +kernel) (by decide +kernel)
set_option maxRecDepth 20000 in
theorem gX3_placePair_X3_firstLayerBelow : GoodIn wsX3_placePair (wsV RX3 77 RX3 yX3_firstLayerBelow wsX3_firstLayerBelow) := goodIn_app (goodIn_of _ (by decide +kernel)) ggX3_placePair_X3_firstLayerBelow
theorem dX3_placePair_0 : decode cX3_placePair 0 = .ok (.aload_n 0, 1) := by decide +kernel
theorem dX3_placePair_1 : decode cX3_placePair 1 = .ok (.iload_n 1, 1) := by decide +kernel
theorem dX3_placePair_2 : decode cX3_placePair 2 = .ok (.invokevirtual 77, 3) := by decide +kernel
theorem dX3_placePair_5 : decode cX3_placePair 5 = .ok (.istore_n 2, 1) := by decide +kernel
theorem dX3_placePair_6 : decode cX3_placePair 6 = .ok (.iload_n 2, 1) := by decide +kernel
theorem dX3_placePair_7 : decode cX3_placePair 7 = .ok (.sipush 2378, 3) := by decide +kernel
theorem dX3_placePair_10 : decode cX3_placePair 10 = .ok (.if_icmp .lt 5, 3) := by decide +kernel
theorem dX3_placePair_13 : decode cX3_placePair 13 = .ok (.iconst (-1), 1) := by decide +kernel
theorem dX3_placePair_14 : decode cX3_placePair 14 = .ok (.ireturn, 1) := by decide +kernel
theorem dX3_placePair_15 : decode cX3_placePair 15 = .ok (.iload_n 2, 1) := by decide +kernel
theorem dX3_placePair_16 : decode cX3_placePair 16 = .ok (.aload_n 0, 1) := by decide +kernel
theorem dX3_placePair_17 : decode cX3_placePair 17 = .ok (.getfield 33, 3) := by decide +kernel
theorem dX3_placePair_20 : decode cX3_placePair 20 = .ok (.if_icmp .ne 20, 3) := by decide +kernel
theorem dX3_placePair_23 : decode cX3_placePair 23 = .ok (.aload_n 0, 1) := by decide +kernel
theorem dX3_placePair_24 : decode cX3_placePair 24 = .ok (.getfield 15, 3) := by decide +kernel
theorem dX3_placePair_27 : decode cX3_placePair 27 = .ok (.iload_n 2, 1) := by decide +kernel
theorem dX3_placePair_28 : decode cX3_placePair 28 = .ok (.iconst 0, 1) := by decide +kernel
theorem dX3_placePair_29 : decode cX3_placePair 29 = .ok (.iastore, 1) := by decide +kernel
theorem dX3_placePair_30 : decode cX3_placePair 30 = .ok (.aload_n 0, 1) := by decide +kernel
theorem dX3_placePair_31 : decode cX3_placePair 31 = .ok (.dup, 1) := by decide +kernel
theorem dX3_placePair_32 : decode cX3_placePair 32 = .ok (.getfield 33, 3) := by decide +kernel
theorem dX3_placePair_35 : decode cX3_placePair 35 = .ok (.iconst 1, 1) := by decide +kernel
theorem dX3_placePair_36 : decode cX3_placePair 36 = .ok (.iadd, 1) := by decide +kernel
theorem dX3_placePair_37 : decode cX3_placePair 37 = .ok (.putfield 33, 3) := by decide +kernel
theorem dX3_placePair_40 : decode cX3_placePair 40 = .ok (.aload_n 0, 1) := by decide +kernel
theorem dX3_placePair_41 : decode cX3_placePair 41 = .ok (.getfield 18, 3) := by decide +kernel
theorem dX3_placePair_44 : decode cX3_placePair 44 = .ok (.iload_n 2, 1) := by decide +kernel
theorem dX3_placePair_45 : decode cX3_placePair 45 = .ok (.iload_n 1, 1) := by decide +kernel
theorem dX3_placePair_46 : decode cX3_placePair 46 = .ok (.iastore, 1) := by decide +kernel
theorem dX3_placePair_47 : decode cX3_placePair 47 = .ok (.aload_n 0, 1) := by decide +kernel
theorem dX3_placePair_48 : decode cX3_placePair 48 = .ok (.getfield 15, 3) := by decide +kernel
theorem dX3_placePair_51 : decode cX3_placePair 51 = .ok (.iload_n 2, 1) := by decide +kernel
theorem dX3_placePair_52 : decode cX3_placePair 52 = .ok (.dup2, 1) := by decide +kernel
theorem dX3_placePair_53 : decode cX3_placePair 53 = .ok (.iaload, 1) := by decide +kernel
theorem dX3_placePair_54 : decode cX3_placePair 54 = .ok (.iconst 1, 1) := by decide +kernel
theorem dX3_placePair_55 : decode cX3_placePair 55 = .ok (.iadd, 1) := by decide +kernel
theorem dX3_placePair_56 : decode cX3_placePair 56 = .ok (.iastore, 1) := by decide +kernel
theorem dX3_placePair_57 : decode cX3_placePair 57 = .ok (.iload_n 2, 1) := by decide +kernel
theorem dX3_placePair_58 : decode cX3_placePair 58 = .ok (.ireturn, 1) := by decide +kernel
theorem dX3_firstLayerBelow_0 : decode cX3_firstLayerBelow 0 = .ok (.iconst 0, 1) := by decide +kernel
theorem dX3_firstLayerBelow_1 : decode cX3_firstLayerBelow 1 = .ok (.istore_n 2, 1) := by decide +kernel
theorem dX3_firstLayerBelow_2 : decode cX3_firstLayerBelow 2 = .ok (.aload_n 0, 1) := by decide +kernel
theorem dX3_firstLayerBelow_3 : decode cX3_firstLayerBelow 3 = .ok (.getfield 33, 3) := by decide +kernel
theorem dX3_firstLayerBelow_6 : decode cX3_firstLayerBelow 6 = .ok (.istore_n 3, 1) := by decide +kernel
theorem dX3_firstLayerBelow_7 : decode cX3_firstLayerBelow 7 = .ok (.iconst 0, 1) := by decide +kernel
theorem dX3_firstLayerBelow_8 : decode cX3_firstLayerBelow 8 = .ok (.istore 4, 2) := by decide +kernel
theorem dX3_firstLayerBelow_10 : decode cX3_firstLayerBelow 10 = .ok (.iload 4, 2) := by decide +kernel
theorem dX3_firstLayerBelow_12 : decode cX3_firstLayerBelow 12 = .ok (.sipush 2378, 3) := by decide +kernel
theorem dX3_firstLayerBelow_15 : decode cX3_firstLayerBelow 15 = .ok (.if_icmp .ge 45, 3) := by decide +kernel
theorem dX3_firstLayerBelow_18 : decode cX3_firstLayerBelow 18 = .ok (.iload_n 2, 1) := by decide +kernel
theorem dX3_firstLayerBelow_19 : decode cX3_firstLayerBelow 19 = .ok (.iload_n 3, 1) := by decide +kernel
theorem dX3_firstLayerBelow_20 : decode cX3_firstLayerBelow 20 = .ok (.if_icmp .ge 40, 3) := by decide +kernel
theorem dX3_firstLayerBelow_23 : decode cX3_firstLayerBelow 23 = .ok (.iload_n 2, 1) := by decide +kernel
theorem dX3_firstLayerBelow_24 : decode cX3_firstLayerBelow 24 = .ok (.iload_n 3, 1) := by decide +kernel
theorem dX3_firstLayerBelow_25 : decode cX3_firstLayerBelow 25 = .ok (.iload_n 2, 1) := by decide +kernel
theorem dX3_firstLayerBelow_26 : decode cX3_firstLayerBelow 26 = .ok (.isub, 1) := by decide +kernel
theorem dX3_firstLayerBelow_27 : decode cX3_firstLayerBelow 27 = .ok (.iconst 2, 1) := by decide +kernel
theorem dX3_firstLayerBelow_28 : decode cX3_firstLayerBelow 28 = .ok (.idiv, 1) := by decide +kernel
theorem dX3_firstLayerBelow_29 : decode cX3_firstLayerBelow 29 = .ok (.iadd, 1) := by decide +kernel
theorem dX3_firstLayerBelow_30 : decode cX3_firstLayerBelow 30 = .ok (.istore 5, 2) := by decide +kernel
theorem dX3_firstLayerBelow_32 : decode cX3_firstLayerBelow 32 = .ok (.aload_n 0, 1) := by decide +kernel
theorem dX3_firstLayerBelow_33 : decode cX3_firstLayerBelow 33 = .ok (.getfield 18, 3) := by decide +kernel
theorem dX3_firstLayerBelow_36 : decode cX3_firstLayerBelow 36 = .ok (.iload 5, 2) := by decide +kernel
theorem dX3_firstLayerBelow_38 : decode cX3_firstLayerBelow 38 = .ok (.iaload, 1) := by decide +kernel
theorem dX3_firstLayerBelow_39 : decode cX3_firstLayerBelow 39 = .ok (.iload_n 1, 1) := by decide +kernel
theorem dX3_firstLayerBelow_40 : decode cX3_firstLayerBelow 40 = .ok (.if_icmp .lt 11, 3) := by decide +kernel
theorem dX3_firstLayerBelow_43 : decode cX3_firstLayerBelow 43 = .ok (.iload 5, 2) := by decide +kernel
theorem dX3_firstLayerBelow_45 : decode cX3_firstLayerBelow 45 = .ok (.iconst 1, 1) := by decide +kernel
theorem dX3_firstLayerBelow_46 : decode cX3_firstLayerBelow 46 = .ok (.iadd, 1) := by decide +kernel
theorem dX3_firstLayerBelow_47 : decode cX3_firstLayerBelow 47 = .ok (.istore_n 2, 1) := by decide +kernel
theorem dX3_firstLayerBelow_48 : decode cX3_firstLayerBelow 48 = .ok (.goto 6, 3) := by decide +kernel
theorem dX3_firstLayerBelow_51 : decode cX3_firstLayerBelow 51 = .ok (.iload 5, 2) := by decide +kernel
theorem dX3_firstLayerBelow_53 : decode cX3_firstLayerBelow 53 = .ok (.istore_n 3, 1) := by decide +kernel
theorem dX3_firstLayerBelow_54 : decode cX3_firstLayerBelow 54 = .ok (.iinc 4 1, 3) := by decide +kernel
theorem dX3_firstLayerBelow_57 : decode cX3_firstLayerBelow 57 = .ok (.goto (-47), 3) := by decide +kernel
theorem dX3_firstLayerBelow_60 : decode cX3_firstLayerBelow 60 = .ok (.iload_n 2, 1) := by decide +kernel
theorem dX3_firstLayerBelow_61 : decode cX3_firstLayerBelow 61 = .ok (.ireturn, 1) := by decide +kernel
theorem dX4_init_0 : decode cX4_init 0 = .ok (.aload_n 0, 1) := by decide +kernel
theorem dX4_init_1 : decode cX4_init 1 = .ok (.invokespecial 3, 3) := by decide +kernel
theorem dX4_init_4 : decode cX4_init 4 = .ok (.aload_n 0, 1) := by decide +kernel
theorem dX4_init_5 : decode cX4_init 5 = .ok (.sipush 15457, 3) := by decide +kernel
theorem dX4_init_8 : decode cX4_init 8 = .ok (.newarray .byte, 2) := by decide +kernel
theorem dX4_init_10 : decode cX4_init 10 = .ok (.putfield 9, 3) := by decide +kernel
theorem dX4_init_13 : decode cX4_init 13 = .ok (.return_, 1) := by decide +kernel
theorem dX4_put_0 : decode cX4_put 0 = .ok (.aload_n 0, 1) := by decide +kernel
theorem dX4_put_1 : decode cX4_put 1 = .ok (.getfield 15, 3) := by decide +kernel
theorem dX4_put_4 : decode cX4_put 4 = .ok (.sipush 15457, 3) := by decide +kernel
theorem dX4_put_7 : decode cX4_put 7 = .ok (.if_icmp .ge 24, 3) := by decide +kernel
theorem dX4_put_10 : decode cX4_put 10 = .ok (.aload_n 0, 1) := by decide +kernel
theorem dX4_put_11 : decode cX4_put 11 = .ok (.getfield 9, 3) := by decide +kernel
theorem dX4_put_14 : decode cX4_put 14 = .ok (.aload_n 0, 1) := by decide +kernel
theorem dX4_put_15 : decode cX4_put 15 = .ok (.getfield 15, 3) := by decide +kernel
theorem dX4_put_18 : decode cX4_put 18 = .ok (.iload_n 1, 1) := by decide +kernel
theorem dX4_put_19 : decode cX4_put 19 = .ok (.i2b, 1) := by decide +kernel
theorem dX4_put_20 : decode cX4_put 20 = .ok (.bastore, 1) := by decide +kernel
theorem dX4_put_21 : decode cX4_put 21 = .ok (.aload_n 0, 1) := by decide +kernel
theorem dX4_put_22 : decode cX4_put 22 = .ok (.dup, 1) := by decide +kernel
theorem dX4_put_23 : decode cX4_put 23 = .ok (.getfield 15, 3) := by decide +kernel
theorem dX4_put_26 : decode cX4_put 26 = .ok (.iconst 1, 1) := by decide +kernel
theorem dX4_put_27 : decode cX4_put 27 = .ok (.iadd, 1) := by decide +kernel
theorem dX4_put_28 : decode cX4_put 28 = .ok (.putfield 15, 3) := by decide +kernel
theorem dX4_put_31 : decode cX4_put 31 = .ok (.return_, 1) := by decide +kernel
set_option maxRecDepth 20000 in
theorem ggX4_putNumber_X4_put : GoodIn wsX4_putNumber wsX4_put := goodIn_r _ [5, 6, 7, 8, 9] (by decide +kernel) (by decide +kernel)
set_option maxRecDepth 20000 in
theorem gX4_putNumber_X4_put : GoodIn wsX4_putNumber (wsV RX4 19 RX4 yX4_put wsX4_put) := goodIn_app (goodIn_of _ (by decide +kernel)) ggX4_putNumber_X4_put
theorem dX4_putNumber_0 : decode cX4_putNumber 0 = .ok (.iconst 1, 1) := by decide +kernel
theorem dX4_putNumber_1 : decode cX4_putNumber 1 = .ok (.istore_n 2, 1) := by decide +kernel
theorem dX4_putNumber_2 : decode cX4_putNumber 2 = .ok (.iconst 0, 1) := by decide +kernel
theorem dX4_putNumber_3 : decode cX4_putNumber 3 = .ok (.istore_n 3, 1) := by decide +kernel
theorem dX4_putNumber_4 : decode cX4_putNumber 4 = .ok (.iload_n 3, 1) := by decide +kernel
theorem dX4_putNumber_5 : decode cX4_putNumber 5 = .ok (.bipush 9, 2) := by decide +kernel
theorem dX4_putNumber_7 : decode cX4_putNumber 7 = .ok (.if_icmp .ge 22, 3) := by decide +kernel
theorem dX4_putNumber_10 : decode cX4_putNumber 10 = .ok (.iload_n 1, 1) := by decide +kernel
theorem dX4_putNumber_11 : decode cX4_putNumber 11 = .ok (.iload_n 2, 1) := by decide +kernel
theorem dX4_putNumber_12 : decode cX4_putNumber 12 = .ok (.idiv, 1) := by decide +kernel
theorem dX4_putNumber_13 : decode cX4_putNumber 13 = .ok (.bipush 10, 2) := by decide +kernel
theorem dX4_putNumber_15 : decode cX4_putNumber 15 = .ok (.if_icmp .lt 14, 3) := by decide +kernel
theorem dX4_putNumber_18 : decode cX4_putNumber 18 = .ok (.iload_n 2, 1) := by decide +kernel
theorem dX4_putNumber_19 : decode cX4_putNumber 19 = .ok (.bipush 10, 2) := by decide +kernel
theorem dX4_putNumber_21 : decode cX4_putNumber 21 = .ok (.imul, 1) := by decide +kernel
theorem dX4_putNumber_22 : decode cX4_putNumber 22 = .ok (.istore_n 2, 1) := by decide +kernel
theorem dX4_putNumber_23 : decode cX4_putNumber 23 = .ok (.iinc 3 1, 3) := by decide +kernel
theorem dX4_putNumber_26 : decode cX4_putNumber 26 = .ok (.goto (-22), 3) := by decide +kernel
theorem dX4_putNumber_29 : decode cX4_putNumber 29 = .ok (.iload_n 2, 1) := by decide +kernel
theorem dX4_putNumber_30 : decode cX4_putNumber 30 = .ok (.istore_n 3, 1) := by decide +kernel
theorem dX4_putNumber_31 : decode cX4_putNumber 31 = .ok (.iload_n 3, 1) := by decide +kernel
theorem dX4_putNumber_32 : decode cX4_putNumber 32 = .ok (.ifCond .le 24, 3) := by decide +kernel
theorem dX4_putNumber_35 : decode cX4_putNumber 35 = .ok (.aload_n 0, 1) := by decide +kernel
theorem dX4_putNumber_36 : decode cX4_putNumber 36 = .ok (.bipush 48, 2) := by decide +kernel
theorem dX4_putNumber_38 : decode cX4_putNumber 38 = .ok (.iload_n 1, 1) := by decide +kernel
theorem dX4_putNumber_39 : decode cX4_putNumber 39 = .ok (.iload_n 3, 1) := by decide +kernel
theorem dX4_putNumber_40 : decode cX4_putNumber 40 = .ok (.idiv, 1) := by decide +kernel
theorem dX4_putNumber_41 : decode cX4_putNumber 41 = .ok (.bipush 10, 2) := by decide +kernel
theorem dX4_putNumber_43 : decode cX4_putNumber 43 = .ok (.irem, 1) := by decide +kernel
theorem dX4_putNumber_44 : decode cX4_putNumber 44 = .ok (.iadd, 1) := by decide +kernel
theorem dX4_putNumber_45 : decode cX4_putNumber 45 = .ok (.invokevirtual 19, 3) := by decide +kernel
theorem dX4_putNumber_48 : decode cX4_putNumber 48 = .ok (.iload_n 3, 1) := by decide +kernel
theorem dX4_putNumber_49 : decode cX4_putNumber 49 = .ok (.bipush 10, 2) := by decide +kernel
theorem dX4_putNumber_51 : decode cX4_putNumber 51 = .ok (.idiv, 1) := by decide +kernel
theorem dX4_putNumber_52 : decode cX4_putNumber 52 = .ok (.istore_n 3, 1) := by decide +kernel
theorem dX4_putNumber_53 : decode cX4_putNumber 53 = .ok (.goto (-22), 3) := by decide +kernel
theorem dX4_putNumber_56 : decode cX4_putNumber 56 = .ok (.return_, 1) := by decide +kernel
set_option maxRecDepth 20000 in
theorem ggX5_init_X8_init : GoodIn wsX5_init wsX8_init := goodIn_r _ [12, 13, 2, 3, 14, 15, 16, 17, 18, 19, 20, 21, 22, 23, 24, 25, 26, 27, 28, 29, 30, 31, 32] (by decide +kernel) (by decide +kernel)
set_option maxRecDepth 20000 in
theorem gX5_init_X8_init_n11 : GoodIn wsX5_init (wsX8_init) := ggX5_init_X8_init
theorem dX5_init_0 : decode cX5_init 0 = .ok (.aload_n 0, 1) := by decide +kernel
theorem dX5_init_1 : decode cX5_init 1 = .ok (.invokespecial 3, 3) := by decide +kernel
theorem dX5_init_4 : decode cX5_init 4 = .ok (.aload_n 0, 1) := by decide +kernel
theorem dX5_init_5 : decode cX5_init 5 = .ok (.new 9, 3) := by decide +kernel
theorem dX5_init_8 : decode cX5_init 8 = .ok (.dup, 1) := by decide +kernel
theorem dX5_init_9 : decode cX5_init 9 = .ok (.invokespecial 11, 3) := by decide +kernel
theorem dX5_init_12 : decode cX5_init 12 = .ok (.putfield 12, 3) := by decide +kernel
theorem dX5_init_15 : decode cX5_init 15 = .ok (.aload_n 0, 1) := by decide +kernel
theorem dX5_init_16 : decode cX5_init 16 = .ok (.iconst (-1), 1) := by decide +kernel
theorem dX5_init_17 : decode cX5_init 17 = .ok (.putfield 18, 3) := by decide +kernel
theorem dX5_init_20 : decode cX5_init 20 = .ok (.aload_n 0, 1) := by decide +kernel
theorem dX5_init_21 : decode cX5_init 21 = .ok (.sipush 600, 3) := by decide +kernel
theorem dX5_init_24 : decode cX5_init 24 = .ok (.newarray .byte, 2) := by decide +kernel
theorem dX5_init_26 : decode cX5_init 26 = .ok (.putfield 22, 3) := by decide +kernel
theorem dX5_init_29 : decode cX5_init 29 = .ok (.return_, 1) := by decide +kernel
set_option maxRecDepth 20000 in
theorem ggX5_parse_X8_clear : GoodIn wsX5_parse wsX8_clear := goodIn_r _ [16, 17, 18, 19, 20, 162, 163, 164, 165, 166, 167, 168, 169, 170, 171, 172] (by decide +kernel) (by decide +kernel)
set_option maxRecDepth 20000 in
theorem gX5_parse_X8_clear : GoodIn wsX5_parse (wsV RX5 41 RX8 yX8_clear wsX8_clear) := goodIn_app (goodIn_of _ (by decide +kernel)) ggX5_parse_X8_clear
set_option maxRecDepth 20000 in
theorem ggX5_parse_X5_advance : GoodIn wsX5_parse wsX5_advance := goodIn_r _ [25, 7, 6, 1, 26, 27, 11, 28, 29, 30, 31, 32, 33, 34, 24, 35, 36, 37, 38, 153, 154, 155, 156, 157, 158, 159, 160, 161] (by decide +kernel) (by decide +kernel)
set_option maxRecDepth 20000 in
theorem gX5_parse_X5_advance : GoodIn wsX5_parse (wsV RX5 44 RX5 yX5_advance wsX5_advance) := goodIn_app (goodIn_of _ (by decide +kernel)) ggX5_parse_X5_advance
set_option maxRecDepth 20000 in
theorem ggX5_parse_X5_readFrame : GoodIn wsX5_parse wsX5_readFrame := goodIn_r _ [42, 10, 43, 44, 45, 46, 47, 24, 48, 49, 50, 51, 52, 11, 7, 26, 6, 1, 53, 54, 55, 56, 57, 58, 59, 60, 61, 62, 63, 64, 65, 66, 67, 68, 69, 70, 71, 72, 73, 74, 75, 76, 77, 78, 79, 80, 81, 82, 83, 84, 85, 86, 87, 88, 89, 90, 91, 92, 93, 94, 95, 96, 97, 98, 99, 100, 101, 102, 103, 104, 105, 8, 9, 21, 22, 23, 25, 27, 28, 29, 30, 31, 32, 33, 34, 35, 36, 37, 38, 106, 107, 108, 109, 110, 111, 112, 113, 114, 115, 116, 117, 153, 154, 155, 156, 157, 158, 159, 160, 161, 162, 163, 164, 165, 166, 167, 168, 169, 170, 171, 172] (by decide +kernel) (by decide +kernel)
set_option maxRecDepth 20000 in
theorem gX5_parse_X5_readFrame : GoodIn wsX5_parse (wsV RX5 47 RX5 yX5_readFrame wsX5_readFrame) := goodIn_app (goodIn_of _ (by decide +kernel)) ggX5_parse_X5_readFrame
set_option maxRecDepth 20000 in
theorem ggX5_parse_X5_readStatement : GoodIn wsX5_parse wsX5_readStatement := goodIn_r _ [121, 49, 50, 51, 24, 52, 11, 7, 26, 6, 1, 53, 54, 55, 56, 57, 58, 59, 60, 61, 62, 63, 64, 65, 66, 67, 68, 69, 70, 71, 72, 73, 74, 75, 76, 77, 78, 79, 80, 81, 82, 83, 84, 85, 86, 87, 88, 89, 90, 91, 92, 93, 94, 95, 96, 97, 98, 99, 100, 101, 122, 123, 124, 125, 10, 126, 102, 103, 104, 105, 8, 9, 21, 22, 23, 25, 27, 28, 29, 30, 31, 32, 33, 34, 35, 36, 37, 38, 45, 46, 47, 48, 106, 107, 108, 109, 110, 111, 112, 113, 127, 128, 129, 15, 130, 17, 131, 132, 133, 134, 135, 114, 115, 116, 117, 136, 137, 138, 139, 140, 141, 142, 143, 144, 145, 146, 147, 148, 149, 150, 151, 152, 153, 154, 155, 156, 157, 158, 159, 160, 161, 162, 163, 164, 165, 166, 167, 168, 169, 170, 171, 172] (by decide +kernel) (by decide +kernel)
set_option maxRecDepth 20000 in
theorem gX5_parse_X5_readStatement : GoodIn wsX5_parse (wsV RX5 54 RX5 yX5_readStatement wsX5_readStatement) := goodIn_app (goodIn_of _ (by decide +kernel)) ggX5_parse_X5_readStatement
theorem dX5_parse_0 : decode cX5_parse 0 = .ok (.aload_n 1, 1) := by decide +kernel
theorem dX5_parse_1 : decode cX5_parse 1 = .ok (.iconst 0, 1) := by decide +kernel
theorem dX5_parse_2 : decode cX5_parse 2 = .ok (.aload_n 0, 1) := by decide +kernel
theorem dX5_parse_3 : decode cX5_parse 3 = .ok (.getfield 22, 3) := by decide +kernel
theorem dX5_parse_6 : decode cX5_parse 6 = .ok (.iconst 0, 1) := by decide +kernel
theorem dX5_parse_7 : decode cX5_parse 7 = .ok (.sipush 600, 3) := by decide +kernel
theorem dX5_parse_10 : decode cX5_parse 10 = .ok (.invokestatic 26, 3) := by decide +kernel
theorem dX5_parse_13 : decode cX5_parse 13 = .ok (.aload_n 0, 1) := by decide +kernel
theorem dX5_parse_14 : decode cX5_parse 14 = .ok (.iload_n 2, 1) := by decide +kernel
theorem dX5_parse_15 : decode cX5_parse 15 = .ok (.putfield 32, 3) := by decide +kernel
theorem dX5_parse_18 : decode cX5_parse 18 = .ok (.aload_n 0, 1) := by decide +kernel
theorem dX5_parse_19 : decode cX5_parse 19 = .ok (.iconst 0, 1) := by decide +kernel
theorem dX5_parse_20 : decode cX5_parse 20 = .ok (.putfield 35, 3) := by decide +kernel
theorem dX5_parse_23 : decode cX5_parse 23 = .ok (.aload_n 0, 1) := by decide +kernel
theorem dX5_parse_24 : decode cX5_parse 24 = .ok (.iconst 0, 1) := by decide +kernel
theorem dX5_parse_25 : decode cX5_parse 25 = .ok (.putfield 38, 3) := by decide +kernel
theorem dX5_parse_28 : decode cX5_parse 28 = .ok (.aload_n 0, 1) := by decide +kernel
theorem dX5_parse_29 : decode cX5_parse 29 = .ok (.iconst (-1), 1) := by decide +kernel
theorem dX5_parse_30 : decode cX5_parse 30 = .ok (.putfield 18, 3) := by decide +kernel
theorem dX5_parse_33 : decode cX5_parse 33 = .ok (.aload_n 0, 1) := by decide +kernel
theorem dX5_parse_34 : decode cX5_parse 34 = .ok (.getfield 12, 3) := by decide +kernel
theorem dX5_parse_37 : decode cX5_parse 37 = .ok (.invokevirtual 41, 3) := by decide +kernel
theorem dX5_parse_40 : decode cX5_parse 40 = .ok (.aload_n 0, 1) := by decide +kernel
theorem dX5_parse_41 : decode cX5_parse 41 = .ok (.invokevirtual 44, 3) := by decide +kernel
theorem dX5_parse_44 : decode cX5_parse 44 = .ok (.aload_n 0, 1) := by decide +kernel
theorem dX5_parse_45 : decode cX5_parse 45 = .ok (.invokevirtual 47, 3) := by decide +kernel
theorem dX5_parse_48 : decode cX5_parse 48 = .ok (.istore_n 3, 1) := by decide +kernel
theorem dX5_parse_49 : decode cX5_parse 49 = .ok (.iconst 0, 1) := by decide +kernel
theorem dX5_parse_50 : decode cX5_parse 50 = .ok (.istore 4, 2) := by decide +kernel
theorem dX5_parse_52 : decode cX5_parse 52 = .ok (.iload 4, 2) := by decide +kernel
theorem dX5_parse_54 : decode cX5_parse 54 = .ok (.sipush 600, 3) := by decide +kernel
theorem dX5_parse_57 : decode cX5_parse 57 = .ok (.if_icmp .ge 25, 3) := by decide +kernel
theorem dX5_parse_60 : decode cX5_parse 60 = .ok (.iload_n 3, 1) := by decide +kernel
theorem dX5_parse_61 : decode cX5_parse 61 = .ok (.ifCond .eq 21, 3) := by decide +kernel
theorem dX5_parse_64 : decode cX5_parse 64 = .ok (.aload_n 0, 1) := by decide +kernel
theorem dX5_parse_65 : decode cX5_parse 65 = .ok (.getfield 51, 3) := by decide +kernel
theorem dX5_parse_68 : decode cX5_parse 68 = .ok (.ifCond .eq 14, 3) := by decide +kernel
theorem dX5_parse_71 : decode cX5_parse 71 = .ok (.aload_n 0, 1) := by decide +kernel
theorem dX5_parse_72 : decode cX5_parse 72 = .ok (.invokevirtual 54, 3) := by decide +kernel
theorem dX5_parse_75 : decode cX5_parse 75 = .ok (.istore_n 3, 1) := by decide +kernel
theorem dX5_parse_76 : decode cX5_parse 76 = .ok (.iinc 4 1, 3) := by decide +kernel
theorem dX5_parse_79 : decode cX5_parse 79 = .ok (.goto (-27), 3) := by decide +kernel
theorem dX5_parse_82 : decode cX5_parse 82 = .ok (.iload_n 3, 1) := by decide +kernel
theorem dX5_parse_83 : decode cX5_parse 83 = .ok (.ireturn, 1) := by decide +kernel
theorem dX5_fail_0 : decode cX5_fail 0 = .ok (.aload_n 0, 1) := by decide +kernel
theorem dX5_fail_1 : decode cX5_fail 1 = .ok (.iload_n 1, 1) := by decide +kernel
theorem dX5_fail_2 : decode cX5_fail 2 = .ok (.putfield 38, 3) := by decide +kernel
theorem dX5_fail_5 : decode cX5_fail 5 = .ok (.aload_n 0, 1) := by decide +kernel
theorem dX5_fail_6 : decode cX5_fail 6 = .ok (.aload_n 0, 1) := by decide +kernel
theorem dX5_fail_7 : decode cX5_fail 7 = .ok (.getfield 57, 3) := by decide +kernel
theorem dX5_fail_10 : decode cX5_fail 10 = .ok (.putfield 18, 3) := by decide +kernel
theorem dX5_fail_13 : decode cX5_fail 13 = .ok (.iconst 0, 1) := by decide +kernel
theorem dX5_fail_14 : decode cX5_fail 14 = .ok (.ireturn, 1) := by decide +kernel
set_option maxRecDepth 20000 in
theorem ggX5_advance_X5_isLetter : GoodIn wsX5_advance wsX5_isLetter := goodIn_r _ [15] (by decide +kernel) (by decide +kernel)
set_option maxRecDepth 20000 in
theorem gX5_advance_X5_isLetter : GoodIn wsX5_advance (va_wsS RX5 63 yX5_isLetter wsX5_isLetter) := goodIn_app (goodIn_of _ (by decide +kernel)) ggX5_advance_X5_isLetter
set_option maxRecDepth 20000 in
theorem ggX5_advance_X5_isDigit : GoodIn wsX5_advance wsX5_isDigit := goodIn_r _ [18] (by decide +kernel) (by decide +kernel)
set_option maxRecDepth 20000 in
theorem gX5_advance_X5_isDigit : GoodIn wsX5_advance (va_wsS RX5 67 yX5_isDigit wsX5_isDigit) := goodIn_app (goodIn_of _ (by decide +kernel)) ggX5_advance_X5_isDigit
theorem dX5_advance_0 : decode cX5_advance 0 = .ok (.aload_n 0, 1) := by decide +kernel
theorem dX5_advance_1 : decode cX5_advance 1 = .ok (.getfield 35, 3) := by decide +kernel
theorem dX5_advance_4 : decode cX5_advance 4 = .ok (.aload_n 0, 1) := by decide +kernel
theorem dX5_advance_5 : decode cX5_advance 5 = .ok (.getfield 32, 3) := by decide +kernel
theorem dX5_advance_8 : decode cX5_advance 8 = .ok (.if_icmp .ge 44, 3) := by decide +kernel
theorem dX5_advance_11 : decode cX5_advance 11 = .ok (.aload_n 0, 1) := by decide +kernel
theorem dX5_advance_12 : decode cX5_advance 12 = .ok (.getfield 22, 3) := by decide +kernel
theorem dX5_advance_15 : decode cX5_advance 15 = .ok (.aload_n 0, 1) := by decide +kernel
theorem dX5_advance_16 : decode cX5_advance 16 = .ok (.getfield 35, 3) := by decide +kernel
theorem dX5_advance_19 : decode cX5_advance 19 = .ok (.baload, 1) := by decide +kernel
theorem dX5_advance_20 : decode cX5_advance 20 = .ok (.bipush 32, 2) := by decide +kernel
theorem dX5_advance_22 : decode cX5_advance 22 = .ok (.if_icmp .eq 17, 3) := by decide +kernel
theorem dX5_advance_25 : decode cX5_advance 25 = .ok (.aload_n 0, 1) := by decide +kernel
theorem dX5_advance_26 : decode cX5_advance 26 = .ok (.getfield 22, 3) := by decide +kernel
theorem dX5_advance_29 : decode cX5_advance 29 = .ok (.aload_n 0, 1) := by decide +kernel
theorem dX5_advance_30 : decode cX5_advance 30 = .ok (.getfield 35, 3) := by decide +kernel
theorem dX5_advance_33 : decode cX5_advance 33 = .ok (.baload, 1) := by decide +kernel
theorem dX5_advance_34 : decode cX5_advance 34 = .ok (.bipush 10, 2) := by decide +kernel
theorem dX5_advance_36 : decode cX5_advance 36 = .ok (.if_icmp .ne 16, 3) := by decide +kernel
theorem dX5_advance_39 : decode cX5_advance 39 = .ok (.aload_n 0, 1) := by decide +kernel
theorem dX5_advance_40 : decode cX5_advance 40 = .ok (.dup, 1) := by decide +kernel
theorem dX5_advance_41 : decode cX5_advance 41 = .ok (.getfield 35, 3) := by decide +kernel
theorem dX5_advance_44 : decode cX5_advance 44 = .ok (.iconst 1, 1) := by decide +kernel
theorem dX5_advance_45 : decode cX5_advance 45 = .ok (.iadd, 1) := by decide +kernel
theorem dX5_advance_46 : decode cX5_advance 46 = .ok (.putfield 35, 3) := by decide +kernel
theorem dX5_advance_49 : decode cX5_advance 49 = .ok (.goto (-49), 3) := by decide +kernel
theorem dX5_advance_52 : decode cX5_advance 52 = .ok (.aload_n 0, 1) := by decide +kernel
theorem dX5_advance_53 : decode cX5_advance 53 = .ok (.aload_n 0, 1) := by decide +kernel
theorem dX5_advance_54 : decode cX5_advance 54 = .ok (.getfield 35, 3) := by decide +kernel
theorem dX5_advance_57 : decode cX5_advance 57 = .ok (.putfield 57, 3) := by decide +kernel
theorem dX5_advance_60 : decode cX5_advance 60 = .ok (.aload_n 0, 1) := by decide +kernel
theorem dX5_advance_61 : decode cX5_advance 61 = .ok (.iconst 0, 1) := by decide +kernel
theorem dX5_advance_62 : decode cX5_advance 62 = .ok (.putfield 60, 3) := by decide +kernel
theorem dX5_advance_65 : decode cX5_advance 65 = .ok (.aload_n 0, 1) := by decide +kernel
theorem dX5_advance_66 : decode cX5_advance 66 = .ok (.getfield 35, 3) := by decide +kernel
theorem dX5_advance_69 : decode cX5_advance 69 = .ok (.aload_n 0, 1) := by decide +kernel
theorem dX5_advance_70 : decode cX5_advance 70 = .ok (.getfield 32, 3) := by decide +kernel
theorem dX5_advance_73 : decode cX5_advance 73 = .ok (.if_icmp .lt 11, 3) := by decide +kernel
theorem dX5_advance_76 : decode cX5_advance 76 = .ok (.aload_n 0, 1) := by decide +kernel
theorem dX5_advance_77 : decode cX5_advance 77 = .ok (.iconst 0, 1) := by decide +kernel
theorem dX5_advance_78 : decode cX5_advance 78 = .ok (.putfield 51, 3) := by decide +kernel
theorem dX5_advance_81 : decode cX5_advance 81 = .ok (.goto 165, 3) := by decide +kernel
theorem dX5_advance_84 : decode cX5_advance 84 = .ok (.aload_n 0, 1) := by decide +kernel
theorem dX5_advance_85 : decode cX5_advance 85 = .ok (.getfield 22, 3) := by decide +kernel
theorem dX5_advance_88 : decode cX5_advance 88 = .ok (.aload_n 0, 1) := by decide +kernel
theorem dX5_advance_89 : decode cX5_advance 89 = .ok (.getfield 35, 3) := by decide +kernel
theorem dX5_advance_92 : decode cX5_advance 92 = .ok (.baload, 1) := by decide +kernel
theorem dX5_advance_93 : decode cX5_advance 93 = .ok (.invokestatic 63, 3) := by decide +kernel
theorem dX5_advance_96 : decode cX5_advance 96 = .ok (.ifCond .eq 47, 3) := by decide +kernel
theorem dX5_advance_99 : decode cX5_advance 99 = .ok (.aload_n 0, 1) := by decide +kernel
theorem dX5_advance_100 : decode cX5_advance 100 = .ok (.iconst 1, 1) := by decide +kernel
theorem dX5_advance_101 : decode cX5_advance 101 = .ok (.putfield 51, 3) := by decide +kernel
theorem dX5_advance_104 : decode cX5_advance 104 = .ok (.aload_n 0, 1) := by decide +kernel
theorem dX5_advance_105 : decode cX5_advance 105 = .ok (.getfield 35, 3) := by decide +kernel
theorem dX5_advance_108 : decode cX5_advance 108 = .ok (.aload_n 0, 1) := by decide +kernel
theorem dX5_advance_109 : decode cX5_advance 109 = .ok (.getfield 32, 3) := by decide +kernel
theorem dX5_advance_112 : decode cX5_advance 112 = .ok (.if_icmp .ge 134, 3) := by decide +kernel
theorem dX5_advance_115 : decode cX5_advance 115 = .ok (.aload_n 0, 1) := by decide +kernel
theorem dX5_advance_116 : decode cX5_advance 116 = .ok (.getfield 22, 3) := by decide +kernel
theorem dX5_advance_119 : decode cX5_advance 119 = .ok (.aload_n 0, 1) := by decide +kernel
theorem dX5_advance_120 : decode cX5_advance 120 = .ok (.getfield 35, 3) := by decide +kernel
theorem dX5_advance_123 : decode cX5_advance 123 = .ok (.baload, 1) := by decide +kernel
theorem dX5_advance_124 : decode cX5_advance 124 = .ok (.invokestatic 63, 3) := by decide +kernel
theorem dX5_advance_127 : decode cX5_advance 127 = .ok (.ifCond .eq 119, 3) := by decide +kernel
theorem dX5_advance_130 : decode cX5_advance 130 = .ok (.aload_n 0, 1) := by decide +kernel
theorem dX5_advance_131 : decode cX5_advance 131 = .ok (.dup, 1) := by decide +kernel
theorem dX5_advance_132 : decode cX5_advance 132 = .ok (.getfield 35, 3) := by decide +kernel
theorem dX5_advance_135 : decode cX5_advance 135 = .ok (.iconst 1, 1) := by decide +kernel
theorem dX5_advance_136 : decode cX5_advance 136 = .ok (.iadd, 1) := by decide +kernel
theorem dX5_advance_137 : decode cX5_advance 137 = .ok (.putfield 35, 3) := by decide +kernel
theorem dX5_advance_140 : decode cX5_advance 140 = .ok (.goto (-36), 3) := by decide +kernel
theorem dX5_advance_143 : decode cX5_advance 143 = .ok (.aload_n 0, 1) := by decide +kernel
theorem dX5_advance_144 : decode cX5_advance 144 = .ok (.getfield 22, 3) := by decide +kernel
theorem dX5_advance_147 : decode cX5_advance 147 = .ok (.aload_n 0, 1) := by decide +kernel
theorem dX5_advance_148 : decode cX5_advance 148 = .ok (.getfield 35, 3) := by decide +kernel
theorem dX5_advance_151 : decode cX5_advance 151 = .ok (.baload, 1) := by decide +kernel
theorem dX5_advance_152 : decode cX5_advance 152 = .ok (.invokestatic 67, 3) := by decide +kernel
theorem dX5_advance_155 : decode cX5_advance 155 = .ok (.ifCond .eq 76, 3) := by decide +kernel
theorem dX5_advance_158 : decode cX5_advance 158 = .ok (.aload_n 0, 1) := by decide +kernel
theorem dX5_advance_159 : decode cX5_advance 159 = .ok (.iconst 2, 1) := by decide +kernel
theorem dX5_advance_160 : decode cX5_advance 160 = .ok (.putfield 51, 3) := by decide +kernel
theorem dX5_advance_163 : decode cX5_advance 163 = .ok (.aload_n 0, 1) := by decide +kernel
theorem dX5_advance_164 : decode cX5_advance 164 = .ok (.getfield 35, 3) := by decide +kernel
theorem dX5_advance_167 : decode cX5_advance 167 = .ok (.aload_n 0, 1) := by decide +kernel
theorem dX5_advance_168 : decode cX5_advance 168 = .ok (.getfield 32, 3) := by decide +kernel
theorem dX5_advance_171 : decode cX5_advance 171 = .ok (.if_icmp .ge 75, 3) := by decide +kernel
theorem dX5_advance_174 : decode cX5_advance 174 = .ok (.aload_n 0, 1) := by decide +kernel
theorem dX5_advance_175 : decode cX5_advance 175 = .ok (.getfield 22, 3) := by decide +kernel
theorem dX5_advance_178 : decode cX5_advance 178 = .ok (.aload_n 0, 1) := by decide +kernel
theorem dX5_advance_179 : decode cX5_advance 179 = .ok (.getfield 35, 3) := by decide +kernel
theorem dX5_advance_182 : decode cX5_advance 182 = .ok (.baload, 1) := by decide +kernel
theorem dX5_advance_183 : decode cX5_advance 183 = .ok (.invokestatic 67, 3) := by decide +kernel
theorem dX5_advance_186 : decode cX5_advance 186 = .ok (.ifCond .eq 60, 3) := by decide +kernel
theorem dX5_advance_189 : decode cX5_advance 189 = .ok (.aload_n 0, 1) := by decide +kernel
theorem dX5_advance_190 : decode cX5_advance 190 = .ok (.ldc 70, 2) := by decide +kernel
theorem dX5_advance_192 : decode cX5_advance 192 = .ok (.aload_n 0, 1) := by decide +kernel
theorem dX5_advance_193 : decode cX5_advance 193 = .ok (.getfield 60, 3) := by decide +kernel
theorem dX5_advance_196 : decode cX5_advance 196 = .ok (.bipush 10, 2) := by decide +kernel
theorem dX5_advance_198 : decode cX5_advance 198 = .ok (.imul, 1) := by decide +kernel
theorem dX5_advance_199 : decode cX5_advance 199 = .ok (.aload_n 0, 1) := by decide +kernel
theorem dX5_advance_200 : decode cX5_advance 200 = .ok (.getfield 22, 3) := by decide +kernel
theorem dX5_advance_203 : decode cX5_advance 203 = .ok (.aload_n 0, 1) := by decide +kernel
theorem dX5_advance_204 : decode cX5_advance 204 = .ok (.getfield 35, 3) := by decide +kernel
theorem dX5_advance_207 : decode cX5_advance 207 = .ok (.baload, 1) := by decide +kernel
theorem dX5_advance_208 : decode cX5_advance 208 = .ok (.iadd, 1) := by decide +kernel
theorem dX5_advance_209 : decode cX5_advance 209 = .ok (.bipush 48, 2) := by decide +kernel
theorem dX5_advance_211 : decode cX5_advance 211 = .ok (.isub, 1) := by decide +kernel
theorem dX5_advance_212 : decode cX5_advance 212 = .ok (.invokestatic 71, 3) := by decide +kernel
theorem dX5_advance_215 : decode cX5_advance 215 = .ok (.putfield 60, 3) := by decide +kernel
theorem dX5_advance_218 : decode cX5_advance 218 = .ok (.aload_n 0, 1) := by decide +kernel
theorem dX5_advance_219 : decode cX5_advance 219 = .ok (.dup, 1) := by decide +kernel
theorem dX5_advance_220 : decode cX5_advance 220 = .ok (.getfield 35, 3) := by decide +kernel
theorem dX5_advance_223 : decode cX5_advance 223 = .ok (.iconst 1, 1) := by decide +kernel
theorem dX5_advance_224 : decode cX5_advance 224 = .ok (.iadd, 1) := by decide +kernel
theorem dX5_advance_225 : decode cX5_advance 225 = .ok (.putfield 35, 3) := by decide +kernel
theorem dX5_advance_228 : decode cX5_advance 228 = .ok (.goto (-65), 3) := by decide +kernel
theorem dX5_advance_231 : decode cX5_advance 231 = .ok (.aload_n 0, 1) := by decide +kernel
theorem dX5_advance_232 : decode cX5_advance 232 = .ok (.iconst 3, 1) := by decide +kernel
theorem dX5_advance_233 : decode cX5_advance 233 = .ok (.putfield 51, 3) := by decide +kernel
theorem dX5_advance_236 : decode cX5_advance 236 = .ok (.aload_n 0, 1) := by decide +kernel
theorem dX5_advance_237 : decode cX5_advance 237 = .ok (.dup, 1) := by decide +kernel
theorem dX5_advance_238 : decode cX5_advance 238 = .ok (.getfield 35, 3) := by decide +kernel
theorem dX5_advance_241 : decode cX5_advance 241 = .ok (.iconst 1, 1) := by decide +kernel
theorem dX5_advance_242 : decode cX5_advance 242 = .ok (.iadd, 1) := by decide +kernel
theorem dX5_advance_243 : decode cX5_advance 243 = .ok (.putfield 35, 3) := by decide +kernel
theorem dX5_advance_246 : decode cX5_advance 246 = .ok (.return_, 1) := by decide +kernel
theorem dX5_isLetter_0 : decode cX5_isLetter 0 = .ok (.iload_n 0, 1) := by decide +kernel
theorem dX5_isLetter_1 : decode cX5_isLetter 1 = .ok (.bipush 97, 2) := by decide +kernel
theorem dX5_isLetter_3 : decode cX5_isLetter 3 = .ok (.if_icmp .lt 13, 3) := by decide +kernel
theorem dX5_isLetter_6 : decode cX5_isLetter 6 = .ok (.iload_n 0, 1) := by decide +kernel
theorem dX5_isLetter_7 : decode cX5_isLetter 7 = .ok (.bipush 122, 2) := by decide +kernel
theorem dX5_isLetter_9 : decode cX5_isLetter 9 = .ok (.if_icmp .gt 7, 3) := by decide +kernel
theorem dX5_isLetter_12 : decode cX5_isLetter 12 = .ok (.iconst 1, 1) := by decide +kernel
theorem dX5_isLetter_13 : decode cX5_isLetter 13 = .ok (.goto 4, 3) := by decide +kernel
theorem dX5_isLetter_16 : decode cX5_isLetter 16 = .ok (.iconst 0, 1) := by decide +kernel
theorem dX5_isLetter_17 : decode cX5_isLetter 17 = .ok (.ireturn, 1) := by decide +kernel
theorem dX5_isDigit_0 : decode cX5_isDigit 0 = .ok (.iload_n 0, 1) := by decide +kernel
theorem dX5_isDigit_1 : decode cX5_isDigit 1 = .ok (.bipush 48, 2) := by decide +kernel
theorem dX5_isDigit_3 : decode cX5_isDigit 3 = .ok (.if_icmp .lt 13, 3) := by decide +kernel
theorem dX5_isDigit_6 : decode cX5_isDigit 6 = .ok (.iload_n 0, 1) := by decide +kernel
theorem dX5_isDigit_7 : decode cX5_isDigit 7 = .ok (.bipush 57, 2) := by decide +kernel
theorem dX5_isDigit_9 : decode cX5_isDigit 9 = .ok (.if_icmp .gt 7, 3) := by decide +kernel
theorem dX5_isDigit_12 : decode cX5_isDigit 12 = .ok (.iconst 1, 1) := by decide +kernel
theorem dX5_isDigit_13 : decode cX5_isDigit 13 = .ok (.goto 4, 3) := by decide +kernel
theorem dX5_isDigit_16 : decode cX5_isDigit 16 = .ok (.iconst 0, 1) := by decide +kernel
theorem dX5_isDigit_17 : decode cX5_isDigit 17 = .ok (.ireturn, 1) := by decide +kernel
set_option maxRecDepth 20000 in
theorem ggX5_isWord_J0_length_8abf5 : GoodIn wsX5_isWord wsJ0_length_8abf5 := goodIn_r _ [10, 11, 12, 13, 14, 9, 15, 16, 17] (by decide +kernel) (by decide +kernel)
set_option maxRecDepth 20000 in
theorem gX5_isWord_J0_length_8abf5 : GoodIn wsX5_isWord (wsV RX5 77 RJ0 yJ0_length_8abf5 wsJ0_length_8abf5) := goodIn_app (goodIn_of _ (by decide +kernel)) ggX5_isWord_J0_length_8abf5
set_option maxRecDepth 20000 in
theorem ggX5_isWord_J0_charAt_5068e : GoodIn wsX5_isWord wsJ0_charAt_5068e := goodIn_r _ [21, 11, 22, 23, 24, 9, 25, 16, 17, 26, 27, 28, 29, 30, 31, 32, 33, 34, 35, 36, 37, 38, 39, 40, 41, 42, 43, 44, 45, 46, 47, 48, 49, 50, 51, 52, 53, 54] (by decide +kernel) (by decide +kernel)
set_option maxRecDepth 20000 in
theorem gX5_isWord_J0_charAt_5068e : GoodIn wsX5_isWord (wsV RX5 82 RJ0 yJ0_charAt_5068e wsJ0_charAt_5068e) := goodIn_app (goodIn_of _ (by decide +kernel)) ggX5_isWord_J0_charAt_5068e
theorem dX5_isWord_0 : decode cX5_isWord 0 = .ok (.aload_n 0, 1) := by decide +kernel
theorem dX5_isWord_1 : decode cX5_isWord 1 = .ok (.getfield 51, 3) := by decide +kernel
theorem dX5_isWord_4 : decode cX5_isWord 4 = .ok (.iconst 1, 1) := by decide +kernel
theorem dX5_isWord_5 : decode cX5_isWord 5 = .ok (.if_icmp .ne 19, 3) := by decide +kernel
theorem dX5_isWord_8 : decode cX5_isWord 8 = .ok (.aload_n 0, 1) := by decide +kernel
theorem dX5_isWord_9 : decode cX5_isWord 9 = .ok (.getfield 35, 3) := by decide +kernel
theorem dX5_isWord_12 : decode cX5_isWord 12 = .ok (.aload_n 0, 1) := by decide +kernel
theorem dX5_isWord_13 : decode cX5_isWord 13 = .ok (.getfield 57, 3) := by decide +kernel
theorem dX5_isWord_16 : decode cX5_isWord 16 = .ok (.isub, 1) := by decide +kernel
theorem dX5_isWord_17 : decode cX5_isWord 17 = .ok (.aload_n 1, 1) := by decide +kernel
theorem dX5_isWord_18 : decode cX5_isWord 18 = .ok (.invokevirtual 77, 3) := by decide +kernel
theorem dX5_isWord_21 : decode cX5_isWord 21 = .ok (.if_icmp .eq 5, 3) := by decide +kernel
theorem dX5_isWord_24 : decode cX5_isWord 24 = .ok (.iconst 0, 1) := by decide +kernel
theorem dX5_isWord_25 : decode cX5_isWord 25 = .ok (.ireturn, 1) := by decide +kernel
theorem dX5_isWord_26 : decode cX5_isWord 26 = .ok (.iconst 0, 1) := by decide +kernel
theorem dX5_isWord_27 : decode cX5_isWord 27 = .ok (.istore_n 2, 1) := by decide +kernel
theorem dX5_isWord_28 : decode cX5_isWord 28 = .ok (.iload_n 2, 1) := by decide +kernel
theorem dX5_isWord_29 : decode cX5_isWord 29 = .ok (.aload_n 1, 1) := by decide +kernel
theorem dX5_isWord_30 : decode cX5_isWord 30 = .ok (.invokevirtual 77, 3) := by decide +kernel
theorem dX5_isWord_33 : decode cX5_isWord 33 = .ok (.if_icmp .ge 43, 3) := by decide +kernel
theorem dX5_isWord_36 : decode cX5_isWord 36 = .ok (.aload_n 0, 1) := by decide +kernel
theorem dX5_isWord_37 : decode cX5_isWord 37 = .ok (.getfield 57, 3) := by decide +kernel
theorem dX5_isWord_40 : decode cX5_isWord 40 = .ok (.iload_n 2, 1) := by decide +kernel
theorem dX5_isWord_41 : decode cX5_isWord 41 = .ok (.iadd, 1) := by decide +kernel
theorem dX5_isWord_42 : decode cX5_isWord 42 = .ok (.aload_n 0, 1) := by decide +kernel
theorem dX5_isWord_43 : decode cX5_isWord 43 = .ok (.getfield 32, 3) := by decide +kernel
theorem dX5_isWord_46 : decode cX5_isWord 46 = .ok (.if_icmp .ge 30, 3) := by decide +kernel
theorem dX5_isWord_49 : decode cX5_isWord 49 = .ok (.aload_n 0, 1) := by decide +kernel
theorem dX5_isWord_50 : decode cX5_isWord 50 = .ok (.getfield 22, 3) := by decide +kernel
theorem dX5_isWord_53 : decode cX5_isWord 53 = .ok (.aload_n 0, 1) := by decide +kernel
theorem dX5_isWord_54 : decode cX5_isWord 54 = .ok (.getfield 57, 3) := by decide +kernel
theorem dX5_isWord_57 : decode cX5_isWord 57 = .ok (.iload_n 2, 1) := by decide +kernel
theorem dX5_isWord_58 : decode cX5_isWord 58 = .ok (.iadd, 1) := by decide +kernel
theorem dX5_isWord_59 : decode cX5_isWord 59 = .ok (.baload, 1) := by decide +kernel
theorem dX5_isWord_60 : decode cX5_isWord 60 = .ok (.aload_n 1, 1) := by decide +kernel
theorem dX5_isWord_61 : decode cX5_isWord 61 = .ok (.iload_n 2, 1) := by decide +kernel
theorem dX5_isWord_62 : decode cX5_isWord 62 = .ok (.invokevirtual 82, 3) := by decide +kernel
theorem dX5_isWord_65 : decode cX5_isWord 65 = .ok (.if_icmp .eq 5, 3) := by decide +kernel
theorem dX5_isWord_68 : decode cX5_isWord 68 = .ok (.iconst 0, 1) := by decide +kernel
theorem dX5_isWord_69 : decode cX5_isWord 69 = .ok (.ireturn, 1) := by decide +kernel
theorem dX5_isWord_70 : decode cX5_isWord 70 = .ok (.iinc 2 1, 3) := by decide +kernel
theorem dX5_isWord_73 : decode cX5_isWord 73 = .ok (.goto (-45), 3) := by decide +kernel
theorem dX5_isWord_76 : decode cX5_isWord 76 = .ok (.iconst 1, 1) := by decide +kernel
theorem dX5_isWord_77 : decode cX5_isWord 77 = .ok (.ireturn, 1) := by decide +kernel
set_option maxRecDepth 20000 in
theorem ggX5_passWord_X5_isWord : GoodIn wsX5_passWord wsX5_isWord := goodIn_r _ [5, 6, 7, 8, 9, 10, 11, 12, 13, 14, 15, 16, 17, 18, 19, 20, 21, 22, 23, 24, 25, 26, 27, 28, 29, 30, 31, 32, 33, 34, 35, 36, 37, 38, 39, 40, 41, 42, 43, 44, 45, 46, 47, 48, 49, 50, 51, 52, 53, 54, 55, 56, 57, 58, 59, 82, 83, 84, 85, 86, 87, 88, 89, 90] (by decide +kernel) (by decide +kernel)
set_option maxRecDepth 20000 in
theorem gX5_passWord_X5_isWord : GoodIn wsX5_passWord (wsV RX5 86 RX5 yX5_isWord wsX5_isWord) := goodIn_app (goodIn_of _ (by decide +kernel)) ggX5_passWord_X5_isWord
set_option maxRecDepth 20000 in
theorem ggX5_passWord_X5_fail : GoodIn wsX5_passWord wsX5_fail := goodIn_r _ [63, 64, 8, 65, 82, 83, 84, 85, 86, 87, 88, 89, 90] (by decide +kernel) (by decide +kernel)
set_option maxRecDepth 20000 in
theorem gX5_passWord_X5_fail : GoodIn wsX5_passWord (wsV RX5 90 RX5 yX5_fail wsX5_fail) := goodIn_app (goodIn_of _ (by decide +kernel)) ggX5_passWord_X5_fail
set_option maxRecDepth 20000 in
theorem ggX5_passWord_X5_advance : GoodIn wsX5_passWord wsX5_advance := goodIn_r _ [69, 7, 9, 10, 8, 70, 6, 71, 72, 73, 74, 75, 76, 77, 4, 78, 79, 80, 81, 82, 83, 84, 85, 86, 87, 88, 89, 90] (by decide +kernel) (by decide +kernel)
set_option maxRecDepth 20000 in
theorem gX5_passWord_X5_advance : GoodIn wsX5_passWord (wsV RX5 44 RX5 yX5_advance wsX5_advance) := goodIn_app (goodIn_of _ (by decide +kernel)) ggX5_passWord_X5_advance
theorem dX5_passWord_0 : decode cX5_passWord 0 = .ok (.aload_n 0, 1) := by decide +kernel
theorem dX5_passWord_1 : decode cX5_passWord 1 = .ok (.aload_n 1, 1) := by decide +kernel
theorem dX5_passWord_2 : decode cX5_passWord 2 = .ok (.invokevirtual 86, 3) := by decide +kernel
theorem dX5_passWord_5 : decode cX5_passWord 5 = .ok (.ifCond .ne 9, 3) := by decide +kernel
theorem dX5_passWord_8 : decode cX5_passWord 8 = .ok (.aload_n 0, 1) := by decide +kernel
theorem dX5_passWord_9 : decode cX5_passWord 9 = .ok (.iconst 1, 1) := by decide +kernel
theorem dX5_passWord_10 : decode cX5_passWord 10 = .ok (.invokevirtual 90, 3) := by decide +kernel
theorem dX5_passWord_13 : decode cX5_passWord 13 = .ok (.ireturn, 1) := by decide +kernel
theorem dX5_passWord_14 : decode cX5_passWord 14 = .ok (.aload_n 0, 1) := by decide +kernel
theorem dX5_passWord_15 : decode cX5_passWord 15 = .ok (.invokevirtual 44, 3) := by decide +kernel
theorem dX5_passWord_18 : decode cX5_passWord 18 = .ok (.iconst 1, 1) := by decide +kernel
theorem dX5_passWord_19 : decode cX5_passWord 19 = .ok (.ireturn, 1) := by decide +kernel
set_option maxRecDepth 20000 in
theorem ggX5_passEnd_X5_fail : GoodIn wsX5_passEnd wsX5_fail := goodIn_r _ [9, 10, 2, 11, 29, 30, 31, 32, 33, 34, 35, 36, 37] (by decide +kernel) (by decide +kernel)
set_option maxRecDepth 20000 in
theorem gX5_passEnd_X5_fail : GoodIn wsX5_passEnd (wsV RX5 90 RX5 yX5_fail wsX5_fail) := goodIn_app (goodIn_of _ (by decide +kernel)) ggX5_passEnd_X5_fail
set_option maxRecDepth 20000 in
theorem ggX5_passEnd_X5_advance : GoodIn wsX5_passEnd wsX5_advance := goodIn_r _ [15, 16, 3, 4, 2, 17, 1, 18, 19, 20, 21, 22, 23, 24, 8, 25, 26, 27, 28, 29, 30, 31, 32, 33, 34, 35, 36, 37] (by decide +kernel) (by decide +kernel)
set_option maxRecDepth 20000 in
theorem gX5_passEnd_X5_advance : GoodIn wsX5_passEnd (wsV RX5 44 RX5 yX5_advance wsX5_advance) := goodIn_app (goodIn_of _ (by decide +kernel)) ggX5_passEnd_X5_advance
theorem dX5_passEnd_0 : decode cX5_passEnd 0 = .ok (.aload_n 0, 1) := by decide +kernel
theorem dX5_passEnd_1 : decode cX5_passEnd 1 = .ok (.getfield 51, 3) := by decide +kernel
theorem dX5_passEnd_4 : decode cX5_passEnd 4 = .ok (.iconst 3, 1) := by decide +kernel
theorem dX5_passEnd_5 : decode cX5_passEnd 5 = .ok (.if_icmp .ne 28, 3) := by decide +kernel
theorem dX5_passEnd_8 : decode cX5_passEnd 8 = .ok (.aload_n 0, 1) := by decide +kernel
theorem dX5_passEnd_9 : decode cX5_passEnd 9 = .ok (.getfield 57, 3) := by decide +kernel
theorem dX5_passEnd_12 : decode cX5_passEnd 12 = .ok (.aload_n 0, 1) := by decide +kernel
theorem dX5_passEnd_13 : decode cX5_passEnd 13 = .ok (.getfield 32, 3) := by decide +kernel
theorem dX5_passEnd_16 : decode cX5_passEnd 16 = .ok (.if_icmp .ge 17, 3) := by decide +kernel
theorem dX5_passEnd_19 : decode cX5_passEnd 19 = .ok (.aload_n 0, 1) := by decide +kernel
theorem dX5_passEnd_20 : decode cX5_passEnd 20 = .ok (.getfield 22, 3) := by decide +kernel
theorem dX5_passEnd_23 : decode cX5_passEnd 23 = .ok (.aload_n 0, 1) := by decide +kernel
theorem dX5_passEnd_24 : decode cX5_passEnd 24 = .ok (.getfield 57, 3) := by decide +kernel
theorem dX5_passEnd_27 : decode cX5_passEnd 27 = .ok (.baload, 1) := by decide +kernel
theorem dX5_passEnd_28 : decode cX5_passEnd 28 = .ok (.bipush 59, 2) := by decide +kernel
theorem dX5_passEnd_30 : decode cX5_passEnd 30 = .ok (.if_icmp .eq 9, 3) := by decide +kernel
theorem dX5_passEnd_33 : decode cX5_passEnd 33 = .ok (.aload_n 0, 1) := by decide +kernel
theorem dX5_passEnd_34 : decode cX5_passEnd 34 = .ok (.iconst 1, 1) := by decide +kernel
theorem dX5_passEnd_35 : decode cX5_passEnd 35 = .ok (.invokevirtual 90, 3) := by decide +kernel
theorem dX5_passEnd_38 : decode cX5_passEnd 38 = .ok (.ireturn, 1) := by decide +kernel
theorem dX5_passEnd_39 : decode cX5_passEnd 39 = .ok (.aload_n 0, 1) := by decide +kernel
theorem dX5_passEnd_40 : decode cX5_passEnd 40 = .ok (.invokevirtual 44, 3) := by decide +kernel
theorem dX5_passEnd_43 : decode cX5_passEnd 43 = .ok (.iconst 1, 1) := by decide +kernel
theorem dX5_passEnd_44 : decode cX5_passEnd 44 = .ok (.ireturn, 1) := by decide +kernel
set_option maxRecDepth 20000 in
theorem ggX5_checkNumber_X5_fail : GoodIn wsX5_checkNumber wsX5_fail := goodIn_r _ [7, 8, 9, 10, 11, 12, 13, 14, 15, 16, 17, 18, 19] (by decide +kernel) (by decide +kernel)
set_option maxRecDepth 20000 in
theorem gX5_checkNumber_X5_fail : GoodIn wsX5_checkNumber (wsV RX5 90 RX5 yX5_fail wsX5_fail) := goodIn_app (goodIn_of _ (by decide +kernel)) ggX5_checkNumber_X5_fail
theorem dX5_checkNumber_0 : decode cX5_checkNumber 0 = .ok (.aload_n 0, 1) := by decide +kernel
theorem dX5_checkNumber_1 : decode cX5_checkNumber 1 = .ok (.getfield 51, 3) := by decide +kernel
theorem dX5_checkNumber_4 : decode cX5_checkNumber 4 = .ok (.iconst 2, 1) := by decide +kernel
theorem dX5_checkNumber_5 : decode cX5_checkNumber 5 = .ok (.if_icmp .eq 9, 3) := by decide +kernel
theorem dX5_checkNumber_8 : decode cX5_checkNumber 8 = .ok (.aload_n 0, 1) := by decide +kernel
theorem dX5_checkNumber_9 : decode cX5_checkNumber 9 = .ok (.iconst 1, 1) := by decide +kernel
theorem dX5_checkNumber_10 : decode cX5_checkNumber 10 = .ok (.invokevirtual 90, 3) := by decide +kernel
theorem dX5_checkNumber_13 : decode cX5_checkNumber 13 = .ok (.ireturn, 1) := by decide +kernel
theorem dX5_checkNumber_14 : decode cX5_checkNumber 14 = .ok (.aload_n 0, 1) := by decide +kernel
theorem dX5_checkNumber_15 : decode cX5_checkNumber 15 = .ok (.getfield 60, 3) := by decide +kernel
theorem dX5_checkNumber_18 : decode cX5_checkNumber 18 = .ok (.iload_n 1, 1) := by decide +kernel
theorem dX5_checkNumber_19 : decode cX5_checkNumber 19 = .ok (.if_icmp .le 11, 3) := by decide +kernel
theorem dX5_checkNumber_22 : decode cX5_checkNumber 22 = .ok (.aload_n 0, 1) := by decide +kernel
theorem dX5_checkNumber_23 : decode cX5_checkNumber 23 = .ok (.iconst 2, 1) := by decide +kernel
theorem dX5_checkNumber_24 : decode cX5_checkNumber 24 = .ok (.invokevirtual 90, 3) := by decide +kernel
theorem dX5_checkNumber_27 : decode cX5_checkNumber 27 = .ok (.ifCond .eq 7, 3) := by decide +kernel
theorem dX5_checkNumber_30 : decode cX5_checkNumber 30 = .ok (.iconst 1, 1) := by decide +kernel
theorem dX5_checkNumber_31 : decode cX5_checkNumber 31 = .ok (.goto 4, 3) := by decide +kernel
theorem dX5_checkNumber_34 : decode cX5_checkNumber 34 = .ok (.iconst 0, 1) := by decide +kernel
theorem dX5_checkNumber_35 : decode cX5_checkNumber 35 = .ok (.ireturn, 1) := by decide +kernel
set_option maxRecDepth 20000 in
theorem ggX5_passNumber_X5_checkNumber : GoodIn wsX5_passNumber wsX5_checkNumber := goodIn_r _ [6, 7, 1, 8, 9, 10, 5, 11, 12, 13, 14, 33, 34, 35, 36, 37, 38, 39, 40, 41] (by decide +kernel) (by decide +kernel)
set_option maxRecDepth 20000 in
theorem gX5_passNumber_X5_checkNumber : GoodIn wsX5_passNumber (wsV RX5 94 RX5 yX5_checkNumber wsX5_checkNumber) := goodIn_app (goodIn_of _ (by decide +kernel)) ggX5_passNumber_X5_checkNumber
set_option maxRecDepth 20000 in
theorem ggX5_passNumber_X5_advance : GoodIn wsX5_passNumber wsX5_advance := goodIn_r _ [18, 19, 20, 21, 13, 1, 7, 22, 23, 24, 25, 26, 27, 28, 5, 29, 30, 31, 32, 33, 34, 35, 36, 37, 38, 39, 40, 41] (by decide +kernel) (by decide +kernel)
set_option maxRecDepth 20000 in
theorem gX5_passNumber_X5_advance : GoodIn wsX5_passNumber (wsV RX5 44 RX5 yX5_advance wsX5_advance) := goodIn_app (goodIn_of _ (by decide +kernel)) ggX5_passNumber_X5_advance
theorem dX5_passNumber_0 : decode cX5_passNumber 0 = .ok (.aload_n 0, 1) := by decide +kernel
theorem dX5_passNumber_1 : decode cX5_passNumber 1 = .ok (.iload_n 1, 1) := by decide +kernel
theorem dX5_passNumber_2 : decode cX5_passNumber 2 = .ok (.invokevirtual 94, 3) := by decide +kernel
theorem dX5_passNumber_5 : decode cX5_passNumber 5 = .ok (.ifCond .ne 5, 3) := by decide +kernel
theorem dX5_passNumber_8 : decode cX5_passNumber 8 = .ok (.iconst (-1), 1) := by decide +kernel
theorem dX5_passNumber_9 : decode cX5_passNumber 9 = .ok (.ireturn, 1) := by decide +kernel
theorem dX5_passNumber_10 : decode cX5_passNumber 10 = .ok (.aload_n 0, 1) := by decide +kernel
theorem dX5_passNumber_11 : decode cX5_passNumber 11 = .ok (.getfield 60, 3) := by decide +kernel
theorem dX5_passNumber_14 : decode cX5_passNumber 14 = .ok (.istore_n 2, 1) := by decide +kernel
theorem dX5_passNumber_15 : decode cX5_passNumber 15 = .ok (.aload_n 0, 1) := by decide +kernel
theorem dX5_passNumber_16 : decode cX5_passNumber 16 = .ok (.invokevirtual 44, 3) := by decide +kernel
theorem dX5_passNumber_19 : decode cX5_passNumber 19 = .ok (.iload_n 2, 1) := by decide +kernel
theorem dX5_passNumber_20 : decode cX5_passNumber 20 = .ok (.ireturn, 1) := by decide +kernel
set_option maxRecDepth 20000 in
theorem ggX5_readFrame_X5_passWord : GoodIn wsX5_readFrame wsX5_passWord := goodIn_r _ [8, 9, 10, 11, 7, 12, 13, 14, 15, 16, 17, 18, 19, 20, 21, 22, 23, 24, 25, 26, 27, 28, 29, 30, 31, 32, 33, 34, 35, 36, 37, 38, 39, 40, 41, 42, 43, 44, 45, 46, 47, 48, 49, 50, 51, 52, 53, 54, 55, 56, 57, 58, 59, 60, 61, 62, 63, 64, 65, 66, 67, 68, 69, 70, 71, 72, 73, 74, 75, 76, 77, 78, 79, 80, 81, 82, 83, 84, 85, 86, 87, 88, 101, 102, 103, 104, 105, 106, 107, 108, 109] (by decide +kernel) (by decide +kernel)
