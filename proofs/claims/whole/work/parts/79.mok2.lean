section
set_option maxRecDepth 100000 in
theorem mo_200 : MOK 200 := mchk_ok (i1 := 1211) (q := (114, 1209, 1210)) (y := yX2_heldByHimAlone) (cc := cX2_heldByHimAlone) (n := 2) (rt := (some .int)) (st := false) rfl rfl rfl (by decide +kernel)
set_option maxRecDepth 100000 in
theorem mo_201 : MOK 201 := mchk_ok (i1 := 1202) (q := (114, 1201, 41)) (y := yX2_heldBy) (cc := cX2_heldBy) (n := 4) (rt := (some .int)) (st := false) rfl rfl rfl (by decide +kernel)
set_option maxRecDepth 100000 in
theorem mo_202 : MOK 202 := mchk_ok (i1 := 1198) (q := (114, 1196, 1197)) (y := yX2_fewestHolding) (cc := cX2_fewestHolding) (n := 6) (rt := (some .int)) (st := false) rfl rfl rfl (by decide +kernel)
set_option maxRecDepth 100000 in
theorem mo_203 : MOK 203 := mchk_ok (i1 := 259) (q := (115, 258, 0)) (y := yX3_init) (cc := cX3_init) (n := 1) (rt := none) (st := false) rfl rfl rfl (by decide +kernel)
set_option maxRecDepth 100000 in
theorem mo_204 : MOK 204 := mchk_ok (i1 := 738) (q := (115, 736, 737)) (y := yX3_begin) (cc := cX3_begin) (n := 2) (rt := none) (st := false) rfl rfl rfl (by decide +kernel)
set_option maxRecDepth 100000 in
theorem mo_205 : MOK 205 := mchk_ok (i1 := 863) (q := (115, 861, 862)) (y := yX3_likeOf) (cc := cX3_likeOf) (n := 2) (rt := none) (st := false) rfl rfl rfl (by decide +kernel)
set_option maxRecDepth 100000 in
theorem mo_206 : MOK 206 := mchk_ok (i1 := 867) (q := (115, 865, 866)) (y := yX3_likeMindOf) (cc := cX3_likeMindOf) (n := 2) (rt := none) (st := false) rfl rfl rfl (by decide +kernel)
set_option maxRecDepth 100000 in
theorem mo_207 : MOK 207 := mchk_ok (i1 := 743) (q := (115, 741, 742)) (y := yX3_setMind) (cc := cX3_setMind) (n := 4) (rt := none) (st := false) rfl rfl rfl (by decide +kernel)
set_option maxRecDepth 100000 in
theorem mo_208 : MOK 208 := mchk_ok (i1 := 781) (q := (115, 779, 780)) (y := yX3_has) (cc := cX3_has) (n := 2) (rt := (some .boolean)) (st := false) rfl rfl rfl (by decide +kernel)
set_option maxRecDepth 100000 in
theorem mo_209 : MOK 209 := mchk_ok (i1 := 765) (q := (115, 763, 764)) (y := yX3_thingAt) (cc := cX3_thingAt) (n := 2) (rt := (some .int)) (st := false) rfl rfl rfl (by decide +kernel)
set_option maxRecDepth 100000 in
theorem mo_210 : MOK 210 := mchk_ok (i1 := 892) (q := (115, 890, 891)) (y := yX3_placeOf) (cc := cX3_placeOf) (n := 3) (rt := (some .int)) (st := false) rfl rfl rfl (by decide +kernel)
set_option maxRecDepth 100000 in
theorem mo_211 : MOK 211 := mchk_ok (i1 := 777) (q := (115, 775, 776)) (y := yX3_hear) (cc := cX3_hear) (n := 2) (rt := (some .int)) (st := false) rfl rfl rfl (by decide +kernel)
set_option maxRecDepth 100000 in
theorem mo_212 : MOK 212 := mchk_ok (i1 := 785) (q := (115, 784, 14)) (y := yX3_bringForward) (cc := cX3_bringForward) (n := 7) (rt := none) (st := false) rfl rfl rfl (by decide +kernel)
set_option maxRecDepth 100000 in
theorem mo_213 : MOK 213 := mchk_ok (i1 := 790) (q := (115, 789, 15)) (y := yX3_loseLast) (cc := cX3_loseLast) (n := 2) (rt := (some .int)) (st := false) rfl rfl rfl (by decide +kernel)
set_option maxRecDepth 100000 in
theorem mo_214 : MOK 214 := mchk_ok (i1 := 799) (q := (115, 797, 798)) (y := yX3_say) (cc := cX3_say) (n := 6) (rt := (some .int)) (st := false) rfl rfl rfl (by decide +kernel)
set_option maxRecDepth 100000 in
theorem mo_215 : MOK 215 := mchk_ok (i1 := 817) (q := (115, 815, 816)) (y := yX3_walk) (cc := cX3_walk) (n := 7) (rt := (some .int)) (st := false) rfl rfl rfl (by decide +kernel)
set_option maxRecDepth 100000 in
theorem mo_216 : MOK 216 := mchk_ok (i1 := 1055) (q := (115, 1053, 1054)) (y := yX3_hearLatestOf) (cc := cX3_hearLatestOf) (n := 3) (rt := none) (st := false) rfl rfl rfl (by decide +kernel)
set_option maxRecDepth 100000 in
theorem mo_217 : MOK 217 := mchk_ok (i1 := 833) (q := (115, 831, 832)) (y := yX3_recite) (cc := cX3_recite) (n := 7) (rt := (some .int)) (st := false) rfl rfl rfl (by decide +kernel)
set_option maxRecDepth 100000 in
theorem mo_218 : MOK 218 := mchk_ok (i1 := 843) (q := (115, 841, 842)) (y := yX3_deliver) (cc := cX3_deliver) (n := 7) (rt := (some .int)) (st := false) rfl rfl rfl (by decide +kernel)
set_option maxRecDepth 100000 in
theorem mo_219 : MOK 219 := mchk_ok (i1 := 374) (q := (117, 373, 0)) (y := yX4_init) (cc := cX4_init) (n := 1) (rt := none) (st := false) rfl rfl rfl (by decide +kernel)
set_option maxRecDepth 100000 in
theorem mo_220 : MOK 220 := mchk_ok (i1 := 968) (q := (117, 966, 967)) (y := yX4_takeRow) (cc := cX4_takeRow) (n := 4) (rt := (some .boolean)) (st := false) rfl rfl rfl (by decide +kernel)
set_option maxRecDepth 100000 in
theorem mo_221 : MOK 221 := mchk_ok (i1 := 1027) (q := (117, 1025, 1026)) (y := yX4_inRow) (cc := cX4_inRow) (n := 3) (rt := (some .int)) (st := false) rfl rfl rfl (by decide +kernel)
set_option maxRecDepth 100000 in
theorem mo_222 : MOK 222 := mchk_ok (i1 := 973) (q := (117, 971, 972)) (y := yX4_newOnes) (cc := cX4_newOnes) (n := 3) (rt := (some .int)) (st := false) rfl rfl rfl (by decide +kernel)
set_option maxRecDepth 100000 in
theorem mo_223 : MOK 223 := mchk_ok (i1 := 986) (q := (117, 985, 24)) (y := yX4_newByRule) (cc := cX4_newByRule) (n := 6) (rt := (some .int)) (st := false) rfl rfl rfl (by decide +kernel)
set_option maxRecDepth 100000 in
theorem mo_224 : MOK 224 := mchk_ok (i1 := 977) (q := (117, 976, 22)) (y := yX4_newByForesight) (cc := cX4_newByForesight) (n := 5) (rt := (some .int)) (st := false) rfl rfl rfl (by decide +kernel)
set_option maxRecDepth 100000 in
theorem mo_225 : MOK 225 := mchk_ok (i1 := 982) (q := (117, 981, 23)) (y := yX4_neededLast) (cc := cX4_neededLast) (n := 4) (rt := (some .int)) (st := false) rfl rfl rfl (by decide +kernel)
set_option maxRecDepth 100000 in
theorem mo_226 : MOK 226 := mchk_ok (i1 := 1009) (q := (117, 1007, 1008)) (y := yX4_unlikeSinceLast) (cc := cX4_unlikeSinceLast) (n := 4) (rt := (some .int)) (st := false) rfl rfl rfl (by decide +kernel)
set_option maxRecDepth 100000 in
theorem mo_227 : MOK 227 := mchk_ok (i1 := 1017) (q := (117, 1015, 1016)) (y := yX4_comesThrough) (cc := cX4_comesThrough) (n := 5) (rt := (some .int)) (st := false) rfl rfl rfl (by decide +kernel)
set_option maxRecDepth 100000 in
theorem mo_228 : MOK 228 := mchk_ok (i1 := 1042) (q := (117, 1040, 1041)) (y := yX4_tellBest) (cc := cX4_tellBest) (n := 5) (rt := none) (st := false) rfl rfl rfl (by decide +kernel)
set_option maxRecDepth 100000 in
theorem mo_229 : MOK 229 := mchk_ok (i1 := 1046) (q := (117, 1045, 25)) (y := yX4_tellOn) (cc := cX4_tellOn) (n := 8) (rt := none) (st := false) rfl rfl rfl (by decide +kernel)
set_option maxRecDepth 100000 in
theorem mo_230 : MOK 230 := mchk_ok (i1 := 1050) (q := (117, 1049, 26)) (y := yX4_weighOrder) (cc := cX4_weighOrder) (n := 4) (rt := none) (st := false) rfl rfl rfl (by decide +kernel)
set_option maxRecDepth 100000 in
theorem mo_231 : MOK 231 := mchk_ok (i1 := 1062) (q := (117, 1060, 1061)) (y := yX4_answerOfTold) (cc := cX4_answerOfTold) (n := 3) (rt := (some .int)) (st := false) rfl rfl rfl (by decide +kernel)
set_option maxRecDepth 100000 in
theorem mo_232 : MOK 232 := mchk_ok (i1 := 149) (q := (112, 148, 0)) (y := yX5_init) (cc := cX5_init) (n := 1) (rt := none) (st := false) rfl rfl rfl (by decide +kernel)
set_option maxRecDepth 100000 in
theorem mo_233 : MOK 233 := mchk_ok (i1 := 568) (q := (112, 566, 567)) (y := yX5_clear) (cc := cX5_clear) (n := 1) (rt := none) (st := false) rfl rfl rfl (by decide +kernel)
set_option maxRecDepth 100000 in
theorem mo_234 : MOK 234 := mchk_ok (i1 := 699) (q := (112, 697, 698)) (y := yX5_likeOf) (cc := cX5_likeOf) (n := 2) (rt := none) (st := false) rfl rfl rfl (by decide +kernel)
set_option maxRecDepth 100000 in
theorem mo_235 : MOK 235 := mchk_ok (i1 := 714) (q := (112, 712, 713)) (y := yX5_isThing) (cc := cX5_isThing) (n := 3) (rt := (some .boolean)) (st := false) rfl rfl rfl (by decide +kernel)
set_option maxRecDepth 100000 in
theorem mo_236 : MOK 236 := mchk_ok (i1 := 722) (q := (112, 720, 721)) (y := yX5_isInn) (cc := cX5_isInn) (n := 3) (rt := (some .boolean)) (st := false) rfl rfl rfl (by decide +kernel)
set_option maxRecDepth 100000 in
theorem mo_237 : MOK 237 := mchk_ok (i1 := 1038) (q := (112, 1036, 1037)) (y := yX5_isSet) (cc := cX5_isSet) (n := 2) (rt := (some .boolean)) (st := false) rfl rfl rfl (by decide +kernel)
set_option maxRecDepth 100000 in
theorem mo_238 : MOK 238 := mchk_ok (i1 := 1095) (q := (112, 1093, 1094)) (y := yX5_allThings) (cc := cX5_allThings) (n := 1) (rt := (some .int)) (st := false) rfl rfl rfl (by decide +kernel)
set_option maxRecDepth 100000 in
theorem mo_239 : MOK 239 := mchk_ok (i1 := 726) (q := (112, 724, 725)) (y := yX5_newsAt) (cc := cX5_newsAt) (n := 3) (rt := (some .int)) (st := false) rfl rfl rfl (by decide +kernel)
set_option maxRecDepth 100000 in
theorem mo_240 : MOK 240 := mchk_ok (i1 := 691) (q := (112, 689, 690)) (y := yX5_addNews) (cc := cX5_addNews) (n := 3) (rt := (some .boolean)) (st := false) rfl rfl rfl (by decide +kernel)
set_option maxRecDepth 100000 in
theorem mo_241 : MOK 241 := mchk_ok (i1 := 876) (q := (112, 874, 875)) (y := yX5_newsOnWay) (cc := cX5_newsOnWay) (n := 8) (rt := (some .int)) (st := false) rfl rfl rfl (by decide +kernel)
set_option maxRecDepth 100000 in
theorem mo_242 : MOK 242 := mchk_ok (i1 := 761) (q := (112, 759, 760)) (y := yX5_worthOf) (cc := cX5_worthOf) (n := 4) (rt := (some .int)) (st := false) rfl rfl rfl (by decide +kernel)
set_option maxRecDepth 100000 in
theorem mo_243 : MOK 243 := mchk_ok (i1 := 851) (q := (112, 849, 850)) (y := yX5_secretPair) (cc := cX5_secretPair) (n := 5) (rt := (some .int)) (st := false) rfl rfl rfl (by decide +kernel)
set_option maxRecDepth 100000 in
theorem mo_244 : MOK 244 := mchk_ok (i1 := 1070) (q := (112, 1068, 1069)) (y := yX5_comeBack) (cc := cX5_comeBack) (n := 6) (rt := (some .int)) (st := false) rfl rfl rfl (by decide +kernel)
set_option maxRecDepth 100000 in
theorem mo_245 : MOK 245 := mchk_ok (i1 := 321) (q := (116, 320, 0)) (y := yX6_init) (cc := cX6_init) (n := 1) (rt := none) (st := false) rfl rfl rfl (by decide +kernel)
set_option maxRecDepth 100000 in
theorem mo_246 : MOK 246 := mchk_ok (i1 := 1319) (q := (116, 1317, 1318)) (y := yX6_likeOf) (cc := cX6_likeOf) (n := 2) (rt := none) (st := false) rfl rfl rfl (by decide +kernel)
set_option maxRecDepth 100000 in
theorem mo_247 : MOK 247 := mchk_ok (i1 := 1219) (q := (116, 1217, 1218)) (y := yX6_addOne) (cc := cX6_addOne) (n := 3) (rt := (some .int)) (st := false) rfl rfl rfl (by decide +kernel)
set_option maxRecDepth 100000 in
theorem mo_248 : MOK 248 := mchk_ok (i1 := 1240) (q := (116, 1239, 44)) (y := yX6_thingOf) (cc := cX6_thingOf) (n := 3) (rt := (some .int)) (st := false) rfl rfl rfl (by decide +kernel)
set_option maxRecDepth 100000 in
theorem mo_249 : MOK 249 := mchk_ok (i1 := 1278) (q := (116, 1276, 1277)) (y := yX6_inThem) (cc := cX6_inThem) (n := 4) (rt := (some .int)) (st := false) rfl rfl rfl (by decide +kernel)
set_option maxRecDepth 100000 in
theorem mo_250 : MOK 250 := mchk_ok (i1 := 1261) (q := (116, 1259, 1260)) (y := yX6_areUnfit) (cc := cX6_areUnfit) (n := 5) (rt := (some .boolean)) (st := false) rfl rfl rfl (by decide +kernel)
set_option maxRecDepth 100000 in
theorem mo_251 : MOK 251 := mchk_ok (i1 := 1265) (q := (116, 1264, 48)) (y := yX6_isTurned) (cc := cX6_isTurned) (n := 9) (rt := (some .boolean)) (st := false) rfl rfl rfl (by decide +kernel)
set_option maxRecDepth 100000 in
theorem mo_252 : MOK 252 := mchk_ok (i1 := 1269) (q := (116, 1268, 49)) (y := yX6_firstPlace) (cc := cX6_firstPlace) (n := 4) (rt := (some .int)) (st := false) rfl rfl rfl (by decide +kernel)
set_option maxRecDepth 100000 in
theorem mo_253 : MOK 253 := mchk_ok (i1 := 1228) (q := (116, 1226, 1227)) (y := yX6_join) (cc := cX6_join) (n := 4) (rt := none) (st := false) rfl rfl rfl (by decide +kernel)
set_option maxRecDepth 100000 in
theorem mo_254 : MOK 254 := mchk_ok (i1 := 1232) (q := (116, 1231, 42)) (y := yX6_isWithinAnother) (cc := cX6_isWithinAnother) (n := 5) (rt := (some .boolean)) (st := false) rfl rfl rfl (by decide +kernel)
set_option maxRecDepth 100000 in
theorem mo_255 : MOK 255 := mchk_ok (i1 := 1244) (q := (116, 1243, 45)) (y := yX6_overlapOf) (cc := cX6_overlapOf) (n := 4) (rt := (some .int)) (st := false) rfl rfl rfl (by decide +kernel)
set_option maxRecDepth 100000 in
theorem mo_256 : MOK 256 := mchk_ok (i1 := 1236) (q := (116, 1235, 43)) (y := yX6_isSame) (cc := cX6_isSame) (n := 6) (rt := (some .boolean)) (st := false) rfl rfl rfl (by decide +kernel)
set_option maxRecDepth 100000 in
theorem mo_257 : MOK 257 := mchk_ok (i1 := 1249) (q := (116, 1248, 46)) (y := yX6_joinOn) (cc := cX6_joinOn) (n := 8) (rt := none) (st := false) rfl rfl rfl (by decide +kernel)
set_option maxRecDepth 100000 in
theorem mo_258 : MOK 258 := mchk_ok (i1 := 1253) (q := (116, 1252, 47)) (y := yX6_isFirstByThings) (cc := cX6_isFirstByThings) (n := 3) (rt := (some .boolean)) (st := false) rfl rfl rfl (by decide +kernel)
set_option maxRecDepth 100000 in
theorem mo_259 : MOK 259 := mchk_ok (i1 := 143) (q := (111, 142, 0)) (y := yX7_init) (cc := cX7_init) (n := 1) (rt := none) (st := false) rfl rfl rfl (by decide +kernel)
set_option maxRecDepth 100000 in
theorem mo_260 : MOK 260 := mchk_ok (i1 := 553) (q := (111, 551, 552)) (y := yX7_putOnTape) (cc := cX7_putOnTape) (n := 3) (rt := none) (st := false) rfl rfl rfl (by decide +kernel)
set_option maxRecDepth 100000 in
theorem mo_261 : MOK 261 := mchk_ok (i1 := 561) (q := (111, 559, 560)) (y := yX7_readText) (cc := cX7_readText) (n := 3) (rt := (some .boolean)) (st := false) rfl rfl rfl (by decide +kernel)
set_option maxRecDepth 100000 in
theorem mo_262 : MOK 262 := mchk_ok (i1 := 593) (q := (111, 592, 3)) (y := yX7_fail) (cc := cX7_fail) (n := 2) (rt := (some .boolean)) (st := false) rfl rfl rfl (by decide +kernel)
set_option maxRecDepth 100000 in
theorem mo_263 : MOK 263 := mchk_ok (i1 := 589) (q := (111, 588, 2)) (y := yX7_readLine) (cc := cX7_readLine) (n := 2) (rt := (some .boolean)) (st := false) rfl rfl rfl (by decide +kernel)
set_option maxRecDepth 100000 in
theorem mo_264 : MOK 264 := mchk_ok (i1 := 597) (q := (111, 596, 4)) (y := yX7_lineHere) (cc := cX7_lineHere) (n := 1) (rt := (some .int)) (st := false) rfl rfl rfl (by decide +kernel)
set_option maxRecDepth 100000 in
theorem mo_265 : MOK 265 := mchk_ok (i1 := 659) (q := (111, 658, 6)) (y := yX7_readThings) (cc := cX7_readThings) (n := 1) (rt := (some .boolean)) (st := false) rfl rfl rfl (by decide +kernel)
set_option maxRecDepth 100000 in
theorem mo_266 : MOK 266 := mchk_ok (i1 := 675) (q := (111, 674, 10)) (y := yX7_readMind) (cc := cX7_readMind) (n := 1) (rt := (some .boolean)) (st := false) rfl rfl rfl (by decide +kernel)
set_option maxRecDepth 100000 in
theorem mo_267 : MOK 267 := mchk_ok (i1 := 679) (q := (111, 678, 11)) (y := yX7_readPair) (cc := cX7_readPair) (n := 3) (rt := (some .boolean)) (st := false) rfl rfl rfl (by decide +kernel)
set_option maxRecDepth 100000 in
theorem mo_268 : MOK 268 := mchk_ok (i1 := 683) (q := (111, 682, 12)) (y := yX7_readWorth) (cc := cX7_readWorth) (n := 2) (rt := (some .boolean)) (st := false) rfl rfl rfl (by decide +kernel)
set_option maxRecDepth 100000 in
theorem mo_269 : MOK 269 := mchk_ok (i1 := 687) (q := (111, 686, 13)) (y := yX7_readInn) (cc := cX7_readInn) (n := 3) (rt := (some .boolean)) (st := false) rfl rfl rfl (by decide +kernel)
set_option maxRecDepth 100000 in
theorem mo_270 : MOK 270 := mchk_ok (i1 := 663) (q := (111, 662, 7)) (y := yX7_readNumber) (cc := cX7_readNumber) (n := 4) (rt := (some .boolean)) (st := false) rfl rfl rfl (by decide +kernel)
set_option maxRecDepth 100000 in
theorem mo_271 : MOK 271 := mchk_ok (i1 := 667) (q := (111, 666, 8)) (y := yX7_numberStands) (cc := cX7_numberStands) (n := 4) (rt := (some .boolean)) (st := false) rfl rfl rfl (by decide +kernel)
set_option maxRecDepth 100000 in
theorem mo_272 : MOK 272 := mchk_ok (i1 := 671) (q := (111, 670, 9)) (y := yX7_readSign) (cc := cX7_readSign) (n := 1) (rt := (some .boolean)) (st := false) rfl rfl rfl (by decide +kernel)
set_option maxRecDepth 100000 in
theorem mo_273 : MOK 273 := mchk_ok (i1 := 575) (q := (111, 574, 0)) (y := yX7_nextToken) (cc := cX7_nextToken) (n := 1) (rt := none) (st := false) rfl rfl rfl (by decide +kernel)
set_option maxRecDepth 100000 in
theorem mo_274 : MOK 274 := mchk_ok (i1 := 585) (q := (111, 584, 1)) (y := yX7_takeDigits) (cc := cX7_takeDigits) (n := 1) (rt := none) (st := false) rfl rfl rfl (by decide +kernel)
set_option maxRecDepth 100000 in
theorem mo_275 : MOK 275 := mchk_ok (i1 := 602) (q := (111, 601, 5)) (y := yX7_isWord) (cc := cX7_isWord) (n := 3) (rt := (some .boolean)) (st := false) rfl rfl rfl (by decide +kernel)
set_option maxRecDepth 100000 in
theorem mo_276 : MOK 276 := mchk_ok (i1 := 578) (q := (111, 577, 0)) (y := yX7_isLetter) (cc := cX7_isLetter) (n := 1) (rt := (some .boolean)) (st := true) rfl rfl rfl (by decide +kernel)
set_option maxRecDepth 100000 in
theorem mo_277 : MOK 277 := mchk_ok (i1 := 581) (q := (111, 580, 0)) (y := yX7_isDigit) (cc := cX7_isDigit) (n := 1) (rt := (some .boolean)) (st := true) rfl rfl rfl (by decide +kernel)
set_option maxRecDepth 100000 in
theorem mo_278 : MOK 278 := mchk_ok (i1 := 485) (q := (121, 484, 0)) (y := yX8_init) (cc := cX8_init) (n := 1) (rt := none) (st := false) rfl rfl rfl (by decide +kernel)
set_option maxRecDepth 100000 in
theorem mo_279 : MOK 279 := mchk_ok (i1 := 1286) (q := (121, 1284, 1285)) (y := yX8_begin) (cc := cX8_begin) (n := 3) (rt := none) (st := false) rfl rfl rfl (by decide +kernel)
set_option maxRecDepth 100000 in
theorem mo_280 : MOK 280 := mchk_ok (i1 := 1298) (q := (121, 1296, 1297)) (y := yX8_put) (cc := cX8_put) (n := 4) (rt := (some .long)) (st := false) rfl rfl rfl (by decide +kernel)
set_option maxRecDepth 100000 in
theorem mo_281 : MOK 281 := mchk_ok (i1 := 1302) (q := (121, 1301, 50)) (y := yX8_cut) (cc := cX8_cut) (n := 3) (rt := (some .long)) (st := false) rfl rfl rfl (by decide +kernel)
set_option maxRecDepth 100000 in
theorem mo_282 : MOK 282 := mchk_ok (i1 := 418) (q := (118, 417, 0)) (y := yX9_init) (cc := cX9_init) (n := 1) (rt := none) (st := false) rfl rfl rfl (by decide +kernel)
set_option maxRecDepth 100000 in
theorem mo_283 : MOK 283 := mchk_ok (i1 := 1078) (q := (118, 1076, 1077)) (y := yX9_fewestFor) (cc := cX9_fewestFor) (n := 5) (rt := (some .int)) (st := false) rfl rfl rfl (by decide +kernel)
set_option maxRecDepth 100000 in
theorem mo_284 : MOK 284 := mchk_ok (i1 := 1082) (q := (118, 1081, 27)) (y := yX9_prepare) (cc := cX9_prepare) (n := 6) (rt := none) (st := false) rfl rfl rfl (by decide +kernel)
set_option maxRecDepth 100000 in
theorem mo_285 : MOK 285 := mchk_ok (i1 := 1091) (q := (118, 1090, 28)) (y := yX9_leastSet) (cc := cX9_leastSet) (n := 6) (rt := (some .int)) (st := false) rfl rfl rfl (by decide +kernel)
set_option maxRecDepth 100000 in
theorem mo_286 : MOK 286 := mchk_ok (i1 := 244) (q := (113, 243, 0)) (y := yX10_init) (cc := cX10_init) (n := 1) (rt := none) (st := false) rfl rfl rfl (by decide +kernel)
set_option maxRecDepth 100000 in
theorem mo_287 : MOK 287 := mchk_ok (i1 := 695) (q := (113, 693, 694)) (y := yX10_beginWith) (cc := cX10_beginWith) (n := 2) (rt := none) (st := false) rfl rfl rfl (by decide +kernel)
set_option maxRecDepth 100000 in
theorem mo_288 : MOK 288 := mchk_ok (i1 := 1314) (q := (113, 1312, 1313)) (y := yX10_likeOf) (cc := cX10_likeOf) (n := 2) (rt := none) (st := false) rfl rfl rfl (by decide +kernel)
set_option maxRecDepth 100000 in
theorem mo_289 : MOK 289 := mchk_ok (i1 := 746) (q := (130, 745, 0)) (y := yJ6_bitCount_0f7a4) (cc := cJ6_bitCount_0f7a4) (n := 1) (rt := (some .int)) (st := true) rfl rfl rfl (by decide +kernel)
set_option maxRecDepth 100000 in
theorem mo_290 : MOK 290 := mchk_ok (i1 := 571) (q := (124, 570, 0)) (y := yJ7_fill_53178) (cc := cJ7_fill_53178) (n := 4) (rt := none) (st := true) rfl rfl rfl (by decide +kernel)
set_option maxRecDepth 100000 in
theorem mo_291 : MOK 291 := mchk_ok (i1 := 1289) (q := (124, 1288, 0)) (y := yJ7_fill_d0a16) (cc := cJ7_fill_d0a16) (n := 5) (rt := none) (st := true) rfl rfl rfl (by decide +kernel)
theorem mok_all : ∀ m9, m9 < 292 → MOK m9 := by
  intro m9 h1
  have h0 : 0 ≤ m9 := Nat.zero_le _
  rcases Nat.lt_or_ge m9 146 with q | q
  · rcases Nat.lt_or_ge m9 73 with q | q
    · rcases Nat.lt_or_ge m9 36 with q | q
      · rcases Nat.lt_or_ge m9 18 with q | q
        · rcases Nat.lt_or_ge m9 9 with q | q
          · rcases Nat.lt_or_ge m9 4 with q | q
            · rcases Nat.lt_or_ge m9 2 with q | q
              · rcases Nat.lt_or_ge m9 1 with q | q
                · obtain rfl : m9 = 0 := by omega
                  exact mo_0
                · obtain rfl : m9 = 1 := by omega
                  exact mo_1
              · rcases Nat.lt_or_ge m9 3 with q | q
                · obtain rfl : m9 = 2 := by omega
                  exact mo_2
                · obtain rfl : m9 = 3 := by omega
                  exact mo_3
            · rcases Nat.lt_or_ge m9 6 with q | q
              · rcases Nat.lt_or_ge m9 5 with q | q
                · obtain rfl : m9 = 4 := by omega
                  exact mo_4
                · obtain rfl : m9 = 5 := by omega
                  exact mo_5
              · rcases Nat.lt_or_ge m9 7 with q | q
                · obtain rfl : m9 = 6 := by omega
                  exact mo_6
                · rcases Nat.lt_or_ge m9 8 with q | q
                  · obtain rfl : m9 = 7 := by omega
                    exact mo_7
                  · obtain rfl : m9 = 8 := by omega
                    exact mo_8
          · rcases Nat.lt_or_ge m9 13 with q | q
            · rcases Nat.lt_or_ge m9 11 with q | q
              · rcases Nat.lt_or_ge m9 10 with q | q
                · obtain rfl : m9 = 9 := by omega
                  exact mo_9
                · obtain rfl : m9 = 10 := by omega
                  exact mo_10
              · rcases Nat.lt_or_ge m9 12 with q | q
                · obtain rfl : m9 = 11 := by omega
                  exact mo_11
                · obtain rfl : m9 = 12 := by omega
                  exact mo_12
            · rcases Nat.lt_or_ge m9 15 with q | q
              · rcases Nat.lt_or_ge m9 14 with q | q
                · obtain rfl : m9 = 13 := by omega
                  exact mo_13
                · obtain rfl : m9 = 14 := by omega
                  exact mo_14
              · rcases Nat.lt_or_ge m9 16 with q | q
                · obtain rfl : m9 = 15 := by omega
                  exact mo_15
                · rcases Nat.lt_or_ge m9 17 with q | q
                  · obtain rfl : m9 = 16 := by omega
                    exact mo_16
                  · obtain rfl : m9 = 17 := by omega
                    exact mo_17
        · rcases Nat.lt_or_ge m9 27 with q | q
          · rcases Nat.lt_or_ge m9 22 with q | q
            · rcases Nat.lt_or_ge m9 20 with q | q
              · rcases Nat.lt_or_ge m9 19 with q | q
                · obtain rfl : m9 = 18 := by omega
                  exact mo_18
                · obtain rfl : m9 = 19 := by omega
                  exact mo_19
              · rcases Nat.lt_or_ge m9 21 with q | q
                · obtain rfl : m9 = 20 := by omega
                  exact mo_20
                · obtain rfl : m9 = 21 := by omega
                  exact mo_21
            · rcases Nat.lt_or_ge m9 24 with q | q
              · rcases Nat.lt_or_ge m9 23 with q | q
                · obtain rfl : m9 = 22 := by omega
                  exact mo_22
                · obtain rfl : m9 = 23 := by omega
                  exact mo_23
              · rcases Nat.lt_or_ge m9 25 with q | q
                · obtain rfl : m9 = 24 := by omega
                  exact mo_24
                · rcases Nat.lt_or_ge m9 26 with q | q
                  · obtain rfl : m9 = 25 := by omega
                    exact mo_25
                  · obtain rfl : m9 = 26 := by omega
                    exact mo_26
          · rcases Nat.lt_or_ge m9 31 with q | q
            · rcases Nat.lt_or_ge m9 29 with q | q
              · rcases Nat.lt_or_ge m9 28 with q | q
                · obtain rfl : m9 = 27 := by omega
                  exact mo_27
                · obtain rfl : m9 = 28 := by omega
                  exact mo_28
              · rcases Nat.lt_or_ge m9 30 with q | q
                · obtain rfl : m9 = 29 := by omega
                  exact mo_29
                · obtain rfl : m9 = 30 := by omega
                  exact mo_30
            · rcases Nat.lt_or_ge m9 33 with q | q
              · rcases Nat.lt_or_ge m9 32 with q | q
                · obtain rfl : m9 = 31 := by omega
                  exact mo_31
                · obtain rfl : m9 = 32 := by omega
                  exact mo_32
              · rcases Nat.lt_or_ge m9 34 with q | q
                · obtain rfl : m9 = 33 := by omega
                  exact mo_33
                · rcases Nat.lt_or_ge m9 35 with q | q
                  · obtain rfl : m9 = 34 := by omega
                    exact mo_34
                  · obtain rfl : m9 = 35 := by omega
                    exact mo_35
      · rcases Nat.lt_or_ge m9 54 with q | q
        · rcases Nat.lt_or_ge m9 45 with q | q
          · rcases Nat.lt_or_ge m9 40 with q | q
            · rcases Nat.lt_or_ge m9 38 with q | q
              · rcases Nat.lt_or_ge m9 37 with q | q
                · obtain rfl : m9 = 36 := by omega
                  exact mo_36
                · obtain rfl : m9 = 37 := by omega
                  exact mo_37
              · rcases Nat.lt_or_ge m9 39 with q | q
                · obtain rfl : m9 = 38 := by omega
                  exact mo_38
                · obtain rfl : m9 = 39 := by omega
                  exact mo_39
            · rcases Nat.lt_or_ge m9 42 with q | q
              · rcases Nat.lt_or_ge m9 41 with q | q
                · obtain rfl : m9 = 40 := by omega
                  exact mo_40
                · obtain rfl : m9 = 41 := by omega
                  exact mo_41
              · rcases Nat.lt_or_ge m9 43 with q | q
                · obtain rfl : m9 = 42 := by omega
                  exact mo_42
                · rcases Nat.lt_or_ge m9 44 with q | q
                  · obtain rfl : m9 = 43 := by omega
                    exact mo_43
                  · obtain rfl : m9 = 44 := by omega
                    exact mo_44
          · rcases Nat.lt_or_ge m9 49 with q | q
            · rcases Nat.lt_or_ge m9 47 with q | q
              · rcases Nat.lt_or_ge m9 46 with q | q
                · obtain rfl : m9 = 45 := by omega
                  exact mo_45
                · obtain rfl : m9 = 46 := by omega
                  exact mo_46
              · rcases Nat.lt_or_ge m9 48 with q | q
                · obtain rfl : m9 = 47 := by omega
                  exact mo_47
                · obtain rfl : m9 = 48 := by omega
                  exact mo_48
            · rcases Nat.lt_or_ge m9 51 with q | q
              · rcases Nat.lt_or_ge m9 50 with q | q
                · obtain rfl : m9 = 49 := by omega
                  exact mo_49
                · obtain rfl : m9 = 50 := by omega
                  exact mo_50
              · rcases Nat.lt_or_ge m9 52 with q | q
                · obtain rfl : m9 = 51 := by omega
                  exact mo_51
                · rcases Nat.lt_or_ge m9 53 with q | q
                  · obtain rfl : m9 = 52 := by omega
                    exact mo_52
                  · obtain rfl : m9 = 53 := by omega
                    exact mo_53
        · rcases Nat.lt_or_ge m9 63 with q | q
          · rcases Nat.lt_or_ge m9 58 with q | q
            · rcases Nat.lt_or_ge m9 56 with q | q
              · rcases Nat.lt_or_ge m9 55 with q | q
                · obtain rfl : m9 = 54 := by omega
                  exact mo_54
                · obtain rfl : m9 = 55 := by omega
                  exact mo_55
              · rcases Nat.lt_or_ge m9 57 with q | q
                · obtain rfl : m9 = 56 := by omega
                  exact mo_56
                · obtain rfl : m9 = 57 := by omega
                  exact mo_57
            · rcases Nat.lt_or_ge m9 60 with q | q
              · rcases Nat.lt_or_ge m9 59 with q | q
                · obtain rfl : m9 = 58 := by omega
                  exact mo_58
                · obtain rfl : m9 = 59 := by omega
                  exact mo_59
              · rcases Nat.lt_or_ge m9 61 with q | q
                · obtain rfl : m9 = 60 := by omega
                  exact mo_60
                · rcases Nat.lt_or_ge m9 62 with q | q
                  · obtain rfl : m9 = 61 := by omega
                    exact mo_61
                  · obtain rfl : m9 = 62 := by omega
                    exact mo_62
          · rcases Nat.lt_or_ge m9 68 with q | q
            · rcases Nat.lt_or_ge m9 65 with q | q
              · rcases Nat.lt_or_ge m9 64 with q | q
                · obtain rfl : m9 = 63 := by omega
                  exact mo_63
                · obtain rfl : m9 = 64 := by omega
                  exact mo_64
              · rcases Nat.lt_or_ge m9 66 with q | q
                · obtain rfl : m9 = 65 := by omega
                  exact mo_65
                · rcases Nat.lt_or_ge m9 67 with q | q
                  · obtain rfl : m9 = 66 := by omega
                    exact mo_66
                  · obtain rfl : m9 = 67 := by omega
                    exact mo_67
            · rcases Nat.lt_or_ge m9 70 with q | q
              · rcases Nat.lt_or_ge m9 69 with q | q
                · obtain rfl : m9 = 68 := by omega
                  exact mo_68
                · obtain rfl : m9 = 69 := by omega
                  exact mo_69
              · rcases Nat.lt_or_ge m9 71 with q | q
                · obtain rfl : m9 = 70 := by omega
                  exact mo_70
                · rcases Nat.lt_or_ge m9 72 with q | q
                  · obtain rfl : m9 = 71 := by omega
                    exact mo_71
                  · obtain rfl : m9 = 72 := by omega
                    exact mo_72
    · rcases Nat.lt_or_ge m9 109 with q | q
      · rcases Nat.lt_or_ge m9 91 with q | q
        · rcases Nat.lt_or_ge m9 82 with q | q
          · rcases Nat.lt_or_ge m9 77 with q | q
            · rcases Nat.lt_or_ge m9 75 with q | q
              · rcases Nat.lt_or_ge m9 74 with q | q
                · obtain rfl : m9 = 73 := by omega
                  exact mo_73
                · obtain rfl : m9 = 74 := by omega
                  exact mo_74
              · rcases Nat.lt_or_ge m9 76 with q | q
                · obtain rfl : m9 = 75 := by omega
                  exact mo_75
                · obtain rfl : m9 = 76 := by omega
                  exact mo_76
            · rcases Nat.lt_or_ge m9 79 with q | q
              · rcases Nat.lt_or_ge m9 78 with q | q
                · obtain rfl : m9 = 77 := by omega
                  exact mo_77
                · obtain rfl : m9 = 78 := by omega
                  exact mo_78
              · rcases Nat.lt_or_ge m9 80 with q | q
                · obtain rfl : m9 = 79 := by omega
                  exact mo_79
                · rcases Nat.lt_or_ge m9 81 with q | q
                  · obtain rfl : m9 = 80 := by omega
                    exact mo_80
                  · obtain rfl : m9 = 81 := by omega
                    exact mo_81
          · rcases Nat.lt_or_ge m9 86 with q | q
            · rcases Nat.lt_or_ge m9 84 with q | q
              · rcases Nat.lt_or_ge m9 83 with q | q
                · obtain rfl : m9 = 82 := by omega
                  exact mo_82
                · obtain rfl : m9 = 83 := by omega
                  exact mo_83
              · rcases Nat.lt_or_ge m9 85 with q | q
                · obtain rfl : m9 = 84 := by omega
                  exact mo_84
                · obtain rfl : m9 = 85 := by omega
                  exact mo_85
            · rcases Nat.lt_or_ge m9 88 with q | q
              · rcases Nat.lt_or_ge m9 87 with q | q
                · obtain rfl : m9 = 86 := by omega
                  exact mo_86
                · obtain rfl : m9 = 87 := by omega
                  exact mo_87
              · rcases Nat.lt_or_ge m9 89 with q | q
                · obtain rfl : m9 = 88 := by omega
                  exact mo_88
                · rcases Nat.lt_or_ge m9 90 with q | q
                  · obtain rfl : m9 = 89 := by omega
                    exact mo_89
                  · obtain rfl : m9 = 90 := by omega
                    exact mo_90
        · rcases Nat.lt_or_ge m9 100 with q | q
          · rcases Nat.lt_or_ge m9 95 with q | q
            · rcases Nat.lt_or_ge m9 93 with q | q
              · rcases Nat.lt_or_ge m9 92 with q | q
                · obtain rfl : m9 = 91 := by omega
                  exact mo_91
                · obtain rfl : m9 = 92 := by omega
                  exact mo_92
              · rcases Nat.lt_or_ge m9 94 with q | q
                · obtain rfl : m9 = 93 := by omega
                  exact mo_93
                · obtain rfl : m9 = 94 := by omega
                  exact mo_94
            · rcases Nat.lt_or_ge m9 97 with q | q
              · rcases Nat.lt_or_ge m9 96 with q | q
                · obtain rfl : m9 = 95 := by omega
                  exact mo_95
                · obtain rfl : m9 = 96 := by omega
                  exact mo_96
              · rcases Nat.lt_or_ge m9 98 with q | q
                · obtain rfl : m9 = 97 := by omega
                  exact mo_97
                · rcases Nat.lt_or_ge m9 99 with q | q
                  · obtain rfl : m9 = 98 := by omega
                    exact mo_98
                  · obtain rfl : m9 = 99 := by omega
                    exact mo_99
          · rcases Nat.lt_or_ge m9 104 with q | q
            · rcases Nat.lt_or_ge m9 102 with q | q
              · rcases Nat.lt_or_ge m9 101 with q | q
                · obtain rfl : m9 = 100 := by omega
                  exact mo_100
                · obtain rfl : m9 = 101 := by omega
                  exact mo_101
              · rcases Nat.lt_or_ge m9 103 with q | q
                · obtain rfl : m9 = 102 := by omega
                  exact mo_102
                · obtain rfl : m9 = 103 := by omega
                  exact mo_103
            · rcases Nat.lt_or_ge m9 106 with q | q
              · rcases Nat.lt_or_ge m9 105 with q | q
                · obtain rfl : m9 = 104 := by omega
                  exact mo_104
                · obtain rfl : m9 = 105 := by omega
                  exact mo_105
              · rcases Nat.lt_or_ge m9 107 with q | q
                · obtain rfl : m9 = 106 := by omega
                  exact mo_106
                · rcases Nat.lt_or_ge m9 108 with q | q
                  · obtain rfl : m9 = 107 := by omega
                    exact mo_107
                  · obtain rfl : m9 = 108 := by omega
                    exact mo_108
      · rcases Nat.lt_or_ge m9 127 with q | q
        · rcases Nat.lt_or_ge m9 118 with q | q
          · rcases Nat.lt_or_ge m9 113 with q | q
            · rcases Nat.lt_or_ge m9 111 with q | q
              · rcases Nat.lt_or_ge m9 110 with q | q
                · obtain rfl : m9 = 109 := by omega
                  exact mo_109
                · obtain rfl : m9 = 110 := by omega
                  exact mo_110
              · rcases Nat.lt_or_ge m9 112 with q | q
                · obtain rfl : m9 = 111 := by omega
                  exact mo_111
                · obtain rfl : m9 = 112 := by omega
                  exact mo_112
            · rcases Nat.lt_or_ge m9 115 with q | q
              · rcases Nat.lt_or_ge m9 114 with q | q
                · obtain rfl : m9 = 113 := by omega
                  exact mo_113
                · obtain rfl : m9 = 114 := by omega
                  exact mo_114
              · rcases Nat.lt_or_ge m9 116 with q | q
                · obtain rfl : m9 = 115 := by omega
                  exact mo_115
                · rcases Nat.lt_or_ge m9 117 with q | q
                  · obtain rfl : m9 = 116 := by omega
                    exact mo_116
                  · obtain rfl : m9 = 117 := by omega
                    exact mo_117
          · rcases Nat.lt_or_ge m9 122 with q | q
            · rcases Nat.lt_or_ge m9 120 with q | q
              · rcases Nat.lt_or_ge m9 119 with q | q
                · obtain rfl : m9 = 118 := by omega
                  exact mo_118
                · obtain rfl : m9 = 119 := by omega
                  exact mo_119
              · rcases Nat.lt_or_ge m9 121 with q | q
                · obtain rfl : m9 = 120 := by omega
                  exact mo_120
                · obtain rfl : m9 = 121 := by omega
                  exact mo_121
            · rcases Nat.lt_or_ge m9 124 with q | q
              · rcases Nat.lt_or_ge m9 123 with q | q
                · obtain rfl : m9 = 122 := by omega
                  exact mo_122
                · obtain rfl : m9 = 123 := by omega
                  exact mo_123
              · rcases Nat.lt_or_ge m9 125 with q | q
                · obtain rfl : m9 = 124 := by omega
                  exact mo_124
                · rcases Nat.lt_or_ge m9 126 with q | q
                  · obtain rfl : m9 = 125 := by omega
                    exact mo_125
                  · obtain rfl : m9 = 126 := by omega
                    exact mo_126
        · rcases Nat.lt_or_ge m9 136 with q | q
          · rcases Nat.lt_or_ge m9 131 with q | q
            · rcases Nat.lt_or_ge m9 129 with q | q
              · rcases Nat.lt_or_ge m9 128 with q | q
                · obtain rfl : m9 = 127 := by omega
                  exact mo_127
                · obtain rfl : m9 = 128 := by omega
                  exact mo_128
              · rcases Nat.lt_or_ge m9 130 with q | q
                · obtain rfl : m9 = 129 := by omega
                  exact mo_129
                · obtain rfl : m9 = 130 := by omega
                  exact mo_130
            · rcases Nat.lt_or_ge m9 133 with q | q
              · rcases Nat.lt_or_ge m9 132 with q | q
                · obtain rfl : m9 = 131 := by omega
                  exact mo_131
                · obtain rfl : m9 = 132 := by omega
                  exact mo_132
              · rcases Nat.lt_or_ge m9 134 with q | q
                · obtain rfl : m9 = 133 := by omega
                  exact mo_133
                · rcases Nat.lt_or_ge m9 135 with q | q
                  · obtain rfl : m9 = 134 := by omega
                    exact mo_134
                  · obtain rfl : m9 = 135 := by omega
                    exact mo_135
          · rcases Nat.lt_or_ge m9 141 with q | q
            · rcases Nat.lt_or_ge m9 138 with q | q
              · rcases Nat.lt_or_ge m9 137 with q | q
                · obtain rfl : m9 = 136 := by omega
                  exact mo_136
                · obtain rfl : m9 = 137 := by omega
                  exact mo_137
              · rcases Nat.lt_or_ge m9 139 with q | q
                · obtain rfl : m9 = 138 := by omega
                  exact mo_138
                · rcases Nat.lt_or_ge m9 140 with q | q
                  · obtain rfl : m9 = 139 := by omega
                    exact mo_139
                  · obtain rfl : m9 = 140 := by omega
                    exact mo_140
            · rcases Nat.lt_or_ge m9 143 with q | q
              · rcases Nat.lt_or_ge m9 142 with q | q
                · obtain rfl : m9 = 141 := by omega
                  exact mo_141
                · obtain rfl : m9 = 142 := by omega
                  exact mo_142
              · rcases Nat.lt_or_ge m9 144 with q | q
                · obtain rfl : m9 = 143 := by omega
                  exact mo_143
                · rcases Nat.lt_or_ge m9 145 with q | q
                  · obtain rfl : m9 = 144 := by omega
                    exact mo_144
                  · obtain rfl : m9 = 145 := by omega
                    exact mo_145
  · rcases Nat.lt_or_ge m9 219 with q | q
    · rcases Nat.lt_or_ge m9 182 with q | q
      · rcases Nat.lt_or_ge m9 164 with q | q
        · rcases Nat.lt_or_ge m9 155 with q | q
          · rcases Nat.lt_or_ge m9 150 with q | q
            · rcases Nat.lt_or_ge m9 148 with q | q
              · rcases Nat.lt_or_ge m9 147 with q | q
                · obtain rfl : m9 = 146 := by omega
                  exact mo_146
                · obtain rfl : m9 = 147 := by omega
                  exact mo_147
              · rcases Nat.lt_or_ge m9 149 with q | q
                · obtain rfl : m9 = 148 := by omega
                  exact mo_148
                · obtain rfl : m9 = 149 := by omega
                  exact mo_149
            · rcases Nat.lt_or_ge m9 152 with q | q
              · rcases Nat.lt_or_ge m9 151 with q | q
                · obtain rfl : m9 = 150 := by omega
                  exact mo_150
                · obtain rfl : m9 = 151 := by omega
                  exact mo_151
              · rcases Nat.lt_or_ge m9 153 with q | q
                · obtain rfl : m9 = 152 := by omega
                  exact mo_152
                · rcases Nat.lt_or_ge m9 154 with q | q
                  · obtain rfl : m9 = 153 := by omega
                    exact mo_153
                  · obtain rfl : m9 = 154 := by omega
                    exact mo_154
          · rcases Nat.lt_or_ge m9 159 with q | q
            · rcases Nat.lt_or_ge m9 157 with q | q
              · rcases Nat.lt_or_ge m9 156 with q | q
                · obtain rfl : m9 = 155 := by omega
                  exact mo_155
                · obtain rfl : m9 = 156 := by omega
                  exact mo_156
              · rcases Nat.lt_or_ge m9 158 with q | q
                · obtain rfl : m9 = 157 := by omega
                  exact mo_157
                · obtain rfl : m9 = 158 := by omega
                  exact mo_158
            · rcases Nat.lt_or_ge m9 161 with q | q
              · rcases Nat.lt_or_ge m9 160 with q | q
                · obtain rfl : m9 = 159 := by omega
                  exact mo_159
                · obtain rfl : m9 = 160 := by omega
                  exact mo_160
              · rcases Nat.lt_or_ge m9 162 with q | q
                · obtain rfl : m9 = 161 := by omega
                  exact mo_161
                · rcases Nat.lt_or_ge m9 163 with q | q
                  · obtain rfl : m9 = 162 := by omega
                    exact mo_162
                  · obtain rfl : m9 = 163 := by omega
                    exact mo_163
        · rcases Nat.lt_or_ge m9 173 with q | q
          · rcases Nat.lt_or_ge m9 168 with q | q
            · rcases Nat.lt_or_ge m9 166 with q | q
              · rcases Nat.lt_or_ge m9 165 with q | q
                · obtain rfl : m9 = 164 := by omega
                  exact mo_164
                · obtain rfl : m9 = 165 := by omega
                  exact mo_165
              · rcases Nat.lt_or_ge m9 167 with q | q
                · obtain rfl : m9 = 166 := by omega
                  exact mo_166
                · obtain rfl : m9 = 167 := by omega
                  exact mo_167
            · rcases Nat.lt_or_ge m9 170 with q | q
              · rcases Nat.lt_or_ge m9 169 with q | q
                · obtain rfl : m9 = 168 := by omega
                  exact mo_168
                · obtain rfl : m9 = 169 := by omega
                  exact mo_169
              · rcases Nat.lt_or_ge m9 171 with q | q
                · obtain rfl : m9 = 170 := by omega
                  exact mo_170
                · rcases Nat.lt_or_ge m9 172 with q | q
                  · obtain rfl : m9 = 171 := by omega
                    exact mo_171
                  · obtain rfl : m9 = 172 := by omega
                    exact mo_172
          · rcases Nat.lt_or_ge m9 177 with q | q
            · rcases Nat.lt_or_ge m9 175 with q | q
              · rcases Nat.lt_or_ge m9 174 with q | q
                · obtain rfl : m9 = 173 := by omega
                  exact mo_173
                · obtain rfl : m9 = 174 := by omega
                  exact mo_174
              · rcases Nat.lt_or_ge m9 176 with q | q
                · obtain rfl : m9 = 175 := by omega
                  exact mo_175
                · obtain rfl : m9 = 176 := by omega
                  exact mo_176
            · rcases Nat.lt_or_ge m9 179 with q | q
              · rcases Nat.lt_or_ge m9 178 with q | q
                · obtain rfl : m9 = 177 := by omega
                  exact mo_177
                · obtain rfl : m9 = 178 := by omega
                  exact mo_178
              · rcases Nat.lt_or_ge m9 180 with q | q
                · obtain rfl : m9 = 179 := by omega
                  exact mo_179
                · rcases Nat.lt_or_ge m9 181 with q | q
                  · obtain rfl : m9 = 180 := by omega
                    exact mo_180
                  · obtain rfl : m9 = 181 := by omega
                    exact mo_181
      · rcases Nat.lt_or_ge m9 200 with q | q
        · rcases Nat.lt_or_ge m9 191 with q | q
          · rcases Nat.lt_or_ge m9 186 with q | q
            · rcases Nat.lt_or_ge m9 184 with q | q
              · rcases Nat.lt_or_ge m9 183 with q | q
                · obtain rfl : m9 = 182 := by omega
                  exact mo_182
                · obtain rfl : m9 = 183 := by omega
                  exact mo_183
              · rcases Nat.lt_or_ge m9 185 with q | q
                · obtain rfl : m9 = 184 := by omega
                  exact mo_184
                · obtain rfl : m9 = 185 := by omega
                  exact mo_185
            · rcases Nat.lt_or_ge m9 188 with q | q
              · rcases Nat.lt_or_ge m9 187 with q | q
                · obtain rfl : m9 = 186 := by omega
                  exact mo_186
                · obtain rfl : m9 = 187 := by omega
                  exact mo_187
              · rcases Nat.lt_or_ge m9 189 with q | q
                · obtain rfl : m9 = 188 := by omega
                  exact mo_188
                · rcases Nat.lt_or_ge m9 190 with q | q
                  · obtain rfl : m9 = 189 := by omega
                    exact mo_189
                  · obtain rfl : m9 = 190 := by omega
                    exact mo_190
          · rcases Nat.lt_or_ge m9 195 with q | q
            · rcases Nat.lt_or_ge m9 193 with q | q
              · rcases Nat.lt_or_ge m9 192 with q | q
                · obtain rfl : m9 = 191 := by omega
                  exact mo_191
                · obtain rfl : m9 = 192 := by omega
                  exact mo_192
              · rcases Nat.lt_or_ge m9 194 with q | q
                · obtain rfl : m9 = 193 := by omega
                  exact mo_193
                · obtain rfl : m9 = 194 := by omega
                  exact mo_194
            · rcases Nat.lt_or_ge m9 197 with q | q
              · rcases Nat.lt_or_ge m9 196 with q | q
                · obtain rfl : m9 = 195 := by omega
                  exact mo_195
                · obtain rfl : m9 = 196 := by omega
                  exact mo_196
              · rcases Nat.lt_or_ge m9 198 with q | q
                · obtain rfl : m9 = 197 := by omega
                  exact mo_197
                · rcases Nat.lt_or_ge m9 199 with q | q
                  · obtain rfl : m9 = 198 := by omega
                    exact mo_198
                  · obtain rfl : m9 = 199 := by omega
                    exact mo_199
        · rcases Nat.lt_or_ge m9 209 with q | q
          · rcases Nat.lt_or_ge m9 204 with q | q
            · rcases Nat.lt_or_ge m9 202 with q | q
              · rcases Nat.lt_or_ge m9 201 with q | q
                · obtain rfl : m9 = 200 := by omega
                  exact mo_200
                · obtain rfl : m9 = 201 := by omega
                  exact mo_201
              · rcases Nat.lt_or_ge m9 203 with q | q
                · obtain rfl : m9 = 202 := by omega
                  exact mo_202
                · obtain rfl : m9 = 203 := by omega
                  exact mo_203
            · rcases Nat.lt_or_ge m9 206 with q | q
              · rcases Nat.lt_or_ge m9 205 with q | q
                · obtain rfl : m9 = 204 := by omega
                  exact mo_204
                · obtain rfl : m9 = 205 := by omega
                  exact mo_205
              · rcases Nat.lt_or_ge m9 207 with q | q
                · obtain rfl : m9 = 206 := by omega
                  exact mo_206
                · rcases Nat.lt_or_ge m9 208 with q | q
                  · obtain rfl : m9 = 207 := by omega
                    exact mo_207
                  · obtain rfl : m9 = 208 := by omega
                    exact mo_208
          · rcases Nat.lt_or_ge m9 214 with q | q
            · rcases Nat.lt_or_ge m9 211 with q | q
              · rcases Nat.lt_or_ge m9 210 with q | q
                · obtain rfl : m9 = 209 := by omega
                  exact mo_209
                · obtain rfl : m9 = 210 := by omega
                  exact mo_210
              · rcases Nat.lt_or_ge m9 212 with q | q
                · obtain rfl : m9 = 211 := by omega
                  exact mo_211
                · rcases Nat.lt_or_ge m9 213 with q | q
                  · obtain rfl : m9 = 212 := by omega
                    exact mo_212
                  · obtain rfl : m9 = 213 := by omega
                    exact mo_213
            · rcases Nat.lt_or_ge m9 216 with q | q
              · rcases Nat.lt_or_ge m9 215 with q | q
                · obtain rfl : m9 = 214 := by omega
                  exact mo_214
                · obtain rfl : m9 = 215 := by omega
                  exact mo_215
              · rcases Nat.lt_or_ge m9 217 with q | q
                · obtain rfl : m9 = 216 := by omega
                  exact mo_216
                · rcases Nat.lt_or_ge m9 218 with q | q
                  · obtain rfl : m9 = 217 := by omega
                    exact mo_217
                  · obtain rfl : m9 = 218 := by omega
                    exact mo_218
    · rcases Nat.lt_or_ge m9 255 with q | q
      · rcases Nat.lt_or_ge m9 237 with q | q
        · rcases Nat.lt_or_ge m9 228 with q | q
          · rcases Nat.lt_or_ge m9 223 with q | q
            · rcases Nat.lt_or_ge m9 221 with q | q
              · rcases Nat.lt_or_ge m9 220 with q | q
                · obtain rfl : m9 = 219 := by omega
                  exact mo_219
                · obtain rfl : m9 = 220 := by omega
                  exact mo_220
              · rcases Nat.lt_or_ge m9 222 with q | q
                · obtain rfl : m9 = 221 := by omega
                  exact mo_221
                · obtain rfl : m9 = 222 := by omega
                  exact mo_222
            · rcases Nat.lt_or_ge m9 225 with q | q
              · rcases Nat.lt_or_ge m9 224 with q | q
                · obtain rfl : m9 = 223 := by omega
                  exact mo_223
                · obtain rfl : m9 = 224 := by omega
                  exact mo_224
              · rcases Nat.lt_or_ge m9 226 with q | q
                · obtain rfl : m9 = 225 := by omega
                  exact mo_225
                · rcases Nat.lt_or_ge m9 227 with q | q
                  · obtain rfl : m9 = 226 := by omega
                    exact mo_226
                  · obtain rfl : m9 = 227 := by omega
                    exact mo_227
          · rcases Nat.lt_or_ge m9 232 with q | q
            · rcases Nat.lt_or_ge m9 230 with q | q
              · rcases Nat.lt_or_ge m9 229 with q | q
                · obtain rfl : m9 = 228 := by omega
                  exact mo_228
                · obtain rfl : m9 = 229 := by omega
                  exact mo_229
              · rcases Nat.lt_or_ge m9 231 with q | q
                · obtain rfl : m9 = 230 := by omega
                  exact mo_230
                · obtain rfl : m9 = 231 := by omega
                  exact mo_231
            · rcases Nat.lt_or_ge m9 234 with q | q
              · rcases Nat.lt_or_ge m9 233 with q | q
                · obtain rfl : m9 = 232 := by omega
                  exact mo_232
                · obtain rfl : m9 = 233 := by omega
                  exact mo_233
              · rcases Nat.lt_or_ge m9 235 with q | q
                · obtain rfl : m9 = 234 := by omega
                  exact mo_234
                · rcases Nat.lt_or_ge m9 236 with q | q
                  · obtain rfl : m9 = 235 := by omega
                    exact mo_235
                  · obtain rfl : m9 = 236 := by omega
                    exact mo_236
        · rcases Nat.lt_or_ge m9 246 with q | q
          · rcases Nat.lt_or_ge m9 241 with q | q
            · rcases Nat.lt_or_ge m9 239 with q | q
              · rcases Nat.lt_or_ge m9 238 with q | q
                · obtain rfl : m9 = 237 := by omega
                  exact mo_237
                · obtain rfl : m9 = 238 := by omega
                  exact mo_238
              · rcases Nat.lt_or_ge m9 240 with q | q
                · obtain rfl : m9 = 239 := by omega
                  exact mo_239
                · obtain rfl : m9 = 240 := by omega
                  exact mo_240
            · rcases Nat.lt_or_ge m9 243 with q | q
              · rcases Nat.lt_or_ge m9 242 with q | q
                · obtain rfl : m9 = 241 := by omega
                  exact mo_241
                · obtain rfl : m9 = 242 := by omega
                  exact mo_242
              · rcases Nat.lt_or_ge m9 244 with q | q
                · obtain rfl : m9 = 243 := by omega
                  exact mo_243
                · rcases Nat.lt_or_ge m9 245 with q | q
                  · obtain rfl : m9 = 244 := by omega
                    exact mo_244
                  · obtain rfl : m9 = 245 := by omega
                    exact mo_245
          · rcases Nat.lt_or_ge m9 250 with q | q
            · rcases Nat.lt_or_ge m9 248 with q | q
              · rcases Nat.lt_or_ge m9 247 with q | q
                · obtain rfl : m9 = 246 := by omega
                  exact mo_246
                · obtain rfl : m9 = 247 := by omega
                  exact mo_247
              · rcases Nat.lt_or_ge m9 249 with q | q
                · obtain rfl : m9 = 248 := by omega
                  exact mo_248
                · obtain rfl : m9 = 249 := by omega
                  exact mo_249
            · rcases Nat.lt_or_ge m9 252 with q | q
              · rcases Nat.lt_or_ge m9 251 with q | q
                · obtain rfl : m9 = 250 := by omega
                  exact mo_250
                · obtain rfl : m9 = 251 := by omega
                  exact mo_251
              · rcases Nat.lt_or_ge m9 253 with q | q
                · obtain rfl : m9 = 252 := by omega
                  exact mo_252
                · rcases Nat.lt_or_ge m9 254 with q | q
                  · obtain rfl : m9 = 253 := by omega
                    exact mo_253
                  · obtain rfl : m9 = 254 := by omega
                    exact mo_254
      · rcases Nat.lt_or_ge m9 273 with q | q
        · rcases Nat.lt_or_ge m9 264 with q | q
          · rcases Nat.lt_or_ge m9 259 with q | q
            · rcases Nat.lt_or_ge m9 257 with q | q
              · rcases Nat.lt_or_ge m9 256 with q | q
                · obtain rfl : m9 = 255 := by omega
                  exact mo_255
                · obtain rfl : m9 = 256 := by omega
                  exact mo_256
              · rcases Nat.lt_or_ge m9 258 with q | q
                · obtain rfl : m9 = 257 := by omega
                  exact mo_257
                · obtain rfl : m9 = 258 := by omega
                  exact mo_258
            · rcases Nat.lt_or_ge m9 261 with q | q
              · rcases Nat.lt_or_ge m9 260 with q | q
                · obtain rfl : m9 = 259 := by omega
                  exact mo_259
                · obtain rfl : m9 = 260 := by omega
                  exact mo_260
              · rcases Nat.lt_or_ge m9 262 with q | q
                · obtain rfl : m9 = 261 := by omega
                  exact mo_261
                · rcases Nat.lt_or_ge m9 263 with q | q
                  · obtain rfl : m9 = 262 := by omega
                    exact mo_262
                  · obtain rfl : m9 = 263 := by omega
                    exact mo_263
          · rcases Nat.lt_or_ge m9 268 with q | q
            · rcases Nat.lt_or_ge m9 266 with q | q
              · rcases Nat.lt_or_ge m9 265 with q | q
                · obtain rfl : m9 = 264 := by omega
                  exact mo_264
                · obtain rfl : m9 = 265 := by omega
                  exact mo_265
              · rcases Nat.lt_or_ge m9 267 with q | q
                · obtain rfl : m9 = 266 := by omega
                  exact mo_266
                · obtain rfl : m9 = 267 := by omega
                  exact mo_267
            · rcases Nat.lt_or_ge m9 270 with q | q
              · rcases Nat.lt_or_ge m9 269 with q | q
                · obtain rfl : m9 = 268 := by omega
                  exact mo_268
                · obtain rfl : m9 = 269 := by omega
                  exact mo_269
              · rcases Nat.lt_or_ge m9 271 with q | q
                · obtain rfl : m9 = 270 := by omega
                  exact mo_270
                · rcases Nat.lt_or_ge m9 272 with q | q
                  · obtain rfl : m9 = 271 := by omega
                    exact mo_271
                  · obtain rfl : m9 = 272 := by omega
                    exact mo_272
        · rcases Nat.lt_or_ge m9 282 with q | q
          · rcases Nat.lt_or_ge m9 277 with q | q
            · rcases Nat.lt_or_ge m9 275 with q | q
              · rcases Nat.lt_or_ge m9 274 with q | q
                · obtain rfl : m9 = 273 := by omega
                  exact mo_273
                · obtain rfl : m9 = 274 := by omega
                  exact mo_274
              · rcases Nat.lt_or_ge m9 276 with q | q
                · obtain rfl : m9 = 275 := by omega
                  exact mo_275
                · obtain rfl : m9 = 276 := by omega
                  exact mo_276
            · rcases Nat.lt_or_ge m9 279 with q | q
              · rcases Nat.lt_or_ge m9 278 with q | q
                · obtain rfl : m9 = 277 := by omega
                  exact mo_277
                · obtain rfl : m9 = 278 := by omega
                  exact mo_278
              · rcases Nat.lt_or_ge m9 280 with q | q
                · obtain rfl : m9 = 279 := by omega
                  exact mo_279
                · rcases Nat.lt_or_ge m9 281 with q | q
                  · obtain rfl : m9 = 280 := by omega
                    exact mo_280
                  · obtain rfl : m9 = 281 := by omega
                    exact mo_281
          · rcases Nat.lt_or_ge m9 287 with q | q
            · rcases Nat.lt_or_ge m9 284 with q | q
              · rcases Nat.lt_or_ge m9 283 with q | q
                · obtain rfl : m9 = 282 := by omega
                  exact mo_282
                · obtain rfl : m9 = 283 := by omega
                  exact mo_283
              · rcases Nat.lt_or_ge m9 285 with q | q
                · obtain rfl : m9 = 284 := by omega
                  exact mo_284
                · rcases Nat.lt_or_ge m9 286 with q | q
                  · obtain rfl : m9 = 285 := by omega
                    exact mo_285
                  · obtain rfl : m9 = 286 := by omega
                    exact mo_286
            · rcases Nat.lt_or_ge m9 289 with q | q
              · rcases Nat.lt_or_ge m9 288 with q | q
                · obtain rfl : m9 = 287 := by omega
                  exact mo_287
                · obtain rfl : m9 = 288 := by omega
                  exact mo_288
              · rcases Nat.lt_or_ge m9 290 with q | q
                · obtain rfl : m9 = 289 := by omega
                  exact mo_289
                · rcases Nat.lt_or_ge m9 291 with q | q
                  · obtain rfl : m9 = 290 := by omega
                    exact mo_290
                  · obtain rfl : m9 = 291 := by omega
                    exact mo_291

end
