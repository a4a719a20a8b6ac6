section
set_option maxRecDepth 100000 in
theorem ck_Seeds_fewestFor : ab_chks RX9 cX9_fewestFor (some .int) false cd_Seeds_fewestFor [(0, 0), (0, 0), (0, 0), (21, 1087), (0, 0), (0, 0), (0, 0), (0, 0), (25, 153), (0, 0), (0, 0), (0, 0), (25, 153), (0, 0), (0, 0), (0, 0), (0, 0), (31, 1094), (0, 0), (0, 0), (0, 0), (0, 0), (0, 0), (0, 0), (0, 0), (0, 0), (0, 0), (35, 1098), (0, 0)] = true := by decide +kernel
set_option maxRecDepth 100000 in
theorem ck_Seeds_prepare : ab_chks RX9 cX9_prepare none false cd_Seeds_prepare [(0, 0), (0, 0), (0, 0), (0, 0), (0, 0), (0, 0), (0, 0), (0, 0), (25, 153), (0, 0), (0, 0), (9, 421), (0, 0), (0, 0), (0, 0), (0, 0), (0, 0), (39, 1091), (0, 0), (0, 0), (0, 0), (9, 421), (0, 0), (0, 0), (0, 0), (0, 0), (0, 0), (0, 0), (9, 421), (0, 0), (0, 0), (0, 0), (0, 0), (43, 1092), (48, 1093), (0, 0), (0, 0), (15, 422), (0, 0), (0, 0), (0, 0), (0, 0), (18, 423), (0, 0), (0, 0), (0, 0), (0, 0), (0, 0), (0, 0)] = true := by decide +kernel
set_option maxRecDepth 100000 in
theorem ck_Seeds_leastSet : ab_chks RX9 cX9_leastSet (some .int) false cd_Seeds_leastSet [(0, 0), (0, 0), (0, 0), (0, 0), (0, 0), (0, 0), (0, 0), (0, 0), (15, 422), (0, 0), (0, 0), (0, 0), (0, 0), (0, 0), (0, 0), (0, 0), (43, 1092), (0, 0), (0, 0), (18, 423), (0, 0), (0, 0), (0, 0), (0, 0), (0, 0), (0, 0), (0, 0), (0, 0), (0, 0), (0, 0), (0, 0), (0, 0), (31, 1094), (0, 0), (0, 0), (0, 0), (0, 0), (0, 0), (0, 0), (0, 0), (0, 0), (0, 0), (0, 0), (0, 0), (0, 0), (0, 0), (0, 0), (0, 0), (9, 421), (0, 0), (0, 0), (0, 0), (0, 0), (0, 0), (31, 1094), (0, 0), (0, 0), (0, 0), (0, 0), (0, 0), (0, 0), (0, 0), (0, 0), (0, 0), (0, 0), (0, 0), (0, 0)] = true := by decide +kernel
set_option maxRecDepth 100000 in
theorem ck_World_init : ab_chks RX10 cX10_init none true cd_World_init [(0, 0), (1, 246), (0, 0), (7, 247), (0, 0), (9, 248), (10, 350), (0, 0), (16, 249), (0, 0), (18, 251), (19, 352), (0, 0), (23, 318), (0, 0), (25, 320), (26, 354), (0, 0)] = true := by decide +kernel
set_option maxRecDepth 100000 in
theorem ck_World_beginWith : ab_chks RX10 cX10_beginWith none false cd_World_beginWith [(0, 0), (10, 350), (0, 0), (30, 701), (0, 0), (19, 352), (0, 0), (34, 304), (0, 0), (26, 354), (0, 0), (38, 325), (0, 0)] = true := by decide +kernel
set_option maxRecDepth 100000 in
theorem ck_World_likeOf : ab_chks RX10 cX10_likeOf none false cd_World_likeOf [(0, 0), (10, 350), (0, 0), (10, 350), (30, 701), (0, 0), (19, 352), (0, 0), (19, 352), (39, 1321), (0, 0), (26, 354), (0, 0), (26, 354), (42, 1322), (0, 0)] = true := by decide +kernel
set_option maxRecDepth 100000 in
theorem ck_Integer_bitCount : ab_chks "java/lang/Integer" cJ6_bitCount_0f7a4 (some .int) false cd_Integer_bitCount [(0, 0), (0, 0), (0, 0), (0, 0), (265, 752), (0, 0), (0, 0), (0, 0), (0, 0), (266, 753), (0, 0), (0, 0), (0, 0), (0, 0), (266, 753), (0, 0), (0, 0), (0, 0), (0, 0), (0, 0), (0, 0), (0, 0), (0, 0), (267, 754), (0, 0), (0, 0), (0, 0), (0, 0), (0, 0), (0, 0), (0, 0), (0, 0), (0, 0), (0, 0), (0, 0), (0, 0), (0, 0), (0, 0), (0, 0), (0, 0), (0, 0), (0, 0)] = true := by decide +kernel
set_option maxRecDepth 100000 in
theorem ck_Arrays_fill_I : ab_chks "java/util/Arrays" cJ7_fill_53178 none false cd_Arrays_fill_I [(0, 0), (0, 0), (0, 0), (0, 0), (0, 0), (0, 0), (0, 0), (0, 0), (0, 0), (0, 0), (0, 0), (0, 0), (0, 0), (0, 0), (0, 0)] = true := by decide +kernel
set_option maxRecDepth 100000 in
theorem ck_Arrays_fill_J : ab_chks "java/util/Arrays" cJ7_fill_d0a16 none false cd_Arrays_fill_J [(0, 0), (0, 0), (0, 0), (0, 0), (0, 0), (0, 0), (0, 0), (0, 0), (0, 0), (0, 0), (0, 0), (0, 0), (0, 0), (0, 0), (0, 0)] = true := by decide +kernel
end
