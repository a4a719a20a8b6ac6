section
set_option maxRecDepth 100000 in
theorem ck_Seeds_fewestFor : ab_chks RX9 cX9_fewestFor (some .int) false cd_Seeds_fewestFor [(0, 0), (0, 0), (0, 0), (21, 1079), (0, 0), (0, 0), (0, 0), (0, 0), (25, 152), (0, 0), (0, 0), (0, 0), (25, 152), (0, 0), (0, 0), (0, 0), (0, 0), (31, 1088), (0, 0), (0, 0), (0, 0), (0, 0), (0, 0), (0, 0), (0, 0), (0, 0), (0, 0), (35, 1092), (0, 0)] = true := by decide +kernel
set_option maxRecDepth 100000 in
theorem ck_Seeds_prepare : ab_chks RX9 cX9_prepare none false cd_Seeds_prepare [(0, 0), (0, 0), (0, 0), (0, 0), (0, 0), (0, 0), (0, 0), (0, 0), (25, 152), (0, 0), (0, 0), (9, 420), (0, 0), (0, 0), (0, 0), (0, 0), (0, 0), (39, 1083), (0, 0), (0, 0), (0, 0), (9, 420), (0, 0), (0, 0), (0, 0), (0, 0), (0, 0), (0, 0), (9, 420), (0, 0), (0, 0), (0, 0), (0, 0), (43, 1084), (48, 1085), (0, 0), (0, 0), (15, 421), (0, 0), (0, 0), (0, 0), (0, 0), (18, 422), (0, 0), (0, 0), (0, 0), (0, 0), (0, 0), (0, 0)] = true := by decide +kernel
set_option maxRecDepth 100000 in
theorem ck_Seeds_leastSet : ab_chks RX9 cX9_leastSet (some .int) false cd_Seeds_leastSet [(0, 0), (0, 0), (0, 0), (0, 0), (0, 0), (0, 0), (0, 0), (0, 0), (15, 421), (0, 0), (0, 0), (0, 0), (0, 0), (0, 0), (0, 0), (0, 0), (43, 1084), (0, 0), (0, 0), (18, 422), (0, 0), (0, 0), (0, 0), (0, 0), (0, 0), (0, 0), (0, 0), (0, 0), (0, 0), (0, 0), (0, 0), (0, 0), (31, 1088), (0, 0), (0, 0), (0, 0), (0, 0), (0, 0), (0, 0), (0, 0), (0, 0), (0, 0), (0, 0), (0, 0), (0, 0), (0, 0), (0, 0), (0, 0), (9, 420), (0, 0), (0, 0), (0, 0), (0, 0), (0, 0), (31, 1088), (0, 0), (0, 0), (0, 0), (0, 0), (0, 0), (0, 0), (0, 0), (0, 0), (0, 0), (0, 0), (0, 0), (0, 0)] = true := by decide +kernel
set_option maxRecDepth 100000 in
theorem ck_World_init : ab_chks RX10 cX10_init none true cd_World_init [(0, 0), (1, 245), (0, 0), (7, 246), (0, 0), (9, 247), (10, 349), (0, 0), (16, 248), (0, 0), (18, 250), (19, 351), (0, 0), (23, 317), (0, 0), (25, 319), (26, 353), (0, 0)] = true := by decide +kernel
set_option maxRecDepth 100000 in
theorem ck_World_beginWith : ab_chks RX10 cX10_beginWith none false cd_World_beginWith [(0, 0), (10, 349), (0, 0), (30, 696), (0, 0), (19, 351), (0, 0), (34, 303), (0, 0), (26, 353), (0, 0), (38, 324), (0, 0)] = true := by decide +kernel
set_option maxRecDepth 100000 in
theorem ck_World_likeOf : ab_chks RX10 cX10_likeOf none false cd_World_likeOf [(0, 0), (10, 349), (0, 0), (10, 349), (30, 696), (0, 0), (19, 351), (0, 0), (19, 351), (39, 1315), (0, 0), (26, 353), (0, 0), (26, 353), (42, 1316), (0, 0)] = true := by decide +kernel
set_option maxRecDepth 100000 in
theorem ck_Integer_bitCount : ab_chks "java/lang/Integer" cJ6_bitCount_0f7a4 (some .int) false cd_Integer_bitCount [(0, 0), (0, 0), (0, 0), (0, 0), (265, 747), (0, 0), (0, 0), (0, 0), (0, 0), (266, 748), (0, 0), (0, 0), (0, 0), (0, 0), (266, 748), (0, 0), (0, 0), (0, 0), (0, 0), (0, 0), (0, 0), (0, 0), (0, 0), (267, 749), (0, 0), (0, 0), (0, 0), (0, 0), (0, 0), (0, 0), (0, 0), (0, 0), (0, 0), (0, 0), (0, 0), (0, 0), (0, 0), (0, 0), (0, 0), (0, 0), (0, 0), (0, 0)] = true := by decide +kernel
set_option maxRecDepth 100000 in
theorem ck_Arrays_fill_I : ab_chks "java/util/Arrays" cJ7_fill_53178 none false cd_Arrays_fill_I [(0, 0), (0, 0), (0, 0), (0, 0), (0, 0), (0, 0), (0, 0), (0, 0), (0, 0), (0, 0), (0, 0), (0, 0), (0, 0), (0, 0), (0, 0)] = true := by decide +kernel
set_option maxRecDepth 100000 in
theorem ck_Arrays_fill_J : ab_chks "java/util/Arrays" cJ7_fill_d0a16 none false cd_Arrays_fill_J [(0, 0), (0, 0), (0, 0), (0, 0), (0, 0), (0, 0), (0, 0), (0, 0), (0, 0), (0, 0), (0, 0), (0, 0), (0, 0), (0, 0), (0, 0)] = true := by decide +kernel
end
