section
def ab_mchk (y : MethodName) (n : Nat) (st : Bool) (q : Nat × Nat × Nat) : Bool := decide (lw_tbl[q.1]? = some (.initialized y.cls) ∧ (st = true → lw_tbl[q.2.1]? = some (.static y)) ∧ (st = false → lw_tbl[q.2.1]? = some (.instanceMethod y) ∧ (y.name = "<init>" ∨ lw_tbl[q.2.2]? = some (.selects y.cls y y))) ∧ y.cls ≠ "java/lang/invoke/MethodHandle" ∧ y.cls ≠ "java/lang/invoke/VarHandle" ∧ plainName y.cls = true ∧ n ≤ 40)
theorem mchk_ok {m9 i1 : Nat} {q : Nat × Nat × Nat} {y : MethodName} {cc : ByteArray} {n : Nat} {rt : Option FieldType} {st : Bool} (h0 : ab_mt m9 = (y, cc, n, rt)) (hst : ab_stt m9 = st) (h1 : lw_tbl[i1]? = some (.code y cc n rt)) (h9 : ab_mchk y n st q = true) : MOK m9 := by
  obtain ⟨h2, h3, h4, h5⟩ := of_decide_eq_true h9
  unfold MOK
  rw [h0, hst]
  exact ⟨wd_in h1 rfl, wd_in h2 rfl, fun z => wd_in (h3 z) rfl, fun z => ⟨wd_in (h4 z).1 rfl, (h4 z).2.imp id (fun z => wd_in z rfl)⟩, h5⟩
set_option maxRecDepth 100000 in
theorem mo_0 : MOK 0 := mchk_ok (i1 := 136) (q := (111, 135, 0)) (y := yX11_init) (cc := cX11_init) (n := 2) (rt := none) (st := false) rfl rfl rfl (by decide +kernel)
set_option maxRecDepth 100000 in
theorem mo_1 : MOK 1 := mchk_ok (i1 := 550) (q := (111, 548, 549)) (y := yX11_feed) (cc := cX11_feed) (n := 6) (rt := (some .int)) (st := false) rfl rfl rfl (by decide +kernel)
set_option maxRecDepth 100000 in
theorem mo_2 : MOK 2 := mchk_ok (i1 := 558) (q := (111, 556, 557)) (y := yX11_lore) (cc := cX11_lore) (n := 2) (rt := (some .int)) (st := false) rfl rfl rfl (by decide +kernel)
set_option maxRecDepth 100000 in
theorem mo_3 : MOK 3 := mchk_ok (i1 := 711) (q := (111, 709, 710)) (y := yX11_fault) (cc := cX11_fault) (n := 2) (rt := (some .int)) (st := false) rfl rfl rfl (by decide +kernel)
set_option maxRecDepth 100000 in
theorem mo_4 : MOK 4 := mchk_ok (i1 := 715) (q := (111, 713, 714)) (y := yX11_thing) (cc := cX11_thing) (n := 3) (rt := (some .int)) (st := false) rfl rfl rfl (by decide +kernel)
set_option maxRecDepth 100000 in
theorem mo_5 : MOK 5 := mchk_ok (i1 := 723) (q := (111, 721, 722)) (y := yX11_news) (cc := cX11_news) (n := 3) (rt := (some .int)) (st := false) rfl rfl rfl (by decide +kernel)
set_option maxRecDepth 100000 in
theorem mo_6 : MOK 6 := mchk_ok (i1 := 735) (q := (111, 733, 734)) (y := yX11_comes) (cc := cX11_comes) (n := 2) (rt := (some .int)) (st := false) rfl rfl rfl (by decide +kernel)
set_option maxRecDepth 100000 in
theorem mo_7 : MOK 7 := mchk_ok (i1 := 758) (q := (111, 756, 757)) (y := yX11_of) (cc := cX11_of) (n := 5) (rt := (some .int)) (st := false) rfl rfl rfl (by decide +kernel)
set_option maxRecDepth 100000 in
theorem mo_8 : MOK 8 := mchk_ok (i1 := 774) (q := (111, 772, 773)) (y := yX11_lost) (cc := cX11_lost) (n := 3) (rt := (some .int)) (st := false) rfl rfl rfl (by decide +kernel)
set_option maxRecDepth 100000 in
theorem mo_9 : MOK 9 := mchk_ok (i1 := 778) (q := (111, 776, 777)) (y := yX11_hears) (cc := cX11_hears) (n := 3) (rt := (some .int)) (st := false) rfl rfl rfl (by decide +kernel)
set_option maxRecDepth 100000 in
theorem mo_10 : MOK 10 := mchk_ok (i1 := 806) (q := (111, 804, 805)) (y := yX11_says) (cc := cX11_says) (n := 4) (rt := (some .int)) (st := false) rfl rfl rfl (by decide +kernel)
set_option maxRecDepth 100000 in
theorem mo_11 : MOK 11 := mchk_ok (i1 := 816) (q := (111, 814, 815)) (y := yX11_tells) (cc := cX11_tells) (n := 7) (rt := (some .int)) (st := false) rfl rfl rfl (by decide +kernel)
set_option maxRecDepth 100000 in
theorem mo_12 : MOK 12 := mchk_ok (i1 := 825) (q := (111, 823, 824)) (y := yX11_walks) (cc := cX11_walks) (n := 3) (rt := (some .int)) (st := false) rfl rfl rfl (by decide +kernel)
set_option maxRecDepth 100000 in
theorem mo_13 : MOK 13 := mchk_ok (i1 := 837) (q := (111, 835, 836)) (y := yX11_recites) (cc := cX11_recites) (n := 4) (rt := (some .int)) (st := false) rfl rfl rfl (by decide +kernel)
set_option maxRecDepth 100000 in
theorem mo_14 : MOK 14 := mchk_ok (i1 := 851) (q := (111, 849, 850)) (y := yX11_delivers) (cc := cX11_delivers) (n := 2) (rt := (some .int)) (st := false) rfl rfl rfl (by decide +kernel)
set_option maxRecDepth 100000 in
theorem mo_15 : MOK 15 := mchk_ok (i1 := 859) (q := (111, 857, 858)) (y := yX11_breach) (cc := cX11_breach) (n := 3) (rt := (some .int)) (st := false) rfl rfl rfl (by decide +kernel)
set_option maxRecDepth 100000 in
theorem mo_16 : MOK 16 := mchk_ok (i1 := 867) (q := (111, 865, 866)) (y := yX11_risk) (cc := cX11_risk) (n := 4) (rt := (some .int)) (st := false) rfl rfl rfl (by decide +kernel)
set_option maxRecDepth 100000 in
theorem mo_17 : MOK 17 := mchk_ok (i1 := 884) (q := (111, 882, 883)) (y := yX11_loud) (cc := cX11_loud) (n := 3) (rt := (some .int)) (st := false) rfl rfl rfl (by decide +kernel)
set_option maxRecDepth 100000 in
theorem mo_18 : MOK 18 := mchk_ok (i1 := 895) (q := (111, 893, 894)) (y := yX11_turned) (cc := cX11_turned) (n := 3) (rt := (some .int)) (st := false) rfl rfl rfl (by decide +kernel)
set_option maxRecDepth 100000 in
theorem mo_19 : MOK 19 := mchk_ok (i1 := 905) (q := (111, 903, 904)) (y := yX11_judge) (cc := cX11_judge) (n := 7) (rt := (some .int)) (st := false) rfl rfl rfl (by decide +kernel)
set_option maxRecDepth 100000 in
theorem mo_20 : MOK 20 := mchk_ok (i1 := 940) (q := (111, 938, 939)) (y := yX11_perform) (cc := cX11_perform) (n := 4) (rt := (some .int)) (st := false) rfl rfl rfl (by decide +kernel)
set_option maxRecDepth 100000 in
theorem mo_21 : MOK 21 := mchk_ok (i1 := 944) (q := (111, 942, 943)) (y := yX11_day) (cc := cX11_day) (n := 3) (rt := (some .int)) (st := false) rfl rfl rfl (by decide +kernel)
set_option maxRecDepth 100000 in
theorem mo_22 : MOK 22 := mchk_ok (i1 := 965) (q := (111, 963, 964)) (y := yX11_fresh) (cc := cX11_fresh) (n := 5) (rt := (some .int)) (st := false) rfl rfl rfl (by decide +kernel)
set_option maxRecDepth 100000 in
theorem mo_23 : MOK 23 := mchk_ok (i1 := 1001) (q := (111, 999, 1000)) (y := yX11_kept) (cc := cX11_kept) (n := 5) (rt := (some .int)) (st := false) rfl rfl rfl (by decide +kernel)
set_option maxRecDepth 100000 in
theorem mo_24 : MOK 24 := mchk_ok (i1 := 1005) (q := (111, 1003, 1004)) (y := yX11_less) (cc := cX11_less) (n := 4) (rt := (some .int)) (st := false) rfl rfl rfl (by decide +kernel)
set_option maxRecDepth 100000 in
theorem mo_25 : MOK 25 := mchk_ok (i1 := 1009) (q := (111, 1007, 1008)) (y := yX11_enough) (cc := cX11_enough) (n := 6) (rt := (some .int)) (st := false) rfl rfl rfl (by decide +kernel)
set_option maxRecDepth 100000 in
theorem mo_26 : MOK 26 := mchk_ok (i1 := 1013) (q := (111, 1011, 1012)) (y := yX11_farBack) (cc := cX11_farBack) (n := 4) (rt := (some .int)) (st := false) rfl rfl rfl (by decide +kernel)
set_option maxRecDepth 100000 in
theorem mo_27 : MOK 27 := mchk_ok (i1 := 1021) (q := (111, 1019, 1020)) (y := yX11_through) (cc := cX11_through) (n := 5) (rt := (some .int)) (st := false) rfl rfl rfl (by decide +kernel)
set_option maxRecDepth 100000 in
theorem mo_28 : MOK 28 := mchk_ok (i1 := 1031) (q := (111, 1029, 1030)) (y := yX11_sizeFor) (cc := cX11_sizeFor) (n := 6) (rt := (some .int)) (st := false) rfl rfl rfl (by decide +kernel)
set_option maxRecDepth 100000 in
theorem mo_29 : MOK 29 := mchk_ok (i1 := 1039) (q := (111, 1037, 1038)) (y := yX11_told) (cc := cX11_told) (n := 5) (rt := (some .int)) (st := false) rfl rfl rfl (by decide +kernel)
set_option maxRecDepth 100000 in
theorem mo_30 : MOK 30 := mchk_ok (i1 := 1074) (q := (111, 1072, 1073)) (y := yX11_back) (cc := cX11_back) (n := 2) (rt := (some .int)) (st := false) rfl rfl rfl (by decide +kernel)
set_option maxRecDepth 100000 in
theorem mo_31 : MOK 31 := mchk_ok (i1 := 1082) (q := (111, 1080, 1081)) (y := yX11_seeds) (cc := cX11_seeds) (n := 2) (rt := (some .int)) (st := false) rfl rfl rfl (by decide +kernel)
set_option maxRecDepth 100000 in
theorem mo_32 : MOK 32 := mchk_ok (i1 := 1105) (q := (111, 1103, 1104)) (y := yX11_men) (cc := cX11_men) (n := 5) (rt := (some .int)) (st := false) rfl rfl rfl (by decide +kernel)
set_option maxRecDepth 100000 in
theorem mo_33 : MOK 33 := mchk_ok (i1 := 1143) (q := (111, 1141, 1142)) (y := yX11_load) (cc := cX11_load) (n := 7) (rt := (some .int)) (st := false) rfl rfl rfl (by decide +kernel)
set_option maxRecDepth 100000 in
theorem mo_34 : MOK 34 := mchk_ok (i1 := 1155) (q := (111, 1153, 1154)) (y := yX11_road) (cc := cX11_road) (n := 4) (rt := (some .int)) (st := false) rfl rfl rfl (by decide +kernel)
set_option maxRecDepth 100000 in
theorem mo_35 : MOK 35 := mchk_ok (i1 := 1187) (q := (111, 1185, 1186)) (y := yX11_questions) (cc := cX11_questions) (n := 5) (rt := (some .int)) (st := false) rfl rfl rfl (by decide +kernel)
set_option maxRecDepth 100000 in
theorem mo_36 : MOK 36 := mchk_ok (i1 := 1200) (q := (111, 1198, 1199)) (y := yX11_asked) (cc := cX11_asked) (n := 2) (rt := (some .int)) (st := false) rfl rfl rfl (by decide +kernel)
set_option maxRecDepth 100000 in
theorem mo_37 : MOK 37 := mchk_ok (i1 := 1213) (q := (111, 1211, 1212)) (y := yX11_broken) (cc := cX11_broken) (n := 3) (rt := (some .int)) (st := false) rfl rfl rfl (by decide +kernel)
set_option maxRecDepth 100000 in
theorem mo_38 : MOK 38 := mchk_ok (i1 := 1221) (q := (111, 1219, 1220)) (y := yX11_piece) (cc := cX11_piece) (n := 4) (rt := (some .int)) (st := false) rfl rfl rfl (by decide +kernel)
set_option maxRecDepth 100000 in
theorem mo_39 : MOK 39 := mchk_ok (i1 := 1230) (q := (111, 1228, 1229)) (y := yX11_joined) (cc := cX11_joined) (n := 2) (rt := (some .int)) (st := false) rfl rfl rfl (by decide +kernel)
set_option maxRecDepth 100000 in
theorem mo_40 : MOK 40 := mchk_ok (i1 := 1263) (q := (111, 1261, 1262)) (y := yX11_unfit) (cc := cX11_unfit) (n := 3) (rt := (some .int)) (st := false) rfl rfl rfl (by decide +kernel)
set_option maxRecDepth 100000 in
theorem mo_41 : MOK 41 := mchk_ok (i1 := 1279) (q := (111, 1277, 1278)) (y := yX11_gaps) (cc := cX11_gaps) (n := 1) (rt := (some .int)) (st := false) rfl rfl rfl (by decide +kernel)
set_option maxRecDepth 100000 in
theorem mo_42 : MOK 42 := mchk_ok (i1 := 1288) (q := (111, 1286, 1287)) (y := yX11_numbers) (cc := cX11_numbers) (n := 4) (rt := (some .int)) (st := false) rfl rfl rfl (by decide +kernel)
set_option maxRecDepth 100000 in
theorem mo_43 : MOK 43 := mchk_ok (i1 := 1299) (q := (111, 1297, 1298)) (y := yX11_write) (cc := cX11_write) (n := 6) (rt := (some .long)) (st := false) rfl rfl rfl (by decide +kernel)
set_option maxRecDepth 100000 in
theorem mo_44 : MOK 44 := mchk_ok (i1 := 1312) (q := (111, 1310, 1311)) (y := yX11_copy) (cc := cX11_copy) (n := 6) (rt := (some .int)) (st := false) rfl rfl rfl (by decide +kernel)
set_option maxRecDepth 100000 in
theorem mo_45 : MOK 45 := mchk_ok (i1 := 1316) (q := (111, 1314, 1315)) (y := yX11_image) (cc := cX11_image) (n := 2) (rt := (some .int)) (st := false) rfl rfl rfl (by decide +kernel)
set_option maxRecDepth 100000 in
theorem mo_46 : MOK 46 := mchk_ok (i1 := 1329) (q := (111, 1327, 1328)) (y := yX11_restore) (cc := cX11_restore) (n := 2) (rt := (some .int)) (st := false) rfl rfl rfl (by decide +kernel)
set_option maxRecDepth 100000 in
theorem mo_47 : MOK 47 := mchk_ok (i1 := 1333) (q := (111, 1331, 1332)) (y := yX11_count) (cc := cX11_count) (n := 2) (rt := (some .int)) (st := false) rfl rfl rfl (by decide +kernel)
set_option maxRecDepth 100000 in
theorem mo_48 : MOK 48 := mchk_ok (i1 := 841) (q := (111, 840, 17)) (y := yX11_refusalOfRow) (cc := cX11_refusalOfRow) (n := 2) (rt := (some .int)) (st := false) rfl rfl rfl (by decide +kernel)
set_option maxRecDepth 100000 in
theorem mo_49 : MOK 49 := mchk_ok (i1 := 969) (q := (111, 968, 22)) (y := yX11_refusalOfHearings) (cc := cX11_refusalOfHearings) (n := 6) (rt := (some .int)) (st := false) rfl rfl rfl (by decide +kernel)
set_option maxRecDepth 100000 in
theorem mo_50 : MOK 50 := mchk_ok (i1 := 1109) (q := (111, 1108, 30)) (y := yX11_refusalOfMen) (cc := cX11_refusalOfMen) (n := 4) (rt := (some .int)) (st := false) rfl rfl rfl (by decide +kernel)
set_option maxRecDepth 100000 in
theorem mo_51 : MOK 51 := mchk_ok (i1 := 972) (q := (111, 971, 0)) (y := yX11_isSize) (cc := cX11_isSize) (n := 1) (rt := (some .boolean)) (st := true) rfl rfl rfl (by decide +kernel)
set_option maxRecDepth 100000 in
theorem mo_52 : MOK 52 := mchk_ok (i1 := 1042) (q := (111, 1041, 0)) (y := yX11_isAnswerOrPlace) (cc := cX11_isAnswerOrPlace) (n := 2) (rt := (some .boolean)) (st := true) rfl rfl rfl (by decide +kernel)
set_option maxRecDepth 100000 in
theorem mo_53 : MOK 53 := mchk_ok (i1 := 1473) (q := (123, 1472, 0)) (y := yX12_within) (cc := cX12_within) (n := 6) (rt := (some .boolean)) (st := true) rfl rfl rfl (by decide +kernel)
set_option maxRecDepth 100000 in
theorem mo_54 : MOK 54 := mchk_ok (i1 := 1338) (q := (123, 1337, 0)) (y := yX12_init) (cc := cX12_init) (n := 1) (rt := none) (st := false) rfl rfl rfl (by decide +kernel)
set_option maxRecDepth 100000 in
theorem mo_55 : MOK 55 := mchk_ok (i1 := 1466) (q := (123, 1464, 1465)) (y := yX12_feed) (cc := cX12_feed) (n := 8) (rt := (some .int)) (st := false) rfl rfl rfl (by decide +kernel)
set_option maxRecDepth 100000 in
theorem mo_56 : MOK 56 := mchk_ok (i1 := 1481) (q := (123, 1480, 53)) (y := yX12_see) (cc := cX12_see) (n := 2) (rt := (some .int)) (st := false) rfl rfl rfl (by decide +kernel)
set_option maxRecDepth 100000 in
theorem mo_57 : MOK 57 := mchk_ok (i1 := 1484) (q := (123, 1483, 0)) (y := yX12_isSmall) (cc := cX12_isSmall) (n := 1) (rt := (some .boolean)) (st := true) rfl rfl rfl (by decide +kernel)
set_option maxRecDepth 100000 in
theorem mo_58 : MOK 58 := mchk_ok (i1 := 1494) (q := (123, 1493, 0)) (y := yX12_isDigit) (cc := cX12_isDigit) (n := 1) (rt := (some .boolean)) (st := true) rfl rfl rfl (by decide +kernel)
set_option maxRecDepth 100000 in
theorem mo_59 : MOK 59 := mchk_ok (i1 := 1488) (q := (123, 1487, 54)) (y := yX12_keyAt) (cc := cX12_keyAt) (n := 4) (rt := (some .int)) (st := false) rfl rfl rfl (by decide +kernel)
set_option maxRecDepth 100000 in
theorem mo_60 : MOK 60 := mchk_ok (i1 := 1477) (q := (123, 1476, 52)) (y := yX12_next) (cc := cX12_next) (n := 1) (rt := none) (st := false) rfl rfl rfl (by decide +kernel)
set_option maxRecDepth 100000 in
theorem mo_61 : MOK 61 := mchk_ok (i1 := 1510) (q := (123, 1509, 58)) (y := yX12_fails) (cc := cX12_fails) (n := 2) (rt := none) (st := false) rfl rfl rfl (by decide +kernel)
set_option maxRecDepth 100000 in
theorem mo_62 : MOK 62 := mchk_ok (i1 := 1502) (q := (123, 1501, 56)) (y := yX12_is) (cc := cX12_is) (n := 2) (rt := (some .boolean)) (st := false) rfl rfl rfl (by decide +kernel)
set_option maxRecDepth 100000 in
theorem mo_63 : MOK 63 := mchk_ok (i1 := 1526) (q := (123, 1525, 62)) (y := yX12_eats) (cc := cX12_eats) (n := 2) (rt := (some .boolean)) (st := false) rfl rfl rfl (by decide +kernel)
set_option maxRecDepth 100000 in
theorem mo_64 : MOK 64 := mchk_ok (i1 := 1514) (q := (123, 1513, 59)) (y := yX12_takes) (cc := cX12_takes) (n := 4) (rt := (some .int)) (st := false) rfl rfl rfl (by decide +kernel)
set_option maxRecDepth 100000 in
theorem mo_65 : MOK 65 := mchk_ok (i1 := 1522) (q := (123, 1521, 61)) (y := yX12_takesThing) (cc := cX12_takesThing) (n := 1) (rt := (some .int)) (st := false) rfl rfl rfl (by decide +kernel)
set_option maxRecDepth 100000 in
theorem mo_66 : MOK 66 := mchk_ok (i1 := 1506) (q := (123, 1505, 57)) (y := yX12_readThings) (cc := cX12_readThings) (n := 2) (rt := none) (st := false) rfl rfl rfl (by decide +kernel)
set_option maxRecDepth 100000 in
theorem mo_67 : MOK 67 := mchk_ok (i1 := 1530) (q := (123, 1529, 63)) (y := yX12_readTwo) (cc := cX12_readTwo) (n := 4) (rt := none) (st := false) rfl rfl rfl (by decide +kernel)
set_option maxRecDepth 100000 in
theorem mo_68 : MOK 68 := mchk_ok (i1 := 1534) (q := (123, 1533, 64)) (y := yX12_readWorth) (cc := cX12_readWorth) (n := 3) (rt := none) (st := false) rfl rfl rfl (by decide +kernel)
set_option maxRecDepth 100000 in
theorem mo_69 : MOK 69 := mchk_ok (i1 := 1518) (q := (123, 1517, 60)) (y := yX12_readInn) (cc := cX12_readInn) (n := 4) (rt := none) (st := false) rfl rfl rfl (by decide +kernel)
set_option maxRecDepth 100000 in
theorem mo_70 : MOK 70 := mchk_ok (i1 := 1498) (q := (123, 1497, 55)) (y := yX12_readLine) (cc := cX12_readLine) (n := 1) (rt := none) (st := false) rfl rfl rfl (by decide +kernel)
set_option maxRecDepth 100000 in
theorem mo_71 : MOK 71 := mchk_ok (i1 := 1470) (q := (123, 1468, 1469)) (y := yX12_lore) (cc := cX12_lore) (n := 3) (rt := (some .int)) (st := false) rfl rfl rfl (by decide +kernel)
set_option maxRecDepth 100000 in
theorem mo_72 : MOK 72 := mchk_ok (i1 := 1538) (q := (123, 1536, 1537)) (y := yX12_fault) (cc := cX12_fault) (n := 2) (rt := (some .int)) (st := false) rfl rfl rfl (by decide +kernel)
set_option maxRecDepth 100000 in
theorem mo_73 : MOK 73 := mchk_ok (i1 := 1546) (q := (123, 1545, 65)) (y := yX12_isThing) (cc := cX12_isThing) (n := 3) (rt := (some .boolean)) (st := false) rfl rfl rfl (by decide +kernel)
set_option maxRecDepth 100000 in
theorem mo_74 : MOK 74 := mchk_ok (i1 := 1555) (q := (123, 1554, 66)) (y := yX12_isInn) (cc := cX12_isInn) (n := 3) (rt := (some .boolean)) (st := false) rfl rfl rfl (by decide +kernel)
set_option maxRecDepth 100000 in
theorem mo_75 : MOK 75 := mchk_ok (i1 := 1574) (q := (123, 1573, 68)) (y := yX12_isMan) (cc := cX12_isMan) (n := 3) (rt := (some .boolean)) (st := false) rfl rfl rfl (by decide +kernel)
set_option maxRecDepth 100000 in
theorem mo_76 : MOK 76 := mchk_ok (i1 := 1769) (q := (123, 1768, 91)) (y := yX12_isSet) (cc := cX12_isSet) (n := 2) (rt := (some .boolean)) (st := false) rfl rfl rfl (by decide +kernel)
set_option maxRecDepth 100000 in
theorem mo_77 : MOK 77 := mchk_ok (i1 := 1542) (q := (123, 1540, 1541)) (y := yX12_thing) (cc := cX12_thing) (n := 3) (rt := (some .int)) (st := false) rfl rfl rfl (by decide +kernel)
set_option maxRecDepth 100000 in
theorem mo_78 : MOK 78 := mchk_ok (i1 := 1551) (q := (123, 1549, 1550)) (y := yX12_news) (cc := cX12_news) (n := 3) (rt := (some .int)) (st := false) rfl rfl rfl (by decide +kernel)
set_option maxRecDepth 100000 in
theorem mo_79 : MOK 79 := mchk_ok (i1 := 1566) (q := (123, 1565, 0)) (y := yX12_manAt) (cc := cX12_manAt) (n := 1) (rt := (some .int)) (st := true) rfl rfl rfl (by decide +kernel)
set_option maxRecDepth 100000 in
theorem mo_80 : MOK 80 := mchk_ok (i1 := 1580) (q := (123, 1579, 69)) (y := yX12_many) (cc := cX12_many) (n := 2) (rt := (some .int)) (st := false) rfl rfl rfl (by decide +kernel)
set_option maxRecDepth 100000 in
theorem mo_81 : MOK 81 := mchk_ok (i1 := 1584) (q := (123, 1583, 70)) (y := yX12_thingAt) (cc := cX12_thingAt) (n := 3) (rt := (some .int)) (st := false) rfl rfl rfl (by decide +kernel)
set_option maxRecDepth 100000 in
theorem mo_82 : MOK 82 := mchk_ok (i1 := 1608) (q := (123, 1607, 74)) (y := yX12_placeOf) (cc := cX12_placeOf) (n := 4) (rt := (some .int)) (st := false) rfl rfl rfl (by decide +kernel)
set_option maxRecDepth 100000 in
theorem mo_83 : MOK 83 := mchk_ok (i1 := 1616) (q := (123, 1615, 75)) (y := yX12_has) (cc := cX12_has) (n := 3) (rt := (some .boolean)) (st := false) rfl rfl rfl (by decide +kernel)
set_option maxRecDepth 100000 in
theorem mo_84 : MOK 84 := mchk_ok (i1 := 1588) (q := (123, 1587, 71)) (y := yX12_bitsIn) (cc := cX12_bitsIn) (n := 4) (rt := (some .int)) (st := false) rfl rfl rfl (by decide +kernel)
set_option maxRecDepth 100000 in
theorem mo_85 : MOK 85 := mchk_ok (i1 := 1592) (q := (123, 1591, 72)) (y := yX12_worthOf) (cc := cX12_worthOf) (n := 4) (rt := (some .int)) (st := false) rfl rfl rfl (by decide +kernel)
set_option maxRecDepth 100000 in
theorem mo_86 : MOK 86 := mchk_ok (i1 := 1563) (q := (123, 1562, 67)) (y := yX12_empties) (cc := cX12_empties) (n := 5) (rt := none) (st := false) rfl rfl rfl (by decide +kernel)
set_option maxRecDepth 100000 in
theorem mo_87 : MOK 87 := mchk_ok (i1 := 1604) (q := (123, 1603, 73)) (y := yX12_hear) (cc := cX12_hear) (n := 7) (rt := (some .int)) (st := false) rfl rfl rfl (by decide +kernel)
set_option maxRecDepth 100000 in
theorem mo_88 : MOK 88 := mchk_ok (i1 := 1620) (q := (123, 1619, 76)) (y := yX12_say) (cc := cX12_say) (n := 5) (rt := (some .int)) (st := false) rfl rfl rfl (by decide +kernel)
set_option maxRecDepth 100000 in
theorem mo_89 : MOK 89 := mchk_ok (i1 := 1636) (q := (123, 1635, 78)) (y := yX12_walk) (cc := cX12_walk) (n := 7) (rt := (some .int)) (st := false) rfl rfl rfl (by decide +kernel)
set_option maxRecDepth 100000 in
theorem mo_90 : MOK 90 := mchk_ok (i1 := 1649) (q := (123, 1648, 79)) (y := yX12_deliver) (cc := cX12_deliver) (n := 5) (rt := (some .int)) (st := false) rfl rfl rfl (by decide +kernel)
set_option maxRecDepth 100000 in
theorem mo_91 : MOK 91 := mchk_ok (i1 := 1559) (q := (123, 1557, 1558)) (y := yX12_comes) (cc := cX12_comes) (n := 2) (rt := (some .int)) (st := false) rfl rfl rfl (by decide +kernel)
set_option maxRecDepth 100000 in
theorem mo_92 : MOK 92 := mchk_ok (i1 := 1570) (q := (123, 1568, 1569)) (y := yX12_of) (cc := cX12_of) (n := 3) (rt := (some .int)) (st := false) rfl rfl rfl (by decide +kernel)
set_option maxRecDepth 100000 in
theorem mo_93 : MOK 93 := mchk_ok (i1 := 1596) (q := (123, 1594, 1595)) (y := yX12_lost) (cc := cX12_lost) (n := 3) (rt := (some .int)) (st := false) rfl rfl rfl (by decide +kernel)
set_option maxRecDepth 100000 in
theorem mo_94 : MOK 94 := mchk_ok (i1 := 1600) (q := (123, 1598, 1599)) (y := yX12_hears) (cc := cX12_hears) (n := 3) (rt := (some .int)) (st := false) rfl rfl rfl (by decide +kernel)
set_option maxRecDepth 100000 in
theorem mo_95 : MOK 95 := mchk_ok (i1 := 1612) (q := (123, 1610, 1611)) (y := yX12_says) (cc := cX12_says) (n := 3) (rt := (some .int)) (st := false) rfl rfl rfl (by decide +kernel)
set_option maxRecDepth 100000 in
theorem mo_96 : MOK 96 := mchk_ok (i1 := 1628) (q := (123, 1627, 77)) (y := yX12_tell) (cc := cX12_tell) (n := 5) (rt := (some .int)) (st := false) rfl rfl rfl (by decide +kernel)
set_option maxRecDepth 100000 in
theorem mo_97 : MOK 97 := mchk_ok (i1 := 1624) (q := (123, 1622, 1623)) (y := yX12_tells) (cc := cX12_tells) (n := 4) (rt := (some .int)) (st := false) rfl rfl rfl (by decide +kernel)
set_option maxRecDepth 100000 in
theorem mo_98 : MOK 98 := mchk_ok (i1 := 1632) (q := (123, 1630, 1631)) (y := yX12_walks) (cc := cX12_walks) (n := 3) (rt := (some .int)) (st := false) rfl rfl rfl (by decide +kernel)
set_option maxRecDepth 100000 in
theorem mo_99 : MOK 99 := mchk_ok (i1 := 1640) (q := (123, 1638, 1639)) (y := yX12_recites) (cc := cX12_recites) (n := 7) (rt := (some .int)) (st := false) rfl rfl rfl (by decide +kernel)
end
