section
def ab_mchk (y : MethodName) (n : Nat) (st : Bool) (q : Nat × Nat × Nat) : Bool := decide (lw_tbl[q.1]? = some (.initialized y.cls) ∧ (st = true → lw_tbl[q.2.1]? = some (.static y)) ∧ (st = false → lw_tbl[q.2.1]? = some (.instanceMethod y) ∧ (y.name = "<init>" ∨ lw_tbl[q.2.2]? = some (.selects y.cls y y))) ∧ y.cls ≠ "java/lang/invoke/MethodHandle" ∧ y.cls ≠ "java/lang/invoke/VarHandle" ∧ plainName y.cls = true ∧ n ≤ 40)
theorem mchk_ok {m9 i1 : Nat} {q : Nat × Nat × Nat} {y : MethodName} {cc : ByteArray} {n : Nat} {rt : Option FieldType} {st : Bool} (h0 : ab_mt m9 = (y, cc, n, rt)) (hst : ab_stt m9 = st) (h1 : lw_tbl[i1]? = some (.code y cc n rt)) (h9 : ab_mchk y n st q = true) : MOK m9 := by
  obtain ⟨h2, h3, h4, h5⟩ := of_decide_eq_true h9
  unfold MOK
  rw [h0, hst]
  exact ⟨wd_in h1 rfl, wd_in h2 rfl, fun z => wd_in (h3 z) rfl, fun z => ⟨wd_in (h4 z).1 rfl, (h4 z).2.imp id (fun z => wd_in z rfl)⟩, h5⟩
set_option maxRecDepth 100000 in
theorem mo_0 : MOK 0 := mchk_ok (i1 := 135) (q := (110, 134, 0)) (y := yX11_init) (cc := cX11_init) (n := 2) (rt := none) (st := false) rfl rfl rfl (by decide +kernel)
set_option maxRecDepth 100000 in
theorem mo_1 : MOK 1 := mchk_ok (i1 := 549) (q := (110, 547, 548)) (y := yX11_feed) (cc := cX11_feed) (n := 6) (rt := (some .int)) (st := false) rfl rfl rfl (by decide +kernel)
set_option maxRecDepth 100000 in
theorem mo_2 : MOK 2 := mchk_ok (i1 := 557) (q := (110, 555, 556)) (y := yX11_lore) (cc := cX11_lore) (n := 2) (rt := (some .int)) (st := false) rfl rfl rfl (by decide +kernel)
set_option maxRecDepth 100000 in
theorem mo_3 : MOK 3 := mchk_ok (i1 := 706) (q := (110, 704, 705)) (y := yX11_fault) (cc := cX11_fault) (n := 2) (rt := (some .int)) (st := false) rfl rfl rfl (by decide +kernel)
set_option maxRecDepth 100000 in
theorem mo_4 : MOK 4 := mchk_ok (i1 := 710) (q := (110, 708, 709)) (y := yX11_thing) (cc := cX11_thing) (n := 3) (rt := (some .int)) (st := false) rfl rfl rfl (by decide +kernel)
set_option maxRecDepth 100000 in
theorem mo_5 : MOK 5 := mchk_ok (i1 := 718) (q := (110, 716, 717)) (y := yX11_news) (cc := cX11_news) (n := 3) (rt := (some .int)) (st := false) rfl rfl rfl (by decide +kernel)
set_option maxRecDepth 100000 in
theorem mo_6 : MOK 6 := mchk_ok (i1 := 730) (q := (110, 728, 729)) (y := yX11_comes) (cc := cX11_comes) (n := 2) (rt := (some .int)) (st := false) rfl rfl rfl (by decide +kernel)
set_option maxRecDepth 100000 in
theorem mo_7 : MOK 7 := mchk_ok (i1 := 753) (q := (110, 751, 752)) (y := yX11_of) (cc := cX11_of) (n := 5) (rt := (some .int)) (st := false) rfl rfl rfl (by decide +kernel)
set_option maxRecDepth 100000 in
theorem mo_8 : MOK 8 := mchk_ok (i1 := 769) (q := (110, 767, 768)) (y := yX11_lost) (cc := cX11_lost) (n := 3) (rt := (some .int)) (st := false) rfl rfl rfl (by decide +kernel)
set_option maxRecDepth 100000 in
theorem mo_9 : MOK 9 := mchk_ok (i1 := 773) (q := (110, 771, 772)) (y := yX11_hears) (cc := cX11_hears) (n := 3) (rt := (some .int)) (st := false) rfl rfl rfl (by decide +kernel)
set_option maxRecDepth 100000 in
theorem mo_10 : MOK 10 := mchk_ok (i1 := 794) (q := (110, 792, 793)) (y := yX11_says) (cc := cX11_says) (n := 4) (rt := (some .int)) (st := false) rfl rfl rfl (by decide +kernel)
set_option maxRecDepth 100000 in
theorem mo_11 : MOK 11 := mchk_ok (i1 := 804) (q := (110, 802, 803)) (y := yX11_tells) (cc := cX11_tells) (n := 7) (rt := (some .int)) (st := false) rfl rfl rfl (by decide +kernel)
set_option maxRecDepth 100000 in
theorem mo_12 : MOK 12 := mchk_ok (i1 := 813) (q := (110, 811, 812)) (y := yX11_walks) (cc := cX11_walks) (n := 3) (rt := (some .int)) (st := false) rfl rfl rfl (by decide +kernel)
set_option maxRecDepth 100000 in
theorem mo_13 : MOK 13 := mchk_ok (i1 := 825) (q := (110, 823, 824)) (y := yX11_recites) (cc := cX11_recites) (n := 4) (rt := (some .int)) (st := false) rfl rfl rfl (by decide +kernel)
set_option maxRecDepth 100000 in
theorem mo_14 : MOK 14 := mchk_ok (i1 := 839) (q := (110, 837, 838)) (y := yX11_delivers) (cc := cX11_delivers) (n := 2) (rt := (some .int)) (st := false) rfl rfl rfl (by decide +kernel)
set_option maxRecDepth 100000 in
theorem mo_15 : MOK 15 := mchk_ok (i1 := 847) (q := (110, 845, 846)) (y := yX11_breach) (cc := cX11_breach) (n := 3) (rt := (some .int)) (st := false) rfl rfl rfl (by decide +kernel)
set_option maxRecDepth 100000 in
theorem mo_16 : MOK 16 := mchk_ok (i1 := 855) (q := (110, 853, 854)) (y := yX11_risk) (cc := cX11_risk) (n := 4) (rt := (some .int)) (st := false) rfl rfl rfl (by decide +kernel)
set_option maxRecDepth 100000 in
theorem mo_17 : MOK 17 := mchk_ok (i1 := 872) (q := (110, 870, 871)) (y := yX11_loud) (cc := cX11_loud) (n := 3) (rt := (some .int)) (st := false) rfl rfl rfl (by decide +kernel)
set_option maxRecDepth 100000 in
theorem mo_18 : MOK 18 := mchk_ok (i1 := 883) (q := (110, 881, 882)) (y := yX11_turned) (cc := cX11_turned) (n := 3) (rt := (some .int)) (st := false) rfl rfl rfl (by decide +kernel)
set_option maxRecDepth 100000 in
theorem mo_19 : MOK 19 := mchk_ok (i1 := 897) (q := (110, 895, 896)) (y := yX11_judge) (cc := cX11_judge) (n := 7) (rt := (some .int)) (st := false) rfl rfl rfl (by decide +kernel)
set_option maxRecDepth 100000 in
theorem mo_20 : MOK 20 := mchk_ok (i1 := 932) (q := (110, 930, 931)) (y := yX11_perform) (cc := cX11_perform) (n := 4) (rt := (some .int)) (st := false) rfl rfl rfl (by decide +kernel)
set_option maxRecDepth 100000 in
theorem mo_21 : MOK 21 := mchk_ok (i1 := 936) (q := (110, 934, 935)) (y := yX11_day) (cc := cX11_day) (n := 3) (rt := (some .int)) (st := false) rfl rfl rfl (by decide +kernel)
set_option maxRecDepth 100000 in
theorem mo_22 : MOK 22 := mchk_ok (i1 := 957) (q := (110, 955, 956)) (y := yX11_fresh) (cc := cX11_fresh) (n := 5) (rt := (some .int)) (st := false) rfl rfl rfl (by decide +kernel)
set_option maxRecDepth 100000 in
theorem mo_23 : MOK 23 := mchk_ok (i1 := 993) (q := (110, 991, 992)) (y := yX11_kept) (cc := cX11_kept) (n := 5) (rt := (some .int)) (st := false) rfl rfl rfl (by decide +kernel)
set_option maxRecDepth 100000 in
theorem mo_24 : MOK 24 := mchk_ok (i1 := 997) (q := (110, 995, 996)) (y := yX11_less) (cc := cX11_less) (n := 4) (rt := (some .int)) (st := false) rfl rfl rfl (by decide +kernel)
set_option maxRecDepth 100000 in
theorem mo_25 : MOK 25 := mchk_ok (i1 := 1001) (q := (110, 999, 1000)) (y := yX11_enough) (cc := cX11_enough) (n := 6) (rt := (some .int)) (st := false) rfl rfl rfl (by decide +kernel)
set_option maxRecDepth 100000 in
theorem mo_26 : MOK 26 := mchk_ok (i1 := 1005) (q := (110, 1003, 1004)) (y := yX11_farBack) (cc := cX11_farBack) (n := 4) (rt := (some .int)) (st := false) rfl rfl rfl (by decide +kernel)
set_option maxRecDepth 100000 in
theorem mo_27 : MOK 27 := mchk_ok (i1 := 1013) (q := (110, 1011, 1012)) (y := yX11_through) (cc := cX11_through) (n := 5) (rt := (some .int)) (st := false) rfl rfl rfl (by decide +kernel)
set_option maxRecDepth 100000 in
theorem mo_28 : MOK 28 := mchk_ok (i1 := 1023) (q := (110, 1021, 1022)) (y := yX11_sizeFor) (cc := cX11_sizeFor) (n := 6) (rt := (some .int)) (st := false) rfl rfl rfl (by decide +kernel)
set_option maxRecDepth 100000 in
theorem mo_29 : MOK 29 := mchk_ok (i1 := 1031) (q := (110, 1029, 1030)) (y := yX11_told) (cc := cX11_told) (n := 5) (rt := (some .int)) (st := false) rfl rfl rfl (by decide +kernel)
set_option maxRecDepth 100000 in
theorem mo_30 : MOK 30 := mchk_ok (i1 := 1066) (q := (110, 1064, 1065)) (y := yX11_back) (cc := cX11_back) (n := 2) (rt := (some .int)) (st := false) rfl rfl rfl (by decide +kernel)
set_option maxRecDepth 100000 in
theorem mo_31 : MOK 31 := mchk_ok (i1 := 1074) (q := (110, 1072, 1073)) (y := yX11_seeds) (cc := cX11_seeds) (n := 2) (rt := (some .int)) (st := false) rfl rfl rfl (by decide +kernel)
set_option maxRecDepth 100000 in
theorem mo_32 : MOK 32 := mchk_ok (i1 := 1099) (q := (110, 1097, 1098)) (y := yX11_men) (cc := cX11_men) (n := 5) (rt := (some .int)) (st := false) rfl rfl rfl (by decide +kernel)
set_option maxRecDepth 100000 in
theorem mo_33 : MOK 33 := mchk_ok (i1 := 1137) (q := (110, 1135, 1136)) (y := yX11_load) (cc := cX11_load) (n := 7) (rt := (some .int)) (st := false) rfl rfl rfl (by decide +kernel)
set_option maxRecDepth 100000 in
theorem mo_34 : MOK 34 := mchk_ok (i1 := 1149) (q := (110, 1147, 1148)) (y := yX11_road) (cc := cX11_road) (n := 4) (rt := (some .int)) (st := false) rfl rfl rfl (by decide +kernel)
set_option maxRecDepth 100000 in
theorem mo_35 : MOK 35 := mchk_ok (i1 := 1181) (q := (110, 1179, 1180)) (y := yX11_questions) (cc := cX11_questions) (n := 5) (rt := (some .int)) (st := false) rfl rfl rfl (by decide +kernel)
set_option maxRecDepth 100000 in
theorem mo_36 : MOK 36 := mchk_ok (i1 := 1194) (q := (110, 1192, 1193)) (y := yX11_asked) (cc := cX11_asked) (n := 2) (rt := (some .int)) (st := false) rfl rfl rfl (by decide +kernel)
set_option maxRecDepth 100000 in
theorem mo_37 : MOK 37 := mchk_ok (i1 := 1207) (q := (110, 1205, 1206)) (y := yX11_broken) (cc := cX11_broken) (n := 3) (rt := (some .int)) (st := false) rfl rfl rfl (by decide +kernel)
set_option maxRecDepth 100000 in
theorem mo_38 : MOK 38 := mchk_ok (i1 := 1215) (q := (110, 1213, 1214)) (y := yX11_piece) (cc := cX11_piece) (n := 4) (rt := (some .int)) (st := false) rfl rfl rfl (by decide +kernel)
set_option maxRecDepth 100000 in
theorem mo_39 : MOK 39 := mchk_ok (i1 := 1224) (q := (110, 1222, 1223)) (y := yX11_joined) (cc := cX11_joined) (n := 2) (rt := (some .int)) (st := false) rfl rfl rfl (by decide +kernel)
set_option maxRecDepth 100000 in
theorem mo_40 : MOK 40 := mchk_ok (i1 := 1257) (q := (110, 1255, 1256)) (y := yX11_unfit) (cc := cX11_unfit) (n := 3) (rt := (some .int)) (st := false) rfl rfl rfl (by decide +kernel)
set_option maxRecDepth 100000 in
theorem mo_41 : MOK 41 := mchk_ok (i1 := 1273) (q := (110, 1271, 1272)) (y := yX11_gaps) (cc := cX11_gaps) (n := 1) (rt := (some .int)) (st := false) rfl rfl rfl (by decide +kernel)
set_option maxRecDepth 100000 in
theorem mo_42 : MOK 42 := mchk_ok (i1 := 1282) (q := (110, 1280, 1281)) (y := yX11_numbers) (cc := cX11_numbers) (n := 4) (rt := (some .int)) (st := false) rfl rfl rfl (by decide +kernel)
set_option maxRecDepth 100000 in
theorem mo_43 : MOK 43 := mchk_ok (i1 := 1293) (q := (110, 1291, 1292)) (y := yX11_write) (cc := cX11_write) (n := 6) (rt := (some .long)) (st := false) rfl rfl rfl (by decide +kernel)
set_option maxRecDepth 100000 in
theorem mo_44 : MOK 44 := mchk_ok (i1 := 1306) (q := (110, 1304, 1305)) (y := yX11_copy) (cc := cX11_copy) (n := 6) (rt := (some .int)) (st := false) rfl rfl rfl (by decide +kernel)
set_option maxRecDepth 100000 in
theorem mo_45 : MOK 45 := mchk_ok (i1 := 1310) (q := (110, 1308, 1309)) (y := yX11_image) (cc := cX11_image) (n := 2) (rt := (some .int)) (st := false) rfl rfl rfl (by decide +kernel)
set_option maxRecDepth 100000 in
theorem mo_46 : MOK 46 := mchk_ok (i1 := 1323) (q := (110, 1321, 1322)) (y := yX11_restore) (cc := cX11_restore) (n := 2) (rt := (some .int)) (st := false) rfl rfl rfl (by decide +kernel)
set_option maxRecDepth 100000 in
theorem mo_47 : MOK 47 := mchk_ok (i1 := 1327) (q := (110, 1325, 1326)) (y := yX11_count) (cc := cX11_count) (n := 2) (rt := (some .int)) (st := false) rfl rfl rfl (by decide +kernel)
set_option maxRecDepth 100000 in
theorem mo_48 : MOK 48 := mchk_ok (i1 := 829) (q := (110, 828, 16)) (y := yX11_refusalOfRow) (cc := cX11_refusalOfRow) (n := 2) (rt := (some .int)) (st := false) rfl rfl rfl (by decide +kernel)
set_option maxRecDepth 100000 in
theorem mo_49 : MOK 49 := mchk_ok (i1 := 961) (q := (110, 960, 21)) (y := yX11_refusalOfHearings) (cc := cX11_refusalOfHearings) (n := 6) (rt := (some .int)) (st := false) rfl rfl rfl (by decide +kernel)
set_option maxRecDepth 100000 in
theorem mo_50 : MOK 50 := mchk_ok (i1 := 1103) (q := (110, 1102, 29)) (y := yX11_refusalOfMen) (cc := cX11_refusalOfMen) (n := 4) (rt := (some .int)) (st := false) rfl rfl rfl (by decide +kernel)
set_option maxRecDepth 100000 in
theorem mo_51 : MOK 51 := mchk_ok (i1 := 964) (q := (110, 963, 0)) (y := yX11_isSize) (cc := cX11_isSize) (n := 1) (rt := (some .boolean)) (st := true) rfl rfl rfl (by decide +kernel)
set_option maxRecDepth 100000 in
theorem mo_52 : MOK 52 := mchk_ok (i1 := 1034) (q := (110, 1033, 0)) (y := yX11_isAnswerOrPlace) (cc := cX11_isAnswerOrPlace) (n := 2) (rt := (some .boolean)) (st := true) rfl rfl rfl (by decide +kernel)
set_option maxRecDepth 100000 in
theorem mo_53 : MOK 53 := mchk_ok (i1 := 1467) (q := (122, 1466, 0)) (y := yX12_within) (cc := cX12_within) (n := 6) (rt := (some .boolean)) (st := true) rfl rfl rfl (by decide +kernel)
set_option maxRecDepth 100000 in
theorem mo_54 : MOK 54 := mchk_ok (i1 := 1332) (q := (122, 1331, 0)) (y := yX12_init) (cc := cX12_init) (n := 1) (rt := none) (st := false) rfl rfl rfl (by decide +kernel)
set_option maxRecDepth 100000 in
theorem mo_55 : MOK 55 := mchk_ok (i1 := 1460) (q := (122, 1458, 1459)) (y := yX12_feed) (cc := cX12_feed) (n := 8) (rt := (some .int)) (st := false) rfl rfl rfl (by decide +kernel)
set_option maxRecDepth 100000 in
theorem mo_56 : MOK 56 := mchk_ok (i1 := 1475) (q := (122, 1474, 52)) (y := yX12_see) (cc := cX12_see) (n := 2) (rt := (some .int)) (st := false) rfl rfl rfl (by decide +kernel)
set_option maxRecDepth 100000 in
theorem mo_57 : MOK 57 := mchk_ok (i1 := 1478) (q := (122, 1477, 0)) (y := yX12_isSmall) (cc := cX12_isSmall) (n := 1) (rt := (some .boolean)) (st := true) rfl rfl rfl (by decide +kernel)
set_option maxRecDepth 100000 in
theorem mo_58 : MOK 58 := mchk_ok (i1 := 1488) (q := (122, 1487, 0)) (y := yX12_isDigit) (cc := cX12_isDigit) (n := 1) (rt := (some .boolean)) (st := true) rfl rfl rfl (by decide +kernel)
set_option maxRecDepth 100000 in
theorem mo_59 : MOK 59 := mchk_ok (i1 := 1482) (q := (122, 1481, 53)) (y := yX12_keyAt) (cc := cX12_keyAt) (n := 4) (rt := (some .int)) (st := false) rfl rfl rfl (by decide +kernel)
set_option maxRecDepth 100000 in
theorem mo_60 : MOK 60 := mchk_ok (i1 := 1471) (q := (122, 1470, 51)) (y := yX12_next) (cc := cX12_next) (n := 1) (rt := none) (st := false) rfl rfl rfl (by decide +kernel)
set_option maxRecDepth 100000 in
theorem mo_61 : MOK 61 := mchk_ok (i1 := 1504) (q := (122, 1503, 57)) (y := yX12_fails) (cc := cX12_fails) (n := 2) (rt := none) (st := false) rfl rfl rfl (by decide +kernel)
set_option maxRecDepth 100000 in
theorem mo_62 : MOK 62 := mchk_ok (i1 := 1496) (q := (122, 1495, 55)) (y := yX12_is) (cc := cX12_is) (n := 2) (rt := (some .boolean)) (st := false) rfl rfl rfl (by decide +kernel)
set_option maxRecDepth 100000 in
theorem mo_63 : MOK 63 := mchk_ok (i1 := 1520) (q := (122, 1519, 61)) (y := yX12_eats) (cc := cX12_eats) (n := 2) (rt := (some .boolean)) (st := false) rfl rfl rfl (by decide +kernel)
set_option maxRecDepth 100000 in
theorem mo_64 : MOK 64 := mchk_ok (i1 := 1508) (q := (122, 1507, 58)) (y := yX12_takes) (cc := cX12_takes) (n := 4) (rt := (some .int)) (st := false) rfl rfl rfl (by decide +kernel)
set_option maxRecDepth 100000 in
theorem mo_65 : MOK 65 := mchk_ok (i1 := 1516) (q := (122, 1515, 60)) (y := yX12_takesThing) (cc := cX12_takesThing) (n := 1) (rt := (some .int)) (st := false) rfl rfl rfl (by decide +kernel)
set_option maxRecDepth 100000 in
theorem mo_66 : MOK 66 := mchk_ok (i1 := 1500) (q := (122, 1499, 56)) (y := yX12_readThings) (cc := cX12_readThings) (n := 2) (rt := none) (st := false) rfl rfl rfl (by decide +kernel)
set_option maxRecDepth 100000 in
theorem mo_67 : MOK 67 := mchk_ok (i1 := 1524) (q := (122, 1523, 62)) (y := yX12_readTwo) (cc := cX12_readTwo) (n := 4) (rt := none) (st := false) rfl rfl rfl (by decide +kernel)
set_option maxRecDepth 100000 in
theorem mo_68 : MOK 68 := mchk_ok (i1 := 1528) (q := (122, 1527, 63)) (y := yX12_readWorth) (cc := cX12_readWorth) (n := 3) (rt := none) (st := false) rfl rfl rfl (by decide +kernel)
set_option maxRecDepth 100000 in
theorem mo_69 : MOK 69 := mchk_ok (i1 := 1512) (q := (122, 1511, 59)) (y := yX12_readInn) (cc := cX12_readInn) (n := 4) (rt := none) (st := false) rfl rfl rfl (by decide +kernel)
set_option maxRecDepth 100000 in
theorem mo_70 : MOK 70 := mchk_ok (i1 := 1492) (q := (122, 1491, 54)) (y := yX12_readLine) (cc := cX12_readLine) (n := 1) (rt := none) (st := false) rfl rfl rfl (by decide +kernel)
set_option maxRecDepth 100000 in
theorem mo_71 : MOK 71 := mchk_ok (i1 := 1464) (q := (122, 1462, 1463)) (y := yX12_lore) (cc := cX12_lore) (n := 3) (rt := (some .int)) (st := false) rfl rfl rfl (by decide +kernel)
set_option maxRecDepth 100000 in
theorem mo_72 : MOK 72 := mchk_ok (i1 := 1532) (q := (122, 1530, 1531)) (y := yX12_fault) (cc := cX12_fault) (n := 2) (rt := (some .int)) (st := false) rfl rfl rfl (by decide +kernel)
set_option maxRecDepth 100000 in
theorem mo_73 : MOK 73 := mchk_ok (i1 := 1540) (q := (122, 1539, 64)) (y := yX12_isThing) (cc := cX12_isThing) (n := 3) (rt := (some .boolean)) (st := false) rfl rfl rfl (by decide +kernel)
set_option maxRecDepth 100000 in
theorem mo_74 : MOK 74 := mchk_ok (i1 := 1549) (q := (122, 1548, 65)) (y := yX12_isInn) (cc := cX12_isInn) (n := 3) (rt := (some .boolean)) (st := false) rfl rfl rfl (by decide +kernel)
set_option maxRecDepth 100000 in
theorem mo_75 : MOK 75 := mchk_ok (i1 := 1568) (q := (122, 1567, 67)) (y := yX12_isMan) (cc := cX12_isMan) (n := 3) (rt := (some .boolean)) (st := false) rfl rfl rfl (by decide +kernel)
set_option maxRecDepth 100000 in
theorem mo_76 : MOK 76 := mchk_ok (i1 := 1763) (q := (122, 1762, 90)) (y := yX12_isSet) (cc := cX12_isSet) (n := 2) (rt := (some .boolean)) (st := false) rfl rfl rfl (by decide +kernel)
set_option maxRecDepth 100000 in
theorem mo_77 : MOK 77 := mchk_ok (i1 := 1536) (q := (122, 1534, 1535)) (y := yX12_thing) (cc := cX12_thing) (n := 3) (rt := (some .int)) (st := false) rfl rfl rfl (by decide +kernel)
set_option maxRecDepth 100000 in
theorem mo_78 : MOK 78 := mchk_ok (i1 := 1545) (q := (122, 1543, 1544)) (y := yX12_news) (cc := cX12_news) (n := 3) (rt := (some .int)) (st := false) rfl rfl rfl (by decide +kernel)
set_option maxRecDepth 100000 in
theorem mo_79 : MOK 79 := mchk_ok (i1 := 1560) (q := (122, 1559, 0)) (y := yX12_manAt) (cc := cX12_manAt) (n := 1) (rt := (some .int)) (st := true) rfl rfl rfl (by decide +kernel)
set_option maxRecDepth 100000 in
theorem mo_80 : MOK 80 := mchk_ok (i1 := 1574) (q := (122, 1573, 68)) (y := yX12_many) (cc := cX12_many) (n := 2) (rt := (some .int)) (st := false) rfl rfl rfl (by decide +kernel)
set_option maxRecDepth 100000 in
theorem mo_81 : MOK 81 := mchk_ok (i1 := 1578) (q := (122, 1577, 69)) (y := yX12_thingAt) (cc := cX12_thingAt) (n := 3) (rt := (some .int)) (st := false) rfl rfl rfl (by decide +kernel)
set_option maxRecDepth 100000 in
theorem mo_82 : MOK 82 := mchk_ok (i1 := 1602) (q := (122, 1601, 73)) (y := yX12_placeOf) (cc := cX12_placeOf) (n := 4) (rt := (some .int)) (st := false) rfl rfl rfl (by decide +kernel)
set_option maxRecDepth 100000 in
theorem mo_83 : MOK 83 := mchk_ok (i1 := 1610) (q := (122, 1609, 74)) (y := yX12_has) (cc := cX12_has) (n := 3) (rt := (some .boolean)) (st := false) rfl rfl rfl (by decide +kernel)
set_option maxRecDepth 100000 in
theorem mo_84 : MOK 84 := mchk_ok (i1 := 1582) (q := (122, 1581, 70)) (y := yX12_bitsIn) (cc := cX12_bitsIn) (n := 4) (rt := (some .int)) (st := false) rfl rfl rfl (by decide +kernel)
set_option maxRecDepth 100000 in
theorem mo_85 : MOK 85 := mchk_ok (i1 := 1586) (q := (122, 1585, 71)) (y := yX12_worthOf) (cc := cX12_worthOf) (n := 4) (rt := (some .int)) (st := false) rfl rfl rfl (by decide +kernel)
set_option maxRecDepth 100000 in
theorem mo_86 : MOK 86 := mchk_ok (i1 := 1557) (q := (122, 1556, 66)) (y := yX12_empties) (cc := cX12_empties) (n := 5) (rt := none) (st := false) rfl rfl rfl (by decide +kernel)
set_option maxRecDepth 100000 in
theorem mo_87 : MOK 87 := mchk_ok (i1 := 1598) (q := (122, 1597, 72)) (y := yX12_hear) (cc := cX12_hear) (n := 7) (rt := (some .int)) (st := false) rfl rfl rfl (by decide +kernel)
set_option maxRecDepth 100000 in
theorem mo_88 : MOK 88 := mchk_ok (i1 := 1614) (q := (122, 1613, 75)) (y := yX12_say) (cc := cX12_say) (n := 5) (rt := (some .int)) (st := false) rfl rfl rfl (by decide +kernel)
set_option maxRecDepth 100000 in
theorem mo_89 : MOK 89 := mchk_ok (i1 := 1630) (q := (122, 1629, 77)) (y := yX12_walk) (cc := cX12_walk) (n := 7) (rt := (some .int)) (st := false) rfl rfl rfl (by decide +kernel)
set_option maxRecDepth 100000 in
theorem mo_90 : MOK 90 := mchk_ok (i1 := 1643) (q := (122, 1642, 78)) (y := yX12_deliver) (cc := cX12_deliver) (n := 5) (rt := (some .int)) (st := false) rfl rfl rfl (by decide +kernel)
set_option maxRecDepth 100000 in
theorem mo_91 : MOK 91 := mchk_ok (i1 := 1553) (q := (122, 1551, 1552)) (y := yX12_comes) (cc := cX12_comes) (n := 2) (rt := (some .int)) (st := false) rfl rfl rfl (by decide +kernel)
set_option maxRecDepth 100000 in
theorem mo_92 : MOK 92 := mchk_ok (i1 := 1564) (q := (122, 1562, 1563)) (y := yX12_of) (cc := cX12_of) (n := 3) (rt := (some .int)) (st := false) rfl rfl rfl (by decide +kernel)
set_option maxRecDepth 100000 in
theorem mo_93 : MOK 93 := mchk_ok (i1 := 1590) (q := (122, 1588, 1589)) (y := yX12_lost) (cc := cX12_lost) (n := 3) (rt := (some .int)) (st := false) rfl rfl rfl (by decide +kernel)
set_option maxRecDepth 100000 in
theorem mo_94 : MOK 94 := mchk_ok (i1 := 1594) (q := (122, 1592, 1593)) (y := yX12_hears) (cc := cX12_hears) (n := 3) (rt := (some .int)) (st := false) rfl rfl rfl (by decide +kernel)
set_option maxRecDepth 100000 in
theorem mo_95 : MOK 95 := mchk_ok (i1 := 1606) (q := (122, 1604, 1605)) (y := yX12_says) (cc := cX12_says) (n := 3) (rt := (some .int)) (st := false) rfl rfl rfl (by decide +kernel)
set_option maxRecDepth 100000 in
theorem mo_96 : MOK 96 := mchk_ok (i1 := 1622) (q := (122, 1621, 76)) (y := yX12_tell) (cc := cX12_tell) (n := 5) (rt := (some .int)) (st := false) rfl rfl rfl (by decide +kernel)
set_option maxRecDepth 100000 in
theorem mo_97 : MOK 97 := mchk_ok (i1 := 1618) (q := (122, 1616, 1617)) (y := yX12_tells) (cc := cX12_tells) (n := 4) (rt := (some .int)) (st := false) rfl rfl rfl (by decide +kernel)
set_option maxRecDepth 100000 in
theorem mo_98 : MOK 98 := mchk_ok (i1 := 1626) (q := (122, 1624, 1625)) (y := yX12_walks) (cc := cX12_walks) (n := 3) (rt := (some .int)) (st := false) rfl rfl rfl (by decide +kernel)
set_option maxRecDepth 100000 in
theorem mo_99 : MOK 99 := mchk_ok (i1 := 1634) (q := (122, 1632, 1633)) (y := yX12_recites) (cc := cX12_recites) (n := 7) (rt := (some .int)) (st := false) rfl rfl rfl (by decide +kernel)
end
