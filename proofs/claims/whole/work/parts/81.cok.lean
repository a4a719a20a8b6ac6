section
theorem cok_of {m9 : Nat} {y : MethodName} {cc : ByteArray} {n : Nat} {rt : Option FieldType} {own : String} {init : Bool} {cd : List (Nat × List Nat × ab_E)} {hs : List (Nat × Nat)} (h0 : ab_mt m9 = (y, cc, n, rt)) (h1 : y.cls = own) (h2 : decide (y.name = "<init>") = init) (h3 : ab_cds m9 = cd) (h4 : ab_nl m9 = n) (h5 : ab_chks own cc rt init cd hs = true) : COK m9 := by
  subst h1
  subst h2
  unfold COK
  rw [h0, h3]
  exact ⟨fun pc e h9 => chks_lk _ _ h5 pc e h9, h4⟩
theorem cq_0 : COK 0 := cok_of (y := yX11_init) (cc := cX11_init) (n := 2) (rt := none) rfl rfl (by decide +kernel) rfl rfl ck_N_init
theorem cq_1 : COK 1 := cok_of (y := yX11_feed) (cc := cX11_feed) (n := 6) (rt := (some .int)) rfl rfl (by decide +kernel) rfl rfl ck_N_feed
theorem cq_2 : COK 2 := cok_of (y := yX11_lore) (cc := cX11_lore) (n := 2) (rt := (some .int)) rfl rfl (by decide +kernel) rfl rfl ck_N_lore
theorem cq_3 : COK 3 := cok_of (y := yX11_fault) (cc := cX11_fault) (n := 2) (rt := (some .int)) rfl rfl (by decide +kernel) rfl rfl ck_N_fault
theorem cq_4 : COK 4 := cok_of (y := yX11_thing) (cc := cX11_thing) (n := 3) (rt := (some .int)) rfl rfl (by decide +kernel) rfl rfl ck_N_thing
theorem cq_5 : COK 5 := cok_of (y := yX11_news) (cc := cX11_news) (n := 3) (rt := (some .int)) rfl rfl (by decide +kernel) rfl rfl ck_N_news
theorem cq_6 : COK 6 := cok_of (y := yX11_comes) (cc := cX11_comes) (n := 2) (rt := (some .int)) rfl rfl (by decide +kernel) rfl rfl ck_N_comes
theorem cq_7 : COK 7 := cok_of (y := yX11_of) (cc := cX11_of) (n := 5) (rt := (some .int)) rfl rfl (by decide +kernel) rfl rfl ck_N_of
theorem cq_8 : COK 8 := cok_of (y := yX11_lost) (cc := cX11_lost) (n := 3) (rt := (some .int)) rfl rfl (by decide +kernel) rfl rfl ck_N_lost
theorem cq_9 : COK 9 := cok_of (y := yX11_hears) (cc := cX11_hears) (n := 3) (rt := (some .int)) rfl rfl (by decide +kernel) rfl rfl ck_N_hears
theorem cq_10 : COK 10 := cok_of (y := yX11_says) (cc := cX11_says) (n := 4) (rt := (some .int)) rfl rfl (by decide +kernel) rfl rfl ck_N_says
theorem cq_11 : COK 11 := cok_of (y := yX11_tells) (cc := cX11_tells) (n := 7) (rt := (some .int)) rfl rfl (by decide +kernel) rfl rfl ck_N_tells
theorem cq_12 : COK 12 := cok_of (y := yX11_walks) (cc := cX11_walks) (n := 3) (rt := (some .int)) rfl rfl (by decide +kernel) rfl rfl ck_N_walks
theorem cq_13 : COK 13 := cok_of (y := yX11_recites) (cc := cX11_recites) (n := 4) (rt := (some .int)) rfl rfl (by decide +kernel) rfl rfl ck_N_recites
theorem cq_14 : COK 14 := cok_of (y := yX11_delivers) (cc := cX11_delivers) (n := 2) (rt := (some .int)) rfl rfl (by decide +kernel) rfl rfl ck_N_delivers
theorem cq_15 : COK 15 := cok_of (y := yX11_breach) (cc := cX11_breach) (n := 3) (rt := (some .int)) rfl rfl (by decide +kernel) rfl rfl ck_N_breach
theorem cq_16 : COK 16 := cok_of (y := yX11_risk) (cc := cX11_risk) (n := 4) (rt := (some .int)) rfl rfl (by decide +kernel) rfl rfl ck_N_risk
theorem cq_17 : COK 17 := cok_of (y := yX11_loud) (cc := cX11_loud) (n := 3) (rt := (some .int)) rfl rfl (by decide +kernel) rfl rfl ck_N_loud
theorem cq_18 : COK 18 := cok_of (y := yX11_turned) (cc := cX11_turned) (n := 3) (rt := (some .int)) rfl rfl (by decide +kernel) rfl rfl ck_N_turned
theorem cq_19 : COK 19 := cok_of (y := yX11_judge) (cc := cX11_judge) (n := 7) (rt := (some .int)) rfl rfl (by decide +kernel) rfl rfl ck_N_judge
theorem cq_20 : COK 20 := cok_of (y := yX11_perform) (cc := cX11_perform) (n := 4) (rt := (some .int)) rfl rfl (by decide +kernel) rfl rfl ck_N_perform
theorem cq_21 : COK 21 := cok_of (y := yX11_day) (cc := cX11_day) (n := 3) (rt := (some .int)) rfl rfl (by decide +kernel) rfl rfl ck_N_day
theorem cq_22 : COK 22 := cok_of (y := yX11_fresh) (cc := cX11_fresh) (n := 5) (rt := (some .int)) rfl rfl (by decide +kernel) rfl rfl ck_N_fresh
theorem cq_23 : COK 23 := cok_of (y := yX11_kept) (cc := cX11_kept) (n := 5) (rt := (some .int)) rfl rfl (by decide +kernel) rfl rfl ck_N_kept
theorem cq_24 : COK 24 := cok_of (y := yX11_less) (cc := cX11_less) (n := 4) (rt := (some .int)) rfl rfl (by decide +kernel) rfl rfl ck_N_less
theorem cq_25 : COK 25 := cok_of (y := yX11_enough) (cc := cX11_enough) (n := 6) (rt := (some .int)) rfl rfl (by decide +kernel) rfl rfl ck_N_enough
theorem cq_26 : COK 26 := cok_of (y := yX11_farBack) (cc := cX11_farBack) (n := 4) (rt := (some .int)) rfl rfl (by decide +kernel) rfl rfl ck_N_farBack
theorem cq_27 : COK 27 := cok_of (y := yX11_through) (cc := cX11_through) (n := 5) (rt := (some .int)) rfl rfl (by decide +kernel) rfl rfl ck_N_through
theorem cq_28 : COK 28 := cok_of (y := yX11_sizeFor) (cc := cX11_sizeFor) (n := 6) (rt := (some .int)) rfl rfl (by decide +kernel) rfl rfl ck_N_sizeFor
theorem cq_29 : COK 29 := cok_of (y := yX11_told) (cc := cX11_told) (n := 5) (rt := (some .int)) rfl rfl (by decide +kernel) rfl rfl ck_N_told
theorem cq_30 : COK 30 := cok_of (y := yX11_back) (cc := cX11_back) (n := 2) (rt := (some .int)) rfl rfl (by decide +kernel) rfl rfl ck_N_back
theorem cq_31 : COK 31 := cok_of (y := yX11_seeds) (cc := cX11_seeds) (n := 2) (rt := (some .int)) rfl rfl (by decide +kernel) rfl rfl ck_N_seeds
theorem cq_32 : COK 32 := cok_of (y := yX11_men) (cc := cX11_men) (n := 5) (rt := (some .int)) rfl rfl (by decide +kernel) rfl rfl ck_N_men
theorem cq_33 : COK 33 := cok_of (y := yX11_load) (cc := cX11_load) (n := 7) (rt := (some .int)) rfl rfl (by decide +kernel) rfl rfl ck_N_load
theorem cq_34 : COK 34 := cok_of (y := yX11_road) (cc := cX11_road) (n := 4) (rt := (some .int)) rfl rfl (by decide +kernel) rfl rfl ck_N_road
theorem cq_35 : COK 35 := cok_of (y := yX11_questions) (cc := cX11_questions) (n := 5) (rt := (some .int)) rfl rfl (by decide +kernel) rfl rfl ck_N_questions
theorem cq_36 : COK 36 := cok_of (y := yX11_asked) (cc := cX11_asked) (n := 2) (rt := (some .int)) rfl rfl (by decide +kernel) rfl rfl ck_N_asked
theorem cq_37 : COK 37 := cok_of (y := yX11_broken) (cc := cX11_broken) (n := 3) (rt := (some .int)) rfl rfl (by decide +kernel) rfl rfl ck_N_broken
theorem cq_38 : COK 38 := cok_of (y := yX11_piece) (cc := cX11_piece) (n := 4) (rt := (some .int)) rfl rfl (by decide +kernel) rfl rfl ck_N_piece
theorem cq_39 : COK 39 := cok_of (y := yX11_joined) (cc := cX11_joined) (n := 2) (rt := (some .int)) rfl rfl (by decide +kernel) rfl rfl ck_N_joined
theorem cq_40 : COK 40 := cok_of (y := yX11_unfit) (cc := cX11_unfit) (n := 3) (rt := (some .int)) rfl rfl (by decide +kernel) rfl rfl ck_N_unfit
theorem cq_41 : COK 41 := cok_of (y := yX11_gaps) (cc := cX11_gaps) (n := 1) (rt := (some .int)) rfl rfl (by decide +kernel) rfl rfl ck_N_gaps
theorem cq_42 : COK 42 := cok_of (y := yX11_numbers) (cc := cX11_numbers) (n := 4) (rt := (some .int)) rfl rfl (by decide +kernel) rfl rfl ck_N_numbers
theorem cq_43 : COK 43 := cok_of (y := yX11_write) (cc := cX11_write) (n := 6) (rt := (some .long)) rfl rfl (by decide +kernel) rfl rfl ck_N_write
theorem cq_44 : COK 44 := cok_of (y := yX11_copy) (cc := cX11_copy) (n := 6) (rt := (some .int)) rfl rfl (by decide +kernel) rfl rfl ck_N_copy
theorem cq_45 : COK 45 := cok_of (y := yX11_image) (cc := cX11_image) (n := 2) (rt := (some .int)) rfl rfl (by decide +kernel) rfl rfl ck_N_image
theorem cq_46 : COK 46 := cok_of (y := yX11_restore) (cc := cX11_restore) (n := 2) (rt := (some .int)) rfl rfl (by decide +kernel) rfl rfl ck_N_restore
theorem cq_47 : COK 47 := cok_of (y := yX11_count) (cc := cX11_count) (n := 2) (rt := (some .int)) rfl rfl (by decide +kernel) rfl rfl ck_N_count
theorem cq_48 : COK 48 := cok_of (y := yX11_refusalOfRow) (cc := cX11_refusalOfRow) (n := 2) (rt := (some .int)) rfl rfl (by decide +kernel) rfl rfl ck_N_refusalOfRow
theorem cq_49 : COK 49 := cok_of (y := yX11_refusalOfHearings) (cc := cX11_refusalOfHearings) (n := 6) (rt := (some .int)) rfl rfl (by decide +kernel) rfl rfl ck_N_refusalOfHearings
theorem cq_50 : COK 50 := cok_of (y := yX11_refusalOfMen) (cc := cX11_refusalOfMen) (n := 4) (rt := (some .int)) rfl rfl (by decide +kernel) rfl rfl ck_N_refusalOfMen
theorem cq_51 : COK 51 := cok_of (y := yX11_isSize) (cc := cX11_isSize) (n := 1) (rt := (some .boolean)) rfl rfl (by decide +kernel) rfl rfl ck_N_isSize
theorem cq_52 : COK 52 := cok_of (y := yX11_isAnswerOrPlace) (cc := cX11_isAnswerOrPlace) (n := 2) (rt := (some .boolean)) rfl rfl (by decide +kernel) rfl rfl ck_N_isAnswerOrPlace
theorem cq_53 : COK 53 := cok_of (y := yX12_within) (cc := cX12_within) (n := 6) (rt := (some .boolean)) rfl rfl (by decide +kernel) rfl rfl ck_M_within
theorem cq_54 : COK 54 := cok_of (y := yX12_init) (cc := cX12_init) (n := 1) (rt := none) rfl rfl (by decide +kernel) rfl rfl ck_M_init
theorem cq_55 : COK 55 := cok_of (y := yX12_feed) (cc := cX12_feed) (n := 8) (rt := (some .int)) rfl rfl (by decide +kernel) rfl rfl ck_M_feed
theorem cq_56 : COK 56 := cok_of (y := yX12_see) (cc := cX12_see) (n := 2) (rt := (some .int)) rfl rfl (by decide +kernel) rfl rfl ck_M_see
theorem cq_57 : COK 57 := cok_of (y := yX12_isSmall) (cc := cX12_isSmall) (n := 1) (rt := (some .boolean)) rfl rfl (by decide +kernel) rfl rfl ck_M_isSmall
theorem cq_58 : COK 58 := cok_of (y := yX12_isDigit) (cc := cX12_isDigit) (n := 1) (rt := (some .boolean)) rfl rfl (by decide +kernel) rfl rfl ck_M_isDigit
theorem cq_59 : COK 59 := cok_of (y := yX12_keyAt) (cc := cX12_keyAt) (n := 4) (rt := (some .int)) rfl rfl (by decide +kernel) rfl rfl ck_M_keyAt
theorem cq_60 : COK 60 := cok_of (y := yX12_next) (cc := cX12_next) (n := 1) (rt := none) rfl rfl (by decide +kernel) rfl rfl ck_M_next
theorem cq_61 : COK 61 := cok_of (y := yX12_fails) (cc := cX12_fails) (n := 2) (rt := none) rfl rfl (by decide +kernel) rfl rfl ck_M_fails
theorem cq_62 : COK 62 := cok_of (y := yX12_is) (cc := cX12_is) (n := 2) (rt := (some .boolean)) rfl rfl (by decide +kernel) rfl rfl ck_M_is
theorem cq_63 : COK 63 := cok_of (y := yX12_eats) (cc := cX12_eats) (n := 2) (rt := (some .boolean)) rfl rfl (by decide +kernel) rfl rfl ck_M_eats
theorem cq_64 : COK 64 := cok_of (y := yX12_takes) (cc := cX12_takes) (n := 4) (rt := (some .int)) rfl rfl (by decide +kernel) rfl rfl ck_M_takes
theorem cq_65 : COK 65 := cok_of (y := yX12_takesThing) (cc := cX12_takesThing) (n := 1) (rt := (some .int)) rfl rfl (by decide +kernel) rfl rfl ck_M_takesThing
theorem cq_66 : COK 66 := cok_of (y := yX12_readThings) (cc := cX12_readThings) (n := 2) (rt := none) rfl rfl (by decide +kernel) rfl rfl ck_M_readThings
theorem cq_67 : COK 67 := cok_of (y := yX12_readTwo) (cc := cX12_readTwo) (n := 4) (rt := none) rfl rfl (by decide +kernel) rfl rfl ck_M_readTwo
theorem cq_68 : COK 68 := cok_of (y := yX12_readWorth) (cc := cX12_readWorth) (n := 3) (rt := none) rfl rfl (by decide +kernel) rfl rfl ck_M_readWorth
theorem cq_69 : COK 69 := cok_of (y := yX12_readInn) (cc := cX12_readInn) (n := 4) (rt := none) rfl rfl (by decide +kernel) rfl rfl ck_M_readInn
theorem cq_70 : COK 70 := cok_of (y := yX12_readLine) (cc := cX12_readLine) (n := 1) (rt := none) rfl rfl (by decide +kernel) rfl rfl ck_M_readLine
theorem cq_71 : COK 71 := cok_of (y := yX12_lore) (cc := cX12_lore) (n := 3) (rt := (some .int)) rfl rfl (by decide +kernel) rfl rfl ck_M_lore
theorem cq_72 : COK 72 := cok_of (y := yX12_fault) (cc := cX12_fault) (n := 2) (rt := (some .int)) rfl rfl (by decide +kernel) rfl rfl ck_M_fault
theorem cq_73 : COK 73 := cok_of (y := yX12_isThing) (cc := cX12_isThing) (n := 3) (rt := (some .boolean)) rfl rfl (by decide +kernel) rfl rfl ck_M_isThing
theorem cq_74 : COK 74 := cok_of (y := yX12_isInn) (cc := cX12_isInn) (n := 3) (rt := (some .boolean)) rfl rfl (by decide +kernel) rfl rfl ck_M_isInn
theorem cq_75 : COK 75 := cok_of (y := yX12_isMan) (cc := cX12_isMan) (n := 3) (rt := (some .boolean)) rfl rfl (by decide +kernel) rfl rfl ck_M_isMan
theorem cq_76 : COK 76 := cok_of (y := yX12_isSet) (cc := cX12_isSet) (n := 2) (rt := (some .boolean)) rfl rfl (by decide +kernel) rfl rfl ck_M_isSet
theorem cq_77 : COK 77 := cok_of (y := yX12_thing) (cc := cX12_thing) (n := 3) (rt := (some .int)) rfl rfl (by decide +kernel) rfl rfl ck_M_thing
theorem cq_78 : COK 78 := cok_of (y := yX12_news) (cc := cX12_news) (n := 3) (rt := (some .int)) rfl rfl (by decide +kernel) rfl rfl ck_M_news
theorem cq_79 : COK 79 := cok_of (y := yX12_manAt) (cc := cX12_manAt) (n := 1) (rt := (some .int)) rfl rfl (by decide +kernel) rfl rfl ck_M_manAt
theorem cq_80 : COK 80 := cok_of (y := yX12_many) (cc := cX12_many) (n := 2) (rt := (some .int)) rfl rfl (by decide +kernel) rfl rfl ck_M_many
theorem cq_81 : COK 81 := cok_of (y := yX12_thingAt) (cc := cX12_thingAt) (n := 3) (rt := (some .int)) rfl rfl (by decide +kernel) rfl rfl ck_M_thingAt
theorem cq_82 : COK 82 := cok_of (y := yX12_placeOf) (cc := cX12_placeOf) (n := 4) (rt := (some .int)) rfl rfl (by decide +kernel) rfl rfl ck_M_placeOf
theorem cq_83 : COK 83 := cok_of (y := yX12_has) (cc := cX12_has) (n := 3) (rt := (some .boolean)) rfl rfl (by decide +kernel) rfl rfl ck_M_has
theorem cq_84 : COK 84 := cok_of (y := yX12_bitsIn) (cc := cX12_bitsIn) (n := 4) (rt := (some .int)) rfl rfl (by decide +kernel) rfl rfl ck_M_bitsIn
theorem cq_85 : COK 85 := cok_of (y := yX12_worthOf) (cc := cX12_worthOf) (n := 4) (rt := (some .int)) rfl rfl (by decide +kernel) rfl rfl ck_M_worthOf
theorem cq_86 : COK 86 := cok_of (y := yX12_empties) (cc := cX12_empties) (n := 5) (rt := none) rfl rfl (by decide +kernel) rfl rfl ck_M_empties
theorem cq_87 : COK 87 := cok_of (y := yX12_hear) (cc := cX12_hear) (n := 7) (rt := (some .int)) rfl rfl (by decide +kernel) rfl rfl ck_M_hear
theorem cq_88 : COK 88 := cok_of (y := yX12_say) (cc := cX12_say) (n := 5) (rt := (some .int)) rfl rfl (by decide +kernel) rfl rfl ck_M_say
theorem cq_89 : COK 89 := cok_of (y := yX12_walk) (cc := cX12_walk) (n := 7) (rt := (some .int)) rfl rfl (by decide +kernel) rfl rfl ck_M_walk
theorem cq_90 : COK 90 := cok_of (y := yX12_deliver) (cc := cX12_deliver) (n := 5) (rt := (some .int)) rfl rfl (by decide +kernel) rfl rfl ck_M_deliver
theorem cq_91 : COK 91 := cok_of (y := yX12_comes) (cc := cX12_comes) (n := 2) (rt := (some .int)) rfl rfl (by decide +kernel) rfl rfl ck_M_comes
theorem cq_92 : COK 92 := cok_of (y := yX12_of) (cc := cX12_of) (n := 3) (rt := (some .int)) rfl rfl (by decide +kernel) rfl rfl ck_M_of
theorem cq_93 : COK 93 := cok_of (y := yX12_lost) (cc := cX12_lost) (n := 3) (rt := (some .int)) rfl rfl (by decide +kernel) rfl rfl ck_M_lost
theorem cq_94 : COK 94 := cok_of (y := yX12_hears) (cc := cX12_hears) (n := 3) (rt := (some .int)) rfl rfl (by decide +kernel) rfl rfl ck_M_hears
theorem cq_95 : COK 95 := cok_of (y := yX12_says) (cc := cX12_says) (n := 3) (rt := (some .int)) rfl rfl (by decide +kernel) rfl rfl ck_M_says
theorem cq_96 : COK 96 := cok_of (y := yX12_tell) (cc := cX12_tell) (n := 5) (rt := (some .int)) rfl rfl (by decide +kernel) rfl rfl ck_M_tell
theorem cq_97 : COK 97 := cok_of (y := yX12_tells) (cc := cX12_tells) (n := 4) (rt := (some .int)) rfl rfl (by decide +kernel) rfl rfl ck_M_tells
theorem cq_98 : COK 98 := cok_of (y := yX12_walks) (cc := cX12_walks) (n := 3) (rt := (some .int)) rfl rfl (by decide +kernel) rfl rfl ck_M_walks
theorem cq_99 : COK 99 := cok_of (y := yX12_recites) (cc := cX12_recites) (n := 7) (rt := (some .int)) rfl rfl (by decide +kernel) rfl rfl ck_M_recites
theorem cq_100 : COK 100 := cok_of (y := yX12_delivers) (cc := cX12_delivers) (n := 2) (rt := (some .int)) rfl rfl (by decide +kernel) rfl rfl ck_M_delivers
theorem cq_101 : COK 101 := cok_of (y := yX12_isBreach) (cc := cX12_isBreach) (n := 4) (rt := (some .boolean)) rfl rfl (by decide +kernel) rfl rfl ck_M_isBreach
theorem cq_102 : COK 102 := cok_of (y := yX12_breach) (cc := cX12_breach) (n := 5) (rt := (some .int)) rfl rfl (by decide +kernel) rfl rfl ck_M_breach
theorem cq_103 : COK 103 := cok_of (y := yX12_triesAs) (cc := cX12_triesAs) (n := 3) (rt := none) rfl rfl (by decide +kernel) rfl rfl ck_M_triesAs
theorem cq_104 : COK 104 := cok_of (y := yX12_risk) (cc := cX12_risk) (n := 3) (rt := (some .int)) rfl rfl (by decide +kernel) rfl rfl ck_M_risk
theorem cq_105 : COK 105 := cok_of (y := yX12_loud) (cc := cX12_loud) (n := 6) (rt := (some .int)) rfl rfl (by decide +kernel) rfl rfl ck_M_loud
theorem cq_106 : COK 106 := cok_of (y := yX12_bitsOf) (cc := cX12_bitsOf) (n := 3) (rt := (some .int)) rfl rfl (by decide +kernel) rfl rfl ck_M_bitsOf
theorem cq_107 : COK 107 := cok_of (y := yX12_turned) (cc := cX12_turned) (n := 8) (rt := (some .int)) rfl rfl (by decide +kernel) rfl rfl ck_M_turned
theorem cq_108 : COK 108 := cok_of (y := yX12_acts) (cc := cX12_acts) (n := 7) (rt := (some .boolean)) rfl rfl (by decide +kernel) rfl rfl ck_M_acts
theorem cq_109 : COK 109 := cok_of (y := yX12_actsAll) (cc := cX12_actsAll) (n := 4) (rt := (some .int)) rfl rfl (by decide +kernel) rfl rfl ck_M_actsAll
theorem cq_110 : COK 110 := cok_of (y := yX12_judge) (cc := cX12_judge) (n := 8) (rt := (some .int)) rfl rfl (by decide +kernel) rfl rfl ck_M_judge
theorem cq_111 : COK 111 := cok_of (y := yX12_perform) (cc := cX12_perform) (n := 3) (rt := (some .int)) rfl rfl (by decide +kernel) rfl rfl ck_M_perform
theorem cq_112 : COK 112 := cok_of (y := yX12_draw) (cc := cX12_draw) (n := 2) (rt := (some .int)) rfl rfl (by decide +kernel) rfl rfl ck_M_draw
theorem cq_113 : COK 113 := cok_of (y := yX12_day) (cc := cX12_day) (n := 7) (rt := (some .int)) rfl rfl (by decide +kernel) rfl rfl ck_M_day
theorem cq_114 : COK 114 := cok_of (y := yX12_areThings) (cc := cX12_areThings) (n := 3) (rt := (some .boolean)) rfl rfl (by decide +kernel) rfl rfl ck_M_areThings
theorem cq_115 : COK 115 := cok_of (y := yX12_nextAt) (cc := cX12_nextAt) (n := 5) (rt := (some .int)) rfl rfl (by decide +kernel) rfl rfl ck_M_nextAt
theorem cq_116 : COK 116 := cok_of (y := yX12_driven) (cc := cX12_driven) (n := 8) (rt := (some .int)) rfl rfl (by decide +kernel) rfl rfl ck_M_driven
theorem cq_117 : COK 117 := cok_of (y := yX12_freshOf) (cc := cX12_freshOf) (n := 7) (rt := (some .int)) rfl rfl (by decide +kernel) rfl rfl ck_M_freshOf
theorem cq_118 : COK 118 := cok_of (y := yX12_fresh) (cc := cX12_fresh) (n := 4) (rt := (some .int)) rfl rfl (by decide +kernel) rfl rfl ck_M_fresh
theorem cq_119 : COK 119 := cok_of (y := yX12_kept) (cc := cX12_kept) (n := 4) (rt := (some .int)) rfl rfl (by decide +kernel) rfl rfl ck_M_kept
theorem cq_120 : COK 120 := cok_of (y := yX12_less) (cc := cX12_less) (n := 3) (rt := (some .int)) rfl rfl (by decide +kernel) rfl rfl ck_M_less
theorem cq_121 : COK 121 := cok_of (y := yX12_enough) (cc := cX12_enough) (n := 5) (rt := (some .int)) rfl rfl (by decide +kernel) rfl rfl ck_M_enough
theorem cq_122 : COK 122 := cok_of (y := yX12_farBack) (cc := cX12_farBack) (n := 5) (rt := (some .int)) rfl rfl (by decide +kernel) rfl rfl ck_M_farBack
theorem cq_123 : COK 123 := cok_of (y := yX12_throughOf) (cc := cX12_throughOf) (n := 5) (rt := (some .int)) rfl rfl (by decide +kernel) rfl rfl ck_M_throughOf
theorem cq_124 : COK 124 := cok_of (y := yX12_tellsRow) (cc := cX12_tellsRow) (n := 3) (rt := none) rfl rfl (by decide +kernel) rfl rfl ck_M_tellsRow
theorem cq_125 : COK 125 := cok_of (y := yX12_through) (cc := cX12_through) (n := 4) (rt := (some .int)) rfl rfl (by decide +kernel) rfl rfl ck_M_through
theorem cq_126 : COK 126 := cok_of (y := yX12_sizeFor) (cc := cX12_sizeFor) (n := 5) (rt := (some .int)) rfl rfl (by decide +kernel) rfl rfl ck_M_sizeFor
theorem cq_127 : COK 127 := cok_of (y := yX12_tellsAll) (cc := cX12_tellsAll) (n := 7) (rt := none) rfl rfl (by decide +kernel) rfl rfl ck_M_tellsAll
theorem cq_128 : COK 128 := cok_of (y := yX12_told) (cc := cX12_told) (n := 5) (rt := (some .int)) rfl rfl (by decide +kernel) rfl rfl ck_M_told
theorem cq_129 : COK 129 := cok_of (y := yX12_backOf) (cc := cX12_backOf) (n := 5) (rt := (some .int)) rfl rfl (by decide +kernel) rfl rfl ck_M_backOf
theorem cq_130 : COK 130 := cok_of (y := yX12_back) (cc := cX12_back) (n := 2) (rt := (some .int)) rfl rfl (by decide +kernel) rfl rfl ck_M_back
theorem cq_131 : COK 131 := cok_of (y := yX12_seeds) (cc := cX12_seeds) (n := 5) (rt := (some .int)) rfl rfl (by decide +kernel) rfl rfl ck_M_seeds
theorem cq_132 : COK 132 := cok_of (y := yX12_canCarry) (cc := cX12_canCarry) (n := 4) (rt := (some .boolean)) rfl rfl (by decide +kernel) rfl rfl ck_M_canCarry
theorem cq_133 : COK 133 := cok_of (y := yX12_leftIn) (cc := cX12_leftIn) (n := 6) (rt := (some .int)) rfl rfl (by decide +kernel) rfl rfl ck_M_leftIn
theorem cq_134 : COK 134 := cok_of (y := yX12_without) (cc := cX12_without) (n := 5) (rt := (some .int)) rfl rfl (by decide +kernel) rfl rfl ck_M_without
theorem cq_135 : COK 135 := cok_of (y := yX12_asThings) (cc := cX12_asThings) (n := 4) (rt := (some .int)) rfl rfl (by decide +kernel) rfl rfl ck_M_asThings
theorem cq_136 : COK 136 := cok_of (y := yX12_laysMen) (cc := cX12_laysMen) (n := 15) (rt := (some .int)) rfl rfl (by decide +kernel) rfl rfl ck_M_laysMen
theorem cq_137 : COK 137 := cok_of (y := yX12_refusesMen) (cc := cX12_refusesMen) (n := 4) (rt := (some .int)) rfl rfl (by decide +kernel) rfl rfl ck_M_refusesMen
theorem cq_138 : COK 138 := cok_of (y := yX12_men) (cc := cX12_men) (n := 5) (rt := (some .int)) rfl rfl (by decide +kernel) rfl rfl ck_M_men
theorem cq_139 : COK 139 := cok_of (y := yX12_load) (cc := cX12_load) (n := 10) (rt := (some .int)) rfl rfl (by decide +kernel) rfl rfl ck_M_load
theorem cq_140 : COK 140 := cok_of (y := yX12_isBest) (cc := cX12_isBest) (n := 4) (rt := none) rfl rfl (by decide +kernel) rfl rfl ck_M_isBest
theorem cq_141 : COK 141 := cok_of (y := yX12_rowsOf) (cc := cX12_rowsOf) (n := 7) (rt := none) rfl rfl (by decide +kernel) rfl rfl ck_M_rowsOf
theorem cq_142 : COK 142 := cok_of (y := yX12_toldBest) (cc := cX12_toldBest) (n := 2) (rt := (some .int)) rfl rfl (by decide +kernel) rfl rfl ck_M_toldBest
theorem cq_143 : COK 143 := cok_of (y := yX12_isWhat) (cc := cX12_isWhat) (n := 1) (rt := (some .boolean)) rfl rfl (by decide +kernel) rfl rfl ck_M_isWhat
theorem cq_144 : COK 144 := cok_of (y := yX12_road) (cc := cX12_road) (n := 5) (rt := (some .int)) rfl rfl (by decide +kernel) rfl rfl ck_M_road
theorem cq_145 : COK 145 := cok_of (y := yX12_questions) (cc := cX12_questions) (n := 6) (rt := (some .int)) rfl rfl (by decide +kernel) rfl rfl ck_M_questions
theorem cq_146 : COK 146 := cok_of (y := yX12_asked) (cc := cX12_asked) (n := 7) (rt := (some .int)) rfl rfl (by decide +kernel) rfl rfl ck_M_asked
theorem cq_147 : COK 147 := cok_of (y := yX12_broken) (cc := cX12_broken) (n := 5) (rt := (some .int)) rfl rfl (by decide +kernel) rfl rfl ck_M_broken
theorem cq_148 : COK 148 := cok_of (y := yX12_piece) (cc := cX12_piece) (n := 4) (rt := (some .int)) rfl rfl (by decide +kernel) rfl rfl ck_M_piece
theorem cq_149 : COK 149 := cok_of (y := yX12_stands) (cc := cX12_stands) (n := 6) (rt := (some .boolean)) rfl rfl (by decide +kernel) rfl rfl ck_M_stands
theorem cq_150 : COK 150 := cok_of (y := yX12_isWithin) (cc := cX12_isWithin) (n := 4) (rt := (some .boolean)) rfl rfl (by decide +kernel) rfl rfl ck_M_isWithin
theorem cq_151 : COK 151 := cok_of (y := yX12_lays) (cc := cX12_lays) (n := 7) (rt := (some .int)) rfl rfl (by decide +kernel) rfl rfl ck_M_lays
theorem cq_152 : COK 152 := cok_of (y := yX12_isFirst) (cc := cX12_isFirst) (n := 3) (rt := (some .boolean)) rfl rfl (by decide +kernel) rfl rfl ck_M_isFirst
theorem cq_153 : COK 153 := cok_of (y := yX12_joins) (cc := cX12_joins) (n := 4) (rt := none) rfl rfl (by decide +kernel) rfl rfl ck_M_joins
theorem cq_154 : COK 154 := cok_of (y := yX12_joined) (cc := cX12_joined) (n := 4) (rt := (some .int)) rfl rfl (by decide +kernel) rfl rfl ck_M_joined
theorem cq_155 : COK 155 := cok_of (y := yX12_firstIn) (cc := cX12_firstIn) (n := 4) (rt := (some .int)) rfl rfl (by decide +kernel) rfl rfl ck_M_firstIn
theorem cq_156 : COK 156 := cok_of (y := yX12_areUnfit) (cc := cX12_areUnfit) (n := 5) (rt := (some .boolean)) rfl rfl (by decide +kernel) rfl rfl ck_M_areUnfit
theorem cq_157 : COK 157 := cok_of (y := yX12_unfit) (cc := cX12_unfit) (n := 3) (rt := (some .int)) rfl rfl (by decide +kernel) rfl rfl ck_M_unfit
theorem cq_158 : COK 158 := cok_of (y := yX12_gaps) (cc := cX12_gaps) (n := 4) (rt := (some .int)) rfl rfl (by decide +kernel) rfl rfl ck_M_gaps
theorem cq_159 : COK 159 := cok_of (y := yX12_cut) (cc := cX12_cut) (n := 3) (rt := (some .long)) rfl rfl (by decide +kernel) rfl rfl ck_M_cut
theorem cq_160 : COK 160 := cok_of (y := yX12_numbers) (cc := cX12_numbers) (n := 5) (rt := (some .int)) rfl rfl (by decide +kernel) rfl rfl ck_M_numbers
theorem cq_161 : COK 161 := cok_of (y := yX12_write) (cc := cX12_write) (n := 5) (rt := (some .long)) rfl rfl (by decide +kernel) rfl rfl ck_M_write
theorem cq_162 : COK 162 := cok_of (y := yX12_copy) (cc := cX12_copy) (n := 4) (rt := (some .int)) rfl rfl (by decide +kernel) rfl rfl ck_M_copy
theorem cq_163 : COK 163 := cok_of (y := yX12_image) (cc := cX12_image) (n := 3) (rt := (some .int)) rfl rfl (by decide +kernel) rfl rfl ck_M_image
theorem cq_164 : COK 164 := cok_of (y := yX12_restore) (cc := cX12_restore) (n := 3) (rt := (some .int)) rfl rfl (by decide +kernel) rfl rfl ck_M_restore
theorem cq_165 : COK 165 := cok_of (y := yX12_count) (cc := cX12_count) (n := 2) (rt := (some .int)) rfl rfl (by decide +kernel) rfl rfl ck_M_count
theorem cq_166 : COK 166 := cok_of (y := yX0_init) (cc := cX0_init) (n := 1) (rt := none) rfl rfl (by decide +kernel) rfl rfl ck_Ahead_init
theorem cq_167 : COK 167 := cok_of (y := yX0_chooseSayings) (cc := cX0_chooseSayings) (n := 4) (rt := none) rfl rfl (by decide +kernel) rfl rfl ck_Ahead_chooseSayings
theorem cq_168 : COK 168 := cok_of (y := yX0_chooseQuestions) (cc := cX0_chooseQuestions) (n := 5) (rt := none) rfl rfl (by decide +kernel) rfl rfl ck_Ahead_chooseQuestions
theorem cq_169 : COK 169 := cok_of (y := yX0_begin) (cc := cX0_begin) (n := 3) (rt := none) rfl rfl (by decide +kernel) rfl rfl ck_Ahead_begin
theorem cq_170 : COK 170 := cok_of (y := yX0_sayOn) (cc := cX0_sayOn) (n := 8) (rt := none) rfl rfl (by decide +kernel) rfl rfl ck_Ahead_sayOn
theorem cq_171 : COK 171 := cok_of (y := yX0_askOn) (cc := cX0_askOn) (n := 8) (rt := none) rfl rfl (by decide +kernel) rfl rfl ck_Ahead_askOn
theorem cq_172 : COK 172 := cok_of (y := yX0_weigh) (cc := cX0_weigh) (n := 3) (rt := none) rfl rfl (by decide +kernel) rfl rfl ck_Ahead_weigh
theorem cq_173 : COK 173 := cok_of (y := yX0_answer) (cc := cX0_answer) (n := 3) (rt := (some .int)) rfl rfl (by decide +kernel) rfl rfl ck_Ahead_answer
theorem cq_174 : COK 174 := cok_of (y := yX1_init) (cc := cX1_init) (n := 1) (rt := none) rfl rfl (by decide +kernel) rfl rfl ck_Carriers_init
theorem cq_175 : COK 175 := cok_of (y := yX1_fewest) (cc := cX1_fewest) (n := 6) (rt := (some .int)) rfl rfl (by decide +kernel) rfl rfl ck_Carriers_fewest
theorem cq_176 : COK 176 := cok_of (y := yX1_loadOf) (cc := cX1_loadOf) (n := 5) (rt := (some .int)) rfl rfl (by decide +kernel) rfl rfl ck_Carriers_loadOf
theorem cq_177 : COK 177 := cok_of (y := yX1_leastLoad) (cc := cX1_leastLoad) (n := 9) (rt := (some .int)) rfl rfl (by decide +kernel) rfl rfl ck_Carriers_leastLoad
theorem cq_178 : COK 178 := cok_of (y := yX1_canCarry) (cc := cX1_canCarry) (n := 7) (rt := (some .boolean)) rfl rfl (by decide +kernel) rfl rfl ck_Carriers_canCarry
theorem cq_179 : COK 179 := cok_of (y := yX1_canDivide) (cc := cX1_canDivide) (n := 11) (rt := (some .boolean)) rfl rfl (by decide +kernel) rfl rfl ck_Carriers_canDivide
theorem cq_180 : COK 180 := cok_of (y := yX1_hardestOf) (cc := cX1_hardestOf) (n := 6) (rt := (some .int)) rfl rfl (by decide +kernel) rfl rfl ck_Carriers_hardestOf
theorem cq_181 : COK 181 := cok_of (y := yX1_easyOf) (cc := cX1_easyOf) (n := 5) (rt := (some .int)) rfl rfl (by decide +kernel) rfl rfl ck_Carriers_easyOf
theorem cq_182 : COK 182 := cok_of (y := yX1_tooMuchAt) (cc := cX1_tooMuchAt) (n := 4) (rt := (some .int)) rfl rfl (by decide +kernel) rfl rfl ck_Carriers_tooMuchAt
theorem cq_183 : COK 183 := cok_of (y := yX1_isFull) (cc := cX1_isFull) (n := 4) (rt := (some .boolean)) rfl rfl (by decide +kernel) rfl rfl ck_Carriers_isFull
theorem cq_184 : COK 184 := cok_of (y := yX2_init) (cc := cX2_init) (n := 2) (rt := none) rfl rfl (by decide +kernel) rfl rfl ck_Company_init
theorem cq_185 : COK 185 := cok_of (y := yX2_likeOf) (cc := cX2_likeOf) (n := 3) (rt := none) rfl rfl (by decide +kernel) rfl rfl ck_Company_likeOf
theorem cq_186 : COK 186 := cok_of (y := yX2_isOne) (cc := cX2_isOne) (n := 3) (rt := (some .boolean)) rfl rfl (by decide +kernel) rfl rfl ck_Company_isOne
theorem cq_187 : COK 187 := cok_of (y := yX2_areTwo) (cc := cX2_areTwo) (n := 5) (rt := (some .boolean)) rfl rfl (by decide +kernel) rfl rfl ck_Company_areTwo
theorem cq_188 : COK 188 := cok_of (y := yX2_addOne) (cc := cX2_addOne) (n := 2) (rt := (some .int)) rfl rfl (by decide +kernel) rfl rfl ck_Company_addOne
theorem cq_189 : COK 189 := cok_of (y := yX2_turnedPairs) (cc := cX2_turnedPairs) (n := 8) (rt := (some .int)) rfl rfl (by decide +kernel) rfl rfl ck_Company_turnedPairs
theorem cq_190 : COK 190 := cok_of (y := yX2_act) (cc := cX2_act) (n := 5) (rt := (some .int)) rfl rfl (by decide +kernel) rfl rfl ck_Company_act
theorem cq_191 : COK 191 := cok_of (y := yX2_actOnce) (cc := cX2_actOnce) (n := 8) (rt := (some .boolean)) rfl rfl (by decide +kernel) rfl rfl ck_Company_actOnce
theorem cq_192 : COK 192 := cok_of (y := yX2_hearIfThere) (cc := cX2_hearIfThere) (n := 4) (rt := (some .boolean)) rfl rfl (by decide +kernel) rfl rfl ck_Company_hearIfThere
theorem cq_193 : COK 193 := cok_of (y := yX2_sayIfHeld) (cc := cX2_sayIfHeld) (n := 4) (rt := (some .boolean)) rfl rfl (by decide +kernel) rfl rfl ck_Company_sayIfHeld
theorem cq_194 : COK 194 := cok_of (y := yX2_walkIfThere) (cc := cX2_walkIfThere) (n := 4) (rt := (some .boolean)) rfl rfl (by decide +kernel) rfl rfl ck_Company_walkIfThere
theorem cq_195 : COK 195 := cok_of (y := yX2_listenIfNear) (cc := cX2_listenIfNear) (n := 8) (rt := (some .boolean)) rfl rfl (by decide +kernel) rfl rfl ck_Company_listenIfNear
theorem cq_196 : COK 196 := cok_of (y := yX2_spendDay) (cc := cX2_spendDay) (n := 7) (rt := (some .int)) rfl rfl (by decide +kernel) rfl rfl ck_Company_spendDay
theorem cq_197 : COK 197 := cok_of (y := yX2_spendOnce) (cc := cX2_spendOnce) (n := 4) (rt := none) rfl rfl (by decide +kernel) rfl rfl ck_Company_spendOnce
theorem cq_198 : COK 198 := cok_of (y := yX2_draw) (cc := cX2_draw) (n := 1) (rt := (some .int)) rfl rfl (by decide +kernel) rfl rfl ck_Company_draw
theorem cq_199 : COK 199 := cok_of (y := yX2_lostByAll) (cc := cX2_lostByAll) (n := 3) (rt := (some .int)) rfl rfl (by decide +kernel) rfl rfl ck_Company_lostByAll
theorem cq_200 : COK 200 := cok_of (y := yX2_heldByHimAlone) (cc := cX2_heldByHimAlone) (n := 2) (rt := (some .int)) rfl rfl (by decide +kernel) rfl rfl ck_Company_heldByHimAlone
theorem cq_201 : COK 201 := cok_of (y := yX2_heldBy) (cc := cX2_heldBy) (n := 4) (rt := (some .int)) rfl rfl (by decide +kernel) rfl rfl ck_Company_heldBy
theorem cq_202 : COK 202 := cok_of (y := yX2_fewestHolding) (cc := cX2_fewestHolding) (n := 6) (rt := (some .int)) rfl rfl (by decide +kernel) rfl rfl ck_Company_fewestHolding
theorem cq_203 : COK 203 := cok_of (y := yX3_init) (cc := cX3_init) (n := 1) (rt := none) rfl rfl (by decide +kernel) rfl rfl ck_Courier_init
theorem cq_204 : COK 204 := cok_of (y := yX3_begin) (cc := cX3_begin) (n := 2) (rt := none) rfl rfl (by decide +kernel) rfl rfl ck_Courier_begin
theorem cq_205 : COK 205 := cok_of (y := yX3_likeOf) (cc := cX3_likeOf) (n := 2) (rt := none) rfl rfl (by decide +kernel) rfl rfl ck_Courier_likeOf
theorem cq_206 : COK 206 := cok_of (y := yX3_likeMindOf) (cc := cX3_likeMindOf) (n := 2) (rt := none) rfl rfl (by decide +kernel) rfl rfl ck_Courier_likeMindOf
theorem cq_207 : COK 207 := cok_of (y := yX3_setMind) (cc := cX3_setMind) (n := 4) (rt := none) rfl rfl (by decide +kernel) rfl rfl ck_Courier_setMind
theorem cq_208 : COK 208 := cok_of (y := yX3_has) (cc := cX3_has) (n := 2) (rt := (some .boolean)) rfl rfl (by decide +kernel) rfl rfl ck_Courier_has
theorem cq_209 : COK 209 := cok_of (y := yX3_thingAt) (cc := cX3_thingAt) (n := 2) (rt := (some .int)) rfl rfl (by decide +kernel) rfl rfl ck_Courier_thingAt
theorem cq_210 : COK 210 := cok_of (y := yX3_placeOf) (cc := cX3_placeOf) (n := 3) (rt := (some .int)) rfl rfl (by decide +kernel) rfl rfl ck_Courier_placeOf
theorem cq_211 : COK 211 := cok_of (y := yX3_hear) (cc := cX3_hear) (n := 2) (rt := (some .int)) rfl rfl (by decide +kernel) rfl rfl ck_Courier_hear
theorem cq_212 : COK 212 := cok_of (y := yX3_bringForward) (cc := cX3_bringForward) (n := 7) (rt := none) rfl rfl (by decide +kernel) rfl rfl ck_Courier_bringForward
theorem cq_213 : COK 213 := cok_of (y := yX3_loseLast) (cc := cX3_loseLast) (n := 2) (rt := (some .int)) rfl rfl (by decide +kernel) rfl rfl ck_Courier_loseLast
theorem cq_214 : COK 214 := cok_of (y := yX3_say) (cc := cX3_say) (n := 6) (rt := (some .int)) rfl rfl (by decide +kernel) rfl rfl ck_Courier_say
theorem cq_215 : COK 215 := cok_of (y := yX3_walk) (cc := cX3_walk) (n := 7) (rt := (some .int)) rfl rfl (by decide +kernel) rfl rfl ck_Courier_walk
theorem cq_216 : COK 216 := cok_of (y := yX3_hearLatestOf) (cc := cX3_hearLatestOf) (n := 3) (rt := none) rfl rfl (by decide +kernel) rfl rfl ck_Courier_hearLatestOf
theorem cq_217 : COK 217 := cok_of (y := yX3_recite) (cc := cX3_recite) (n := 7) (rt := (some .int)) rfl rfl (by decide +kernel) rfl rfl ck_Courier_recite
theorem cq_218 : COK 218 := cok_of (y := yX3_deliver) (cc := cX3_deliver) (n := 7) (rt := (some .int)) rfl rfl (by decide +kernel) rfl rfl ck_Courier_deliver
theorem cq_219 : COK 219 := cok_of (y := yX4_init) (cc := cX4_init) (n := 1) (rt := none) rfl rfl (by decide +kernel) rfl rfl ck_Hearings_init
theorem cq_220 : COK 220 := cok_of (y := yX4_takeRow) (cc := cX4_takeRow) (n := 4) (rt := (some .boolean)) rfl rfl (by decide +kernel) rfl rfl ck_Hearings_takeRow
theorem cq_221 : COK 221 := cok_of (y := yX4_inRow) (cc := cX4_inRow) (n := 3) (rt := (some .int)) rfl rfl (by decide +kernel) rfl rfl ck_Hearings_inRow
theorem cq_222 : COK 222 := cok_of (y := yX4_newOnes) (cc := cX4_newOnes) (n := 3) (rt := (some .int)) rfl rfl (by decide +kernel) rfl rfl ck_Hearings_newOnes
theorem cq_223 : COK 223 := cok_of (y := yX4_newByRule) (cc := cX4_newByRule) (n := 6) (rt := (some .int)) rfl rfl (by decide +kernel) rfl rfl ck_Hearings_newByRule
theorem cq_224 : COK 224 := cok_of (y := yX4_newByForesight) (cc := cX4_newByForesight) (n := 5) (rt := (some .int)) rfl rfl (by decide +kernel) rfl rfl ck_Hearings_newByForesight
theorem cq_225 : COK 225 := cok_of (y := yX4_neededLast) (cc := cX4_neededLast) (n := 4) (rt := (some .int)) rfl rfl (by decide +kernel) rfl rfl ck_Hearings_neededLast
theorem cq_226 : COK 226 := cok_of (y := yX4_unlikeSinceLast) (cc := cX4_unlikeSinceLast) (n := 4) (rt := (some .int)) rfl rfl (by decide +kernel) rfl rfl ck_Hearings_unlikeSinceLast
theorem cq_227 : COK 227 := cok_of (y := yX4_comesThrough) (cc := cX4_comesThrough) (n := 5) (rt := (some .int)) rfl rfl (by decide +kernel) rfl rfl ck_Hearings_comesThrough
theorem cq_228 : COK 228 := cok_of (y := yX4_tellBest) (cc := cX4_tellBest) (n := 5) (rt := none) rfl rfl (by decide +kernel) rfl rfl ck_Hearings_tellBest
theorem cq_229 : COK 229 := cok_of (y := yX4_tellOn) (cc := cX4_tellOn) (n := 8) (rt := none) rfl rfl (by decide +kernel) rfl rfl ck_Hearings_tellOn
theorem cq_230 : COK 230 := cok_of (y := yX4_weighOrder) (cc := cX4_weighOrder) (n := 4) (rt := none) rfl rfl (by decide +kernel) rfl rfl ck_Hearings_weighOrder
theorem cq_231 : COK 231 := cok_of (y := yX4_answerOfTold) (cc := cX4_answerOfTold) (n := 3) (rt := (some .int)) rfl rfl (by decide +kernel) rfl rfl ck_Hearings_answerOfTold
theorem cq_232 : COK 232 := cok_of (y := yX5_init) (cc := cX5_init) (n := 1) (rt := none) rfl rfl (by decide +kernel) rfl rfl ck_Lore_init
theorem cq_233 : COK 233 := cok_of (y := yX5_clear) (cc := cX5_clear) (n := 1) (rt := none) rfl rfl (by decide +kernel) rfl rfl ck_Lore_clear
theorem cq_234 : COK 234 := cok_of (y := yX5_likeOf) (cc := cX5_likeOf) (n := 2) (rt := none) rfl rfl (by decide +kernel) rfl rfl ck_Lore_likeOf
theorem cq_235 : COK 235 := cok_of (y := yX5_isThing) (cc := cX5_isThing) (n := 3) (rt := (some .boolean)) rfl rfl (by decide +kernel) rfl rfl ck_Lore_isThing
theorem cq_236 : COK 236 := cok_of (y := yX5_isInn) (cc := cX5_isInn) (n := 3) (rt := (some .boolean)) rfl rfl (by decide +kernel) rfl rfl ck_Lore_isInn
theorem cq_237 : COK 237 := cok_of (y := yX5_isSet) (cc := cX5_isSet) (n := 2) (rt := (some .boolean)) rfl rfl (by decide +kernel) rfl rfl ck_Lore_isSet
theorem cq_238 : COK 238 := cok_of (y := yX5_allThings) (cc := cX5_allThings) (n := 1) (rt := (some .int)) rfl rfl (by decide +kernel) rfl rfl ck_Lore_allThings
theorem cq_239 : COK 239 := cok_of (y := yX5_newsAt) (cc := cX5_newsAt) (n := 3) (rt := (some .int)) rfl rfl (by decide +kernel) rfl rfl ck_Lore_newsAt
theorem cq_240 : COK 240 := cok_of (y := yX5_addNews) (cc := cX5_addNews) (n := 3) (rt := (some .boolean)) rfl rfl (by decide +kernel) rfl rfl ck_Lore_addNews
theorem cq_241 : COK 241 := cok_of (y := yX5_newsOnWay) (cc := cX5_newsOnWay) (n := 8) (rt := (some .int)) rfl rfl (by decide +kernel) rfl rfl ck_Lore_newsOnWay
theorem cq_242 : COK 242 := cok_of (y := yX5_worthOf) (cc := cX5_worthOf) (n := 4) (rt := (some .int)) rfl rfl (by decide +kernel) rfl rfl ck_Lore_worthOf
theorem cq_243 : COK 243 := cok_of (y := yX5_secretPair) (cc := cX5_secretPair) (n := 5) (rt := (some .int)) rfl rfl (by decide +kernel) rfl rfl ck_Lore_secretPair
theorem cq_244 : COK 244 := cok_of (y := yX5_comeBack) (cc := cX5_comeBack) (n := 6) (rt := (some .int)) rfl rfl (by decide +kernel) rfl rfl ck_Lore_comeBack
theorem cq_245 : COK 245 := cok_of (y := yX6_init) (cc := cX6_init) (n := 1) (rt := none) rfl rfl (by decide +kernel) rfl rfl ck_Pieces_init
theorem cq_246 : COK 246 := cok_of (y := yX6_likeOf) (cc := cX6_likeOf) (n := 2) (rt := none) rfl rfl (by decide +kernel) rfl rfl ck_Pieces_likeOf
theorem cq_247 : COK 247 := cok_of (y := yX6_addOne) (cc := cX6_addOne) (n := 3) (rt := (some .int)) rfl rfl (by decide +kernel) rfl rfl ck_Pieces_addOne
theorem cq_248 : COK 248 := cok_of (y := yX6_thingOf) (cc := cX6_thingOf) (n := 3) (rt := (some .int)) rfl rfl (by decide +kernel) rfl rfl ck_Pieces_thingOf
theorem cq_249 : COK 249 := cok_of (y := yX6_inThem) (cc := cX6_inThem) (n := 4) (rt := (some .int)) rfl rfl (by decide +kernel) rfl rfl ck_Pieces_inThem
theorem cq_250 : COK 250 := cok_of (y := yX6_areUnfit) (cc := cX6_areUnfit) (n := 5) (rt := (some .boolean)) rfl rfl (by decide +kernel) rfl rfl ck_Pieces_areUnfit
theorem cq_251 : COK 251 := cok_of (y := yX6_isTurned) (cc := cX6_isTurned) (n := 9) (rt := (some .boolean)) rfl rfl (by decide +kernel) rfl rfl ck_Pieces_isTurned
theorem cq_252 : COK 252 := cok_of (y := yX6_firstPlace) (cc := cX6_firstPlace) (n := 4) (rt := (some .int)) rfl rfl (by decide +kernel) rfl rfl ck_Pieces_firstPlace
theorem cq_253 : COK 253 := cok_of (y := yX6_join) (cc := cX6_join) (n := 4) (rt := none) rfl rfl (by decide +kernel) rfl rfl ck_Pieces_join
theorem cq_254 : COK 254 := cok_of (y := yX6_isWithinAnother) (cc := cX6_isWithinAnother) (n := 5) (rt := (some .boolean)) rfl rfl (by decide +kernel) rfl rfl ck_Pieces_isWithinAnother
theorem cq_255 : COK 255 := cok_of (y := yX6_overlapOf) (cc := cX6_overlapOf) (n := 4) (rt := (some .int)) rfl rfl (by decide +kernel) rfl rfl ck_Pieces_overlapOf
theorem cq_256 : COK 256 := cok_of (y := yX6_isSame) (cc := cX6_isSame) (n := 6) (rt := (some .boolean)) rfl rfl (by decide +kernel) rfl rfl ck_Pieces_isSame
theorem cq_257 : COK 257 := cok_of (y := yX6_joinOn) (cc := cX6_joinOn) (n := 8) (rt := none) rfl rfl (by decide +kernel) rfl rfl ck_Pieces_joinOn
theorem cq_258 : COK 258 := cok_of (y := yX6_isFirstByThings) (cc := cX6_isFirstByThings) (n := 3) (rt := (some .boolean)) rfl rfl (by decide +kernel) rfl rfl ck_Pieces_isFirstByThings
theorem cq_259 : COK 259 := cok_of (y := yX7_init) (cc := cX7_init) (n := 1) (rt := none) rfl rfl (by decide +kernel) rfl rfl ck_Reader_init
theorem cq_260 : COK 260 := cok_of (y := yX7_putOnTape) (cc := cX7_putOnTape) (n := 3) (rt := none) rfl rfl (by decide +kernel) rfl rfl ck_Reader_putOnTape
theorem cq_261 : COK 261 := cok_of (y := yX7_readText) (cc := cX7_readText) (n := 3) (rt := (some .boolean)) rfl rfl (by decide +kernel) rfl rfl ck_Reader_readText
theorem cq_262 : COK 262 := cok_of (y := yX7_fail) (cc := cX7_fail) (n := 2) (rt := (some .boolean)) rfl rfl (by decide +kernel) rfl rfl ck_Reader_fail
theorem cq_263 : COK 263 := cok_of (y := yX7_readLine) (cc := cX7_readLine) (n := 2) (rt := (some .boolean)) rfl rfl (by decide +kernel) rfl rfl ck_Reader_readLine
theorem cq_264 : COK 264 := cok_of (y := yX7_lineHere) (cc := cX7_lineHere) (n := 1) (rt := (some .int)) rfl rfl (by decide +kernel) rfl rfl ck_Reader_lineHere
theorem cq_265 : COK 265 := cok_of (y := yX7_readThings) (cc := cX7_readThings) (n := 1) (rt := (some .boolean)) rfl rfl (by decide +kernel) rfl rfl ck_Reader_readThings
theorem cq_266 : COK 266 := cok_of (y := yX7_readMind) (cc := cX7_readMind) (n := 1) (rt := (some .boolean)) rfl rfl (by decide +kernel) rfl rfl ck_Reader_readMind
theorem cq_267 : COK 267 := cok_of (y := yX7_readPair) (cc := cX7_readPair) (n := 3) (rt := (some .boolean)) rfl rfl (by decide +kernel) rfl rfl ck_Reader_readPair
theorem cq_268 : COK 268 := cok_of (y := yX7_readWorth) (cc := cX7_readWorth) (n := 2) (rt := (some .boolean)) rfl rfl (by decide +kernel) rfl rfl ck_Reader_readWorth
theorem cq_269 : COK 269 := cok_of (y := yX7_readInn) (cc := cX7_readInn) (n := 3) (rt := (some .boolean)) rfl rfl (by decide +kernel) rfl rfl ck_Reader_readInn
theorem cq_270 : COK 270 := cok_of (y := yX7_readNumber) (cc := cX7_readNumber) (n := 4) (rt := (some .boolean)) rfl rfl (by decide +kernel) rfl rfl ck_Reader_readNumber
theorem cq_271 : COK 271 := cok_of (y := yX7_numberStands) (cc := cX7_numberStands) (n := 4) (rt := (some .boolean)) rfl rfl (by decide +kernel) rfl rfl ck_Reader_numberStands
theorem cq_272 : COK 272 := cok_of (y := yX7_readSign) (cc := cX7_readSign) (n := 1) (rt := (some .boolean)) rfl rfl (by decide +kernel) rfl rfl ck_Reader_readSign
theorem cq_273 : COK 273 := cok_of (y := yX7_nextToken) (cc := cX7_nextToken) (n := 1) (rt := none) rfl rfl (by decide +kernel) rfl rfl ck_Reader_nextToken
theorem cq_274 : COK 274 := cok_of (y := yX7_takeDigits) (cc := cX7_takeDigits) (n := 1) (rt := none) rfl rfl (by decide +kernel) rfl rfl ck_Reader_takeDigits
theorem cq_275 : COK 275 := cok_of (y := yX7_isWord) (cc := cX7_isWord) (n := 3) (rt := (some .boolean)) rfl rfl (by decide +kernel) rfl rfl ck_Reader_isWord
theorem cq_276 : COK 276 := cok_of (y := yX7_isLetter) (cc := cX7_isLetter) (n := 1) (rt := (some .boolean)) rfl rfl (by decide +kernel) rfl rfl ck_Reader_isLetter
theorem cq_277 : COK 277 := cok_of (y := yX7_isDigit) (cc := cX7_isDigit) (n := 1) (rt := (some .boolean)) rfl rfl (by decide +kernel) rfl rfl ck_Reader_isDigit
theorem cq_278 : COK 278 := cok_of (y := yX8_init) (cc := cX8_init) (n := 1) (rt := none) rfl rfl (by decide +kernel) rfl rfl ck_Row_init
theorem cq_279 : COK 279 := cok_of (y := yX8_begin) (cc := cX8_begin) (n := 3) (rt := none) rfl rfl (by decide +kernel) rfl rfl ck_Row_begin
theorem cq_280 : COK 280 := cok_of (y := yX8_put) (cc := cX8_put) (n := 4) (rt := (some .long)) rfl rfl (by decide +kernel) rfl rfl ck_Row_put
theorem cq_281 : COK 281 := cok_of (y := yX8_cut) (cc := cX8_cut) (n := 3) (rt := (some .long)) rfl rfl (by decide +kernel) rfl rfl ck_Row_cut
theorem cq_282 : COK 282 := cok_of (y := yX9_init) (cc := cX9_init) (n := 1) (rt := none) rfl rfl (by decide +kernel) rfl rfl ck_Seeds_init
theorem cq_283 : COK 283 := cok_of (y := yX9_fewestFor) (cc := cX9_fewestFor) (n := 5) (rt := (some .int)) rfl rfl (by decide +kernel) rfl rfl ck_Seeds_fewestFor
theorem cq_284 : COK 284 := cok_of (y := yX9_prepare) (cc := cX9_prepare) (n := 6) (rt := none) rfl rfl (by decide +kernel) rfl rfl ck_Seeds_prepare
theorem cq_285 : COK 285 := cok_of (y := yX9_leastSet) (cc := cX9_leastSet) (n := 6) (rt := (some .int)) rfl rfl (by decide +kernel) rfl rfl ck_Seeds_leastSet
theorem cq_286 : COK 286 := cok_of (y := yX10_init) (cc := cX10_init) (n := 1) (rt := none) rfl rfl (by decide +kernel) rfl rfl ck_World_init
theorem cq_287 : COK 287 := cok_of (y := yX10_beginWith) (cc := cX10_beginWith) (n := 2) (rt := none) rfl rfl (by decide +kernel) rfl rfl ck_World_beginWith
theorem cq_288 : COK 288 := cok_of (y := yX10_likeOf) (cc := cX10_likeOf) (n := 2) (rt := none) rfl rfl (by decide +kernel) rfl rfl ck_World_likeOf
theorem cq_289 : COK 289 := cok_of (y := yJ6_bitCount_0f7a4) (cc := cJ6_bitCount_0f7a4) (n := 1) (rt := (some .int)) rfl rfl (by decide +kernel) rfl rfl ck_Integer_bitCount
theorem cq_290 : COK 290 := cok_of (y := yJ7_fill_53178) (cc := cJ7_fill_53178) (n := 4) (rt := none) rfl rfl (by decide +kernel) rfl rfl ck_Arrays_fill_I
theorem cq_291 : COK 291 := cok_of (y := yJ7_fill_d0a16) (cc := cJ7_fill_d0a16) (n := 5) (rt := none) rfl rfl (by decide +kernel) rfl rfl ck_Arrays_fill_J
theorem cok_all : ∀ m9, m9 < 292 → COK m9 := by
  intro m9 h1
  have h0 : 0 ≤ m9 := Nat.zero_le _
  rcases Nat.lt_or_ge m9 146 with q | q
  · rcases Nat.lt_or_ge m9 73 with q | q
    · rcases Nat.lt_or_ge m9 36 with q | q
      · rcases Nat.lt_or_ge m9 18 with q | q
        · rcases Nat.lt_or_ge m9 9 with q | q
          · rcases Nat.lt_or_ge m9 4 with q | q
            · rcases Nat.lt_or_ge m9 2 with q | q
              · rcases Nat.lt_or_ge m9 1 with q | q
                · obtain rfl : m9 = 0 := by omega
                  exact cq_0
                · obtain rfl : m9 = 1 := by omega
                  exact cq_1
              · rcases Nat.lt_or_ge m9 3 with q | q
                · obtain rfl : m9 = 2 := by omega
                  exact cq_2
                · obtain rfl : m9 = 3 := by omega
                  exact cq_3
            · rcases Nat.lt_or_ge m9 6 with q | q
              · rcases Nat.lt_or_ge m9 5 with q | q
                · obtain rfl : m9 = 4 := by omega
                  exact cq_4
                · obtain rfl : m9 = 5 := by omega
                  exact cq_5
              · rcases Nat.lt_or_ge m9 7 with q | q
                · obtain rfl : m9 = 6 := by omega
                  exact cq_6
                · rcases Nat.lt_or_ge m9 8 with q | q
                  · obtain rfl : m9 = 7 := by omega
                    exact cq_7
                  · obtain rfl : m9 = 8 := by omega
                    exact cq_8
          · rcases Nat.lt_or_ge m9 13 with q | q
            · rcases Nat.lt_or_ge m9 11 with q | q
              · rcases Nat.lt_or_ge m9 10 with q | q
                · obtain rfl : m9 = 9 := by omega
                  exact cq_9
                · obtain rfl : m9 = 10 := by omega
                  exact cq_10
              · rcases Nat.lt_or_ge m9 12 with q | q
                · obtain rfl : m9 = 11 := by omega
                  exact cq_11
                · obtain rfl : m9 = 12 := by omega
                  exact cq_12
            · rcases Nat.lt_or_ge m9 15 with q | q
              · rcases Nat.lt_or_ge m9 14 with q | q
                · obtain rfl : m9 = 13 := by omega
                  exact cq_13
                · obtain rfl : m9 = 14 := by omega
                  exact cq_14
              · rcases Nat.lt_or_ge m9 16 with q | q
                · obtain rfl : m9 = 15 := by omega
                  exact cq_15
                · rcases Nat.lt_or_ge m9 17 with q | q
                  · obtain rfl : m9 = 16 := by omega
                    exact cq_16
                  · obtain rfl : m9 = 17 := by omega
                    exact cq_17
        · rcases Nat.lt_or_ge m9 27 with q | q
          · rcases Nat.lt_or_ge m9 22 with q | q
            · rcases Nat.lt_or_ge m9 20 with q | q
              · rcases Nat.lt_or_ge m9 19 with q | q
                · obtain rfl : m9 = 18 := by omega
                  exact cq_18
                · obtain rfl : m9 = 19 := by omega
                  exact cq_19
              · rcases Nat.lt_or_ge m9 21 with q | q
                · obtain rfl : m9 = 20 := by omega
                  exact cq_20
                · obtain rfl : m9 = 21 := by omega
                  exact cq_21
            · rcases Nat.lt_or_ge m9 24 with q | q
              · rcases Nat.lt_or_ge m9 23 with q | q
                · obtain rfl : m9 = 22 := by omega
                  exact cq_22
                · obtain rfl : m9 = 23 := by omega
                  exact cq_23
              · rcases Nat.lt_or_ge m9 25 with q | q
                · obtain rfl : m9 = 24 := by omega
                  exact cq_24
                · rcases Nat.lt_or_ge m9 26 with q | q
                  · obtain rfl : m9 = 25 := by omega
                    exact cq_25
                  · obtain rfl : m9 = 26 := by omega
                    exact cq_26
          · rcases Nat.lt_or_ge m9 31 with q | q
            · rcases Nat.lt_or_ge m9 29 with q | q
              · rcases Nat.lt_or_ge m9 28 with q | q
                · obtain rfl : m9 = 27 := by omega
                  exact cq_27
                · obtain rfl : m9 = 28 := by omega
                  exact cq_28
              · rcases Nat.lt_or_ge m9 30 with q | q
                · obtain rfl : m9 = 29 := by omega
                  exact cq_29
                · obtain rfl : m9 = 30 := by omega
                  exact cq_30
            · rcases Nat.lt_or_ge m9 33 with q | q
              · rcases Nat.lt_or_ge m9 32 with q | q
                · obtain rfl : m9 = 31 := by omega
                  exact cq_31
                · obtain rfl : m9 = 32 := by omega
                  exact cq_32
              · rcases Nat.lt_or_ge m9 34 with q | q
                · obtain rfl : m9 = 33 := by omega
                  exact cq_33
                · rcases Nat.lt_or_ge m9 35 with q | q
                  · obtain rfl : m9 = 34 := by omega
                    exact cq_34
                  · obtain rfl : m9 = 35 := by omega
                    exact cq_35
      · rcases Nat.lt_or_ge m9 54 with q | q
        · rcases Nat.lt_or_ge m9 45 with q | q
          · rcases Nat.lt_or_ge m9 40 with q | q
            · rcases Nat.lt_or_ge m9 38 with q | q
              · rcases Nat.lt_or_ge m9 37 with q | q
                · obtain rfl : m9 = 36 := by omega
                  exact cq_36
                · obtain rfl : m9 = 37 := by omega
                  exact cq_37
              · rcases Nat.lt_or_ge m9 39 with q | q
                · obtain rfl : m9 = 38 := by omega
                  exact cq_38
                · obtain rfl : m9 = 39 := by omega
                  exact cq_39
            · rcases Nat.lt_or_ge m9 42 with q | q
              · rcases Nat.lt_or_ge m9 41 with q | q
                · obtain rfl : m9 = 40 := by omega
                  exact cq_40
                · obtain rfl : m9 = 41 := by omega
                  exact cq_41
              · rcases Nat.lt_or_ge m9 43 with q | q
                · obtain rfl : m9 = 42 := by omega
                  exact cq_42
                · rcases Nat.lt_or_ge m9 44 with q | q
                  · obtain rfl : m9 = 43 := by omega
                    exact cq_43
                  · obtain rfl : m9 = 44 := by omega
                    exact cq_44
          · rcases Nat.lt_or_ge m9 49 with q | q
            · rcases Nat.lt_or_ge m9 47 with q | q
              · rcases Nat.lt_or_ge m9 46 with q | q
                · obtain rfl : m9 = 45 := by omega
                  exact cq_45
                · obtain rfl : m9 = 46 := by omega
                  exact cq_46
              · rcases Nat.lt_or_ge m9 48 with q | q
                · obtain rfl : m9 = 47 := by omega
                  exact cq_47
                · obtain rfl : m9 = 48 := by omega
                  exact cq_48
            · rcases Nat.lt_or_ge m9 51 with q | q
              · rcases Nat.lt_or_ge m9 50 with q | q
                · obtain rfl : m9 = 49 := by omega
                  exact cq_49
                · obtain rfl : m9 = 50 := by omega
                  exact cq_50
              · rcases Nat.lt_or_ge m9 52 with q | q
                · obtain rfl : m9 = 51 := by omega
                  exact cq_51
                · rcases Nat.lt_or_ge m9 53 with q | q
                  · obtain rfl : m9 = 52 := by omega
                    exact cq_52
                  · obtain rfl : m9 = 53 := by omega
                    exact cq_53
        · rcases Nat.lt_or_ge m9 63 with q | q
          · rcases Nat.lt_or_ge m9 58 with q | q
            · rcases Nat.lt_or_ge m9 56 with q | q
              · rcases Nat.lt_or_ge m9 55 with q | q
                · obtain rfl : m9 = 54 := by omega
                  exact cq_54
                · obtain rfl : m9 = 55 := by omega
                  exact cq_55
              · rcases Nat.lt_or_ge m9 57 with q | q
                · obtain rfl : m9 = 56 := by omega
                  exact cq_56
                · obtain rfl : m9 = 57 := by omega
                  exact cq_57
            · rcases Nat.lt_or_ge m9 60 with q | q
              · rcases Nat.lt_or_ge m9 59 with q | q
                · obtain rfl : m9 = 58 := by omega
                  exact cq_58
                · obtain rfl : m9 = 59 := by omega
                  exact cq_59
              · rcases Nat.lt_or_ge m9 61 with q | q
                · obtain rfl : m9 = 60 := by omega
                  exact cq_60
                · rcases Nat.lt_or_ge m9 62 with q | q
                  · obtain rfl : m9 = 61 := by omega
                    exact cq_61
                  · obtain rfl : m9 = 62 := by omega
                    exact cq_62
          · rcases Nat.lt_or_ge m9 68 with q | q
            · rcases Nat.lt_or_ge m9 65 with q | q
              · rcases Nat.lt_or_ge m9 64 with q | q
                · obtain rfl : m9 = 63 := by omega
                  exact cq_63
                · obtain rfl : m9 = 64 := by omega
                  exact cq_64
              · rcases Nat.lt_or_ge m9 66 with q | q
                · obtain rfl : m9 = 65 := by omega
                  exact cq_65
                · rcases Nat.lt_or_ge m9 67 with q | q
                  · obtain rfl : m9 = 66 := by omega
                    exact cq_66
                  · obtain rfl : m9 = 67 := by omega
                    exact cq_67
            · rcases Nat.lt_or_ge m9 70 with q | q
              · rcases Nat.lt_or_ge m9 69 with q | q
                · obtain rfl : m9 = 68 := by omega
                  exact cq_68
                · obtain rfl : m9 = 69 := by omega
                  exact cq_69
              · rcases Nat.lt_or_ge m9 71 with q | q
                · obtain rfl : m9 = 70 := by omega
                  exact cq_70
                · rcases Nat.lt_or_ge m9 72 with q | q
                  · obtain rfl : m9 = 71 := by omega
                    exact cq_71
                  · obtain rfl : m9 = 72 := by omega
                    exact cq_72
    · rcases Nat.lt_or_ge m9 109 with q | q
      · rcases Nat.lt_or_ge m9 91 with q | q
        · rcases Nat.lt_or_ge m9 82 with q | q
          · rcases Nat.lt_or_ge m9 77 with q | q
            · rcases Nat.lt_or_ge m9 75 with q | q
              · rcases Nat.lt_or_ge m9 74 with q | q
                · obtain rfl : m9 = 73 := by omega
                  exact cq_73
                · obtain rfl : m9 = 74 := by omega
                  exact cq_74
              · rcases Nat.lt_or_ge m9 76 with q | q
                · obtain rfl : m9 = 75 := by omega
                  exact cq_75
                · obtain rfl : m9 = 76 := by omega
                  exact cq_76
            · rcases Nat.lt_or_ge m9 79 with q | q
              · rcases Nat.lt_or_ge m9 78 with q | q
                · obtain rfl : m9 = 77 := by omega
                  exact cq_77
                · obtain rfl : m9 = 78 := by omega
                  exact cq_78
              · rcases Nat.lt_or_ge m9 80 with q | q
                · obtain rfl : m9 = 79 := by omega
                  exact cq_79
                · rcases Nat.lt_or_ge m9 81 with q | q
                  · obtain rfl : m9 = 80 := by omega
                    exact cq_80
                  · obtain rfl : m9 = 81 := by omega
                    exact cq_81
          · rcases Nat.lt_or_ge m9 86 with q | q
            · rcases Nat.lt_or_ge m9 84 with q | q
              · rcases Nat.lt_or_ge m9 83 with q | q
                · obtain rfl : m9 = 82 := by omega
                  exact cq_82
                · obtain rfl : m9 = 83 := by omega
                  exact cq_83
              · rcases Nat.lt_or_ge m9 85 with q | q
                · obtain rfl : m9 = 84 := by omega
                  exact cq_84
                · obtain rfl : m9 = 85 := by omega
                  exact cq_85
            · rcases Nat.lt_or_ge m9 88 with q | q
              · rcases Nat.lt_or_ge m9 87 with q | q
                · obtain rfl : m9 = 86 := by omega
                  exact cq_86
                · obtain rfl : m9 = 87 := by omega
                  exact cq_87
              · rcases Nat.lt_or_ge m9 89 with q | q
                · obtain rfl : m9 = 88 := by omega
                  exact cq_88
                · rcases Nat.lt_or_ge m9 90 with q | q
                  · obtain rfl : m9 = 89 := by omega
                    exact cq_89
                  · obtain rfl : m9 = 90 := by omega
                    exact cq_90
        · rcases Nat.lt_or_ge m9 100 with q | q
          · rcases Nat.lt_or_ge m9 95 with q | q
            · rcases Nat.lt_or_ge m9 93 with q | q
              · rcases Nat.lt_or_ge m9 92 with q | q
                · obtain rfl : m9 = 91 := by omega
                  exact cq_91
                · obtain rfl : m9 = 92 := by omega
                  exact cq_92
              · rcases Nat.lt_or_ge m9 94 with q | q
                · obtain rfl : m9 = 93 := by omega
                  exact cq_93
                · obtain rfl : m9 = 94 := by omega
                  exact cq_94
            · rcases Nat.lt_or_ge m9 97 with q | q
              · rcases Nat.lt_or_ge m9 96 with q | q
                · obtain rfl : m9 = 95 := by omega
                  exact cq_95
                · obtain rfl : m9 = 96 := by omega
                  exact cq_96
              · rcases Nat.lt_or_ge m9 98 with q | q
                · obtain rfl : m9 = 97 := by omega
                  exact cq_97
                · rcases Nat.lt_or_ge m9 99 with q | q
                  · obtain rfl : m9 = 98 := by omega
                    exact cq_98
                  · obtain rfl : m9 = 99 := by omega
                    exact cq_99
          · rcases Nat.lt_or_ge m9 104 with q | q
            · rcases Nat.lt_or_ge m9 102 with q | q
              · rcases Nat.lt_or_ge m9 101 with q | q
                · obtain rfl : m9 = 100 := by omega
                  exact cq_100
                · obtain rfl : m9 = 101 := by omega
                  exact cq_101
              · rcases Nat.lt_or_ge m9 103 with q | q
                · obtain rfl : m9 = 102 := by omega
                  exact cq_102
                · obtain rfl : m9 = 103 := by omega
                  exact cq_103
            · rcases Nat.lt_or_ge m9 106 with q | q
              · rcases Nat.lt_or_ge m9 105 with q | q
                · obtain rfl : m9 = 104 := by omega
                  exact cq_104
                · obtain rfl : m9 = 105 := by omega
                  exact cq_105
              · rcases Nat.lt_or_ge m9 107 with q | q
                · obtain rfl : m9 = 106 := by omega
                  exact cq_106
                · rcases Nat.lt_or_ge m9 108 with q | q
                  · obtain rfl : m9 = 107 := by omega
                    exact cq_107
                  · obtain rfl : m9 = 108 := by omega
                    exact cq_108
      · rcases Nat.lt_or_ge m9 127 with q | q
        · rcases Nat.lt_or_ge m9 118 with q | q
          · rcases Nat.lt_or_ge m9 113 with q | q
            · rcases Nat.lt_or_ge m9 111 with q | q
              · rcases Nat.lt_or_ge m9 110 with q | q
                · obtain rfl : m9 = 109 := by omega
                  exact cq_109
                · obtain rfl : m9 = 110 := by omega
                  exact cq_110
              · rcases Nat.lt_or_ge m9 112 with q | q
                · obtain rfl : m9 = 111 := by omega
                  exact cq_111
                · obtain rfl : m9 = 112 := by omega
                  exact cq_112
            · rcases Nat.lt_or_ge m9 115 with q | q
              · rcases Nat.lt_or_ge m9 114 with q | q
                · obtain rfl : m9 = 113 := by omega
                  exact cq_113
                · obtain rfl : m9 = 114 := by omega
                  exact cq_114
              · rcases Nat.lt_or_ge m9 116 with q | q
                · obtain rfl : m9 = 115 := by omega
                  exact cq_115
                · rcases Nat.lt_or_ge m9 117 with q | q
                  · obtain rfl : m9 = 116 := by omega
                    exact cq_116
                  · obtain rfl : m9 = 117 := by omega
                    exact cq_117
          · rcases Nat.lt_or_ge m9 122 with q | q
            · rcases Nat.lt_or_ge m9 120 with q | q
              · rcases Nat.lt_or_ge m9 119 with q | q
                · obtain rfl : m9 = 118 := by omega
                  exact cq_118
                · obtain rfl : m9 = 119 := by omega
                  exact cq_119
              · rcases Nat.lt_or_ge m9 121 with q | q
                · obtain rfl : m9 = 120 := by omega
                  exact cq_120
                · obtain rfl : m9 = 121 := by omega
                  exact cq_121
            · rcases Nat.lt_or_ge m9 124 with q | q
              · rcases Nat.lt_or_ge m9 123 with q | q
                · obtain rfl : m9 = 122 := by omega
                  exact cq_122
                · obtain rfl : m9 = 123 := by omega
                  exact cq_123
              · rcases Nat.lt_or_ge m9 125 with q | q
                · obtain rfl : m9 = 124 := by omega
                  exact cq_124
                · rcases Nat.lt_or_ge m9 126 with q | q
                  · obtain rfl : m9 = 125 := by omega
                    exact cq_125
                  · obtain rfl : m9 = 126 := by omega
                    exact cq_126
        · rcases Nat.lt_or_ge m9 136 with q | q
          · rcases Nat.lt_or_ge m9 131 with q | q
            · rcases Nat.lt_or_ge m9 129 with q | q
              · rcases Nat.lt_or_ge m9 128 with q | q
                · obtain rfl : m9 = 127 := by omega
                  exact cq_127
                · obtain rfl : m9 = 128 := by omega
                  exact cq_128
              · rcases Nat.lt_or_ge m9 130 with q | q
                · obtain rfl : m9 = 129 := by omega
                  exact cq_129
                · obtain rfl : m9 = 130 := by omega
                  exact cq_130
            · rcases Nat.lt_or_ge m9 133 with q | q
              · rcases Nat.lt_or_ge m9 132 with q | q
                · obtain rfl : m9 = 131 := by omega
                  exact cq_131
                · obtain rfl : m9 = 132 := by omega
                  exact cq_132
              · rcases Nat.lt_or_ge m9 134 with q | q
                · obtain rfl : m9 = 133 := by omega
                  exact cq_133
                · rcases Nat.lt_or_ge m9 135 with q | q
                  · obtain rfl : m9 = 134 := by omega
                    exact cq_134
                  · obtain rfl : m9 = 135 := by omega
                    exact cq_135
          · rcases Nat.lt_or_ge m9 141 with q | q
            · rcases Nat.lt_or_ge m9 138 with q | q
              · rcases Nat.lt_or_ge m9 137 with q | q
                · obtain rfl : m9 = 136 := by omega
                  exact cq_136
                · obtain rfl : m9 = 137 := by omega
                  exact cq_137
              · rcases Nat.lt_or_ge m9 139 with q | q
                · obtain rfl : m9 = 138 := by omega
                  exact cq_138
                · rcases Nat.lt_or_ge m9 140 with q | q
                  · obtain rfl : m9 = 139 := by omega
                    exact cq_139
                  · obtain rfl : m9 = 140 := by omega
                    exact cq_140
            · rcases Nat.lt_or_ge m9 143 with q | q
              · rcases Nat.lt_or_ge m9 142 with q | q
                · obtain rfl : m9 = 141 := by omega
                  exact cq_141
                · obtain rfl : m9 = 142 := by omega
                  exact cq_142
              · rcases Nat.lt_or_ge m9 144 with q | q
                · obtain rfl : m9 = 143 := by omega
                  exact cq_143
                · rcases Nat.lt_or_ge m9 145 with q | q
                  · obtain rfl : m9 = 144 := by omega
                    exact cq_144
                  · obtain rfl : m9 = 145 := by omega
                    exact cq_145
  · rcases Nat.lt_or_ge m9 219 with q | q
    · rcases Nat.lt_or_ge m9 182 with q | q
      · rcases Nat.lt_or_ge m9 164 with q | q
        · rcases Nat.lt_or_ge m9 155 with q | q
          · rcases Nat.lt_or_ge m9 150 with q | q
            · rcases Nat.lt_or_ge m9 148 with q | q
              · rcases Nat.lt_or_ge m9 147 with q | q
                · obtain rfl : m9 = 146 := by omega
                  exact cq_146
                · obtain rfl : m9 = 147 := by omega
                  exact cq_147
              · rcases Nat.lt_or_ge m9 149 with q | q
                · obtain rfl : m9 = 148 := by omega
                  exact cq_148
                · obtain rfl : m9 = 149 := by omega
                  exact cq_149
            · rcases Nat.lt_or_ge m9 152 with q | q
              · rcases Nat.lt_or_ge m9 151 with q | q
                · obtain rfl : m9 = 150 := by omega
                  exact cq_150
                · obtain rfl : m9 = 151 := by omega
                  exact cq_151
              · rcases Nat.lt_or_ge m9 153 with q | q
                · obtain rfl : m9 = 152 := by omega
                  exact cq_152
                · rcases Nat.lt_or_ge m9 154 with q | q
                  · obtain rfl : m9 = 153 := by omega
                    exact cq_153
                  · obtain rfl : m9 = 154 := by omega
                    exact cq_154
          · rcases Nat.lt_or_ge m9 159 with q | q
            · rcases Nat.lt_or_ge m9 157 with q | q
              · rcases Nat.lt_or_ge m9 156 with q | q
                · obtain rfl : m9 = 155 := by omega
                  exact cq_155
                · obtain rfl : m9 = 156 := by omega
                  exact cq_156
              · rcases Nat.lt_or_ge m9 158 with q | q
                · obtain rfl : m9 = 157 := by omega
                  exact cq_157
                · obtain rfl : m9 = 158 := by omega
                  exact cq_158
            · rcases Nat.lt_or_ge m9 161 with q | q
              · rcases Nat.lt_or_ge m9 160 with q | q
                · obtain rfl : m9 = 159 := by omega
                  exact cq_159
                · obtain rfl : m9 = 160 := by omega
                  exact cq_160
              · rcases Nat.lt_or_ge m9 162 with q | q
                · obtain rfl : m9 = 161 := by omega
                  exact cq_161
                · rcases Nat.lt_or_ge m9 163 with q | q
                  · obtain rfl : m9 = 162 := by omega
                    exact cq_162
                  · obtain rfl : m9 = 163 := by omega
                    exact cq_163
        · rcases Nat.lt_or_ge m9 173 with q | q
          · rcases Nat.lt_or_ge m9 168 with q | q
            · rcases Nat.lt_or_ge m9 166 with q | q
              · rcases Nat.lt_or_ge m9 165 with q | q
                · obtain rfl : m9 = 164 := by omega
                  exact cq_164
                · obtain rfl : m9 = 165 := by omega
                  exact cq_165
              · rcases Nat.lt_or_ge m9 167 with q | q
                · obtain rfl : m9 = 166 := by omega
                  exact cq_166
                · obtain rfl : m9 = 167 := by omega
                  exact cq_167
            · rcases Nat.lt_or_ge m9 170 with q | q
              · rcases Nat.lt_or_ge m9 169 with q | q
                · obtain rfl : m9 = 168 := by omega
                  exact cq_168
                · obtain rfl : m9 = 169 := by omega
                  exact cq_169
              · rcases Nat.lt_or_ge m9 171 with q | q
                · obtain rfl : m9 = 170 := by omega
                  exact cq_170
                · rcases Nat.lt_or_ge m9 172 with q | q
                  · obtain rfl : m9 = 171 := by omega
                    exact cq_171
                  · obtain rfl : m9 = 172 := by omega
                    exact cq_172
          · rcases Nat.lt_or_ge m9 177 with q | q
            · rcases Nat.lt_or_ge m9 175 with q | q
              · rcases Nat.lt_or_ge m9 174 with q | q
                · obtain rfl : m9 = 173 := by omega
                  exact cq_173
                · obtain rfl : m9 = 174 := by omega
                  exact cq_174
              · rcases Nat.lt_or_ge m9 176 with q | q
                · obtain rfl : m9 = 175 := by omega
                  exact cq_175
                · obtain rfl : m9 = 176 := by omega
                  exact cq_176
            · rcases Nat.lt_or_ge m9 179 with q | q
              · rcases Nat.lt_or_ge m9 178 with q | q
                · obtain rfl : m9 = 177 := by omega
                  exact cq_177
                · obtain rfl : m9 = 178 := by omega
                  exact cq_178
              · rcases Nat.lt_or_ge m9 180 with q | q
                · obtain rfl : m9 = 179 := by omega
                  exact cq_179
                · rcases Nat.lt_or_ge m9 181 with q | q
                  · obtain rfl : m9 = 180 := by omega
                    exact cq_180
                  · obtain rfl : m9 = 181 := by omega
                    exact cq_181
      · rcases Nat.lt_or_ge m9 200 with q | q
        · rcases Nat.lt_or_ge m9 191 with q | q
          · rcases Nat.lt_or_ge m9 186 with q | q
            · rcases Nat.lt_or_ge m9 184 with q | q
              · rcases Nat.lt_or_ge m9 183 with q | q
                · obtain rfl : m9 = 182 := by omega
                  exact cq_182
                · obtain rfl : m9 = 183 := by omega
                  exact cq_183
              · rcases Nat.lt_or_ge m9 185 with q | q
                · obtain rfl : m9 = 184 := by omega
                  exact cq_184
                · obtain rfl : m9 = 185 := by omega
                  exact cq_185
            · rcases Nat.lt_or_ge m9 188 with q | q
              · rcases Nat.lt_or_ge m9 187 with q | q
                · obtain rfl : m9 = 186 := by omega
                  exact cq_186
                · obtain rfl : m9 = 187 := by omega
                  exact cq_187
              · rcases Nat.lt_or_ge m9 189 with q | q
                · obtain rfl : m9 = 188 := by omega
                  exact cq_188
                · rcases Nat.lt_or_ge m9 190 with q | q
                  · obtain rfl : m9 = 189 := by omega
                    exact cq_189
                  · obtain rfl : m9 = 190 := by omega
                    exact cq_190
          · rcases Nat.lt_or_ge m9 195 with q | q
            · rcases Nat.lt_or_ge m9 193 with q | q
              · rcases Nat.lt_or_ge m9 192 with q | q
                · obtain rfl : m9 = 191 := by omega
                  exact cq_191
                · obtain rfl : m9 = 192 := by omega
                  exact cq_192
              · rcases Nat.lt_or_ge m9 194 with q | q
                · obtain rfl : m9 = 193 := by omega
                  exact cq_193
                · obtain rfl : m9 = 194 := by omega
                  exact cq_194
            · rcases Nat.lt_or_ge m9 197 with q | q
              · rcases Nat.lt_or_ge m9 196 with q | q
                · obtain rfl : m9 = 195 := by omega
                  exact cq_195
                · obtain rfl : m9 = 196 := by omega
                  exact cq_196
              · rcases Nat.lt_or_ge m9 198 with q | q
                · obtain rfl : m9 = 197 := by omega
                  exact cq_197
                · rcases Nat.lt_or_ge m9 199 with q | q
                  · obtain rfl : m9 = 198 := by omega
                    exact cq_198
                  · obtain rfl : m9 = 199 := by omega
                    exact cq_199
        · rcases Nat.lt_or_ge m9 209 with q | q
          · rcases Nat.lt_or_ge m9 204 with q | q
            · rcases Nat.lt_or_ge m9 202 with q | q
              · rcases Nat.lt_or_ge m9 201 with q | q
                · obtain rfl : m9 = 200 := by omega
                  exact cq_200
                · obtain rfl : m9 = 201 := by omega
                  exact cq_201
              · rcases Nat.lt_or_ge m9 203 with q | q
                · obtain rfl : m9 = 202 := by omega
                  exact cq_202
                · obtain rfl : m9 = 203 := by omega
                  exact cq_203
            · rcases Nat.lt_or_ge m9 206 with q | q
              · rcases Nat.lt_or_ge m9 205 with q | q
                · obtain rfl : m9 = 204 := by omega
                  exact cq_204
                · obtain rfl : m9 = 205 := by omega
                  exact cq_205
              · rcases Nat.lt_or_ge m9 207 with q | q
                · obtain rfl : m9 = 206 := by omega
                  exact cq_206
                · rcases Nat.lt_or_ge m9 208 with q | q
                  · obtain rfl : m9 = 207 := by omega
                    exact cq_207
                  · obtain rfl : m9 = 208 := by omega
                    exact cq_208
          · rcases Nat.lt_or_ge m9 214 with q | q
            · rcases Nat.lt_or_ge m9 211 with q | q
              · rcases Nat.lt_or_ge m9 210 with q | q
                · obtain rfl : m9 = 209 := by omega
                  exact cq_209
                · obtain rfl : m9 = 210 := by omega
                  exact cq_210
              · rcases Nat.lt_or_ge m9 212 with q | q
                · obtain rfl : m9 = 211 := by omega
                  exact cq_211
                · rcases Nat.lt_or_ge m9 213 with q | q
                  · obtain rfl : m9 = 212 := by omega
                    exact cq_212
                  · obtain rfl : m9 = 213 := by omega
                    exact cq_213
            · rcases Nat.lt_or_ge m9 216 with q | q
              · rcases Nat.lt_or_ge m9 215 with q | q
                · obtain rfl : m9 = 214 := by omega
                  exact cq_214
                · obtain rfl : m9 = 215 := by omega
                  exact cq_215
              · rcases Nat.lt_or_ge m9 217 with q | q
                · obtain rfl : m9 = 216 := by omega
                  exact cq_216
                · rcases Nat.lt_or_ge m9 218 with q | q
                  · obtain rfl : m9 = 217 := by omega
                    exact cq_217
                  · obtain rfl : m9 = 218 := by omega
                    exact cq_218
    · rcases Nat.lt_or_ge m9 255 with q | q
      · rcases Nat.lt_or_ge m9 237 with q | q
        · rcases Nat.lt_or_ge m9 228 with q | q
          · rcases Nat.lt_or_ge m9 223 with q | q
            · rcases Nat.lt_or_ge m9 221 with q | q
              · rcases Nat.lt_or_ge m9 220 with q | q
                · obtain rfl : m9 = 219 := by omega
                  exact cq_219
                · obtain rfl : m9 = 220 := by omega
                  exact cq_220
              · rcases Nat.lt_or_ge m9 222 with q | q
                · obtain rfl : m9 = 221 := by omega
                  exact cq_221
                · obtain rfl : m9 = 222 := by omega
                  exact cq_222
            · rcases Nat.lt_or_ge m9 225 with q | q
              · rcases Nat.lt_or_ge m9 224 with q | q
                · obtain rfl : m9 = 223 := by omega
                  exact cq_223
                · obtain rfl : m9 = 224 := by omega
                  exact cq_224
              · rcases Nat.lt_or_ge m9 226 with q | q
                · obtain rfl : m9 = 225 := by omega
                  exact cq_225
                · rcases Nat.lt_or_ge m9 227 with q | q
                  · obtain rfl : m9 = 226 := by omega
                    exact cq_226
                  · obtain rfl : m9 = 227 := by omega
                    exact cq_227
          · rcases Nat.lt_or_ge m9 232 with q | q
            · rcases Nat.lt_or_ge m9 230 with q | q
              · rcases Nat.lt_or_ge m9 229 with q | q
                · obtain rfl : m9 = 228 := by omega
                  exact cq_228
                · obtain rfl : m9 = 229 := by omega
                  exact cq_229
              · rcases Nat.lt_or_ge m9 231 with q | q
                · obtain rfl : m9 = 230 := by omega
                  exact cq_230
                · obtain rfl : m9 = 231 := by omega
                  exact cq_231
            · rcases Nat.lt_or_ge m9 234 with q | q
              · rcases Nat.lt_or_ge m9 233 with q | q
                · obtain rfl : m9 = 232 := by omega
                  exact cq_232
                · obtain rfl : m9 = 233 := by omega
                  exact cq_233
              · rcases Nat.lt_or_ge m9 235 with q | q
                · obtain rfl : m9 = 234 := by omega
                  exact cq_234
                · rcases Nat.lt_or_ge m9 236 with q | q
                  · obtain rfl : m9 = 235 := by omega
                    exact cq_235
                  · obtain rfl : m9 = 236 := by omega
                    exact cq_236
        · rcases Nat.lt_or_ge m9 246 with q | q
          · rcases Nat.lt_or_ge m9 241 with q | q
            · rcases Nat.lt_or_ge m9 239 with q | q
              · rcases Nat.lt_or_ge m9 238 with q | q
                · obtain rfl : m9 = 237 := by omega
                  exact cq_237
                · obtain rfl : m9 = 238 := by omega
                  exact cq_238
              · rcases Nat.lt_or_ge m9 240 with q | q
                · obtain rfl : m9 = 239 := by omega
                  exact cq_239
                · obtain rfl : m9 = 240 := by omega
                  exact cq_240
            · rcases Nat.lt_or_ge m9 243 with q | q
              · rcases Nat.lt_or_ge m9 242 with q | q
                · obtain rfl : m9 = 241 := by omega
                  exact cq_241
                · obtain rfl : m9 = 242 := by omega
                  exact cq_242
              · rcases Nat.lt_or_ge m9 244 with q | q
                · obtain rfl : m9 = 243 := by omega
                  exact cq_243
                · rcases Nat.lt_or_ge m9 245 with q | q
                  · obtain rfl : m9 = 244 := by omega
                    exact cq_244
                  · obtain rfl : m9 = 245 := by omega
                    exact cq_245
          · rcases Nat.lt_or_ge m9 250 with q | q
            · rcases Nat.lt_or_ge m9 248 with q | q
              · rcases Nat.lt_or_ge m9 247 with q | q
                · obtain rfl : m9 = 246 := by omega
                  exact cq_246
                · obtain rfl : m9 = 247 := by omega
                  exact cq_247
              · rcases Nat.lt_or_ge m9 249 with q | q
                · obtain rfl : m9 = 248 := by omega
                  exact cq_248
                · obtain rfl : m9 = 249 := by omega
                  exact cq_249
            · rcases Nat.lt_or_ge m9 252 with q | q
              · rcases Nat.lt_or_ge m9 251 with q | q
                · obtain rfl : m9 = 250 := by omega
                  exact cq_250
                · obtain rfl : m9 = 251 := by omega
                  exact cq_251
              · rcases Nat.lt_or_ge m9 253 with q | q
                · obtain rfl : m9 = 252 := by omega
                  exact cq_252
                · rcases Nat.lt_or_ge m9 254 with q | q
                  · obtain rfl : m9 = 253 := by omega
                    exact cq_253
                  · obtain rfl : m9 = 254 := by omega
                    exact cq_254
      · rcases Nat.lt_or_ge m9 273 with q | q
        · rcases Nat.lt_or_ge m9 264 with q | q
          · rcases Nat.lt_or_ge m9 259 with q | q
            · rcases Nat.lt_or_ge m9 257 with q | q
              · rcases Nat.lt_or_ge m9 256 with q | q
                · obtain rfl : m9 = 255 := by omega
                  exact cq_255
                · obtain rfl : m9 = 256 := by omega
                  exact cq_256
              · rcases Nat.lt_or_ge m9 258 with q | q
                · obtain rfl : m9 = 257 := by omega
                  exact cq_257
                · obtain rfl : m9 = 258 := by omega
                  exact cq_258
            · rcases Nat.lt_or_ge m9 261 with q | q
              · rcases Nat.lt_or_ge m9 260 with q | q
                · obtain rfl : m9 = 259 := by omega
                  exact cq_259
                · obtain rfl : m9 = 260 := by omega
                  exact cq_260
              · rcases Nat.lt_or_ge m9 262 with q | q
                · obtain rfl : m9 = 261 := by omega
                  exact cq_261
                · rcases Nat.lt_or_ge m9 263 with q | q
                  · obtain rfl : m9 = 262 := by omega
                    exact cq_262
                  · obtain rfl : m9 = 263 := by omega
                    exact cq_263
          · rcases Nat.lt_or_ge m9 268 with q | q
            · rcases Nat.lt_or_ge m9 266 with q | q
              · rcases Nat.lt_or_ge m9 265 with q | q
                · obtain rfl : m9 = 264 := by omega
                  exact cq_264
                · obtain rfl : m9 = 265 := by omega
                  exact cq_265
              · rcases Nat.lt_or_ge m9 267 with q | q
                · obtain rfl : m9 = 266 := by omega
                  exact cq_266
                · obtain rfl : m9 = 267 := by omega
                  exact cq_267
            · rcases Nat.lt_or_ge m9 270 with q | q
              · rcases Nat.lt_or_ge m9 269 with q | q
                · obtain rfl : m9 = 268 := by omega
                  exact cq_268
                · obtain rfl : m9 = 269 := by omega
                  exact cq_269
              · rcases Nat.lt_or_ge m9 271 with q | q
                · obtain rfl : m9 = 270 := by omega
                  exact cq_270
                · rcases Nat.lt_or_ge m9 272 with q | q
                  · obtain rfl : m9 = 271 := by omega
                    exact cq_271
                  · obtain rfl : m9 = 272 := by omega
                    exact cq_272
        · rcases Nat.lt_or_ge m9 282 with q | q
          · rcases Nat.lt_or_ge m9 277 with q | q
            · rcases Nat.lt_or_ge m9 275 with q | q
              · rcases Nat.lt_or_ge m9 274 with q | q
                · obtain rfl : m9 = 273 := by omega
                  exact cq_273
                · obtain rfl : m9 = 274 := by omega
                  exact cq_274
              · rcases Nat.lt_or_ge m9 276 with q | q
                · obtain rfl : m9 = 275 := by omega
                  exact cq_275
                · obtain rfl : m9 = 276 := by omega
                  exact cq_276
            · rcases Nat.lt_or_ge m9 279 with q | q
              · rcases Nat.lt_or_ge m9 278 with q | q
                · obtain rfl : m9 = 277 := by omega
                  exact cq_277
                · obtain rfl : m9 = 278 := by omega
                  exact cq_278
              · rcases Nat.lt_or_ge m9 280 with q | q
                · obtain rfl : m9 = 279 := by omega
                  exact cq_279
                · rcases Nat.lt_or_ge m9 281 with q | q
                  · obtain rfl : m9 = 280 := by omega
                    exact cq_280
                  · obtain rfl : m9 = 281 := by omega
                    exact cq_281
          · rcases Nat.lt_or_ge m9 287 with q | q
            · rcases Nat.lt_or_ge m9 284 with q | q
              · rcases Nat.lt_or_ge m9 283 with q | q
                · obtain rfl : m9 = 282 := by omega
                  exact cq_282
                · obtain rfl : m9 = 283 := by omega
                  exact cq_283
              · rcases Nat.lt_or_ge m9 285 with q | q
                · obtain rfl : m9 = 284 := by omega
                  exact cq_284
                · rcases Nat.lt_or_ge m9 286 with q | q
                  · obtain rfl : m9 = 285 := by omega
                    exact cq_285
                  · obtain rfl : m9 = 286 := by omega
                    exact cq_286
            · rcases Nat.lt_or_ge m9 289 with q | q
              · rcases Nat.lt_or_ge m9 288 with q | q
                · obtain rfl : m9 = 287 := by omega
                  exact cq_287
                · obtain rfl : m9 = 288 := by omega
                  exact cq_288
              · rcases Nat.lt_or_ge m9 290 with q | q
                · obtain rfl : m9 = 289 := by omega
                  exact cq_289
                · rcases Nat.lt_or_ge m9 291 with q | q
                  · obtain rfl : m9 = 290 := by omega
                    exact cq_290
                  · obtain rfl : m9 = 291 := by omega
                    exact cq_291

end
