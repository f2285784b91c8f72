/-! the words of the tables, one by one -/
theorem tm_0 {w : Cond} (h : w ∈ k2_sels lw_privs) : w ∈ lw_tbl := List.mem_append_left _ h
theorem tm_1 {w : Cond} (h : w ∈ tables_1_1) : w ∈ lw_tbl := List.mem_append_right _ (List.mem_append_left _ h)
theorem tm_2 {w : Cond} (h : w ∈ tables_1_2) : w ∈ lw_tbl := List.mem_append_right _ (List.mem_append_right _ (List.mem_append_left _ h))
theorem tm_3 {w : Cond} (h : w ∈ tables_1_3) : w ∈ lw_tbl := List.mem_append_right _ (List.mem_append_right _ (List.mem_append_right _ (List.mem_append_left _ h)))
theorem tm_4 {w : Cond} (h : w ∈ tables_1_4) : w ∈ lw_tbl := List.mem_append_right _ (List.mem_append_right _ (List.mem_append_right _ (List.mem_append_right _ h)))
set_option maxRecDepth 20000 in
theorem tw_0 : Cond.selects "BitTuner$Value" yX2_spanProduct yX2_spanProduct ∈ lw_gd := gd_of (tm_0 (List.mem_of_getElem? (i := 0) rfl)) rfl
set_option maxRecDepth 20000 in
theorem tw_1 : Cond.selects "BitTuner$Value" yX2_spanAmount yX2_spanAmount ∈ lw_gd := gd_of (tm_0 (List.mem_of_getElem? (i := 1) rfl)) rfl
set_option maxRecDepth 20000 in
theorem tw_2 : Cond.selects "BitTuner$Widths" yX3_tryAsTold yX3_tryAsTold ∈ lw_gd := gd_of (tm_0 (List.mem_of_getElem? (i := 2) rfl)) rfl
set_option maxRecDepth 20000 in
theorem tw_3 : Cond.selects "BitTuner$Widths" yX3_boundTried yX3_boundTried ∈ lw_gd := gd_of (tm_0 (List.mem_of_getElem? (i := 3) rfl)) rfl
set_option maxRecDepth 20000 in
theorem tw_4 : Cond.selects "BitTuner$Widths" yX3_boundFromParts yX3_boundFromParts ∈ lw_gd := gd_of (tm_0 (List.mem_of_getElem? (i := 4) rfl)) rfl
set_option maxRecDepth 20000 in
theorem tw_5 : Cond.selects "BitTuner$Widths" yX3_boundOfProduct yX3_boundOfProduct ∈ lw_gd := gd_of (tm_0 (List.mem_of_getElem? (i := 5) rfl)) rfl
set_option maxRecDepth 20000 in
theorem tw_6 : Cond.selects "BitTuner$Runs" yX1_workOut yX1_workOut ∈ lw_gd := gd_of (tm_0 (List.mem_of_getElem? (i := 6) rfl)) rfl
set_option maxRecDepth 20000 in
theorem tw_7 : Cond.selects "BitTuner$Runs" yX1_toFirstRow yX1_toFirstRow ∈ lw_gd := gd_of (tm_0 (List.mem_of_getElem? (i := 7) rfl)) rfl
set_option maxRecDepth 20000 in
theorem tw_8 : Cond.selects "BitTuner$Runs" yX1_keepRow yX1_keepRow ∈ lw_gd := gd_of (tm_0 (List.mem_of_getElem? (i := 8) rfl)) rfl
set_option maxRecDepth 20000 in
theorem tw_9 : Cond.selects "BitTuner$Runs" yX1_toNextRow yX1_toNextRow ∈ lw_gd := gd_of (tm_0 (List.mem_of_getElem? (i := 9) rfl)) rfl
set_option maxRecDepth 20000 in
theorem tw_10 : Cond.selects "BitTuner$Widths" yX3_choose yX3_choose ∈ lw_gd := gd_of (tm_0 (List.mem_of_getElem? (i := 10) rfl)) rfl
set_option maxRecDepth 20000 in
theorem tw_11 : Cond.selects "BitTuner$Widths" yX3_take yX3_take ∈ lw_gd := gd_of (tm_0 (List.mem_of_getElem? (i := 11) rfl)) rfl
set_option maxRecDepth 20000 in
theorem tw_12 : Cond.selects "BitTuner$Widths" yX3_tryWidest yX3_tryWidest ∈ lw_gd := gd_of (tm_0 (List.mem_of_getElem? (i := 12) rfl)) rfl
set_option maxRecDepth 20000 in
theorem tw_13 : Cond.selects "BitTuner$Widths" yX3_lessen yX3_lessen ∈ lw_gd := gd_of (tm_0 (List.mem_of_getElem? (i := 13) rfl)) rfl
set_option maxRecDepth 20000 in
theorem tw_14 : Cond.selects "BitTunerModel" yX5_lays yX5_lays ∈ lw_gd := gd_of (tm_0 (List.mem_of_getElem? (i := 14) rfl)) rfl
set_option maxRecDepth 20000 in
theorem tw_15 : Cond.selects "BitTunerModel" yX5_isValue yX5_isValue ∈ lw_gd := gd_of (tm_0 (List.mem_of_getElem? (i := 15) rfl)) rfl
set_option maxRecDepth 20000 in
theorem tw_16 : Cond.selects "BitTunerModel" yX5_isWork yX5_isWork ∈ lw_gd := gd_of (tm_0 (List.mem_of_getElem? (i := 16) rfl)) rfl
set_option maxRecDepth 20000 in
theorem tw_17 : Cond.selects "BitTunerModel" yX5_bound yX5_bound ∈ lw_gd := gd_of (tm_0 (List.mem_of_getElem? (i := 17) rfl)) rfl
set_option maxRecDepth 20000 in
theorem tw_18 : Cond.selects "BitTunerModel" yX5_greatest yX5_greatest ∈ lw_gd := gd_of (tm_0 (List.mem_of_getElem? (i := 18) rfl)) rfl
set_option maxRecDepth 20000 in
theorem tw_19 : Cond.selects "BitTunerModel" yX5_isInput yX5_isInput ∈ lw_gd := gd_of (tm_0 (List.mem_of_getElem? (i := 19) rfl)) rfl
set_option maxRecDepth 20000 in
theorem tw_20 : Cond.selects "BitTunerModel" yX5_isOf yX5_isOf ∈ lw_gd := gd_of (tm_0 (List.mem_of_getElem? (i := 20) rfl)) rfl
set_option maxRecDepth 20000 in
theorem tw_21 : Cond.selects "BitTunerModel" yX5_runs yX5_runs ∈ lw_gd := gd_of (tm_0 (List.mem_of_getElem? (i := 21) rfl)) rfl
set_option maxRecDepth 20000 in
theorem tw_22 : Cond.selects "BitTunerModel" yX5_missNow yX5_missNow ∈ lw_gd := gd_of (tm_0 (List.mem_of_getElem? (i := 22) rfl)) rfl
set_option maxRecDepth 20000 in
theorem tw_23 : Cond.selects "BitTunerModel" yX5_keep yX5_keep ∈ lw_gd := gd_of (tm_0 (List.mem_of_getElem? (i := 23) rfl)) rfl
set_option maxRecDepth 20000 in
theorem tw_24 : Cond.selects "BitTunerModel" yX5_goesOn yX5_goesOn ∈ lw_gd := gd_of (tm_0 (List.mem_of_getElem? (i := 24) rfl)) rfl
set_option maxRecDepth 20000 in
theorem tw_25 : Cond.selects "BitTunerModel" yX5_restore yX5_restore ∈ lw_gd := gd_of (tm_0 (List.mem_of_getElem? (i := 25) rfl)) rfl
set_option maxRecDepth 20000 in
theorem tw_26 : Cond.selects "BitTunerModel" yX5_works yX5_works ∈ lw_gd := gd_of (tm_0 (List.mem_of_getElem? (i := 26) rfl)) rfl
set_option maxRecDepth 20000 in
theorem tw_27 : Cond.selects "BitTunerModel" yX5_save yX5_save ∈ lw_gd := gd_of (tm_0 (List.mem_of_getElem? (i := 27) rfl)) rfl
set_option maxRecDepth 20000 in
theorem tw_28 : Cond.selects "BitTunerModel" yX5_setAll yX5_setAll ∈ lw_gd := gd_of (tm_0 (List.mem_of_getElem? (i := 28) rfl)) rfl
set_option maxRecDepth 20000 in
theorem tw_29 : Cond.selects "BitTunerModel" yX5_choosesOn yX5_choosesOn ∈ lw_gd := gd_of (tm_0 (List.mem_of_getElem? (i := 29) rfl)) rfl
set_option maxRecDepth 20000 in
theorem tw_30 : Cond.selects "BitTunerModel" yX5_take yX5_take ∈ lw_gd := gd_of (tm_0 (List.mem_of_getElem? (i := 30) rfl)) rfl
set_option maxRecDepth 20000 in
theorem tw_31 : Cond.selects "BitTunerModel" yX5_gainOf yX5_gainOf ∈ lw_gd := gd_of (tm_0 (List.mem_of_getElem? (i := 31) rfl)) rfl
set_option maxRecDepth 20000 in
theorem tw_32 : Cond.initialized "BitTunerLaw" ∈ lw_gd := gd_of (tm_1 (List.mem_of_getElem? (i := 0) rfl)) rfl
set_option maxRecDepth 20000 in
theorem tw_33 : Cond.initialized "BitTuner" ∈ lw_gd := gd_of (tm_1 (List.mem_of_getElem? (i := 1) rfl)) rfl
set_option maxRecDepth 20000 in
theorem tw_34 : Cond.initialized "BitTuner$Program" ∈ lw_gd := gd_of (tm_1 (List.mem_of_getElem? (i := 2) rfl)) rfl
set_option maxRecDepth 20000 in
theorem tw_35 : Cond.initialized "BitTuner$Value" ∈ lw_gd := gd_of (tm_1 (List.mem_of_getElem? (i := 3) rfl)) rfl
set_option maxRecDepth 20000 in
theorem tw_36 : Cond.initialized "BitTuner$Runs" ∈ lw_gd := gd_of (tm_1 (List.mem_of_getElem? (i := 4) rfl)) rfl
set_option maxRecDepth 20000 in
theorem tw_37 : Cond.initialized "BitTuner$Widths" ∈ lw_gd := gd_of (tm_1 (List.mem_of_getElem? (i := 5) rfl)) rfl
set_option maxRecDepth 20000 in
theorem tw_38 : Cond.initialized "BitTunerModel" ∈ lw_gd := gd_of (tm_1 (List.mem_of_getElem? (i := 6) rfl)) rfl
set_option maxRecDepth 20000 in
theorem tw_39 : Cond.initialized "java/lang/Math" ∈ lw_gd := gd_of (tm_1 (List.mem_of_getElem? (i := 7) rfl)) rfl
set_option maxRecDepth 20000 in
theorem tw_40 : Cond.initialized "java/lang/System" ∈ lw_gd := gd_of (tm_1 (List.mem_of_getElem? (i := 8) rfl)) rfl
set_option maxRecDepth 20000 in
theorem tw_41 : Cond.classLink "BitTunerLaw" 7 "BitTuner" ∈ lw_gd := gd_of (tm_1 (List.mem_of_getElem? (i := 9) rfl)) rfl
set_option maxRecDepth 20000 in
theorem tw_42 : Cond.instantiable "BitTuner" 3 ∈ lw_gd := gd_of (tm_1 (List.mem_of_getElem? (i := 10) rfl)) rfl
set_option maxRecDepth 20000 in
theorem tw_43 : Cond.methodLink "BitTunerLaw" 9 yX4_init ∈ lw_gd := gd_of (tm_1 (List.mem_of_getElem? (i := 11) rfl)) rfl
set_option maxRecDepth 20000 in
theorem tw_44 : Cond.instanceMethod yX4_init ∈ lw_gd := gd_of (tm_1 (List.mem_of_getElem? (i := 12) rfl)) rfl
set_option maxRecDepth 20000 in
theorem tw_45 : Cond.code yX4_init cX4_init 1 none ∈ lw_gd := gd_of (tm_1 (List.mem_of_getElem? (i := 13) rfl)) rfl
set_option maxRecDepth 20000 in
theorem tw_46 : Cond.methodLink "BitTuner" 1 objectInit ∈ lw_gd := gd_of (tm_1 (List.mem_of_getElem? (i := 14) rfl)) rfl
set_option maxRecDepth 20000 in
theorem tw_47 : Cond.instanceMethod objectInit ∈ lw_gd := gd_of (tm_1 (List.mem_of_getElem? (i := 15) rfl)) rfl
set_option maxRecDepth 20000 in
theorem tw_48 : Cond.code objectInit ⟨#[0xb1]⟩ 1 none ∈ lw_gd := gd_of (tm_1 (List.mem_of_getElem? (i := 16) rfl)) rfl
set_option maxRecDepth 20000 in
theorem tw_49 : Cond.classLink "BitTuner" 7 "BitTuner$Program" ∈ lw_gd := gd_of (tm_1 (List.mem_of_getElem? (i := 17) rfl)) rfl
set_option maxRecDepth 20000 in
theorem tw_50 : Cond.instantiable "BitTuner$Program" 2 ∈ lw_gd := gd_of (tm_1 (List.mem_of_getElem? (i := 18) rfl)) rfl
set_option maxRecDepth 20000 in
theorem tw_51 : Cond.methodLink "BitTuner" 9 yX0_init ∈ lw_gd := gd_of (tm_1 (List.mem_of_getElem? (i := 19) rfl)) rfl
set_option maxRecDepth 20000 in
theorem tw_52 : Cond.instanceMethod yX0_init ∈ lw_gd := gd_of (tm_1 (List.mem_of_getElem? (i := 20) rfl)) rfl
set_option maxRecDepth 20000 in
theorem tw_53 : Cond.code yX0_init cX0_init 2 none ∈ lw_gd := gd_of (tm_1 (List.mem_of_getElem? (i := 21) rfl)) rfl
set_option maxRecDepth 20000 in
theorem tw_54 : Cond.methodLink "BitTuner$Program" 3 objectInit ∈ lw_gd := gd_of (tm_1 (List.mem_of_getElem? (i := 22) rfl)) rfl
set_option maxRecDepth 20000 in
theorem tw_55 : Cond.classLink "BitTuner$Program" 9 "BitTuner$Value" ∈ lw_gd := gd_of (tm_1 (List.mem_of_getElem? (i := 23) rfl)) rfl
set_option maxRecDepth 20000 in
theorem tw_57 : Cond.instantiable "BitTuner$Value" 11 ∈ lw_gd := gd_of (tm_1 (List.mem_of_getElem? (i := 25) rfl)) rfl
set_option maxRecDepth 20000 in
theorem tw_59 : Cond.instanceMethod yX2_init ∈ lw_gd := gd_of (tm_1 (List.mem_of_getElem? (i := 27) rfl)) rfl
set_option maxRecDepth 20000 in
theorem tw_60 : Cond.code yX2_init cX2_init 1 none ∈ lw_gd := gd_of (tm_1 (List.mem_of_getElem? (i := 28) rfl)) rfl
set_option maxRecDepth 20000 in
theorem tw_61 : Cond.methodLink "BitTuner$Value" 3 objectInit ∈ lw_gd := gd_of (tm_1 (List.mem_of_getElem? (i := 29) rfl)) rfl
set_option maxRecDepth 20000 in
theorem tw_62 : Cond.fieldLink "BitTuner$Value" 9 "BitTuner$Value" "kind" "I" ∈ lw_gd := gd_of (tm_1 (List.mem_of_getElem? (i := 30) rfl)) rfl
set_option maxRecDepth 20000 in
theorem tw_63 : Cond.fieldLink "BitTuner$Program" 26 "BitTuner$Value" "kind" "I" ∈ lw_gd := gd_of (tm_1 (List.mem_of_getElem? (i := 31) rfl)) rfl
set_option maxRecDepth 20000 in
theorem tw_64 : Cond.fieldLink "BitTuner$Runs" 55 "BitTuner$Value" "kind" "I" ∈ lw_gd := gd_of (tm_1 (List.mem_of_getElem? (i := 32) rfl)) rfl
set_option maxRecDepth 20000 in
theorem tw_65 : Cond.fieldLink "BitTuner" 75 "BitTuner$Value" "kind" "I" ∈ lw_gd := gd_of (tm_1 (List.mem_of_getElem? (i := 33) rfl)) rfl
set_option maxRecDepth 20000 in
theorem tw_66 : Cond.fieldLink "BitTuner$Widths" 109 "BitTuner$Value" "kind" "I" ∈ lw_gd := gd_of (tm_1 (List.mem_of_getElem? (i := 34) rfl)) rfl
set_option maxRecDepth 20000 in
theorem tw_67 : Cond.fieldLink "BitTuner$Value" 15 "BitTuner$Value" "a" "I" ∈ lw_gd := gd_of (tm_1 (List.mem_of_getElem? (i := 35) rfl)) rfl
set_option maxRecDepth 20000 in
theorem tw_68 : Cond.fieldLink "BitTuner$Runs" 65 "BitTuner$Value" "a" "I" ∈ lw_gd := gd_of (tm_1 (List.mem_of_getElem? (i := 36) rfl)) rfl
set_option maxRecDepth 20000 in
theorem tw_69 : Cond.fieldLink "BitTuner" 78 "BitTuner$Value" "a" "I" ∈ lw_gd := gd_of (tm_1 (List.mem_of_getElem? (i := 37) rfl)) rfl
set_option maxRecDepth 20000 in
theorem tw_70 : Cond.fieldLink "BitTuner$Widths" 106 "BitTuner$Value" "a" "I" ∈ lw_gd := gd_of (tm_1 (List.mem_of_getElem? (i := 38) rfl)) rfl
set_option maxRecDepth 20000 in
theorem tw_71 : Cond.fieldLink "BitTuner$Value" 18 "BitTuner$Value" "b" "I" ∈ lw_gd := gd_of (tm_1 (List.mem_of_getElem? (i := 39) rfl)) rfl
set_option maxRecDepth 20000 in
theorem tw_72 : Cond.fieldLink "BitTuner$Runs" 62 "BitTuner$Value" "b" "I" ∈ lw_gd := gd_of (tm_1 (List.mem_of_getElem? (i := 40) rfl)) rfl
set_option maxRecDepth 20000 in
theorem tw_73 : Cond.fieldLink "BitTuner" 81 "BitTuner$Value" "b" "I" ∈ lw_gd := gd_of (tm_1 (List.mem_of_getElem? (i := 41) rfl)) rfl
set_option maxRecDepth 20000 in
theorem tw_74 : Cond.fieldLink "BitTuner$Widths" 115 "BitTuner$Value" "b" "I" ∈ lw_gd := gd_of (tm_1 (List.mem_of_getElem? (i := 42) rfl)) rfl
set_option maxRecDepth 20000 in
theorem tw_75 : Cond.fieldLink "BitTuner$Value" 21 "BitTuner$Value" "degree" "I" ∈ lw_gd := gd_of (tm_1 (List.mem_of_getElem? (i := 43) rfl)) rfl
set_option maxRecDepth 20000 in
theorem tw_76 : Cond.fieldLink "BitTuner" 84 "BitTuner$Value" "degree" "I" ∈ lw_gd := gd_of (tm_1 (List.mem_of_getElem? (i := 44) rfl)) rfl
set_option maxRecDepth 20000 in
theorem tw_77 : Cond.fieldLink "BitTuner$Value" 24 "BitTuner$Value" "bits" "I" ∈ lw_gd := gd_of (tm_1 (List.mem_of_getElem? (i := 45) rfl)) rfl
set_option maxRecDepth 20000 in
theorem tw_78 : Cond.fieldLink "BitTuner$Runs" 79 "BitTuner$Value" "bits" "I" ∈ lw_gd := gd_of (tm_1 (List.mem_of_getElem? (i := 46) rfl)) rfl
set_option maxRecDepth 20000 in
theorem tw_79 : Cond.fieldLink "BitTuner" 60 "BitTuner$Value" "bits" "I" ∈ lw_gd := gd_of (tm_1 (List.mem_of_getElem? (i := 47) rfl)) rfl
set_option maxRecDepth 20000 in
theorem tw_80 : Cond.fieldLink "BitTuner$Program" 53 "BitTuner$Value" "bits" "I" ∈ lw_gd := gd_of (tm_1 (List.mem_of_getElem? (i := 48) rfl)) rfl
set_option maxRecDepth 20000 in
theorem tw_81 : Cond.fieldLink "BitTuner$Widths" 103 "BitTuner$Value" "bits" "I" ∈ lw_gd := gd_of (tm_1 (List.mem_of_getElem? (i := 49) rfl)) rfl
set_option maxRecDepth 20000 in
theorem tw_82 : Cond.fieldLink "BitTuner$Value" 27 "BitTuner$Value" "rounding" "I" ∈ lw_gd := gd_of (tm_1 (List.mem_of_getElem? (i := 50) rfl)) rfl
set_option maxRecDepth 20000 in
theorem tw_83 : Cond.fieldLink "BitTuner$Runs" 82 "BitTuner$Value" "rounding" "I" ∈ lw_gd := gd_of (tm_1 (List.mem_of_getElem? (i := 51) rfl)) rfl
set_option maxRecDepth 20000 in
theorem tw_84 : Cond.fieldLink "BitTuner" 65 "BitTuner$Value" "rounding" "I" ∈ lw_gd := gd_of (tm_1 (List.mem_of_getElem? (i := 52) rfl)) rfl
set_option maxRecDepth 20000 in
theorem tw_85 : Cond.fieldLink "BitTuner$Widths" 130 "BitTuner$Value" "rounding" "I" ∈ lw_gd := gd_of (tm_1 (List.mem_of_getElem? (i := 53) rfl)) rfl
set_option maxRecDepth 20000 in
theorem tw_86 : Cond.fieldLink "BitTuner$Value" 30 "BitTuner$Value" "weight" "I" ∈ lw_gd := gd_of (tm_1 (List.mem_of_getElem? (i := 54) rfl)) rfl
set_option maxRecDepth 20000 in
theorem tw_87 : Cond.fieldLink "BitTuner" 68 "BitTuner$Value" "weight" "I" ∈ lw_gd := gd_of (tm_1 (List.mem_of_getElem? (i := 55) rfl)) rfl
set_option maxRecDepth 20000 in
theorem tw_88 : Cond.fieldLink "BitTuner$Program" 50 "BitTuner$Value" "weight" "I" ∈ lw_gd := gd_of (tm_1 (List.mem_of_getElem? (i := 56) rfl)) rfl
set_option maxRecDepth 20000 in
theorem tw_89 : Cond.fieldLink "BitTuner$Widths" 97 "BitTuner$Value" "weight" "I" ∈ lw_gd := gd_of (tm_1 (List.mem_of_getElem? (i := 57) rfl)) rfl
set_option maxRecDepth 20000 in
theorem tw_90 : Cond.fieldLink "BitTuner$Value" 36 "BitTuner$Value" "low" "J" ∈ lw_gd := gd_of (tm_1 (List.mem_of_getElem? (i := 58) rfl)) rfl
set_option maxRecDepth 20000 in
theorem tw_91 : Cond.fieldLink "BitTuner$Runs" 109 "BitTuner$Value" "low" "J" ∈ lw_gd := gd_of (tm_1 (List.mem_of_getElem? (i := 59) rfl)) rfl
set_option maxRecDepth 20000 in
theorem tw_92 : Cond.fieldLink "BitTuner" 87 "BitTuner$Value" "low" "J" ∈ lw_gd := gd_of (tm_1 (List.mem_of_getElem? (i := 60) rfl)) rfl
set_option maxRecDepth 20000 in
theorem tw_93 : Cond.fieldLink "BitTuner$Value" 40 "BitTuner$Value" "high" "J" ∈ lw_gd := gd_of (tm_1 (List.mem_of_getElem? (i := 61) rfl)) rfl
set_option maxRecDepth 20000 in
theorem tw_94 : Cond.fieldLink "BitTuner$Runs" 105 "BitTuner$Value" "high" "J" ∈ lw_gd := gd_of (tm_1 (List.mem_of_getElem? (i := 62) rfl)) rfl
set_option maxRecDepth 20000 in
theorem tw_95 : Cond.fieldLink "BitTuner" 91 "BitTuner$Value" "high" "J" ∈ lw_gd := gd_of (tm_1 (List.mem_of_getElem? (i := 63) rfl)) rfl
set_option maxRecDepth 20000 in
theorem tw_96 : Cond.fieldLink "BitTuner$Value" 53 "BitTuner$Value" "reach" "J" ∈ lw_gd := gd_of (tm_1 (List.mem_of_getElem? (i := 64) rfl)) rfl
set_option maxRecDepth 20000 in
theorem tw_97 : Cond.fieldLink "BitTuner$Widths" 139 "BitTuner$Value" "reach" "J" ∈ lw_gd := gd_of (tm_1 (List.mem_of_getElem? (i := 65) rfl)) rfl
set_option maxRecDepth 20000 in
theorem tw_98 : Cond.fieldLink "BitTuner$Runs" 35 "BitTuner$Value" "units" "I" ∈ lw_gd := gd_of (tm_1 (List.mem_of_getElem? (i := 66) rfl)) rfl
set_option maxRecDepth 20000 in
theorem tw_99 : Cond.fieldLink "BitTuner$Value" 33 "BitTuner$Value" "units" "I" ∈ lw_gd := gd_of (tm_1 (List.mem_of_getElem? (i := 67) rfl)) rfl
set_option maxRecDepth 20000 in
theorem tw_100 : Cond.fieldLink "BitTuner" 107 "BitTuner$Value" "units" "I" ∈ lw_gd := gd_of (tm_1 (List.mem_of_getElem? (i := 68) rfl)) rfl
set_option maxRecDepth 20000 in
theorem tw_124 : Cond.fieldLink "BitTuner$Program" 11 "BitTuner$Program" "values" "[LBitTuner$Value;" ∈ lw_gd := gd_of (tm_1 (List.mem_of_getElem? (i := 92) rfl)) rfl
set_option maxRecDepth 20000 in
theorem tw_125 : Cond.fieldLink "BitTuner$Runs" 29 "BitTuner$Program" "values" "[LBitTuner$Value;" ∈ lw_gd := gd_of (tm_1 (List.mem_of_getElem? (i := 93) rfl)) rfl
set_option maxRecDepth 20000 in
theorem tw_126 : Cond.fieldLink "BitTuner" 56 "BitTuner$Program" "values" "[LBitTuner$Value;" ∈ lw_gd := gd_of (tm_1 (List.mem_of_getElem? (i := 94) rfl)) rfl
set_option maxRecDepth 20000 in
theorem tw_127 : Cond.fieldLink "BitTuner$Widths" 87 "BitTuner$Program" "values" "[LBitTuner$Value;" ∈ lw_gd := gd_of (tm_1 (List.mem_of_getElem? (i := 95) rfl)) rfl
set_option maxRecDepth 20000 in
theorem tw_128 : Cond.fieldLink "BitTuner$Program" 18 "BitTuner$Program" "many" "I" ∈ lw_gd := gd_of (tm_1 (List.mem_of_getElem? (i := 96) rfl)) rfl
set_option maxRecDepth 20000 in
theorem tw_129 : Cond.fieldLink "BitTuner" 49 "BitTuner$Program" "many" "I" ∈ lw_gd := gd_of (tm_1 (List.mem_of_getElem? (i := 97) rfl)) rfl
set_option maxRecDepth 20000 in
theorem tw_130 : Cond.fieldLink "BitTuner$Widths" 43 "BitTuner$Program" "many" "I" ∈ lw_gd := gd_of (tm_1 (List.mem_of_getElem? (i := 98) rfl)) rfl
set_option maxRecDepth 20000 in
theorem tw_131 : Cond.fieldLink "BitTuner$Runs" 100 "BitTuner$Program" "many" "I" ∈ lw_gd := gd_of (tm_1 (List.mem_of_getElem? (i := 99) rfl)) rfl
set_option maxRecDepth 20000 in
theorem tw_137 : Cond.classLink "BitTuner" 16 "BitTuner$Runs" ∈ lw_gd := gd_of (tm_1 (List.mem_of_getElem? (i := 105) rfl)) rfl
set_option maxRecDepth 20000 in
theorem tw_138 : Cond.instantiable "BitTuner$Runs" 5 ∈ lw_gd := gd_of (tm_1 (List.mem_of_getElem? (i := 106) rfl)) rfl
set_option maxRecDepth 20000 in
theorem tw_139 : Cond.methodLink "BitTuner" 18 yX1_init ∈ lw_gd := gd_of (tm_1 (List.mem_of_getElem? (i := 107) rfl)) rfl
set_option maxRecDepth 20000 in
theorem tw_140 : Cond.instanceMethod yX1_init ∈ lw_gd := gd_of (tm_1 (List.mem_of_getElem? (i := 108) rfl)) rfl
set_option maxRecDepth 20000 in
theorem tw_141 : Cond.code yX1_init cX1_init 3 none ∈ lw_gd := gd_of (tm_1 (List.mem_of_getElem? (i := 109) rfl)) rfl
set_option maxRecDepth 20000 in
theorem tw_142 : Cond.methodLink "BitTuner$Runs" 3 objectInit ∈ lw_gd := gd_of (tm_1 (List.mem_of_getElem? (i := 110) rfl)) rfl
set_option maxRecDepth 20000 in
theorem tw_143 : Cond.fieldLink "BitTuner$Runs" 9 "BitTuner$Runs" "program" "LBitTuner$Program;" ∈ lw_gd := gd_of (tm_1 (List.mem_of_getElem? (i := 111) rfl)) rfl
set_option maxRecDepth 20000 in
theorem tw_144 : Cond.fieldLink "BitTuner$Runs" 15 "BitTuner$Runs" "row" "[I" ∈ lw_gd := gd_of (tm_1 (List.mem_of_getElem? (i := 112) rfl)) rfl
set_option maxRecDepth 20000 in
theorem tw_145 : Cond.fieldLink "BitTuner$Runs" 19 "BitTuner$Runs" "exacts" "[J" ∈ lw_gd := gd_of (tm_1 (List.mem_of_getElem? (i := 113) rfl)) rfl
set_option maxRecDepth 20000 in
theorem tw_146 : Cond.fieldLink "BitTuner" 124 "BitTuner$Runs" "exacts" "[J" ∈ lw_gd := gd_of (tm_1 (List.mem_of_getElem? (i := 114) rfl)) rfl
set_option maxRecDepth 20000 in
theorem tw_147 : Cond.fieldLink "BitTuner$Runs" 23 "BitTuner$Runs" "tuneds" "[J" ∈ lw_gd := gd_of (tm_1 (List.mem_of_getElem? (i := 115) rfl)) rfl
set_option maxRecDepth 20000 in
theorem tw_148 : Cond.fieldLink "BitTuner" 128 "BitTuner$Runs" "tuneds" "[J" ∈ lw_gd := gd_of (tm_1 (List.mem_of_getElem? (i := 116) rfl)) rfl
set_option maxRecDepth 20000 in
theorem tw_149 : Cond.fieldLink "BitTuner$Runs" 26 "BitTuner$Runs" "worstRow" "[I" ∈ lw_gd := gd_of (tm_1 (List.mem_of_getElem? (i := 117) rfl)) rfl
set_option maxRecDepth 20000 in
theorem tw_150 : Cond.fieldLink "BitTuner" 150 "BitTuner$Runs" "worstRow" "[I" ∈ lw_gd := gd_of (tm_1 (List.mem_of_getElem? (i := 118) rfl)) rfl
set_option maxRecDepth 20000 in
theorem tw_164 : Cond.classLink "BitTuner" 25 "BitTuner$Widths" ∈ lw_gd := gd_of (tm_1 (List.mem_of_getElem? (i := 132) rfl)) rfl
set_option maxRecDepth 20000 in
theorem tw_165 : Cond.instantiable "BitTuner$Widths" 5 ∈ lw_gd := gd_of (tm_1 (List.mem_of_getElem? (i := 133) rfl)) rfl
set_option maxRecDepth 20000 in
theorem tw_166 : Cond.methodLink "BitTuner" 27 yX3_init ∈ lw_gd := gd_of (tm_1 (List.mem_of_getElem? (i := 134) rfl)) rfl
set_option maxRecDepth 20000 in
theorem tw_167 : Cond.instanceMethod yX3_init ∈ lw_gd := gd_of (tm_1 (List.mem_of_getElem? (i := 135) rfl)) rfl
set_option maxRecDepth 20000 in
theorem tw_168 : Cond.code yX3_init cX3_init 2 none ∈ lw_gd := gd_of (tm_1 (List.mem_of_getElem? (i := 136) rfl)) rfl
set_option maxRecDepth 20000 in
theorem tw_169 : Cond.methodLink "BitTuner$Widths" 3 objectInit ∈ lw_gd := gd_of (tm_1 (List.mem_of_getElem? (i := 137) rfl)) rfl
set_option maxRecDepth 20000 in
theorem tw_170 : Cond.fieldLink "BitTuner$Widths" 9 "BitTuner$Widths" "program" "LBitTuner$Program;" ∈ lw_gd := gd_of (tm_1 (List.mem_of_getElem? (i := 138) rfl)) rfl
set_option maxRecDepth 20000 in
theorem tw_171 : Cond.fieldLink "BitTuner$Widths" 15 "BitTuner$Widths" "trial" "[I" ∈ lw_gd := gd_of (tm_1 (List.mem_of_getElem? (i := 139) rfl)) rfl
set_option maxRecDepth 20000 in
theorem tw_172 : Cond.fieldLink "BitTuner$Widths" 19 "BitTuner$Widths" "bounds" "[J" ∈ lw_gd := gd_of (tm_1 (List.mem_of_getElem? (i := 140) rfl)) rfl
set_option maxRecDepth 20000 in
theorem tw_173 : Cond.fieldLink "BitTuner$Widths" 23 "BitTuner$Widths" "cheapest" "[I" ∈ lw_gd := gd_of (tm_1 (List.mem_of_getElem? (i := 141) rfl)) rfl
set_option maxRecDepth 20000 in
theorem tw_174 : Cond.fieldLink "BitTuner$Widths" 26 "BitTuner$Widths" "cheapestPrice" "I" ∈ lw_gd := gd_of (tm_1 (List.mem_of_getElem? (i := 142) rfl)) rfl
set_option maxRecDepth 20000 in
theorem tw_186 : Cond.fieldLink "BitTuner" 10 "BitTuner" "program" "LBitTuner$Program;" ∈ lw_gd := gd_of (tm_1 (List.mem_of_getElem? (i := 154) rfl)) rfl
set_option maxRecDepth 20000 in
theorem tw_187 : Cond.fieldLink "BitTuner" 21 "BitTuner" "runs" "LBitTuner$Runs;" ∈ lw_gd := gd_of (tm_1 (List.mem_of_getElem? (i := 155) rfl)) rfl
set_option maxRecDepth 20000 in
theorem tw_188 : Cond.fieldLink "BitTuner" 28 "BitTuner" "widths" "LBitTuner$Widths;" ∈ lw_gd := gd_of (tm_1 (List.mem_of_getElem? (i := 156) rfl)) rfl
set_option maxRecDepth 20000 in
theorem tw_196 : Cond.methodLink "BitTunerLaw" 13 yX4_input ∈ lw_gd := gd_of (tm_1 (List.mem_of_getElem? (i := 164) rfl)) rfl
set_option maxRecDepth 20000 in
theorem tw_197 : Cond.instanceMethod yX4_input ∈ lw_gd := gd_of (tm_1 (List.mem_of_getElem? (i := 165) rfl)) rfl
set_option maxRecDepth 20000 in
theorem tw_198 : Cond.selects "BitTuner" yX4_input yX4_input ∈ lw_gd := gd_of (tm_1 (List.mem_of_getElem? (i := 166) rfl)) rfl
set_option maxRecDepth 20000 in
theorem tw_199 : Cond.code yX4_input cX4_input 3 (some .int) ∈ lw_gd := gd_of (tm_1 (List.mem_of_getElem? (i := 167) rfl)) rfl
set_option maxRecDepth 20000 in
theorem tw_200 : Cond.methodLink "BitTuner" 32 yX4_isGivable ∈ lw_gd := gd_of (tm_1 (List.mem_of_getElem? (i := 168) rfl)) rfl
set_option maxRecDepth 20000 in
theorem tw_201 : Cond.static yX4_isGivable ∈ lw_gd := gd_of (tm_1 (List.mem_of_getElem? (i := 169) rfl)) rfl
set_option maxRecDepth 20000 in
theorem tw_202 : Cond.code yX4_isGivable cX4_isGivable 1 (some .boolean) ∈ lw_gd := gd_of (tm_1 (List.mem_of_getElem? (i := 170) rfl)) rfl
set_option maxRecDepth 20000 in
theorem tw_203 : Cond.methodLink "BitTuner" 104 yX4_isStep ∈ lw_gd := gd_of (tm_1 (List.mem_of_getElem? (i := 171) rfl)) rfl
set_option maxRecDepth 20000 in
theorem tw_204 : Cond.static yX4_isStep ∈ lw_gd := gd_of (tm_1 (List.mem_of_getElem? (i := 172) rfl)) rfl
set_option maxRecDepth 20000 in
theorem tw_205 : Cond.code yX4_isStep cX4_isStep 1 (some .boolean) ∈ lw_gd := gd_of (tm_1 (List.mem_of_getElem? (i := 173) rfl)) rfl
set_option maxRecDepth 20000 in
theorem tw_206 : Cond.constant "BitTuner" 201 (-4194304) ∈ lw_gd := gd_of (tm_1 (List.mem_of_getElem? (i := 174) rfl)) rfl
set_option maxRecDepth 20000 in
theorem tw_207 : Cond.constant "BitTuner" 202 (4194304) ∈ lw_gd := gd_of (tm_1 (List.mem_of_getElem? (i := 175) rfl)) rfl
set_option maxRecDepth 20000 in
theorem tw_208 : Cond.methodLink "BitTuner" 36 yX0_addGiven ∈ lw_gd := gd_of (tm_1 (List.mem_of_getElem? (i := 176) rfl)) rfl
set_option maxRecDepth 20000 in
theorem tw_209 : Cond.instanceMethod yX0_addGiven ∈ lw_gd := gd_of (tm_1 (List.mem_of_getElem? (i := 177) rfl)) rfl
set_option maxRecDepth 20000 in
theorem tw_210 : Cond.selects "BitTuner$Program" yX0_addGiven yX0_addGiven ∈ lw_gd := gd_of (tm_1 (List.mem_of_getElem? (i := 178) rfl)) rfl
set_option maxRecDepth 20000 in
theorem tw_211 : Cond.code yX0_addGiven cX0_addGiven 5 (some .int) ∈ lw_gd := gd_of (tm_1 (List.mem_of_getElem? (i := 179) rfl)) rfl
set_option maxRecDepth 20000 in
theorem tw_212 : Cond.methodLink "BitTuner$Program" 33 yX2_begin ∈ lw_gd := gd_of (tm_1 (List.mem_of_getElem? (i := 180) rfl)) rfl
set_option maxRecDepth 20000 in
theorem tw_213 : Cond.instanceMethod yX2_begin ∈ lw_gd := gd_of (tm_1 (List.mem_of_getElem? (i := 181) rfl)) rfl
set_option maxRecDepth 20000 in
theorem tw_214 : Cond.selects "BitTuner$Value" yX2_begin yX2_begin ∈ lw_gd := gd_of (tm_1 (List.mem_of_getElem? (i := 182) rfl)) rfl
set_option maxRecDepth 20000 in
theorem tw_215 : Cond.code yX2_begin cX2_begin 4 none ∈ lw_gd := gd_of (tm_1 (List.mem_of_getElem? (i := 183) rfl)) rfl
set_option maxRecDepth 20000 in
theorem tw_216 : Cond.methodLink "BitTuner$Program" 37 yX2_spanGiven ∈ lw_gd := gd_of (tm_1 (List.mem_of_getElem? (i := 184) rfl)) rfl
set_option maxRecDepth 20000 in
theorem tw_217 : Cond.instanceMethod yX2_spanGiven ∈ lw_gd := gd_of (tm_1 (List.mem_of_getElem? (i := 185) rfl)) rfl
set_option maxRecDepth 20000 in
theorem tw_218 : Cond.selects "BitTuner$Value" yX2_spanGiven yX2_spanGiven ∈ lw_gd := gd_of (tm_1 (List.mem_of_getElem? (i := 186) rfl)) rfl
set_option maxRecDepth 20000 in
theorem tw_219 : Cond.code yX2_spanGiven cX2_spanGiven 1 none ∈ lw_gd := gd_of (tm_1 (List.mem_of_getElem? (i := 187) rfl)) rfl
set_option maxRecDepth 20000 in
theorem tw_220 : Cond.methodLink "BitTuner$Value" 43 Lib.MathLoose.abs_long.x ∈ lw_gd := gd_of (tm_1 (List.mem_of_getElem? (i := 188) rfl)) rfl
set_option maxRecDepth 20000 in
theorem tw_221 : Cond.static Lib.MathLoose.abs_long.x ∈ lw_gd := gd_of (tm_1 (List.mem_of_getElem? (i := 189) rfl)) rfl
set_option maxRecDepth 20000 in
theorem tw_222 : Cond.code Lib.MathLoose.abs_long.x Lib.MathLoose.abs_long.code 2 (some .long) ∈ lw_gd := gd_of (tm_1 (List.mem_of_getElem? (i := 190) rfl)) rfl
set_option maxRecDepth 20000 in
theorem tw_223 : Cond.methodLink "BitTuner$Value" 49 Lib.MathLoose.max_long.x ∈ lw_gd := gd_of (tm_1 (List.mem_of_getElem? (i := 191) rfl)) rfl
set_option maxRecDepth 20000 in
theorem tw_224 : Cond.static Lib.MathLoose.max_long.x ∈ lw_gd := gd_of (tm_1 (List.mem_of_getElem? (i := 192) rfl)) rfl
set_option maxRecDepth 20000 in
theorem tw_225 : Cond.code Lib.MathLoose.max_long.x Lib.MathLoose.max_long.code 4 (some .long) ∈ lw_gd := gd_of (tm_1 (List.mem_of_getElem? (i := 193) rfl)) rfl
set_option maxRecDepth 20000 in
theorem tw_226 : Cond.methodLink "BitTunerLaw" 18 yX4_fixed ∈ lw_gd := gd_of (tm_1 (List.mem_of_getElem? (i := 194) rfl)) rfl
set_option maxRecDepth 20000 in
theorem tw_227 : Cond.instanceMethod yX4_fixed ∈ lw_gd := gd_of (tm_1 (List.mem_of_getElem? (i := 195) rfl)) rfl
set_option maxRecDepth 20000 in
theorem tw_228 : Cond.selects "BitTuner" yX4_fixed yX4_fixed ∈ lw_gd := gd_of (tm_1 (List.mem_of_getElem? (i := 196) rfl)) rfl
set_option maxRecDepth 20000 in
theorem tw_229 : Cond.code yX4_fixed cX4_fixed 2 (some .int) ∈ lw_gd := gd_of (tm_1 (List.mem_of_getElem? (i := 197) rfl)) rfl
set_option maxRecDepth 20000 in
theorem tw_230 : Cond.methodLink "BitTunerLaw" 23 yX4_work ∈ lw_gd := gd_of (tm_1 (List.mem_of_getElem? (i := 198) rfl)) rfl
set_option maxRecDepth 20000 in
theorem tw_231 : Cond.instanceMethod yX4_work ∈ lw_gd := gd_of (tm_1 (List.mem_of_getElem? (i := 199) rfl)) rfl
set_option maxRecDepth 20000 in
theorem tw_232 : Cond.selects "BitTuner" yX4_work yX4_work ∈ lw_gd := gd_of (tm_1 (List.mem_of_getElem? (i := 200) rfl)) rfl
set_option maxRecDepth 20000 in
theorem tw_233 : Cond.code yX4_work cX4_work 5 (some .int) ∈ lw_gd := gd_of (tm_1 (List.mem_of_getElem? (i := 201) rfl)) rfl
set_option maxRecDepth 20000 in
theorem tw_234 : Cond.methodLink "BitTuner" 40 yX0_has ∈ lw_gd := gd_of (tm_1 (List.mem_of_getElem? (i := 202) rfl)) rfl
set_option maxRecDepth 20000 in
theorem tw_235 : Cond.instanceMethod yX0_has ∈ lw_gd := gd_of (tm_1 (List.mem_of_getElem? (i := 203) rfl)) rfl
set_option maxRecDepth 20000 in
theorem tw_236 : Cond.selects "BitTuner$Program" yX0_has yX0_has ∈ lw_gd := gd_of (tm_1 (List.mem_of_getElem? (i := 204) rfl)) rfl
set_option maxRecDepth 20000 in
theorem tw_237 : Cond.code yX0_has cX0_has 2 (some .boolean) ∈ lw_gd := gd_of (tm_1 (List.mem_of_getElem? (i := 205) rfl)) rfl
set_option maxRecDepth 20000 in
theorem tw_238 : Cond.methodLink "BitTuner" 43 yX4_hasTwoParts ∈ lw_gd := gd_of (tm_1 (List.mem_of_getElem? (i := 206) rfl)) rfl
set_option maxRecDepth 20000 in
theorem tw_239 : Cond.static yX4_hasTwoParts ∈ lw_gd := gd_of (tm_1 (List.mem_of_getElem? (i := 207) rfl)) rfl
set_option maxRecDepth 20000 in
theorem tw_240 : Cond.code yX4_hasTwoParts cX4_hasTwoParts 1 (some .boolean) ∈ lw_gd := gd_of (tm_1 (List.mem_of_getElem? (i := 208) rfl)) rfl
set_option maxRecDepth 20000 in
theorem tw_241 : Cond.methodLink "BitTuner" 46 yX0_addWorked ∈ lw_gd := gd_of (tm_1 (List.mem_of_getElem? (i := 209) rfl)) rfl
set_option maxRecDepth 20000 in
theorem tw_242 : Cond.instanceMethod yX0_addWorked ∈ lw_gd := gd_of (tm_1 (List.mem_of_getElem? (i := 210) rfl)) rfl
set_option maxRecDepth 20000 in
theorem tw_243 : Cond.selects "BitTuner$Program" yX0_addWorked yX0_addWorked ∈ lw_gd := gd_of (tm_1 (List.mem_of_getElem? (i := 211) rfl)) rfl
set_option maxRecDepth 20000 in
theorem tw_244 : Cond.code yX0_addWorked cX0_addWorked 5 (some .int) ∈ lw_gd := gd_of (tm_1 (List.mem_of_getElem? (i := 212) rfl)) rfl
set_option maxRecDepth 20000 in
theorem tw_246 : Cond.methodLink "BitTuner$Program" 43 yX2_spanWorked ∈ lw_gd := gd_of (tm_1 (List.mem_of_getElem? (i := 214) rfl)) rfl
set_option maxRecDepth 20000 in
theorem tw_247 : Cond.instanceMethod yX2_spanWorked ∈ lw_gd := gd_of (tm_1 (List.mem_of_getElem? (i := 215) rfl)) rfl
set_option maxRecDepth 20000 in
theorem tw_248 : Cond.selects "BitTuner$Value" yX2_spanWorked yX2_spanWorked ∈ lw_gd := gd_of (tm_1 (List.mem_of_getElem? (i := 216) rfl)) rfl
set_option maxRecDepth 20000 in
theorem tw_249 : Cond.code yX2_spanWorked cX2_spanWorked 3 none ∈ lw_gd := gd_of (tm_1 (List.mem_of_getElem? (i := 217) rfl)) rfl
set_option maxRecDepth 20000 in
theorem tw_250 : Cond.methodLink "BitTuner$Value" 56 Lib.Math.max.name ∈ lw_gd := gd_of (tm_1 (List.mem_of_getElem? (i := 218) rfl)) rfl
set_option maxRecDepth 20000 in
theorem tw_251 : Cond.static Lib.Math.max.name ∈ lw_gd := gd_of (tm_1 (List.mem_of_getElem? (i := 219) rfl)) rfl
set_option maxRecDepth 20000 in
theorem tw_252 : Cond.code Lib.Math.max.name Lib.Math.max.code 2 (some .int) ∈ lw_gd := gd_of (tm_1 (List.mem_of_getElem? (i := 220) rfl)) rfl
set_option maxRecDepth 20000 in
theorem tw_253 : Cond.methodLink "BitTuner$Value" 59 yX2_spanProduct ∈ lw_gd := gd_of (tm_1 (List.mem_of_getElem? (i := 221) rfl)) rfl
set_option maxRecDepth 20000 in
theorem tw_255 : Cond.instanceMethod yX2_spanProduct ∈ lw_gd := gd_of (tm_1 (List.mem_of_getElem? (i := 223) rfl)) rfl
set_option maxRecDepth 20000 in
theorem tw_256 : Cond.code yX2_spanProduct cX2_spanProduct 11 none ∈ lw_gd := gd_of (tm_1 (List.mem_of_getElem? (i := 224) rfl)) rfl
set_option maxRecDepth 20000 in
theorem tw_257 : Cond.methodLink "BitTuner$Value" 71 Lib.MathLoose.min_long.x ∈ lw_gd := gd_of (tm_1 (List.mem_of_getElem? (i := 225) rfl)) rfl
set_option maxRecDepth 20000 in
theorem tw_258 : Cond.static Lib.MathLoose.min_long.x ∈ lw_gd := gd_of (tm_1 (List.mem_of_getElem? (i := 226) rfl)) rfl
set_option maxRecDepth 20000 in
theorem tw_259 : Cond.code Lib.MathLoose.min_long.x Lib.MathLoose.min_long.code 4 (some .long) ∈ lw_gd := gd_of (tm_1 (List.mem_of_getElem? (i := 227) rfl)) rfl
set_option maxRecDepth 20000 in
theorem tw_260 : Cond.methodLink "BitTuner$Value" 63 yX2_spanAmount ∈ lw_gd := gd_of (tm_1 (List.mem_of_getElem? (i := 228) rfl)) rfl
set_option maxRecDepth 20000 in
theorem tw_262 : Cond.instanceMethod yX2_spanAmount ∈ lw_gd := gd_of (tm_1 (List.mem_of_getElem? (i := 230) rfl)) rfl
set_option maxRecDepth 20000 in
theorem tw_263 : Cond.code yX2_spanAmount cX2_spanAmount 3 none ∈ lw_gd := gd_of (tm_1 (List.mem_of_getElem? (i := 231) rfl)) rfl
set_option maxRecDepth 20000 in
theorem tw_265 : Cond.static yX4_result ∈ lw_gd := gd_of (tm_1 (List.mem_of_getElem? (i := 233) rfl)) rfl
set_option maxRecDepth 20000 in
theorem tw_266 : Cond.code yX4_result cX4_result 5 (some .long) ∈ lw_gd := gd_of (tm_1 (List.mem_of_getElem? (i := 234) rfl)) rfl
set_option maxRecDepth 20000 in
theorem tw_267 : Cond.methodLink "BitTuner" 203 Lib.MathLoose.max_long.x ∈ lw_gd := gd_of (tm_1 (List.mem_of_getElem? (i := 235) rfl)) rfl
set_option maxRecDepth 20000 in
theorem tw_268 : Cond.methodLink "BitTuner" 209 Lib.MathLoose.abs_long.x ∈ lw_gd := gd_of (tm_1 (List.mem_of_getElem? (i := 236) rfl)) rfl
set_option maxRecDepth 20000 in
theorem tw_269 : Cond.methodLink "BitTuner$Program" 47 yX2_isWithinLimits ∈ lw_gd := gd_of (tm_1 (List.mem_of_getElem? (i := 237) rfl)) rfl
set_option maxRecDepth 20000 in
theorem tw_270 : Cond.instanceMethod yX2_isWithinLimits ∈ lw_gd := gd_of (tm_1 (List.mem_of_getElem? (i := 238) rfl)) rfl
set_option maxRecDepth 20000 in
theorem tw_271 : Cond.selects "BitTuner$Value" yX2_isWithinLimits yX2_isWithinLimits ∈ lw_gd := gd_of (tm_1 (List.mem_of_getElem? (i := 239) rfl)) rfl
set_option maxRecDepth 20000 in
theorem tw_272 : Cond.code yX2_isWithinLimits cX2_isWithinLimits 1 (some .boolean) ∈ lw_gd := gd_of (tm_2 (List.mem_of_getElem? (i := 0) rfl)) rfl
set_option maxRecDepth 20000 in
theorem tw_273 : Cond.constantLong "BitTuner$Value" 74 (67108864) ∈ lw_gd := gd_of (tm_2 (List.mem_of_getElem? (i := 1) rfl)) rfl
set_option maxRecDepth 20000 in
theorem tw_274 : Cond.methodLink "BitTunerLaw" 28 yX4_cut ∈ lw_gd := gd_of (tm_2 (List.mem_of_getElem? (i := 2) rfl)) rfl
set_option maxRecDepth 20000 in
theorem tw_275 : Cond.instanceMethod yX4_cut ∈ lw_gd := gd_of (tm_2 (List.mem_of_getElem? (i := 3) rfl)) rfl
set_option maxRecDepth 20000 in
theorem tw_276 : Cond.selects "BitTuner" yX4_cut yX4_cut ∈ lw_gd := gd_of (tm_2 (List.mem_of_getElem? (i := 4) rfl)) rfl
set_option maxRecDepth 20000 in
theorem tw_277 : Cond.code yX4_cut cX4_cut 3 (some .int) ∈ lw_gd := gd_of (tm_2 (List.mem_of_getElem? (i := 5) rfl)) rfl
set_option maxRecDepth 20000 in
theorem tw_278 : Cond.methodLink "BitTunerLaw" 32 yX4_bits ∈ lw_gd := gd_of (tm_2 (List.mem_of_getElem? (i := 6) rfl)) rfl
set_option maxRecDepth 20000 in
theorem tw_279 : Cond.instanceMethod yX4_bits ∈ lw_gd := gd_of (tm_2 (List.mem_of_getElem? (i := 7) rfl)) rfl
set_option maxRecDepth 20000 in
theorem tw_280 : Cond.selects "BitTuner" yX4_bits yX4_bits ∈ lw_gd := gd_of (tm_2 (List.mem_of_getElem? (i := 8) rfl)) rfl
set_option maxRecDepth 20000 in
theorem tw_281 : Cond.code yX4_bits cX4_bits 5 (some .int) ∈ lw_gd := gd_of (tm_2 (List.mem_of_getElem? (i := 9) rfl)) rfl
set_option maxRecDepth 20000 in
theorem tw_282 : Cond.methodLink "BitTuner" 53 yX0_isWorked ∈ lw_gd := gd_of (tm_2 (List.mem_of_getElem? (i := 10) rfl)) rfl
set_option maxRecDepth 20000 in
theorem tw_283 : Cond.instanceMethod yX0_isWorked ∈ lw_gd := gd_of (tm_2 (List.mem_of_getElem? (i := 11) rfl)) rfl
set_option maxRecDepth 20000 in
theorem tw_284 : Cond.selects "BitTuner$Program" yX0_isWorked yX0_isWorked ∈ lw_gd := gd_of (tm_2 (List.mem_of_getElem? (i := 12) rfl)) rfl
set_option maxRecDepth 20000 in
theorem tw_285 : Cond.code yX0_isWorked cX0_isWorked 2 (some .boolean) ∈ lw_gd := gd_of (tm_2 (List.mem_of_getElem? (i := 13) rfl)) rfl
set_option maxRecDepth 20000 in
theorem tw_286 : Cond.methodLink "BitTuner$Program" 22 yX0_has ∈ lw_gd := gd_of (tm_2 (List.mem_of_getElem? (i := 14) rfl)) rfl
set_option maxRecDepth 20000 in
theorem tw_287 : Cond.methodLink "BitTuner$Program" 29 yX2_isGiven ∈ lw_gd := gd_of (tm_2 (List.mem_of_getElem? (i := 15) rfl)) rfl
set_option maxRecDepth 20000 in
theorem tw_288 : Cond.instanceMethod yX2_isGiven ∈ lw_gd := gd_of (tm_2 (List.mem_of_getElem? (i := 16) rfl)) rfl
set_option maxRecDepth 20000 in
theorem tw_289 : Cond.selects "BitTuner$Value" yX2_isGiven yX2_isGiven ∈ lw_gd := gd_of (tm_2 (List.mem_of_getElem? (i := 17) rfl)) rfl
set_option maxRecDepth 20000 in
theorem tw_290 : Cond.code yX2_isGiven cX2_isGiven 1 (some .boolean) ∈ lw_gd := gd_of (tm_2 (List.mem_of_getElem? (i := 18) rfl)) rfl
set_option maxRecDepth 20000 in
theorem tw_291 : Cond.methodLink "BitTunerLaw" 36 yX4_rounding ∈ lw_gd := gd_of (tm_2 (List.mem_of_getElem? (i := 19) rfl)) rfl
set_option maxRecDepth 20000 in
theorem tw_292 : Cond.instanceMethod yX4_rounding ∈ lw_gd := gd_of (tm_2 (List.mem_of_getElem? (i := 20) rfl)) rfl
set_option maxRecDepth 20000 in
theorem tw_293 : Cond.selects "BitTuner" yX4_rounding yX4_rounding ∈ lw_gd := gd_of (tm_2 (List.mem_of_getElem? (i := 21) rfl)) rfl
set_option maxRecDepth 20000 in
theorem tw_294 : Cond.code yX4_rounding cX4_rounding 5 (some .int) ∈ lw_gd := gd_of (tm_2 (List.mem_of_getElem? (i := 22) rfl)) rfl
set_option maxRecDepth 20000 in
theorem tw_295 : Cond.methodLink "BitTunerLaw" 40 yX4_weight ∈ lw_gd := gd_of (tm_2 (List.mem_of_getElem? (i := 23) rfl)) rfl
set_option maxRecDepth 20000 in
theorem tw_296 : Cond.instanceMethod yX4_weight ∈ lw_gd := gd_of (tm_2 (List.mem_of_getElem? (i := 24) rfl)) rfl
set_option maxRecDepth 20000 in
theorem tw_297 : Cond.selects "BitTuner" yX4_weight yX4_weight ∈ lw_gd := gd_of (tm_2 (List.mem_of_getElem? (i := 25) rfl)) rfl
set_option maxRecDepth 20000 in
theorem tw_298 : Cond.code yX4_weight cX4_weight 5 (some .int) ∈ lw_gd := gd_of (tm_2 (List.mem_of_getElem? (i := 26) rfl)) rfl
set_option maxRecDepth 20000 in
theorem tw_299 : Cond.methodLink "BitTunerLaw" 44 yX4_about ∈ lw_gd := gd_of (tm_2 (List.mem_of_getElem? (i := 27) rfl)) rfl
set_option maxRecDepth 20000 in
theorem tw_300 : Cond.instanceMethod yX4_about ∈ lw_gd := gd_of (tm_2 (List.mem_of_getElem? (i := 28) rfl)) rfl
set_option maxRecDepth 20000 in
theorem tw_301 : Cond.selects "BitTuner" yX4_about yX4_about ∈ lw_gd := gd_of (tm_2 (List.mem_of_getElem? (i := 29) rfl)) rfl
set_option maxRecDepth 20000 in
theorem tw_302 : Cond.code yX4_about cX4_about 4 (some .long) ∈ lw_gd := gd_of (tm_2 (List.mem_of_getElem? (i := 30) rfl)) rfl
set_option maxRecDepth 20000 in
theorem tw_303 : Cond.methodLink "BitTuner" 71 yX4_refusal ∈ lw_gd := gd_of (tm_2 (List.mem_of_getElem? (i := 31) rfl)) rfl
set_option maxRecDepth 20000 in
theorem tw_304 : Cond.static yX4_refusal ∈ lw_gd := gd_of (tm_2 (List.mem_of_getElem? (i := 32) rfl)) rfl
set_option maxRecDepth 20000 in
theorem tw_305 : Cond.code yX4_refusal cX4_refusal 1 (some .long) ∈ lw_gd := gd_of (tm_2 (List.mem_of_getElem? (i := 33) rfl)) rfl
set_option maxRecDepth 20000 in
theorem tw_306 : Cond.constantLong "BitTuner" 199 (-9223372036854775808) ∈ lw_gd := gd_of (tm_2 (List.mem_of_getElem? (i := 34) rfl)) rfl
set_option maxRecDepth 20000 in
theorem tw_307 : Cond.methodLink "BitTuner" 94 yX3_boundAsTold ∈ lw_gd := gd_of (tm_2 (List.mem_of_getElem? (i := 35) rfl)) rfl
set_option maxRecDepth 20000 in
theorem tw_308 : Cond.instanceMethod yX3_boundAsTold ∈ lw_gd := gd_of (tm_2 (List.mem_of_getElem? (i := 36) rfl)) rfl
set_option maxRecDepth 20000 in
theorem tw_309 : Cond.selects "BitTuner$Widths" yX3_boundAsTold yX3_boundAsTold ∈ lw_gd := gd_of (tm_2 (List.mem_of_getElem? (i := 37) rfl)) rfl
set_option maxRecDepth 20000 in
theorem tw_310 : Cond.code yX3_boundAsTold cX3_boundAsTold 2 (some .long) ∈ lw_gd := gd_of (tm_2 (List.mem_of_getElem? (i := 38) rfl)) rfl
set_option maxRecDepth 20000 in
theorem tw_311 : Cond.methodLink "BitTuner$Widths" 30 yX3_tryAsTold ∈ lw_gd := gd_of (tm_2 (List.mem_of_getElem? (i := 39) rfl)) rfl
set_option maxRecDepth 20000 in
theorem tw_313 : Cond.instanceMethod yX3_tryAsTold ∈ lw_gd := gd_of (tm_2 (List.mem_of_getElem? (i := 41) rfl)) rfl
set_option maxRecDepth 20000 in
theorem tw_314 : Cond.code yX3_tryAsTold cX3_tryAsTold 2 none ∈ lw_gd := gd_of (tm_2 (List.mem_of_getElem? (i := 42) rfl)) rfl
set_option maxRecDepth 20000 in
theorem tw_315 : Cond.methodLink "BitTuner$Widths" 33 yX3_boundTried ∈ lw_gd := gd_of (tm_2 (List.mem_of_getElem? (i := 43) rfl)) rfl
set_option maxRecDepth 20000 in
theorem tw_317 : Cond.instanceMethod yX3_boundTried ∈ lw_gd := gd_of (tm_2 (List.mem_of_getElem? (i := 45) rfl)) rfl
set_option maxRecDepth 20000 in
theorem tw_318 : Cond.code yX3_boundTried cX3_boundTried 3 (some .long) ∈ lw_gd := gd_of (tm_2 (List.mem_of_getElem? (i := 46) rfl)) rfl
set_option maxRecDepth 20000 in
theorem tw_319 : Cond.methodLink "BitTuner$Widths" 100 yX3_boundFromParts ∈ lw_gd := gd_of (tm_2 (List.mem_of_getElem? (i := 47) rfl)) rfl
set_option maxRecDepth 20000 in
theorem tw_321 : Cond.instanceMethod yX3_boundFromParts ∈ lw_gd := gd_of (tm_2 (List.mem_of_getElem? (i := 49) rfl)) rfl
set_option maxRecDepth 20000 in
theorem tw_322 : Cond.code yX3_boundFromParts cX3_boundFromParts 9 (some .long) ∈ lw_gd := gd_of (tm_2 (List.mem_of_getElem? (i := 50) rfl)) rfl
set_option maxRecDepth 20000 in
theorem tw_323 : Cond.methodLink "BitTuner$Widths" 91 yX2_isGiven ∈ lw_gd := gd_of (tm_2 (List.mem_of_getElem? (i := 51) rfl)) rfl
set_option maxRecDepth 20000 in
theorem tw_325 : Cond.methodLink "BitTuner$Widths" 118 yX3_boundOfProduct ∈ lw_gd := gd_of (tm_2 (List.mem_of_getElem? (i := 53) rfl)) rfl
set_option maxRecDepth 20000 in
theorem tw_327 : Cond.instanceMethod yX3_boundOfProduct ∈ lw_gd := gd_of (tm_2 (List.mem_of_getElem? (i := 55) rfl)) rfl
set_option maxRecDepth 20000 in
theorem tw_328 : Cond.code yX3_boundOfProduct cX3_boundOfProduct 12 (some .long) ∈ lw_gd := gd_of (tm_2 (List.mem_of_getElem? (i := 56) rfl)) rfl
set_option maxRecDepth 20000 in
theorem tw_329 : Cond.constantLong "BitTuner$Widths" 128 (1073741824) ∈ lw_gd := gd_of (tm_2 (List.mem_of_getElem? (i := 57) rfl)) rfl
set_option maxRecDepth 20000 in
theorem tw_330 : Cond.constantLong "BitTuner$Widths" 143 (65535) ∈ lw_gd := gd_of (tm_2 (List.mem_of_getElem? (i := 58) rfl)) rfl
set_option maxRecDepth 20000 in
theorem tw_331 : Cond.methodLink "BitTuner$Widths" 122 Lib.MathLoose.max_long.x ∈ lw_gd := gd_of (tm_2 (List.mem_of_getElem? (i := 59) rfl)) rfl
set_option maxRecDepth 20000 in
theorem tw_332 : Cond.methodLink "BitTuner$Widths" 133 yX3_roundingMiss ∈ lw_gd := gd_of (tm_2 (List.mem_of_getElem? (i := 60) rfl)) rfl
set_option maxRecDepth 20000 in
theorem tw_333 : Cond.static yX3_roundingMiss ∈ lw_gd := gd_of (tm_2 (List.mem_of_getElem? (i := 61) rfl)) rfl
set_option maxRecDepth 20000 in
theorem tw_334 : Cond.code yX3_roundingMiss cX3_roundingMiss 4 (some .long) ∈ lw_gd := gd_of (tm_2 (List.mem_of_getElem? (i := 62) rfl)) rfl
set_option maxRecDepth 20000 in
theorem tw_335 : Cond.constantLong "BitTuner$Widths" 145 (65536) ∈ lw_gd := gd_of (tm_2 (List.mem_of_getElem? (i := 63) rfl)) rfl
set_option maxRecDepth 20000 in
theorem tw_336 : Cond.constantLong "BitTuner$Widths" 147 (2) ∈ lw_gd := gd_of (tm_2 (List.mem_of_getElem? (i := 64) rfl)) rfl
set_option maxRecDepth 20000 in
theorem tw_337 : Cond.methodLink "BitTuner$Widths" 136 Lib.MathLoose.min_long.x ∈ lw_gd := gd_of (tm_2 (List.mem_of_getElem? (i := 65) rfl)) rfl
set_option maxRecDepth 20000 in
theorem tw_338 : Cond.methodLink "BitTunerLaw" 49 yX4_price ∈ lw_gd := gd_of (tm_2 (List.mem_of_getElem? (i := 66) rfl)) rfl
set_option maxRecDepth 20000 in
theorem tw_339 : Cond.instanceMethod yX4_price ∈ lw_gd := gd_of (tm_2 (List.mem_of_getElem? (i := 67) rfl)) rfl
set_option maxRecDepth 20000 in
theorem tw_340 : Cond.selects "BitTuner" yX4_price yX4_price ∈ lw_gd := gd_of (tm_2 (List.mem_of_getElem? (i := 68) rfl)) rfl
set_option maxRecDepth 20000 in
theorem tw_341 : Cond.code yX4_price cX4_price 1 (some .int) ∈ lw_gd := gd_of (tm_2 (List.mem_of_getElem? (i := 69) rfl)) rfl
set_option maxRecDepth 20000 in
theorem tw_342 : Cond.methodLink "BitTuner" 97 yX0_priceInAll ∈ lw_gd := gd_of (tm_2 (List.mem_of_getElem? (i := 70) rfl)) rfl
set_option maxRecDepth 20000 in
theorem tw_343 : Cond.instanceMethod yX0_priceInAll ∈ lw_gd := gd_of (tm_2 (List.mem_of_getElem? (i := 71) rfl)) rfl
set_option maxRecDepth 20000 in
theorem tw_344 : Cond.selects "BitTuner$Program" yX0_priceInAll yX0_priceInAll ∈ lw_gd := gd_of (tm_2 (List.mem_of_getElem? (i := 72) rfl)) rfl
set_option maxRecDepth 20000 in
theorem tw_345 : Cond.code yX0_priceInAll cX0_priceInAll 3 (some .int) ∈ lw_gd := gd_of (tm_2 (List.mem_of_getElem? (i := 73) rfl)) rfl
set_option maxRecDepth 20000 in
theorem tw_346 : Cond.methodLink "BitTunerLaw" 54 yX4_set ∈ lw_gd := gd_of (tm_2 (List.mem_of_getElem? (i := 74) rfl)) rfl
set_option maxRecDepth 20000 in
theorem tw_347 : Cond.instanceMethod yX4_set ∈ lw_gd := gd_of (tm_2 (List.mem_of_getElem? (i := 75) rfl)) rfl
set_option maxRecDepth 20000 in
theorem tw_348 : Cond.selects "BitTuner" yX4_set yX4_set ∈ lw_gd := gd_of (tm_2 (List.mem_of_getElem? (i := 76) rfl)) rfl
set_option maxRecDepth 20000 in
theorem tw_349 : Cond.code yX4_set cX4_set 4 (some .int) ∈ lw_gd := gd_of (tm_2 (List.mem_of_getElem? (i := 77) rfl)) rfl
set_option maxRecDepth 20000 in
theorem tw_350 : Cond.methodLink "BitTuner" 101 yX0_isInput ∈ lw_gd := gd_of (tm_2 (List.mem_of_getElem? (i := 78) rfl)) rfl
set_option maxRecDepth 20000 in
theorem tw_351 : Cond.instanceMethod yX0_isInput ∈ lw_gd := gd_of (tm_2 (List.mem_of_getElem? (i := 79) rfl)) rfl
set_option maxRecDepth 20000 in
theorem tw_352 : Cond.selects "BitTuner$Program" yX0_isInput yX0_isInput ∈ lw_gd := gd_of (tm_2 (List.mem_of_getElem? (i := 80) rfl)) rfl
set_option maxRecDepth 20000 in
theorem tw_353 : Cond.code yX0_isInput cX0_isInput 2 (some .boolean) ∈ lw_gd := gd_of (tm_2 (List.mem_of_getElem? (i := 81) rfl)) rfl
set_option maxRecDepth 20000 in
theorem tw_354 : Cond.methodLink "BitTunerLaw" 60 yX4_enter ∈ lw_gd := gd_of (tm_2 (List.mem_of_getElem? (i := 82) rfl)) rfl
set_option maxRecDepth 20000 in
theorem tw_355 : Cond.instanceMethod yX4_enter ∈ lw_gd := gd_of (tm_2 (List.mem_of_getElem? (i := 83) rfl)) rfl
set_option maxRecDepth 20000 in
theorem tw_356 : Cond.selects "BitTuner" yX4_enter yX4_enter ∈ lw_gd := gd_of (tm_2 (List.mem_of_getElem? (i := 84) rfl)) rfl
set_option maxRecDepth 20000 in
theorem tw_357 : Cond.code yX4_enter cX4_enter 7 (some .int) ∈ lw_gd := gd_of (tm_2 (List.mem_of_getElem? (i := 85) rfl)) rfl
set_option maxRecDepth 20000 in
theorem tw_358 : Cond.constantDouble "BitTuner" 110 (13857576053419016192) ∈ lw_gd := gd_of (tm_2 (List.mem_of_getElem? (i := 86) rfl)) rfl
set_option maxRecDepth 20000 in
theorem tw_359 : Cond.constantDouble "BitTuner" 112 (4634204016564240384) ∈ lw_gd := gd_of (tm_2 (List.mem_of_getElem? (i := 87) rfl)) rfl
set_option maxRecDepth 20000 in
theorem tw_360 : Cond.constantDouble "BitTuner" 114 (4625196817309499392) ∈ lw_gd := gd_of (tm_2 (List.mem_of_getElem? (i := 88) rfl)) rfl
set_option maxRecDepth 20000 in
theorem tw_361 : Cond.methodLink "BitTuner" 116 yX4_set ∈ lw_gd := gd_of (tm_2 (List.mem_of_getElem? (i := 89) rfl)) rfl
set_option maxRecDepth 20000 in
theorem tw_362 : Cond.methodLink "BitTunerLaw" 65 yX4_exact ∈ lw_gd := gd_of (tm_2 (List.mem_of_getElem? (i := 90) rfl)) rfl
set_option maxRecDepth 20000 in
theorem tw_363 : Cond.instanceMethod yX4_exact ∈ lw_gd := gd_of (tm_2 (List.mem_of_getElem? (i := 91) rfl)) rfl
set_option maxRecDepth 20000 in
theorem tw_364 : Cond.selects "BitTuner" yX4_exact yX4_exact ∈ lw_gd := gd_of (tm_2 (List.mem_of_getElem? (i := 92) rfl)) rfl
set_option maxRecDepth 20000 in
theorem tw_365 : Cond.code yX4_exact cX4_exact 2 (some .long) ∈ lw_gd := gd_of (tm_2 (List.mem_of_getElem? (i := 93) rfl)) rfl
set_option maxRecDepth 20000 in
theorem tw_366 : Cond.methodLink "BitTuner" 120 yX1_workOutAsSet ∈ lw_gd := gd_of (tm_2 (List.mem_of_getElem? (i := 94) rfl)) rfl
set_option maxRecDepth 20000 in
theorem tw_367 : Cond.instanceMethod yX1_workOutAsSet ∈ lw_gd := gd_of (tm_2 (List.mem_of_getElem? (i := 95) rfl)) rfl
set_option maxRecDepth 20000 in
theorem tw_368 : Cond.selects "BitTuner$Runs" yX1_workOutAsSet yX1_workOutAsSet ∈ lw_gd := gd_of (tm_2 (List.mem_of_getElem? (i := 96) rfl)) rfl
set_option maxRecDepth 20000 in
theorem tw_369 : Cond.code yX1_workOutAsSet cX1_workOutAsSet 3 none ∈ lw_gd := gd_of (tm_2 (List.mem_of_getElem? (i := 97) rfl)) rfl
set_option maxRecDepth 20000 in
theorem tw_370 : Cond.methodLink "BitTuner$Runs" 41 yX1_workOut ∈ lw_gd := gd_of (tm_2 (List.mem_of_getElem? (i := 98) rfl)) rfl
set_option maxRecDepth 20000 in
theorem tw_372 : Cond.instanceMethod yX1_workOut ∈ lw_gd := gd_of (tm_2 (List.mem_of_getElem? (i := 100) rfl)) rfl
set_option maxRecDepth 20000 in
theorem tw_373 : Cond.code yX1_workOut cX1_workOut 5 none ∈ lw_gd := gd_of (tm_2 (List.mem_of_getElem? (i := 101) rfl)) rfl
set_option maxRecDepth 20000 in
theorem tw_374 : Cond.methodLink "BitTuner$Runs" 51 yX2_isGiven ∈ lw_gd := gd_of (tm_2 (List.mem_of_getElem? (i := 102) rfl)) rfl
set_option maxRecDepth 20000 in
theorem tw_376 : Cond.methodLink "BitTuner$Runs" 68 yX1_exactly ∈ lw_gd := gd_of (tm_2 (List.mem_of_getElem? (i := 104) rfl)) rfl
set_option maxRecDepth 20000 in
theorem tw_377 : Cond.static yX1_exactly ∈ lw_gd := gd_of (tm_2 (List.mem_of_getElem? (i := 105) rfl)) rfl
set_option maxRecDepth 20000 in
theorem tw_378 : Cond.code yX1_exactly cX1_exactly 7 (some .long) ∈ lw_gd := gd_of (tm_2 (List.mem_of_getElem? (i := 106) rfl)) rfl
set_option maxRecDepth 20000 in
theorem tw_380 : Cond.methodLink "BitTuner$Runs" 72 yX1_tunedTo ∈ lw_gd := gd_of (tm_2 (List.mem_of_getElem? (i := 108) rfl)) rfl
set_option maxRecDepth 20000 in
theorem tw_381 : Cond.static yX1_tunedTo ∈ lw_gd := gd_of (tm_2 (List.mem_of_getElem? (i := 109) rfl)) rfl
set_option maxRecDepth 20000 in
theorem tw_382 : Cond.code yX1_tunedTo cX1_tunedTo 9 (some .long) ∈ lw_gd := gd_of (tm_2 (List.mem_of_getElem? (i := 110) rfl)) rfl
set_option maxRecDepth 20000 in
theorem tw_383 : Cond.methodLink "BitTuner$Runs" 85 yX1_rounded ∈ lw_gd := gd_of (tm_2 (List.mem_of_getElem? (i := 111) rfl)) rfl
set_option maxRecDepth 20000 in
theorem tw_384 : Cond.static yX1_rounded ∈ lw_gd := gd_of (tm_2 (List.mem_of_getElem? (i := 112) rfl)) rfl
set_option maxRecDepth 20000 in
theorem tw_385 : Cond.code yX1_rounded cX1_rounded 6 (some .long) ∈ lw_gd := gd_of (tm_2 (List.mem_of_getElem? (i := 113) rfl)) rfl
set_option maxRecDepth 20000 in
theorem tw_386 : Cond.constantLong "BitTuner$Runs" 89 (-2147483648) ∈ lw_gd := gd_of (tm_2 (List.mem_of_getElem? (i := 114) rfl)) rfl
set_option maxRecDepth 20000 in
theorem tw_387 : Cond.constantLong "BitTuner$Runs" 91 (2147483648) ∈ lw_gd := gd_of (tm_2 (List.mem_of_getElem? (i := 115) rfl)) rfl
set_option maxRecDepth 20000 in
theorem tw_388 : Cond.methodLink "BitTuner$Runs" 93 Lib.MathLoose.min_long.x ∈ lw_gd := gd_of (tm_2 (List.mem_of_getElem? (i := 116) rfl)) rfl
set_option maxRecDepth 20000 in
theorem tw_389 : Cond.methodLink "BitTuner$Runs" 97 Lib.MathLoose.max_long.x ∈ lw_gd := gd_of (tm_2 (List.mem_of_getElem? (i := 117) rfl)) rfl
set_option maxRecDepth 20000 in
theorem tw_390 : Cond.methodLink "BitTunerLaw" 70 yX4_tuned ∈ lw_gd := gd_of (tm_2 (List.mem_of_getElem? (i := 118) rfl)) rfl
set_option maxRecDepth 20000 in
theorem tw_391 : Cond.instanceMethod yX4_tuned ∈ lw_gd := gd_of (tm_2 (List.mem_of_getElem? (i := 119) rfl)) rfl
set_option maxRecDepth 20000 in
theorem tw_392 : Cond.selects "BitTuner" yX4_tuned yX4_tuned ∈ lw_gd := gd_of (tm_2 (List.mem_of_getElem? (i := 120) rfl)) rfl
set_option maxRecDepth 20000 in
theorem tw_393 : Cond.code yX4_tuned cX4_tuned 2 (some .long) ∈ lw_gd := gd_of (tm_2 (List.mem_of_getElem? (i := 121) rfl)) rfl
set_option maxRecDepth 20000 in
theorem tw_394 : Cond.methodLink "BitTunerLaw" 74 yX4_miss ∈ lw_gd := gd_of (tm_2 (List.mem_of_getElem? (i := 122) rfl)) rfl
set_option maxRecDepth 20000 in
theorem tw_395 : Cond.instanceMethod yX4_miss ∈ lw_gd := gd_of (tm_2 (List.mem_of_getElem? (i := 123) rfl)) rfl
set_option maxRecDepth 20000 in
theorem tw_396 : Cond.selects "BitTuner" yX4_miss yX4_miss ∈ lw_gd := gd_of (tm_2 (List.mem_of_getElem? (i := 124) rfl)) rfl
set_option maxRecDepth 20000 in
theorem tw_397 : Cond.code yX4_miss cX4_miss 2 (some .long) ∈ lw_gd := gd_of (tm_2 (List.mem_of_getElem? (i := 125) rfl)) rfl
set_option maxRecDepth 20000 in
theorem tw_398 : Cond.methodLink "BitTuner" 131 yX1_missOf ∈ lw_gd := gd_of (tm_2 (List.mem_of_getElem? (i := 126) rfl)) rfl
set_option maxRecDepth 20000 in
theorem tw_399 : Cond.instanceMethod yX1_missOf ∈ lw_gd := gd_of (tm_2 (List.mem_of_getElem? (i := 127) rfl)) rfl
set_option maxRecDepth 20000 in
theorem tw_400 : Cond.selects "BitTuner$Runs" yX1_missOf yX1_missOf ∈ lw_gd := gd_of (tm_2 (List.mem_of_getElem? (i := 128) rfl)) rfl
set_option maxRecDepth 20000 in
theorem tw_401 : Cond.code yX1_missOf cX1_missOf 2 (some .long) ∈ lw_gd := gd_of (tm_2 (List.mem_of_getElem? (i := 129) rfl)) rfl
set_option maxRecDepth 20000 in
theorem tw_402 : Cond.methodLink "BitTuner$Runs" 45 Lib.MathLoose.abs_long.x ∈ lw_gd := gd_of (tm_2 (List.mem_of_getElem? (i := 130) rfl)) rfl
set_option maxRecDepth 20000 in
theorem tw_403 : Cond.methodLink "BitTunerLaw" 78 yX4_leave ∈ lw_gd := gd_of (tm_2 (List.mem_of_getElem? (i := 131) rfl)) rfl
set_option maxRecDepth 20000 in
theorem tw_404 : Cond.instanceMethod yX4_leave ∈ lw_gd := gd_of (tm_2 (List.mem_of_getElem? (i := 132) rfl)) rfl
set_option maxRecDepth 20000 in
theorem tw_405 : Cond.selects "BitTuner" yX4_leave yX4_leave ∈ lw_gd := gd_of (tm_2 (List.mem_of_getElem? (i := 133) rfl)) rfl
set_option maxRecDepth 20000 in
theorem tw_406 : Cond.code yX4_leave cX4_leave 2 (some .double) ∈ lw_gd := gd_of (tm_2 (List.mem_of_getElem? (i := 134) rfl)) rfl
set_option maxRecDepth 20000 in
theorem tw_407 : Cond.constantDouble "BitTuner" 134 (4679240012837945344) ∈ lw_gd := gd_of (tm_2 (List.mem_of_getElem? (i := 135) rfl)) rfl
set_option maxRecDepth 20000 in
theorem tw_408 : Cond.methodLink "BitTunerLaw" 83 yX4_narrow ∈ lw_gd := gd_of (tm_2 (List.mem_of_getElem? (i := 136) rfl)) rfl
set_option maxRecDepth 20000 in
theorem tw_409 : Cond.instanceMethod yX4_narrow ∈ lw_gd := gd_of (tm_2 (List.mem_of_getElem? (i := 137) rfl)) rfl
set_option maxRecDepth 20000 in
theorem tw_410 : Cond.selects "BitTuner" yX4_narrow yX4_narrow ∈ lw_gd := gd_of (tm_2 (List.mem_of_getElem? (i := 138) rfl)) rfl
set_option maxRecDepth 20000 in
theorem tw_411 : Cond.code yX4_narrow cX4_narrow 2 (some .float) ∈ lw_gd := gd_of (tm_2 (List.mem_of_getElem? (i := 139) rfl)) rfl
set_option maxRecDepth 20000 in
theorem tw_412 : Cond.methodLink "BitTuner" 136 yX4_leave ∈ lw_gd := gd_of (tm_2 (List.mem_of_getElem? (i := 140) rfl)) rfl
set_option maxRecDepth 20000 in
theorem tw_413 : Cond.methodLink "BitTunerLaw" 88 yX4_rows ∈ lw_gd := gd_of (tm_2 (List.mem_of_getElem? (i := 141) rfl)) rfl
set_option maxRecDepth 20000 in
theorem tw_414 : Cond.instanceMethod yX4_rows ∈ lw_gd := gd_of (tm_2 (List.mem_of_getElem? (i := 142) rfl)) rfl
set_option maxRecDepth 20000 in
theorem tw_415 : Cond.selects "BitTuner" yX4_rows yX4_rows ∈ lw_gd := gd_of (tm_2 (List.mem_of_getElem? (i := 143) rfl)) rfl
set_option maxRecDepth 20000 in
theorem tw_416 : Cond.code yX4_rows cX4_rows 1 (some .int) ∈ lw_gd := gd_of (tm_2 (List.mem_of_getElem? (i := 144) rfl)) rfl
set_option maxRecDepth 20000 in
theorem tw_417 : Cond.methodLink "BitTuner" 140 yX1_rowsInAll ∈ lw_gd := gd_of (tm_2 (List.mem_of_getElem? (i := 145) rfl)) rfl
set_option maxRecDepth 20000 in
theorem tw_418 : Cond.instanceMethod yX1_rowsInAll ∈ lw_gd := gd_of (tm_2 (List.mem_of_getElem? (i := 146) rfl)) rfl
set_option maxRecDepth 20000 in
theorem tw_419 : Cond.selects "BitTuner$Runs" yX1_rowsInAll yX1_rowsInAll ∈ lw_gd := gd_of (tm_2 (List.mem_of_getElem? (i := 147) rfl)) rfl
set_option maxRecDepth 20000 in
theorem tw_420 : Cond.code yX1_rowsInAll cX1_rowsInAll 5 (some .int) ∈ lw_gd := gd_of (tm_2 (List.mem_of_getElem? (i := 148) rfl)) rfl
set_option maxRecDepth 20000 in
theorem tw_421 : Cond.constantLong "BitTuner$Runs" 103 (1000000) ∈ lw_gd := gd_of (tm_2 (List.mem_of_getElem? (i := 149) rfl)) rfl
set_option maxRecDepth 20000 in
theorem tw_422 : Cond.constantLong "BitTuner$Runs" 112 (4096) ∈ lw_gd := gd_of (tm_2 (List.mem_of_getElem? (i := 150) rfl)) rfl
set_option maxRecDepth 20000 in
theorem tw_423 : Cond.methodLink "BitTunerLaw" 92 yX4_worst ∈ lw_gd := gd_of (tm_2 (List.mem_of_getElem? (i := 151) rfl)) rfl
set_option maxRecDepth 20000 in
theorem tw_424 : Cond.instanceMethod yX4_worst ∈ lw_gd := gd_of (tm_2 (List.mem_of_getElem? (i := 152) rfl)) rfl
set_option maxRecDepth 20000 in
theorem tw_425 : Cond.selects "BitTuner" yX4_worst yX4_worst ∈ lw_gd := gd_of (tm_2 (List.mem_of_getElem? (i := 153) rfl)) rfl
set_option maxRecDepth 20000 in
theorem tw_426 : Cond.code yX4_worst cX4_worst 2 (some .long) ∈ lw_gd := gd_of (tm_2 (List.mem_of_getElem? (i := 154) rfl)) rfl
set_option maxRecDepth 20000 in
theorem tw_427 : Cond.methodLink "BitTuner" 143 yX1_areFew ∈ lw_gd := gd_of (tm_2 (List.mem_of_getElem? (i := 155) rfl)) rfl
set_option maxRecDepth 20000 in
theorem tw_428 : Cond.instanceMethod yX1_areFew ∈ lw_gd := gd_of (tm_2 (List.mem_of_getElem? (i := 156) rfl)) rfl
set_option maxRecDepth 20000 in
theorem tw_429 : Cond.selects "BitTuner$Runs" yX1_areFew yX1_areFew ∈ lw_gd := gd_of (tm_2 (List.mem_of_getElem? (i := 157) rfl)) rfl
set_option maxRecDepth 20000 in
theorem tw_430 : Cond.code yX1_areFew cX1_areFew 1 (some .boolean) ∈ lw_gd := gd_of (tm_2 (List.mem_of_getElem? (i := 158) rfl)) rfl
set_option maxRecDepth 20000 in
theorem tw_431 : Cond.methodLink "BitTuner$Runs" 114 yX1_rowsInAll ∈ lw_gd := gd_of (tm_2 (List.mem_of_getElem? (i := 159) rfl)) rfl
set_option maxRecDepth 20000 in
theorem tw_432 : Cond.methodLink "BitTuner" 147 yX1_greatestMiss ∈ lw_gd := gd_of (tm_2 (List.mem_of_getElem? (i := 160) rfl)) rfl
set_option maxRecDepth 20000 in
theorem tw_433 : Cond.instanceMethod yX1_greatestMiss ∈ lw_gd := gd_of (tm_2 (List.mem_of_getElem? (i := 161) rfl)) rfl
set_option maxRecDepth 20000 in
theorem tw_434 : Cond.selects "BitTuner$Runs" yX1_greatestMiss yX1_greatestMiss ∈ lw_gd := gd_of (tm_2 (List.mem_of_getElem? (i := 162) rfl)) rfl
set_option maxRecDepth 20000 in
theorem tw_435 : Cond.code yX1_greatestMiss cX1_greatestMiss 7 (some .long) ∈ lw_gd := gd_of (tm_2 (List.mem_of_getElem? (i := 163) rfl)) rfl
set_option maxRecDepth 20000 in
theorem tw_436 : Cond.constantLong "BitTuner$Runs" 118 (-1) ∈ lw_gd := gd_of (tm_2 (List.mem_of_getElem? (i := 164) rfl)) rfl
set_option maxRecDepth 20000 in
theorem tw_437 : Cond.methodLink "BitTuner$Runs" 120 yX1_toFirstRow ∈ lw_gd := gd_of (tm_2 (List.mem_of_getElem? (i := 165) rfl)) rfl
set_option maxRecDepth 20000 in
theorem tw_439 : Cond.instanceMethod yX1_toFirstRow ∈ lw_gd := gd_of (tm_2 (List.mem_of_getElem? (i := 167) rfl)) rfl
set_option maxRecDepth 20000 in
theorem tw_440 : Cond.code yX1_toFirstRow cX1_toFirstRow 2 none ∈ lw_gd := gd_of (tm_2 (List.mem_of_getElem? (i := 168) rfl)) rfl
set_option maxRecDepth 20000 in
theorem tw_441 : Cond.methodLink "BitTuner$Runs" 123 yX1_missOf ∈ lw_gd := gd_of (tm_2 (List.mem_of_getElem? (i := 169) rfl)) rfl
set_option maxRecDepth 20000 in
theorem tw_442 : Cond.methodLink "BitTuner$Runs" 127 yX1_keepRow ∈ lw_gd := gd_of (tm_2 (List.mem_of_getElem? (i := 170) rfl)) rfl
set_option maxRecDepth 20000 in
theorem tw_444 : Cond.instanceMethod yX1_keepRow ∈ lw_gd := gd_of (tm_2 (List.mem_of_getElem? (i := 172) rfl)) rfl
set_option maxRecDepth 20000 in
theorem tw_445 : Cond.code yX1_keepRow cX1_keepRow 2 none ∈ lw_gd := gd_of (tm_2 (List.mem_of_getElem? (i := 173) rfl)) rfl
set_option maxRecDepth 20000 in
theorem tw_446 : Cond.methodLink "BitTuner$Runs" 133 yX0_isInput ∈ lw_gd := gd_of (tm_2 (List.mem_of_getElem? (i := 174) rfl)) rfl
set_option maxRecDepth 20000 in
theorem tw_447 : Cond.methodLink "BitTuner$Runs" 130 yX1_toNextRow ∈ lw_gd := gd_of (tm_2 (List.mem_of_getElem? (i := 175) rfl)) rfl
set_option maxRecDepth 20000 in
theorem tw_449 : Cond.instanceMethod yX1_toNextRow ∈ lw_gd := gd_of (tm_2 (List.mem_of_getElem? (i := 177) rfl)) rfl
set_option maxRecDepth 20000 in
theorem tw_450 : Cond.code yX1_toNextRow cX1_toNextRow 3 none ∈ lw_gd := gd_of (tm_2 (List.mem_of_getElem? (i := 178) rfl)) rfl
set_option maxRecDepth 20000 in
theorem tw_451 : Cond.methodLink "BitTunerLaw" 96 yX4_worstAt ∈ lw_gd := gd_of (tm_2 (List.mem_of_getElem? (i := 179) rfl)) rfl
set_option maxRecDepth 20000 in
theorem tw_452 : Cond.instanceMethod yX4_worstAt ∈ lw_gd := gd_of (tm_2 (List.mem_of_getElem? (i := 180) rfl)) rfl
set_option maxRecDepth 20000 in
theorem tw_453 : Cond.selects "BitTuner" yX4_worstAt yX4_worstAt ∈ lw_gd := gd_of (tm_2 (List.mem_of_getElem? (i := 181) rfl)) rfl
set_option maxRecDepth 20000 in
theorem tw_454 : Cond.code yX4_worstAt cX4_worstAt 2 (some .int) ∈ lw_gd := gd_of (tm_2 (List.mem_of_getElem? (i := 182) rfl)) rfl
set_option maxRecDepth 20000 in
theorem tw_455 : Cond.methodLink "BitTunerLaw" 102 yX4_above ∈ lw_gd := gd_of (tm_2 (List.mem_of_getElem? (i := 183) rfl)) rfl
set_option maxRecDepth 20000 in
theorem tw_456 : Cond.instanceMethod yX4_above ∈ lw_gd := gd_of (tm_2 (List.mem_of_getElem? (i := 184) rfl)) rfl
set_option maxRecDepth 20000 in
theorem tw_457 : Cond.selects "BitTuner" yX4_above yX4_above ∈ lw_gd := gd_of (tm_2 (List.mem_of_getElem? (i := 185) rfl)) rfl
set_option maxRecDepth 20000 in
theorem tw_458 : Cond.code yX4_above cX4_above 4 (some .int) ∈ lw_gd := gd_of (tm_2 (List.mem_of_getElem? (i := 186) rfl)) rfl
set_option maxRecDepth 20000 in
theorem tw_459 : Cond.methodLink "BitTuner" 154 yX1_rowsAbove ∈ lw_gd := gd_of (tm_2 (List.mem_of_getElem? (i := 187) rfl)) rfl
set_option maxRecDepth 20000 in
theorem tw_460 : Cond.instanceMethod yX1_rowsAbove ∈ lw_gd := gd_of (tm_2 (List.mem_of_getElem? (i := 188) rfl)) rfl
set_option maxRecDepth 20000 in
theorem tw_461 : Cond.selects "BitTuner$Runs" yX1_rowsAbove yX1_rowsAbove ∈ lw_gd := gd_of (tm_2 (List.mem_of_getElem? (i := 189) rfl)) rfl
set_option maxRecDepth 20000 in
theorem tw_462 : Cond.code yX1_rowsAbove cX1_rowsAbove 6 (some .int) ∈ lw_gd := gd_of (tm_2 (List.mem_of_getElem? (i := 190) rfl)) rfl
set_option maxRecDepth 20000 in
theorem tw_463 : Cond.methodLink "BitTunerLaw" 107 yX4_least ∈ lw_gd := gd_of (tm_2 (List.mem_of_getElem? (i := 191) rfl)) rfl
set_option maxRecDepth 20000 in
theorem tw_464 : Cond.instanceMethod yX4_least ∈ lw_gd := gd_of (tm_2 (List.mem_of_getElem? (i := 192) rfl)) rfl
set_option maxRecDepth 20000 in
theorem tw_465 : Cond.selects "BitTuner" yX4_least yX4_least ∈ lw_gd := gd_of (tm_2 (List.mem_of_getElem? (i := 193) rfl)) rfl
set_option maxRecDepth 20000 in
theorem tw_466 : Cond.code yX4_least cX4_least 4 (some .int) ∈ lw_gd := gd_of (tm_2 (List.mem_of_getElem? (i := 194) rfl)) rfl
set_option maxRecDepth 20000 in
theorem tw_467 : Cond.methodLink "BitTuner" 158 yX3_chooseCheapest ∈ lw_gd := gd_of (tm_2 (List.mem_of_getElem? (i := 195) rfl)) rfl
set_option maxRecDepth 20000 in
theorem tw_468 : Cond.instanceMethod yX3_chooseCheapest ∈ lw_gd := gd_of (tm_2 (List.mem_of_getElem? (i := 196) rfl)) rfl
set_option maxRecDepth 20000 in
theorem tw_469 : Cond.selects "BitTuner$Widths" yX3_chooseCheapest yX3_chooseCheapest ∈ lw_gd := gd_of (tm_2 (List.mem_of_getElem? (i := 197) rfl)) rfl
set_option maxRecDepth 20000 in
theorem tw_470 : Cond.code yX3_chooseCheapest cX3_chooseCheapest 4 (some .int) ∈ lw_gd := gd_of (tm_2 (List.mem_of_getElem? (i := 198) rfl)) rfl
set_option maxRecDepth 20000 in
theorem tw_471 : Cond.methodLink "BitTuner$Widths" 71 yX0_workedOnes ∈ lw_gd := gd_of (tm_2 (List.mem_of_getElem? (i := 199) rfl)) rfl
set_option maxRecDepth 20000 in
theorem tw_472 : Cond.instanceMethod yX0_workedOnes ∈ lw_gd := gd_of (tm_2 (List.mem_of_getElem? (i := 200) rfl)) rfl
set_option maxRecDepth 20000 in
theorem tw_473 : Cond.selects "BitTuner$Program" yX0_workedOnes yX0_workedOnes ∈ lw_gd := gd_of (tm_2 (List.mem_of_getElem? (i := 201) rfl)) rfl
set_option maxRecDepth 20000 in
theorem tw_474 : Cond.code yX0_workedOnes cX0_workedOnes 3 (some .int) ∈ lw_gd := gd_of (tm_2 (List.mem_of_getElem? (i := 202) rfl)) rfl
set_option maxRecDepth 20000 in
theorem tw_475 : Cond.constant "BitTuner$Widths" 76 (2147483647) ∈ lw_gd := gd_of (tm_2 (List.mem_of_getElem? (i := 203) rfl)) rfl
set_option maxRecDepth 20000 in
theorem tw_476 : Cond.methodLink "BitTuner$Widths" 77 yX3_choose ∈ lw_gd := gd_of (tm_2 (List.mem_of_getElem? (i := 204) rfl)) rfl
set_option maxRecDepth 20000 in
theorem tw_478 : Cond.instanceMethod yX3_choose ∈ lw_gd := gd_of (tm_2 (List.mem_of_getElem? (i := 206) rfl)) rfl
set_option maxRecDepth 20000 in
theorem tw_479 : Cond.code yX3_choose cX3_choose 10 none ∈ lw_gd := gd_of (tm_2 (List.mem_of_getElem? (i := 207) rfl)) rfl
set_option maxRecDepth 20000 in
theorem tw_480 : Cond.methodLink "BitTuner$Widths" 81 arraycopyName ∈ lw_gd := gd_of (tm_2 (List.mem_of_getElem? (i := 208) rfl)) rfl
set_option maxRecDepth 20000 in
theorem tw_481 : Cond.static arraycopyName ∈ lw_gd := gd_of (tm_2 (List.mem_of_getElem? (i := 209) rfl)) rfl
set_option maxRecDepth 20000 in
theorem tw_482 : Cond.native arraycopyName ∈ lw_gd := gd_of (tm_2 (List.mem_of_getElem? (i := 210) rfl)) rfl
set_option maxRecDepth 20000 in
theorem tw_483 : Cond.methodLink "BitTuner$Widths" 63 yX3_take ∈ lw_gd := gd_of (tm_2 (List.mem_of_getElem? (i := 211) rfl)) rfl
set_option maxRecDepth 20000 in
theorem tw_485 : Cond.instanceMethod yX3_take ∈ lw_gd := gd_of (tm_2 (List.mem_of_getElem? (i := 213) rfl)) rfl
set_option maxRecDepth 20000 in
theorem tw_486 : Cond.code yX3_take cX3_take 3 none ∈ lw_gd := gd_of (tm_2 (List.mem_of_getElem? (i := 214) rfl)) rfl
set_option maxRecDepth 20000 in
theorem tw_487 : Cond.methodLink "BitTuner$Widths" 67 yX0_priceInAll ∈ lw_gd := gd_of (tm_2 (List.mem_of_getElem? (i := 215) rfl)) rfl
set_option maxRecDepth 20000 in
theorem tw_488 : Cond.methodLink "BitTunerLaw" 111 yX4_trim ∈ lw_gd := gd_of (tm_2 (List.mem_of_getElem? (i := 216) rfl)) rfl
set_option maxRecDepth 20000 in
theorem tw_489 : Cond.instanceMethod yX4_trim ∈ lw_gd := gd_of (tm_2 (List.mem_of_getElem? (i := 217) rfl)) rfl
set_option maxRecDepth 20000 in
theorem tw_490 : Cond.selects "BitTuner" yX4_trim yX4_trim ∈ lw_gd := gd_of (tm_2 (List.mem_of_getElem? (i := 218) rfl)) rfl
set_option maxRecDepth 20000 in
theorem tw_491 : Cond.code yX4_trim cX4_trim 4 (some .int) ∈ lw_gd := gd_of (tm_2 (List.mem_of_getElem? (i := 219) rfl)) rfl
set_option maxRecDepth 20000 in
theorem tw_492 : Cond.methodLink "BitTuner" 161 yX3_lessenInTurn ∈ lw_gd := gd_of (tm_2 (List.mem_of_getElem? (i := 220) rfl)) rfl
set_option maxRecDepth 20000 in
theorem tw_493 : Cond.instanceMethod yX3_lessenInTurn ∈ lw_gd := gd_of (tm_2 (List.mem_of_getElem? (i := 221) rfl)) rfl
set_option maxRecDepth 20000 in
theorem tw_494 : Cond.selects "BitTuner$Widths" yX3_lessenInTurn yX3_lessenInTurn ∈ lw_gd := gd_of (tm_2 (List.mem_of_getElem? (i := 222) rfl)) rfl
set_option maxRecDepth 20000 in
theorem tw_495 : Cond.code yX3_lessenInTurn cX3_lessenInTurn 5 (some .int) ∈ lw_gd := gd_of (tm_2 (List.mem_of_getElem? (i := 223) rfl)) rfl
set_option maxRecDepth 20000 in
theorem tw_496 : Cond.methodLink "BitTuner$Widths" 56 yX3_boundAtWidest ∈ lw_gd := gd_of (tm_2 (List.mem_of_getElem? (i := 224) rfl)) rfl
set_option maxRecDepth 20000 in
theorem tw_497 : Cond.instanceMethod yX3_boundAtWidest ∈ lw_gd := gd_of (tm_2 (List.mem_of_getElem? (i := 225) rfl)) rfl
set_option maxRecDepth 20000 in
theorem tw_498 : Cond.selects "BitTuner$Widths" yX3_boundAtWidest yX3_boundAtWidest ∈ lw_gd := gd_of (tm_2 (List.mem_of_getElem? (i := 226) rfl)) rfl
set_option maxRecDepth 20000 in
theorem tw_499 : Cond.code yX3_boundAtWidest cX3_boundAtWidest 2 (some .long) ∈ lw_gd := gd_of (tm_2 (List.mem_of_getElem? (i := 227) rfl)) rfl
set_option maxRecDepth 20000 in
theorem tw_500 : Cond.methodLink "BitTuner$Widths" 37 yX3_tryWidest ∈ lw_gd := gd_of (tm_2 (List.mem_of_getElem? (i := 228) rfl)) rfl
set_option maxRecDepth 20000 in
theorem tw_502 : Cond.instanceMethod yX3_tryWidest ∈ lw_gd := gd_of (tm_2 (List.mem_of_getElem? (i := 230) rfl)) rfl
set_option maxRecDepth 20000 in
theorem tw_503 : Cond.code yX3_tryWidest cX3_tryWidest 2 none ∈ lw_gd := gd_of (tm_2 (List.mem_of_getElem? (i := 231) rfl)) rfl
set_option maxRecDepth 20000 in
theorem tw_504 : Cond.methodLink "BitTuner$Widths" 48 yX0_isWorked ∈ lw_gd := gd_of (tm_2 (List.mem_of_getElem? (i := 232) rfl)) rfl
set_option maxRecDepth 20000 in
theorem tw_505 : Cond.methodLink "BitTuner$Widths" 59 yX3_lessen ∈ lw_gd := gd_of (tm_2 (List.mem_of_getElem? (i := 233) rfl)) rfl
set_option maxRecDepth 20000 in
theorem tw_507 : Cond.instanceMethod yX3_lessen ∈ lw_gd := gd_of (tm_2 (List.mem_of_getElem? (i := 235) rfl)) rfl
set_option maxRecDepth 20000 in
theorem tw_508 : Cond.code yX3_lessen cX3_lessen 6 none ∈ lw_gd := gd_of (tm_2 (List.mem_of_getElem? (i := 236) rfl)) rfl
set_option maxRecDepth 20000 in
theorem tw_509 : Cond.methodLink "BitTunerLaw" 115 yX4_floor ∈ lw_gd := gd_of (tm_2 (List.mem_of_getElem? (i := 237) rfl)) rfl
set_option maxRecDepth 20000 in
theorem tw_510 : Cond.instanceMethod yX4_floor ∈ lw_gd := gd_of (tm_2 (List.mem_of_getElem? (i := 238) rfl)) rfl
set_option maxRecDepth 20000 in
theorem tw_511 : Cond.selects "BitTuner" yX4_floor yX4_floor ∈ lw_gd := gd_of (tm_2 (List.mem_of_getElem? (i := 239) rfl)) rfl
set_option maxRecDepth 20000 in
theorem tw_512 : Cond.code yX4_floor cX4_floor 2 (some .long) ∈ lw_gd := gd_of (tm_3 (List.mem_of_getElem? (i := 0) rfl)) rfl
set_option maxRecDepth 20000 in
theorem tw_513 : Cond.methodLink "BitTuner" 164 yX3_boundAtWidest ∈ lw_gd := gd_of (tm_3 (List.mem_of_getElem? (i := 1) rfl)) rfl
set_option maxRecDepth 20000 in
theorem tw_514 : Cond.methodLink "BitTunerLaw" 119 yX4_gain ∈ lw_gd := gd_of (tm_3 (List.mem_of_getElem? (i := 2) rfl)) rfl
set_option maxRecDepth 20000 in
theorem tw_515 : Cond.instanceMethod yX4_gain ∈ lw_gd := gd_of (tm_3 (List.mem_of_getElem? (i := 3) rfl)) rfl
set_option maxRecDepth 20000 in
theorem tw_516 : Cond.selects "BitTuner" yX4_gain yX4_gain ∈ lw_gd := gd_of (tm_3 (List.mem_of_getElem? (i := 4) rfl)) rfl
set_option maxRecDepth 20000 in
theorem tw_517 : Cond.code yX4_gain cX4_gain 3 (some .long) ∈ lw_gd := gd_of (tm_3 (List.mem_of_getElem? (i := 5) rfl)) rfl
set_option maxRecDepth 20000 in
theorem tw_518 : Cond.methodLink "BitTuner" 167 yX3_gainOf ∈ lw_gd := gd_of (tm_3 (List.mem_of_getElem? (i := 6) rfl)) rfl
set_option maxRecDepth 20000 in
theorem tw_519 : Cond.instanceMethod yX3_gainOf ∈ lw_gd := gd_of (tm_3 (List.mem_of_getElem? (i := 7) rfl)) rfl
set_option maxRecDepth 20000 in
theorem tw_520 : Cond.selects "BitTuner$Widths" yX3_gainOf yX3_gainOf ∈ lw_gd := gd_of (tm_3 (List.mem_of_getElem? (i := 8) rfl)) rfl
set_option maxRecDepth 20000 in
theorem tw_521 : Cond.code yX3_gainOf cX3_gainOf 5 (some .long) ∈ lw_gd := gd_of (tm_3 (List.mem_of_getElem? (i := 9) rfl)) rfl
set_option maxRecDepth 20000 in
theorem tw_522 : Cond.methodLink "BitTuner$Widths" 40 yX3_boundAsTold ∈ lw_gd := gd_of (tm_3 (List.mem_of_getElem? (i := 10) rfl)) rfl
set_option maxRecDepth 20000 in
theorem tw_523 : Cond.methodLink "BitTunerLaw" 123 yX4_blame ∈ lw_gd := gd_of (tm_3 (List.mem_of_getElem? (i := 11) rfl)) rfl
set_option maxRecDepth 20000 in
theorem tw_524 : Cond.instanceMethod yX4_blame ∈ lw_gd := gd_of (tm_3 (List.mem_of_getElem? (i := 12) rfl)) rfl
set_option maxRecDepth 20000 in
theorem tw_525 : Cond.selects "BitTuner" yX4_blame yX4_blame ∈ lw_gd := gd_of (tm_3 (List.mem_of_getElem? (i := 13) rfl)) rfl
set_option maxRecDepth 20000 in
theorem tw_526 : Cond.code yX4_blame cX4_blame 2 (some .int) ∈ lw_gd := gd_of (tm_3 (List.mem_of_getElem? (i := 14) rfl)) rfl
set_option maxRecDepth 20000 in
theorem tw_527 : Cond.methodLink "BitTuner" 171 yX3_mostToBlame ∈ lw_gd := gd_of (tm_3 (List.mem_of_getElem? (i := 15) rfl)) rfl
set_option maxRecDepth 20000 in
theorem tw_528 : Cond.instanceMethod yX3_mostToBlame ∈ lw_gd := gd_of (tm_3 (List.mem_of_getElem? (i := 16) rfl)) rfl
set_option maxRecDepth 20000 in
theorem tw_529 : Cond.selects "BitTuner$Widths" yX3_mostToBlame yX3_mostToBlame ∈ lw_gd := gd_of (tm_3 (List.mem_of_getElem? (i := 17) rfl)) rfl
set_option maxRecDepth 20000 in
theorem tw_530 : Cond.code yX3_mostToBlame cX3_mostToBlame 8 (some .int) ∈ lw_gd := gd_of (tm_3 (List.mem_of_getElem? (i := 18) rfl)) rfl
set_option maxRecDepth 20000 in
theorem tw_531 : Cond.methodLink "BitTuner$Widths" 52 yX3_gainOf ∈ lw_gd := gd_of (tm_3 (List.mem_of_getElem? (i := 19) rfl)) rfl
set_option maxRecDepth 20000 in
theorem tw_532 : Cond.methodLink "BitTunerLaw" 127 yX4_count ∈ lw_gd := gd_of (tm_3 (List.mem_of_getElem? (i := 20) rfl)) rfl
set_option maxRecDepth 20000 in
theorem tw_533 : Cond.instanceMethod yX4_count ∈ lw_gd := gd_of (tm_3 (List.mem_of_getElem? (i := 21) rfl)) rfl
set_option maxRecDepth 20000 in
theorem tw_534 : Cond.selects "BitTuner" yX4_count yX4_count ∈ lw_gd := gd_of (tm_3 (List.mem_of_getElem? (i := 22) rfl)) rfl
set_option maxRecDepth 20000 in
theorem tw_535 : Cond.code yX4_count cX4_count 2 (some .int) ∈ lw_gd := gd_of (tm_3 (List.mem_of_getElem? (i := 23) rfl)) rfl
set_option maxRecDepth 20000 in
theorem tw_536 : Cond.methodLink "BitTuner" 175 yX0_inputs ∈ lw_gd := gd_of (tm_3 (List.mem_of_getElem? (i := 24) rfl)) rfl
set_option maxRecDepth 20000 in
theorem tw_537 : Cond.instanceMethod yX0_inputs ∈ lw_gd := gd_of (tm_3 (List.mem_of_getElem? (i := 25) rfl)) rfl
set_option maxRecDepth 20000 in
theorem tw_538 : Cond.selects "BitTuner$Program" yX0_inputs yX0_inputs ∈ lw_gd := gd_of (tm_3 (List.mem_of_getElem? (i := 26) rfl)) rfl
set_option maxRecDepth 20000 in
theorem tw_539 : Cond.code yX0_inputs cX0_inputs 3 (some .int) ∈ lw_gd := gd_of (tm_3 (List.mem_of_getElem? (i := 27) rfl)) rfl
set_option maxRecDepth 20000 in
theorem tw_540 : Cond.methodLink "BitTuner" 178 yX0_workedOnes ∈ lw_gd := gd_of (tm_3 (List.mem_of_getElem? (i := 28) rfl)) rfl
set_option maxRecDepth 20000 in
theorem tw_541 : Cond.methodLink "BitTunerLaw" 131 yX4_digest ∈ lw_gd := gd_of (tm_3 (List.mem_of_getElem? (i := 29) rfl)) rfl
set_option maxRecDepth 20000 in
theorem tw_542 : Cond.instanceMethod yX4_digest ∈ lw_gd := gd_of (tm_3 (List.mem_of_getElem? (i := 30) rfl)) rfl
set_option maxRecDepth 20000 in
theorem tw_543 : Cond.selects "BitTuner" yX4_digest yX4_digest ∈ lw_gd := gd_of (tm_3 (List.mem_of_getElem? (i := 31) rfl)) rfl
set_option maxRecDepth 20000 in
theorem tw_544 : Cond.code yX4_digest cX4_digest 5 (some .long) ∈ lw_gd := gd_of (tm_3 (List.mem_of_getElem? (i := 32) rfl)) rfl
set_option maxRecDepth 20000 in
theorem tw_545 : Cond.constantLong "BitTuner" 181 (17) ∈ lw_gd := gd_of (tm_3 (List.mem_of_getElem? (i := 33) rfl)) rfl
set_option maxRecDepth 20000 in
theorem tw_546 : Cond.constantLong "BitTuner" 183 (31) ∈ lw_gd := gd_of (tm_3 (List.mem_of_getElem? (i := 34) rfl)) rfl
set_option maxRecDepth 20000 in
theorem tw_547 : Cond.methodLink "BitTuner" 185 yX4_count ∈ lw_gd := gd_of (tm_3 (List.mem_of_getElem? (i := 35) rfl)) rfl
set_option maxRecDepth 20000 in
theorem tw_548 : Cond.methodLink "BitTuner" 188 yX4_about ∈ lw_gd := gd_of (tm_3 (List.mem_of_getElem? (i := 36) rfl)) rfl
set_option maxRecDepth 20000 in
theorem tw_549 : Cond.methodLink "BitTuner" 191 yX4_exact ∈ lw_gd := gd_of (tm_3 (List.mem_of_getElem? (i := 37) rfl)) rfl
set_option maxRecDepth 20000 in
theorem tw_550 : Cond.methodLink "BitTuner" 194 yX4_tuned ∈ lw_gd := gd_of (tm_3 (List.mem_of_getElem? (i := 38) rfl)) rfl
set_option maxRecDepth 20000 in
theorem tw_551 : Cond.classLink "BitTunerLaw" 10 "BitTunerModel" ∈ lw_gd := gd_of (tm_3 (List.mem_of_getElem? (i := 39) rfl)) rfl
set_option maxRecDepth 20000 in
theorem tw_552 : Cond.instantiable "BitTunerModel" 19 ∈ lw_gd := gd_of (tm_3 (List.mem_of_getElem? (i := 40) rfl)) rfl
set_option maxRecDepth 20000 in
theorem tw_553 : Cond.methodLink "BitTunerLaw" 12 yX5_init ∈ lw_gd := gd_of (tm_3 (List.mem_of_getElem? (i := 41) rfl)) rfl
set_option maxRecDepth 20000 in
theorem tw_554 : Cond.instanceMethod yX5_init ∈ lw_gd := gd_of (tm_3 (List.mem_of_getElem? (i := 42) rfl)) rfl
set_option maxRecDepth 20000 in
theorem tw_555 : Cond.code yX5_init cX5_init 1 none ∈ lw_gd := gd_of (tm_3 (List.mem_of_getElem? (i := 43) rfl)) rfl
set_option maxRecDepth 20000 in
theorem tw_556 : Cond.methodLink "BitTunerModel" 1 objectInit ∈ lw_gd := gd_of (tm_3 (List.mem_of_getElem? (i := 44) rfl)) rfl
set_option maxRecDepth 20000 in
theorem tw_557 : Cond.fieldLink "BitTunerModel" 68 "BitTunerModel" "values" "I" ∈ lw_gd := gd_of (tm_3 (List.mem_of_getElem? (i := 45) rfl)) rfl
set_option maxRecDepth 20000 in
theorem tw_558 : Cond.fieldLink "BitTunerModel" 7 "BitTunerModel" "kinds" "[I" ∈ lw_gd := gd_of (tm_3 (List.mem_of_getElem? (i := 46) rfl)) rfl
set_option maxRecDepth 20000 in
theorem tw_559 : Cond.fieldLink "BitTunerModel" 13 "BitTunerModel" "a" "[I" ∈ lw_gd := gd_of (tm_3 (List.mem_of_getElem? (i := 47) rfl)) rfl
set_option maxRecDepth 20000 in
theorem tw_560 : Cond.fieldLink "BitTunerModel" 16 "BitTunerModel" "b" "[I" ∈ lw_gd := gd_of (tm_3 (List.mem_of_getElem? (i := 48) rfl)) rfl
set_option maxRecDepth 20000 in
theorem tw_561 : Cond.fieldLink "BitTunerModel" 19 "BitTunerModel" "degrees" "[I" ∈ lw_gd := gd_of (tm_3 (List.mem_of_getElem? (i := 49) rfl)) rfl
set_option maxRecDepth 20000 in
theorem tw_562 : Cond.fieldLink "BitTunerModel" 22 "BitTunerModel" "leasts" "[J" ∈ lw_gd := gd_of (tm_3 (List.mem_of_getElem? (i := 50) rfl)) rfl
set_option maxRecDepth 20000 in
theorem tw_563 : Cond.fieldLink "BitTunerModel" 26 "BitTunerModel" "mosts" "[J" ∈ lw_gd := gd_of (tm_3 (List.mem_of_getElem? (i := 51) rfl)) rfl
set_option maxRecDepth 20000 in
theorem tw_564 : Cond.fieldLink "BitTunerModel" 29 "BitTunerModel" "bits" "[I" ∈ lw_gd := gd_of (tm_3 (List.mem_of_getElem? (i := 52) rfl)) rfl
set_option maxRecDepth 20000 in
theorem tw_565 : Cond.fieldLink "BitTunerModel" 32 "BitTunerModel" "roundings" "[I" ∈ lw_gd := gd_of (tm_3 (List.mem_of_getElem? (i := 53) rfl)) rfl
set_option maxRecDepth 20000 in
theorem tw_566 : Cond.fieldLink "BitTunerModel" 35 "BitTunerModel" "weights" "[I" ∈ lw_gd := gd_of (tm_3 (List.mem_of_getElem? (i := 54) rfl)) rfl
set_option maxRecDepth 20000 in
theorem tw_567 : Cond.fieldLink "BitTunerModel" 38 "BitTunerModel" "setTo" "[I" ∈ lw_gd := gd_of (tm_3 (List.mem_of_getElem? (i := 55) rfl)) rfl
set_option maxRecDepth 20000 in
theorem tw_568 : Cond.fieldLink "BitTunerModel" 41 "BitTunerModel" "bounds" "[J" ∈ lw_gd := gd_of (tm_3 (List.mem_of_getElem? (i := 56) rfl)) rfl
set_option maxRecDepth 20000 in
theorem tw_569 : Cond.fieldLink "BitTunerModel" 44 "BitTunerModel" "exacts" "[J" ∈ lw_gd := gd_of (tm_3 (List.mem_of_getElem? (i := 57) rfl)) rfl
set_option maxRecDepth 20000 in
theorem tw_570 : Cond.fieldLink "BitTunerModel" 47 "BitTunerModel" "tuneds" "[J" ∈ lw_gd := gd_of (tm_3 (List.mem_of_getElem? (i := 58) rfl)) rfl
set_option maxRecDepth 20000 in
theorem tw_571 : Cond.fieldLink "BitTunerModel" 50 "BitTunerModel" "kept" "[I" ∈ lw_gd := gd_of (tm_3 (List.mem_of_getElem? (i := 59) rfl)) rfl
set_option maxRecDepth 20000 in
theorem tw_572 : Cond.fieldLink "BitTunerModel" 53 "BitTunerModel" "wasInput" "[Z" ∈ lw_gd := gd_of (tm_3 (List.mem_of_getElem? (i := 60) rfl)) rfl
set_option maxRecDepth 20000 in
theorem tw_573 : Cond.fieldLink "BitTunerModel" 57 "BitTunerModel" "worstOf" "[I" ∈ lw_gd := gd_of (tm_3 (List.mem_of_getElem? (i := 61) rfl)) rfl
set_option maxRecDepth 20000 in
theorem tw_574 : Cond.fieldLink "BitTunerModel" 60 "BitTunerModel" "were" "[I" ∈ lw_gd := gd_of (tm_3 (List.mem_of_getElem? (i := 62) rfl)) rfl
set_option maxRecDepth 20000 in
theorem tw_575 : Cond.fieldLink "BitTunerModel" 63 "BitTunerModel" "best" "[I" ∈ lw_gd := gd_of (tm_3 (List.mem_of_getElem? (i := 63) rfl)) rfl
set_option maxRecDepth 20000 in
theorem tw_616 : Cond.methodLink "BitTunerLaw" 17 yX5_input ∈ lw_gd := gd_of (tm_3 (List.mem_of_getElem? (i := 104) rfl)) rfl
set_option maxRecDepth 20000 in
theorem tw_617 : Cond.instanceMethod yX5_input ∈ lw_gd := gd_of (tm_3 (List.mem_of_getElem? (i := 105) rfl)) rfl
set_option maxRecDepth 20000 in
theorem tw_618 : Cond.selects "BitTunerModel" yX5_input yX5_input ∈ lw_gd := gd_of (tm_3 (List.mem_of_getElem? (i := 106) rfl)) rfl
set_option maxRecDepth 20000 in
theorem tw_619 : Cond.code yX5_input cX5_input 3 (some .int) ∈ lw_gd := gd_of (tm_3 (List.mem_of_getElem? (i := 107) rfl)) rfl
set_option maxRecDepth 20000 in
theorem tw_620 : Cond.methodLink "BitTunerModel" 84 yX5_isNumber ∈ lw_gd := gd_of (tm_3 (List.mem_of_getElem? (i := 108) rfl)) rfl
set_option maxRecDepth 20000 in
theorem tw_621 : Cond.static yX5_isNumber ∈ lw_gd := gd_of (tm_3 (List.mem_of_getElem? (i := 109) rfl)) rfl
set_option maxRecDepth 20000 in
theorem tw_622 : Cond.code yX5_isNumber cX5_isNumber 1 (some .boolean) ∈ lw_gd := gd_of (tm_3 (List.mem_of_getElem? (i := 110) rfl)) rfl
set_option maxRecDepth 20000 in
theorem tw_623 : Cond.constantLong "BitTunerModel" 80 (-4194304) ∈ lw_gd := gd_of (tm_3 (List.mem_of_getElem? (i := 111) rfl)) rfl
set_option maxRecDepth 20000 in
theorem tw_624 : Cond.constantLong "BitTunerModel" 82 (4194304) ∈ lw_gd := gd_of (tm_3 (List.mem_of_getElem? (i := 112) rfl)) rfl
set_option maxRecDepth 20000 in
theorem tw_625 : Cond.methodLink "BitTunerModel" 72 yX5_in ∈ lw_gd := gd_of (tm_3 (List.mem_of_getElem? (i := 113) rfl)) rfl
set_option maxRecDepth 20000 in
theorem tw_626 : Cond.static yX5_in ∈ lw_gd := gd_of (tm_3 (List.mem_of_getElem? (i := 114) rfl)) rfl
set_option maxRecDepth 20000 in
theorem tw_627 : Cond.code yX5_in cX5_in 6 (some .boolean) ∈ lw_gd := gd_of (tm_3 (List.mem_of_getElem? (i := 115) rfl)) rfl
set_option maxRecDepth 20000 in
theorem tw_628 : Cond.methodLink "BitTunerModel" 87 yX5_lays ∈ lw_gd := gd_of (tm_3 (List.mem_of_getElem? (i := 116) rfl)) rfl
set_option maxRecDepth 20000 in
theorem tw_630 : Cond.instanceMethod yX5_lays ∈ lw_gd := gd_of (tm_3 (List.mem_of_getElem? (i := 118) rfl)) rfl
set_option maxRecDepth 20000 in
theorem tw_631 : Cond.code yX5_lays cX5_lays 9 (some .int) ∈ lw_gd := gd_of (tm_3 (List.mem_of_getElem? (i := 119) rfl)) rfl
set_option maxRecDepth 20000 in
theorem tw_632 : Cond.methodLink "BitTunerLaw" 22 yX5_fixed ∈ lw_gd := gd_of (tm_3 (List.mem_of_getElem? (i := 120) rfl)) rfl
set_option maxRecDepth 20000 in
theorem tw_633 : Cond.instanceMethod yX5_fixed ∈ lw_gd := gd_of (tm_3 (List.mem_of_getElem? (i := 121) rfl)) rfl
set_option maxRecDepth 20000 in
theorem tw_634 : Cond.selects "BitTunerModel" yX5_fixed yX5_fixed ∈ lw_gd := gd_of (tm_3 (List.mem_of_getElem? (i := 122) rfl)) rfl
set_option maxRecDepth 20000 in
theorem tw_635 : Cond.code yX5_fixed cX5_fixed 2 (some .int) ∈ lw_gd := gd_of (tm_3 (List.mem_of_getElem? (i := 123) rfl)) rfl
set_option maxRecDepth 20000 in
theorem tw_636 : Cond.methodLink "BitTunerLaw" 27 yX5_work ∈ lw_gd := gd_of (tm_3 (List.mem_of_getElem? (i := 124) rfl)) rfl
set_option maxRecDepth 20000 in
theorem tw_637 : Cond.instanceMethod yX5_work ∈ lw_gd := gd_of (tm_3 (List.mem_of_getElem? (i := 125) rfl)) rfl
set_option maxRecDepth 20000 in
theorem tw_638 : Cond.selects "BitTunerModel" yX5_work yX5_work ∈ lw_gd := gd_of (tm_3 (List.mem_of_getElem? (i := 126) rfl)) rfl
set_option maxRecDepth 20000 in
theorem tw_639 : Cond.code yX5_work cX5_work 17 (some .int) ∈ lw_gd := gd_of (tm_3 (List.mem_of_getElem? (i := 127) rfl)) rfl
set_option maxRecDepth 20000 in
theorem tw_640 : Cond.constantLong "BitTunerModel" 91 (2) ∈ lw_gd := gd_of (tm_3 (List.mem_of_getElem? (i := 128) rfl)) rfl
set_option maxRecDepth 20000 in
theorem tw_641 : Cond.constantLong "BitTunerModel" 93 (7) ∈ lw_gd := gd_of (tm_3 (List.mem_of_getElem? (i := 129) rfl)) rfl
set_option maxRecDepth 20000 in
theorem tw_642 : Cond.methodLink "BitTunerModel" 76 yX5_isValue ∈ lw_gd := gd_of (tm_3 (List.mem_of_getElem? (i := 130) rfl)) rfl
set_option maxRecDepth 20000 in
theorem tw_644 : Cond.instanceMethod yX5_isValue ∈ lw_gd := gd_of (tm_3 (List.mem_of_getElem? (i := 132) rfl)) rfl
set_option maxRecDepth 20000 in
theorem tw_645 : Cond.code yX5_isValue cX5_isValue 2 (some .boolean) ∈ lw_gd := gd_of (tm_3 (List.mem_of_getElem? (i := 133) rfl)) rfl
set_option maxRecDepth 20000 in
theorem tw_646 : Cond.methodLink "BitTunerModel" 95 yX5_max ∈ lw_gd := gd_of (tm_3 (List.mem_of_getElem? (i := 134) rfl)) rfl
set_option maxRecDepth 20000 in
theorem tw_647 : Cond.static yX5_max ∈ lw_gd := gd_of (tm_3 (List.mem_of_getElem? (i := 135) rfl)) rfl
set_option maxRecDepth 20000 in
theorem tw_648 : Cond.code yX5_max cX5_max 4 (some .long) ∈ lw_gd := gd_of (tm_3 (List.mem_of_getElem? (i := 136) rfl)) rfl
set_option maxRecDepth 20000 in
theorem tw_649 : Cond.methodLink "BitTunerModel" 99 yX5_min ∈ lw_gd := gd_of (tm_3 (List.mem_of_getElem? (i := 137) rfl)) rfl
set_option maxRecDepth 20000 in
theorem tw_650 : Cond.static yX5_min ∈ lw_gd := gd_of (tm_3 (List.mem_of_getElem? (i := 138) rfl)) rfl
set_option maxRecDepth 20000 in
theorem tw_651 : Cond.code yX5_min cX5_min 4 (some .long) ∈ lw_gd := gd_of (tm_3 (List.mem_of_getElem? (i := 139) rfl)) rfl
set_option maxRecDepth 20000 in
theorem tw_652 : Cond.constantLong "BitTunerModel" 102 (65536) ∈ lw_gd := gd_of (tm_3 (List.mem_of_getElem? (i := 140) rfl)) rfl
set_option maxRecDepth 20000 in
theorem tw_653 : Cond.methodLink "BitTunerModel" 104 yX5_amount ∈ lw_gd := gd_of (tm_3 (List.mem_of_getElem? (i := 141) rfl)) rfl
set_option maxRecDepth 20000 in
theorem tw_654 : Cond.static yX5_amount ∈ lw_gd := gd_of (tm_3 (List.mem_of_getElem? (i := 142) rfl)) rfl
set_option maxRecDepth 20000 in
theorem tw_655 : Cond.code yX5_amount cX5_amount 2 (some .long) ∈ lw_gd := gd_of (tm_3 (List.mem_of_getElem? (i := 143) rfl)) rfl
set_option maxRecDepth 20000 in
theorem tw_656 : Cond.constantLong "BitTunerModel" 108 (-67108864) ∈ lw_gd := gd_of (tm_3 (List.mem_of_getElem? (i := 144) rfl)) rfl
set_option maxRecDepth 20000 in
theorem tw_657 : Cond.constantLong "BitTunerModel" 110 (67108864) ∈ lw_gd := gd_of (tm_3 (List.mem_of_getElem? (i := 145) rfl)) rfl
set_option maxRecDepth 20000 in
theorem tw_658 : Cond.methodLink "BitTunerLaw" 31 yX5_cut ∈ lw_gd := gd_of (tm_3 (List.mem_of_getElem? (i := 146) rfl)) rfl
set_option maxRecDepth 20000 in
theorem tw_659 : Cond.instanceMethod yX5_cut ∈ lw_gd := gd_of (tm_3 (List.mem_of_getElem? (i := 147) rfl)) rfl
set_option maxRecDepth 20000 in
theorem tw_660 : Cond.selects "BitTunerModel" yX5_cut yX5_cut ∈ lw_gd := gd_of (tm_3 (List.mem_of_getElem? (i := 148) rfl)) rfl
set_option maxRecDepth 20000 in
theorem tw_661 : Cond.code yX5_cut cX5_cut 3 (some .int) ∈ lw_gd := gd_of (tm_3 (List.mem_of_getElem? (i := 149) rfl)) rfl
set_option maxRecDepth 20000 in
theorem tw_662 : Cond.methodLink "BitTunerLaw" 35 yX5_bits ∈ lw_gd := gd_of (tm_3 (List.mem_of_getElem? (i := 150) rfl)) rfl
set_option maxRecDepth 20000 in
theorem tw_663 : Cond.instanceMethod yX5_bits ∈ lw_gd := gd_of (tm_3 (List.mem_of_getElem? (i := 151) rfl)) rfl
set_option maxRecDepth 20000 in
theorem tw_664 : Cond.selects "BitTunerModel" yX5_bits yX5_bits ∈ lw_gd := gd_of (tm_3 (List.mem_of_getElem? (i := 152) rfl)) rfl
set_option maxRecDepth 20000 in
theorem tw_665 : Cond.code yX5_bits cX5_bits 4 (some .int) ∈ lw_gd := gd_of (tm_3 (List.mem_of_getElem? (i := 153) rfl)) rfl
set_option maxRecDepth 20000 in
theorem tw_666 : Cond.methodLink "BitTunerModel" 112 yX5_isWork ∈ lw_gd := gd_of (tm_3 (List.mem_of_getElem? (i := 154) rfl)) rfl
set_option maxRecDepth 20000 in
theorem tw_668 : Cond.instanceMethod yX5_isWork ∈ lw_gd := gd_of (tm_3 (List.mem_of_getElem? (i := 156) rfl)) rfl
set_option maxRecDepth 20000 in
theorem tw_669 : Cond.code yX5_isWork cX5_isWork 2 (some .boolean) ∈ lw_gd := gd_of (tm_3 (List.mem_of_getElem? (i := 157) rfl)) rfl
set_option maxRecDepth 20000 in
theorem tw_670 : Cond.constantLong "BitTunerModel" 115 (16) ∈ lw_gd := gd_of (tm_3 (List.mem_of_getElem? (i := 158) rfl)) rfl
set_option maxRecDepth 20000 in
theorem tw_671 : Cond.methodLink "BitTunerLaw" 39 yX5_rounding ∈ lw_gd := gd_of (tm_3 (List.mem_of_getElem? (i := 159) rfl)) rfl
set_option maxRecDepth 20000 in
theorem tw_672 : Cond.instanceMethod yX5_rounding ∈ lw_gd := gd_of (tm_3 (List.mem_of_getElem? (i := 160) rfl)) rfl
set_option maxRecDepth 20000 in
theorem tw_673 : Cond.selects "BitTunerModel" yX5_rounding yX5_rounding ∈ lw_gd := gd_of (tm_3 (List.mem_of_getElem? (i := 161) rfl)) rfl
set_option maxRecDepth 20000 in
theorem tw_674 : Cond.code yX5_rounding cX5_rounding 4 (some .int) ∈ lw_gd := gd_of (tm_3 (List.mem_of_getElem? (i := 162) rfl)) rfl
set_option maxRecDepth 20000 in
theorem tw_675 : Cond.methodLink "BitTunerLaw" 43 yX5_weight ∈ lw_gd := gd_of (tm_3 (List.mem_of_getElem? (i := 163) rfl)) rfl
set_option maxRecDepth 20000 in
theorem tw_676 : Cond.instanceMethod yX5_weight ∈ lw_gd := gd_of (tm_3 (List.mem_of_getElem? (i := 164) rfl)) rfl
set_option maxRecDepth 20000 in
theorem tw_677 : Cond.selects "BitTunerModel" yX5_weight yX5_weight ∈ lw_gd := gd_of (tm_3 (List.mem_of_getElem? (i := 165) rfl)) rfl
set_option maxRecDepth 20000 in
theorem tw_678 : Cond.code yX5_weight cX5_weight 4 (some .int) ∈ lw_gd := gd_of (tm_3 (List.mem_of_getElem? (i := 166) rfl)) rfl
set_option maxRecDepth 20000 in
theorem tw_679 : Cond.constantLong "BitTunerModel" 117 (100) ∈ lw_gd := gd_of (tm_3 (List.mem_of_getElem? (i := 167) rfl)) rfl
set_option maxRecDepth 20000 in
theorem tw_680 : Cond.methodLink "BitTunerLaw" 48 yX5_about ∈ lw_gd := gd_of (tm_3 (List.mem_of_getElem? (i := 168) rfl)) rfl
set_option maxRecDepth 20000 in
theorem tw_681 : Cond.instanceMethod yX5_about ∈ lw_gd := gd_of (tm_3 (List.mem_of_getElem? (i := 169) rfl)) rfl
set_option maxRecDepth 20000 in
theorem tw_682 : Cond.selects "BitTunerModel" yX5_about yX5_about ∈ lw_gd := gd_of (tm_3 (List.mem_of_getElem? (i := 170) rfl)) rfl
set_option maxRecDepth 20000 in
theorem tw_683 : Cond.code yX5_about cX5_about 3 (some .long) ∈ lw_gd := gd_of (tm_3 (List.mem_of_getElem? (i := 171) rfl)) rfl
set_option maxRecDepth 20000 in
theorem tw_684 : Cond.methodLink "BitTunerModel" 129 yX5_no ∈ lw_gd := gd_of (tm_3 (List.mem_of_getElem? (i := 172) rfl)) rfl
set_option maxRecDepth 20000 in
theorem tw_685 : Cond.static yX5_no ∈ lw_gd := gd_of (tm_3 (List.mem_of_getElem? (i := 173) rfl)) rfl
set_option maxRecDepth 20000 in
theorem tw_686 : Cond.code yX5_no cX5_no 1 (some .long) ∈ lw_gd := gd_of (tm_3 (List.mem_of_getElem? (i := 174) rfl)) rfl
set_option maxRecDepth 20000 in
theorem tw_687 : Cond.constantLong "BitTunerModel" 66 (-9223372036854775808) ∈ lw_gd := gd_of (tm_3 (List.mem_of_getElem? (i := 175) rfl)) rfl
set_option maxRecDepth 20000 in
theorem tw_688 : Cond.methodLink "BitTunerModel" 132 yX5_bound ∈ lw_gd := gd_of (tm_3 (List.mem_of_getElem? (i := 176) rfl)) rfl
set_option maxRecDepth 20000 in
theorem tw_690 : Cond.instanceMethod yX5_bound ∈ lw_gd := gd_of (tm_3 (List.mem_of_getElem? (i := 178) rfl)) rfl
set_option maxRecDepth 20000 in
theorem tw_691 : Cond.code yX5_bound cX5_bound 12 (some .long) ∈ lw_gd := gd_of (tm_3 (List.mem_of_getElem? (i := 179) rfl)) rfl
set_option maxRecDepth 20000 in
theorem tw_692 : Cond.constant "BitTunerModel" 119 (65536) ∈ lw_gd := gd_of (tm_3 (List.mem_of_getElem? (i := 180) rfl)) rfl
set_option maxRecDepth 20000 in
theorem tw_693 : Cond.constantLong "BitTunerModel" 120 (1073741824) ∈ lw_gd := gd_of (tm_3 (List.mem_of_getElem? (i := 181) rfl)) rfl
set_option maxRecDepth 20000 in
theorem tw_694 : Cond.methodLink "BitTunerModel" 122 yX5_greatest ∈ lw_gd := gd_of (tm_3 (List.mem_of_getElem? (i := 182) rfl)) rfl
set_option maxRecDepth 20000 in
theorem tw_696 : Cond.instanceMethod yX5_greatest ∈ lw_gd := gd_of (tm_3 (List.mem_of_getElem? (i := 184) rfl)) rfl
set_option maxRecDepth 20000 in
theorem tw_697 : Cond.code yX5_greatest cX5_greatest 2 (some .long) ∈ lw_gd := gd_of (tm_3 (List.mem_of_getElem? (i := 185) rfl)) rfl
set_option maxRecDepth 20000 in
theorem tw_698 : Cond.methodLink "BitTunerModel" 126 yX5_up ∈ lw_gd := gd_of (tm_3 (List.mem_of_getElem? (i := 186) rfl)) rfl
set_option maxRecDepth 20000 in
theorem tw_699 : Cond.static yX5_up ∈ lw_gd := gd_of (tm_3 (List.mem_of_getElem? (i := 187) rfl)) rfl
set_option maxRecDepth 20000 in
theorem tw_700 : Cond.code yX5_up cX5_up 2 (some .long) ∈ lw_gd := gd_of (tm_3 (List.mem_of_getElem? (i := 188) rfl)) rfl
set_option maxRecDepth 20000 in
theorem tw_701 : Cond.methodLink "BitTunerLaw" 53 yX5_price ∈ lw_gd := gd_of (tm_3 (List.mem_of_getElem? (i := 189) rfl)) rfl
set_option maxRecDepth 20000 in
theorem tw_702 : Cond.instanceMethod yX5_price ∈ lw_gd := gd_of (tm_3 (List.mem_of_getElem? (i := 190) rfl)) rfl
set_option maxRecDepth 20000 in
theorem tw_703 : Cond.selects "BitTunerModel" yX5_price yX5_price ∈ lw_gd := gd_of (tm_3 (List.mem_of_getElem? (i := 191) rfl)) rfl
set_option maxRecDepth 20000 in
theorem tw_704 : Cond.code yX5_price cX5_price 3 (some .int) ∈ lw_gd := gd_of (tm_3 (List.mem_of_getElem? (i := 192) rfl)) rfl
set_option maxRecDepth 20000 in
theorem tw_705 : Cond.methodLink "BitTunerLaw" 57 yX5_set ∈ lw_gd := gd_of (tm_3 (List.mem_of_getElem? (i := 193) rfl)) rfl
set_option maxRecDepth 20000 in
theorem tw_706 : Cond.instanceMethod yX5_set ∈ lw_gd := gd_of (tm_3 (List.mem_of_getElem? (i := 194) rfl)) rfl
set_option maxRecDepth 20000 in
theorem tw_707 : Cond.selects "BitTunerModel" yX5_set yX5_set ∈ lw_gd := gd_of (tm_3 (List.mem_of_getElem? (i := 195) rfl)) rfl
set_option maxRecDepth 20000 in
theorem tw_708 : Cond.code yX5_set cX5_set 3 (some .int) ∈ lw_gd := gd_of (tm_3 (List.mem_of_getElem? (i := 196) rfl)) rfl
set_option maxRecDepth 20000 in
theorem tw_709 : Cond.methodLink "BitTunerModel" 152 yX5_isInput ∈ lw_gd := gd_of (tm_3 (List.mem_of_getElem? (i := 197) rfl)) rfl
set_option maxRecDepth 20000 in
theorem tw_711 : Cond.instanceMethod yX5_isInput ∈ lw_gd := gd_of (tm_3 (List.mem_of_getElem? (i := 199) rfl)) rfl
set_option maxRecDepth 20000 in
theorem tw_712 : Cond.code yX5_isInput cX5_isInput 2 (some .boolean) ∈ lw_gd := gd_of (tm_3 (List.mem_of_getElem? (i := 200) rfl)) rfl
set_option maxRecDepth 20000 in
theorem tw_713 : Cond.methodLink "BitTunerModel" 155 yX5_isOf ∈ lw_gd := gd_of (tm_3 (List.mem_of_getElem? (i := 201) rfl)) rfl
set_option maxRecDepth 20000 in
theorem tw_715 : Cond.instanceMethod yX5_isOf ∈ lw_gd := gd_of (tm_3 (List.mem_of_getElem? (i := 203) rfl)) rfl
set_option maxRecDepth 20000 in
theorem tw_716 : Cond.code yX5_isOf cX5_isOf 4 (some .boolean) ∈ lw_gd := gd_of (tm_3 (List.mem_of_getElem? (i := 204) rfl)) rfl
set_option maxRecDepth 20000 in
theorem tw_717 : Cond.constantLong "BitTunerModel" 150 (4096) ∈ lw_gd := gd_of (tm_3 (List.mem_of_getElem? (i := 205) rfl)) rfl
set_option maxRecDepth 20000 in
theorem tw_718 : Cond.methodLink "BitTunerLaw" 64 yX5_enter ∈ lw_gd := gd_of (tm_3 (List.mem_of_getElem? (i := 206) rfl)) rfl
set_option maxRecDepth 20000 in
theorem tw_719 : Cond.instanceMethod yX5_enter ∈ lw_gd := gd_of (tm_3 (List.mem_of_getElem? (i := 207) rfl)) rfl
set_option maxRecDepth 20000 in
theorem tw_720 : Cond.selects "BitTunerModel" yX5_enter yX5_enter ∈ lw_gd := gd_of (tm_3 (List.mem_of_getElem? (i := 208) rfl)) rfl
set_option maxRecDepth 20000 in
theorem tw_721 : Cond.code yX5_enter cX5_enter 8 (some .int) ∈ lw_gd := gd_of (tm_3 (List.mem_of_getElem? (i := 209) rfl)) rfl
set_option maxRecDepth 20000 in
theorem tw_722 : Cond.constantDouble "BitTunerModel" 159 (13857576053419016192) ∈ lw_gd := gd_of (tm_3 (List.mem_of_getElem? (i := 210) rfl)) rfl
set_option maxRecDepth 20000 in
theorem tw_723 : Cond.constantDouble "BitTunerModel" 161 (4634204016564240384) ∈ lw_gd := gd_of (tm_3 (List.mem_of_getElem? (i := 211) rfl)) rfl
set_option maxRecDepth 20000 in
theorem tw_724 : Cond.constantDouble "BitTunerModel" 163 (4679240012837945344) ∈ lw_gd := gd_of (tm_3 (List.mem_of_getElem? (i := 212) rfl)) rfl
set_option maxRecDepth 20000 in
theorem tw_725 : Cond.methodLink "BitTunerLaw" 69 yX5_exact ∈ lw_gd := gd_of (tm_3 (List.mem_of_getElem? (i := 213) rfl)) rfl
set_option maxRecDepth 20000 in
theorem tw_726 : Cond.instanceMethod yX5_exact ∈ lw_gd := gd_of (tm_3 (List.mem_of_getElem? (i := 214) rfl)) rfl
set_option maxRecDepth 20000 in
theorem tw_727 : Cond.selects "BitTunerModel" yX5_exact yX5_exact ∈ lw_gd := gd_of (tm_3 (List.mem_of_getElem? (i := 215) rfl)) rfl
set_option maxRecDepth 20000 in
theorem tw_728 : Cond.code yX5_exact cX5_exact 2 (some .long) ∈ lw_gd := gd_of (tm_3 (List.mem_of_getElem? (i := 216) rfl)) rfl
set_option maxRecDepth 20000 in
theorem tw_729 : Cond.methodLink "BitTunerModel" 165 yX5_runs ∈ lw_gd := gd_of (tm_3 (List.mem_of_getElem? (i := 217) rfl)) rfl
set_option maxRecDepth 20000 in
theorem tw_731 : Cond.instanceMethod yX5_runs ∈ lw_gd := gd_of (tm_3 (List.mem_of_getElem? (i := 219) rfl)) rfl
set_option maxRecDepth 20000 in
theorem tw_732 : Cond.code yX5_runs cX5_runs 8 none ∈ lw_gd := gd_of (tm_3 (List.mem_of_getElem? (i := 220) rfl)) rfl
set_option maxRecDepth 20000 in
theorem tw_733 : Cond.methodLink "BitTunerModel" 138 yX5_does ∈ lw_gd := gd_of (tm_3 (List.mem_of_getElem? (i := 221) rfl)) rfl
set_option maxRecDepth 20000 in
theorem tw_734 : Cond.static yX5_does ∈ lw_gd := gd_of (tm_3 (List.mem_of_getElem? (i := 222) rfl)) rfl
set_option maxRecDepth 20000 in
theorem tw_735 : Cond.code yX5_does cX5_does 5 (some .long) ∈ lw_gd := gd_of (tm_3 (List.mem_of_getElem? (i := 223) rfl)) rfl
set_option maxRecDepth 20000 in
theorem tw_736 : Cond.methodLink "BitTunerModel" 142 yX5_rounded ∈ lw_gd := gd_of (tm_3 (List.mem_of_getElem? (i := 224) rfl)) rfl
set_option maxRecDepth 20000 in
theorem tw_737 : Cond.static yX5_rounded ∈ lw_gd := gd_of (tm_3 (List.mem_of_getElem? (i := 225) rfl)) rfl
set_option maxRecDepth 20000 in
theorem tw_738 : Cond.code yX5_rounded cX5_rounded 5 (some .long) ∈ lw_gd := gd_of (tm_3 (List.mem_of_getElem? (i := 226) rfl)) rfl
set_option maxRecDepth 20000 in
theorem tw_739 : Cond.methodLink "BitTunerModel" 135 yX5_floored ∈ lw_gd := gd_of (tm_3 (List.mem_of_getElem? (i := 227) rfl)) rfl
set_option maxRecDepth 20000 in
theorem tw_740 : Cond.static yX5_floored ∈ lw_gd := gd_of (tm_3 (List.mem_of_getElem? (i := 228) rfl)) rfl
set_option maxRecDepth 20000 in
theorem tw_741 : Cond.code yX5_floored cX5_floored 6 (some .long) ∈ lw_gd := gd_of (tm_3 (List.mem_of_getElem? (i := 229) rfl)) rfl
set_option maxRecDepth 20000 in
theorem tw_742 : Cond.constantLong "BitTunerModel" 146 (-2147483648) ∈ lw_gd := gd_of (tm_3 (List.mem_of_getElem? (i := 230) rfl)) rfl
set_option maxRecDepth 20000 in
theorem tw_743 : Cond.constantLong "BitTunerModel" 148 (2147483648) ∈ lw_gd := gd_of (tm_3 (List.mem_of_getElem? (i := 231) rfl)) rfl
set_option maxRecDepth 20000 in
theorem tw_744 : Cond.methodLink "BitTunerLaw" 73 yX5_tuned ∈ lw_gd := gd_of (tm_3 (List.mem_of_getElem? (i := 232) rfl)) rfl
set_option maxRecDepth 20000 in
theorem tw_745 : Cond.instanceMethod yX5_tuned ∈ lw_gd := gd_of (tm_3 (List.mem_of_getElem? (i := 233) rfl)) rfl
set_option maxRecDepth 20000 in
theorem tw_746 : Cond.selects "BitTunerModel" yX5_tuned yX5_tuned ∈ lw_gd := gd_of (tm_3 (List.mem_of_getElem? (i := 234) rfl)) rfl
set_option maxRecDepth 20000 in
theorem tw_747 : Cond.code yX5_tuned cX5_tuned 2 (some .long) ∈ lw_gd := gd_of (tm_3 (List.mem_of_getElem? (i := 235) rfl)) rfl
set_option maxRecDepth 20000 in
theorem tw_748 : Cond.methodLink "BitTunerLaw" 77 yX5_miss ∈ lw_gd := gd_of (tm_3 (List.mem_of_getElem? (i := 236) rfl)) rfl
set_option maxRecDepth 20000 in
theorem tw_749 : Cond.instanceMethod yX5_miss ∈ lw_gd := gd_of (tm_3 (List.mem_of_getElem? (i := 237) rfl)) rfl
set_option maxRecDepth 20000 in
theorem tw_750 : Cond.selects "BitTunerModel" yX5_miss yX5_miss ∈ lw_gd := gd_of (tm_3 (List.mem_of_getElem? (i := 238) rfl)) rfl
set_option maxRecDepth 20000 in
theorem tw_751 : Cond.code yX5_miss cX5_miss 2 (some .long) ∈ lw_gd := gd_of (tm_3 (List.mem_of_getElem? (i := 239) rfl)) rfl
set_option maxRecDepth 20000 in
theorem tw_752 : Cond.methodLink "BitTunerModel" 169 yX5_missNow ∈ lw_gd := gd_of (tm_4 (List.mem_of_getElem? (i := 0) rfl)) rfl
set_option maxRecDepth 20000 in
theorem tw_754 : Cond.instanceMethod yX5_missNow ∈ lw_gd := gd_of (tm_4 (List.mem_of_getElem? (i := 2) rfl)) rfl
set_option maxRecDepth 20000 in
theorem tw_755 : Cond.code yX5_missNow cX5_missNow 2 (some .long) ∈ lw_gd := gd_of (tm_4 (List.mem_of_getElem? (i := 3) rfl)) rfl
set_option maxRecDepth 20000 in
theorem tw_756 : Cond.methodLink "BitTunerLaw" 82 yX5_leave ∈ lw_gd := gd_of (tm_4 (List.mem_of_getElem? (i := 4) rfl)) rfl
set_option maxRecDepth 20000 in
theorem tw_757 : Cond.instanceMethod yX5_leave ∈ lw_gd := gd_of (tm_4 (List.mem_of_getElem? (i := 5) rfl)) rfl
set_option maxRecDepth 20000 in
theorem tw_758 : Cond.selects "BitTunerModel" yX5_leave yX5_leave ∈ lw_gd := gd_of (tm_4 (List.mem_of_getElem? (i := 6) rfl)) rfl
set_option maxRecDepth 20000 in
theorem tw_759 : Cond.code yX5_leave cX5_leave 2 (some .double) ∈ lw_gd := gd_of (tm_4 (List.mem_of_getElem? (i := 7) rfl)) rfl
set_option maxRecDepth 20000 in
theorem tw_760 : Cond.methodLink "BitTunerLaw" 87 yX5_narrow ∈ lw_gd := gd_of (tm_4 (List.mem_of_getElem? (i := 8) rfl)) rfl
set_option maxRecDepth 20000 in
theorem tw_761 : Cond.instanceMethod yX5_narrow ∈ lw_gd := gd_of (tm_4 (List.mem_of_getElem? (i := 9) rfl)) rfl
set_option maxRecDepth 20000 in
theorem tw_762 : Cond.selects "BitTunerModel" yX5_narrow yX5_narrow ∈ lw_gd := gd_of (tm_4 (List.mem_of_getElem? (i := 10) rfl)) rfl
set_option maxRecDepth 20000 in
theorem tw_763 : Cond.code yX5_narrow cX5_narrow 2 (some .float) ∈ lw_gd := gd_of (tm_4 (List.mem_of_getElem? (i := 11) rfl)) rfl
set_option maxRecDepth 20000 in
theorem tw_764 : Cond.methodLink "BitTunerLaw" 91 yX5_rows ∈ lw_gd := gd_of (tm_4 (List.mem_of_getElem? (i := 12) rfl)) rfl
set_option maxRecDepth 20000 in
theorem tw_765 : Cond.instanceMethod yX5_rows ∈ lw_gd := gd_of (tm_4 (List.mem_of_getElem? (i := 13) rfl)) rfl
set_option maxRecDepth 20000 in
theorem tw_766 : Cond.selects "BitTunerModel" yX5_rows yX5_rows ∈ lw_gd := gd_of (tm_4 (List.mem_of_getElem? (i := 14) rfl)) rfl
set_option maxRecDepth 20000 in
theorem tw_767 : Cond.code yX5_rows cX5_rows 4 (some .int) ∈ lw_gd := gd_of (tm_4 (List.mem_of_getElem? (i := 15) rfl)) rfl
set_option maxRecDepth 20000 in
theorem tw_768 : Cond.constantLong "BitTunerModel" 172 (1000000) ∈ lw_gd := gd_of (tm_4 (List.mem_of_getElem? (i := 16) rfl)) rfl
set_option maxRecDepth 20000 in
theorem tw_769 : Cond.methodLink "BitTunerLaw" 95 yX5_worst ∈ lw_gd := gd_of (tm_4 (List.mem_of_getElem? (i := 17) rfl)) rfl
set_option maxRecDepth 20000 in
theorem tw_770 : Cond.instanceMethod yX5_worst ∈ lw_gd := gd_of (tm_4 (List.mem_of_getElem? (i := 18) rfl)) rfl
set_option maxRecDepth 20000 in
theorem tw_771 : Cond.selects "BitTunerModel" yX5_worst yX5_worst ∈ lw_gd := gd_of (tm_4 (List.mem_of_getElem? (i := 19) rfl)) rfl
set_option maxRecDepth 20000 in
theorem tw_772 : Cond.code yX5_worst cX5_worst 8 (some .long) ∈ lw_gd := gd_of (tm_4 (List.mem_of_getElem? (i := 20) rfl)) rfl
set_option maxRecDepth 20000 in
theorem tw_773 : Cond.methodLink "BitTunerModel" 174 yX5_rows ∈ lw_gd := gd_of (tm_4 (List.mem_of_getElem? (i := 21) rfl)) rfl
set_option maxRecDepth 20000 in
theorem tw_774 : Cond.methodLink "BitTunerModel" 178 yX5_keep ∈ lw_gd := gd_of (tm_4 (List.mem_of_getElem? (i := 22) rfl)) rfl
set_option maxRecDepth 20000 in
theorem tw_776 : Cond.instanceMethod yX5_keep ∈ lw_gd := gd_of (tm_4 (List.mem_of_getElem? (i := 24) rfl)) rfl
set_option maxRecDepth 20000 in
theorem tw_777 : Cond.code yX5_keep cX5_keep 2 none ∈ lw_gd := gd_of (tm_4 (List.mem_of_getElem? (i := 25) rfl)) rfl
set_option maxRecDepth 20000 in
theorem tw_778 : Cond.constantLong "BitTunerModel" 181 (-1) ∈ lw_gd := gd_of (tm_4 (List.mem_of_getElem? (i := 26) rfl)) rfl
set_option maxRecDepth 20000 in
theorem tw_779 : Cond.methodLink "BitTunerModel" 183 yX5_goesOn ∈ lw_gd := gd_of (tm_4 (List.mem_of_getElem? (i := 27) rfl)) rfl
set_option maxRecDepth 20000 in
theorem tw_781 : Cond.instanceMethod yX5_goesOn ∈ lw_gd := gd_of (tm_4 (List.mem_of_getElem? (i := 29) rfl)) rfl
set_option maxRecDepth 20000 in
theorem tw_782 : Cond.code yX5_goesOn cX5_goesOn 2 (some .boolean) ∈ lw_gd := gd_of (tm_4 (List.mem_of_getElem? (i := 30) rfl)) rfl
set_option maxRecDepth 20000 in
theorem tw_783 : Cond.methodLink "BitTunerModel" 187 yX5_restore ∈ lw_gd := gd_of (tm_4 (List.mem_of_getElem? (i := 31) rfl)) rfl
set_option maxRecDepth 20000 in
theorem tw_785 : Cond.instanceMethod yX5_restore ∈ lw_gd := gd_of (tm_4 (List.mem_of_getElem? (i := 33) rfl)) rfl
set_option maxRecDepth 20000 in
theorem tw_786 : Cond.code yX5_restore cX5_restore 2 none ∈ lw_gd := gd_of (tm_4 (List.mem_of_getElem? (i := 34) rfl)) rfl
set_option maxRecDepth 20000 in
theorem tw_787 : Cond.methodLink "BitTunerLaw" 99 yX5_worstAt ∈ lw_gd := gd_of (tm_4 (List.mem_of_getElem? (i := 35) rfl)) rfl
set_option maxRecDepth 20000 in
theorem tw_788 : Cond.instanceMethod yX5_worstAt ∈ lw_gd := gd_of (tm_4 (List.mem_of_getElem? (i := 36) rfl)) rfl
set_option maxRecDepth 20000 in
theorem tw_789 : Cond.selects "BitTunerModel" yX5_worstAt yX5_worstAt ∈ lw_gd := gd_of (tm_4 (List.mem_of_getElem? (i := 37) rfl)) rfl
set_option maxRecDepth 20000 in
theorem tw_790 : Cond.code yX5_worstAt cX5_worstAt 2 (some .int) ∈ lw_gd := gd_of (tm_4 (List.mem_of_getElem? (i := 38) rfl)) rfl
set_option maxRecDepth 20000 in
theorem tw_791 : Cond.constantLong "BitTunerModel" 190 (15) ∈ lw_gd := gd_of (tm_4 (List.mem_of_getElem? (i := 39) rfl)) rfl
set_option maxRecDepth 20000 in
theorem tw_792 : Cond.methodLink "BitTunerLaw" 106 yX5_above ∈ lw_gd := gd_of (tm_4 (List.mem_of_getElem? (i := 40) rfl)) rfl
set_option maxRecDepth 20000 in
theorem tw_793 : Cond.instanceMethod yX5_above ∈ lw_gd := gd_of (tm_4 (List.mem_of_getElem? (i := 41) rfl)) rfl
set_option maxRecDepth 20000 in
theorem tw_794 : Cond.selects "BitTunerModel" yX5_above yX5_above ∈ lw_gd := gd_of (tm_4 (List.mem_of_getElem? (i := 42) rfl)) rfl
set_option maxRecDepth 20000 in
theorem tw_795 : Cond.code yX5_above cX5_above 6 (some .int) ∈ lw_gd := gd_of (tm_4 (List.mem_of_getElem? (i := 43) rfl)) rfl
set_option maxRecDepth 20000 in
theorem tw_796 : Cond.methodLink "BitTunerLaw" 110 yX5_least ∈ lw_gd := gd_of (tm_4 (List.mem_of_getElem? (i := 44) rfl)) rfl
set_option maxRecDepth 20000 in
theorem tw_797 : Cond.instanceMethod yX5_least ∈ lw_gd := gd_of (tm_4 (List.mem_of_getElem? (i := 45) rfl)) rfl
set_option maxRecDepth 20000 in
theorem tw_798 : Cond.selects "BitTunerModel" yX5_least yX5_least ∈ lw_gd := gd_of (tm_4 (List.mem_of_getElem? (i := 46) rfl)) rfl
set_option maxRecDepth 20000 in
theorem tw_799 : Cond.code yX5_least cX5_least 6 (some .int) ∈ lw_gd := gd_of (tm_4 (List.mem_of_getElem? (i := 47) rfl)) rfl
set_option maxRecDepth 20000 in
theorem tw_800 : Cond.methodLink "BitTunerModel" 192 yX5_works ∈ lw_gd := gd_of (tm_4 (List.mem_of_getElem? (i := 48) rfl)) rfl
set_option maxRecDepth 20000 in
theorem tw_802 : Cond.instanceMethod yX5_works ∈ lw_gd := gd_of (tm_4 (List.mem_of_getElem? (i := 50) rfl)) rfl
set_option maxRecDepth 20000 in
theorem tw_803 : Cond.code yX5_works cX5_works 3 (some .int) ∈ lw_gd := gd_of (tm_4 (List.mem_of_getElem? (i := 51) rfl)) rfl
set_option maxRecDepth 20000 in
theorem tw_804 : Cond.methodLink "BitTunerModel" 195 yX5_save ∈ lw_gd := gd_of (tm_4 (List.mem_of_getElem? (i := 52) rfl)) rfl
set_option maxRecDepth 20000 in
theorem tw_806 : Cond.instanceMethod yX5_save ∈ lw_gd := gd_of (tm_4 (List.mem_of_getElem? (i := 54) rfl)) rfl
set_option maxRecDepth 20000 in
theorem tw_807 : Cond.code yX5_save cX5_save 3 none ∈ lw_gd := gd_of (tm_4 (List.mem_of_getElem? (i := 55) rfl)) rfl
set_option maxRecDepth 20000 in
theorem tw_808 : Cond.methodLink "BitTunerModel" 199 yX5_setAll ∈ lw_gd := gd_of (tm_4 (List.mem_of_getElem? (i := 56) rfl)) rfl
set_option maxRecDepth 20000 in
theorem tw_810 : Cond.instanceMethod yX5_setAll ∈ lw_gd := gd_of (tm_4 (List.mem_of_getElem? (i := 58) rfl)) rfl
set_option maxRecDepth 20000 in
theorem tw_811 : Cond.code yX5_setAll cX5_setAll 3 none ∈ lw_gd := gd_of (tm_4 (List.mem_of_getElem? (i := 59) rfl)) rfl
set_option maxRecDepth 20000 in
theorem tw_812 : Cond.methodLink "BitTunerModel" 202 yX5_price ∈ lw_gd := gd_of (tm_4 (List.mem_of_getElem? (i := 60) rfl)) rfl
set_option maxRecDepth 20000 in
theorem tw_813 : Cond.methodLink "BitTunerModel" 205 yX5_choosesOn ∈ lw_gd := gd_of (tm_4 (List.mem_of_getElem? (i := 61) rfl)) rfl
set_option maxRecDepth 20000 in
theorem tw_815 : Cond.instanceMethod yX5_choosesOn ∈ lw_gd := gd_of (tm_4 (List.mem_of_getElem? (i := 63) rfl)) rfl
set_option maxRecDepth 20000 in
theorem tw_816 : Cond.code yX5_choosesOn cX5_choosesOn 2 (some .boolean) ∈ lw_gd := gd_of (tm_4 (List.mem_of_getElem? (i := 64) rfl)) rfl
set_option maxRecDepth 20000 in
theorem tw_817 : Cond.methodLink "BitTunerModel" 208 yX5_take ∈ lw_gd := gd_of (tm_4 (List.mem_of_getElem? (i := 65) rfl)) rfl
set_option maxRecDepth 20000 in
theorem tw_819 : Cond.instanceMethod yX5_take ∈ lw_gd := gd_of (tm_4 (List.mem_of_getElem? (i := 67) rfl)) rfl
set_option maxRecDepth 20000 in
theorem tw_820 : Cond.code yX5_take cX5_take 3 none ∈ lw_gd := gd_of (tm_4 (List.mem_of_getElem? (i := 68) rfl)) rfl
set_option maxRecDepth 20000 in
theorem tw_821 : Cond.methodLink "BitTunerLaw" 114 yX5_trim ∈ lw_gd := gd_of (tm_4 (List.mem_of_getElem? (i := 69) rfl)) rfl
set_option maxRecDepth 20000 in
theorem tw_822 : Cond.instanceMethod yX5_trim ∈ lw_gd := gd_of (tm_4 (List.mem_of_getElem? (i := 70) rfl)) rfl
set_option maxRecDepth 20000 in
theorem tw_823 : Cond.selects "BitTunerModel" yX5_trim yX5_trim ∈ lw_gd := gd_of (tm_4 (List.mem_of_getElem? (i := 71) rfl)) rfl
set_option maxRecDepth 20000 in
theorem tw_824 : Cond.code yX5_trim cX5_trim 6 (some .int) ∈ lw_gd := gd_of (tm_4 (List.mem_of_getElem? (i := 72) rfl)) rfl
set_option maxRecDepth 20000 in
theorem tw_825 : Cond.methodLink "BitTunerLaw" 118 yX5_floor ∈ lw_gd := gd_of (tm_4 (List.mem_of_getElem? (i := 73) rfl)) rfl
set_option maxRecDepth 20000 in
theorem tw_826 : Cond.instanceMethod yX5_floor ∈ lw_gd := gd_of (tm_4 (List.mem_of_getElem? (i := 74) rfl)) rfl
set_option maxRecDepth 20000 in
theorem tw_827 : Cond.selects "BitTunerModel" yX5_floor yX5_floor ∈ lw_gd := gd_of (tm_4 (List.mem_of_getElem? (i := 75) rfl)) rfl
set_option maxRecDepth 20000 in
theorem tw_828 : Cond.code yX5_floor cX5_floor 4 (some .long) ∈ lw_gd := gd_of (tm_4 (List.mem_of_getElem? (i := 76) rfl)) rfl
set_option maxRecDepth 20000 in
theorem tw_829 : Cond.methodLink "BitTunerLaw" 122 yX5_gain ∈ lw_gd := gd_of (tm_4 (List.mem_of_getElem? (i := 77) rfl)) rfl
set_option maxRecDepth 20000 in
theorem tw_830 : Cond.instanceMethod yX5_gain ∈ lw_gd := gd_of (tm_4 (List.mem_of_getElem? (i := 78) rfl)) rfl
set_option maxRecDepth 20000 in
theorem tw_831 : Cond.selects "BitTunerModel" yX5_gain yX5_gain ∈ lw_gd := gd_of (tm_4 (List.mem_of_getElem? (i := 79) rfl)) rfl
set_option maxRecDepth 20000 in
theorem tw_832 : Cond.code yX5_gain cX5_gain 3 (some .long) ∈ lw_gd := gd_of (tm_4 (List.mem_of_getElem? (i := 80) rfl)) rfl
set_option maxRecDepth 20000 in
theorem tw_833 : Cond.methodLink "BitTunerModel" 211 yX5_gainOf ∈ lw_gd := gd_of (tm_4 (List.mem_of_getElem? (i := 81) rfl)) rfl
set_option maxRecDepth 20000 in
theorem tw_835 : Cond.instanceMethod yX5_gainOf ∈ lw_gd := gd_of (tm_4 (List.mem_of_getElem? (i := 83) rfl)) rfl
set_option maxRecDepth 20000 in
theorem tw_836 : Cond.code yX5_gainOf cX5_gainOf 8 (some .long) ∈ lw_gd := gd_of (tm_4 (List.mem_of_getElem? (i := 84) rfl)) rfl
set_option maxRecDepth 20000 in
theorem tw_837 : Cond.methodLink "BitTunerLaw" 126 yX5_blame ∈ lw_gd := gd_of (tm_4 (List.mem_of_getElem? (i := 85) rfl)) rfl
set_option maxRecDepth 20000 in
theorem tw_838 : Cond.instanceMethod yX5_blame ∈ lw_gd := gd_of (tm_4 (List.mem_of_getElem? (i := 86) rfl)) rfl
set_option maxRecDepth 20000 in
theorem tw_839 : Cond.selects "BitTunerModel" yX5_blame yX5_blame ∈ lw_gd := gd_of (tm_4 (List.mem_of_getElem? (i := 87) rfl)) rfl
set_option maxRecDepth 20000 in
theorem tw_840 : Cond.code yX5_blame cX5_blame 8 (some .int) ∈ lw_gd := gd_of (tm_4 (List.mem_of_getElem? (i := 88) rfl)) rfl
set_option maxRecDepth 20000 in
theorem tw_841 : Cond.methodLink "BitTunerLaw" 130 yX5_count ∈ lw_gd := gd_of (tm_4 (List.mem_of_getElem? (i := 89) rfl)) rfl
set_option maxRecDepth 20000 in
theorem tw_842 : Cond.instanceMethod yX5_count ∈ lw_gd := gd_of (tm_4 (List.mem_of_getElem? (i := 90) rfl)) rfl
set_option maxRecDepth 20000 in
theorem tw_843 : Cond.selects "BitTunerModel" yX5_count yX5_count ∈ lw_gd := gd_of (tm_4 (List.mem_of_getElem? (i := 91) rfl)) rfl
set_option maxRecDepth 20000 in
theorem tw_844 : Cond.code yX5_count cX5_count 4 (some .int) ∈ lw_gd := gd_of (tm_4 (List.mem_of_getElem? (i := 92) rfl)) rfl
set_option maxRecDepth 20000 in
theorem tw_845 : Cond.methodLink "BitTunerLaw" 135 yX5_digest ∈ lw_gd := gd_of (tm_4 (List.mem_of_getElem? (i := 93) rfl)) rfl
set_option maxRecDepth 20000 in
theorem tw_846 : Cond.instanceMethod yX5_digest ∈ lw_gd := gd_of (tm_4 (List.mem_of_getElem? (i := 94) rfl)) rfl
set_option maxRecDepth 20000 in
theorem tw_847 : Cond.selects "BitTunerModel" yX5_digest yX5_digest ∈ lw_gd := gd_of (tm_4 (List.mem_of_getElem? (i := 95) rfl)) rfl
set_option maxRecDepth 20000 in
theorem tw_848 : Cond.code yX5_digest cX5_digest 5 (some .long) ∈ lw_gd := gd_of (tm_4 (List.mem_of_getElem? (i := 96) rfl)) rfl
set_option maxRecDepth 20000 in
theorem tw_849 : Cond.constantLong "BitTunerModel" 215 (17) ∈ lw_gd := gd_of (tm_4 (List.mem_of_getElem? (i := 97) rfl)) rfl
set_option maxRecDepth 20000 in
theorem tw_850 : Cond.constantLong "BitTunerModel" 217 (31) ∈ lw_gd := gd_of (tm_4 (List.mem_of_getElem? (i := 98) rfl)) rfl
set_option maxRecDepth 20000 in
theorem tw_851 : Cond.methodLink "BitTunerModel" 219 yX5_count ∈ lw_gd := gd_of (tm_4 (List.mem_of_getElem? (i := 99) rfl)) rfl
set_option maxRecDepth 20000 in
theorem tw_852 : Cond.methodLink "BitTunerModel" 223 yX5_about ∈ lw_gd := gd_of (tm_4 (List.mem_of_getElem? (i := 100) rfl)) rfl
set_option maxRecDepth 20000 in
theorem tw_853 : Cond.methodLink "BitTunerModel" 226 yX5_exact ∈ lw_gd := gd_of (tm_4 (List.mem_of_getElem? (i := 101) rfl)) rfl
set_option maxRecDepth 20000 in
theorem tw_854 : Cond.methodLink "BitTunerModel" 229 yX5_tuned ∈ lw_gd := gd_of (tm_4 (List.mem_of_getElem? (i := 102) rfl)) rfl
set_option maxRecDepth 20000 in
theorem tw_855 : Cond.constantDouble "BitTunerLaw" 58 (4593671619917905920) ∈ lw_gd := gd_of (tm_4 (List.mem_of_getElem? (i := 103) rfl)) rfl
set_option maxRecDepth 20000 in
theorem tw_856 : Cond.constantLong "BitTunerLaw" 100 (4294967295) ∈ lw_gd := gd_of (tm_4 (List.mem_of_getElem? (i := 104) rfl)) rfl
theorem inX0 : ∀ w ∈ u_ws RX0 TX0 2, w ∈ lw_gd := fun w h => gd_of ((by decide +kernel : ∀ w ∈ u_ws RX0 TX0 2, w ∈ lw_tbl) w h) ((by decide +kernel : ∀ w ∈ u_ws RX0 TX0 2, goodWord w = true) w h)
theorem inX1 : ∀ w ∈ u_ws RX1 TX1 5, w ∈ lw_gd := fun w h => gd_of ((by decide +kernel : ∀ w ∈ u_ws RX1 TX1 5, w ∈ lw_tbl) w h) ((by decide +kernel : ∀ w ∈ u_ws RX1 TX1 5, goodWord w = true) w h)
theorem inX2 : ∀ w ∈ u_ws RX2 TX2 11, w ∈ lw_gd := fun w h => gd_of ((by decide +kernel : ∀ w ∈ u_ws RX2 TX2 11, w ∈ lw_tbl) w h) ((by decide +kernel : ∀ w ∈ u_ws RX2 TX2 11, goodWord w = true) w h)
theorem inX3 : ∀ w ∈ u_ws RX3 TX3 5, w ∈ lw_gd := fun w h => gd_of ((by decide +kernel : ∀ w ∈ u_ws RX3 TX3 5, w ∈ lw_tbl) w h) ((by decide +kernel : ∀ w ∈ u_ws RX3 TX3 5, goodWord w = true) w h)
theorem inX4 : ∀ w ∈ u_ws RX4 TX4 3, w ∈ lw_gd := fun w h => gd_of ((by decide +kernel : ∀ w ∈ u_ws RX4 TX4 3, w ∈ lw_tbl) w h) ((by decide +kernel : ∀ w ∈ u_ws RX4 TX4 3, goodWord w = true) w h)
theorem inX5 : ∀ w ∈ u_ws RX5 TX5 19, w ∈ lw_gd := fun w h => gd_of ((by decide +kernel : ∀ w ∈ u_ws RX5 TX5 19, w ∈ lw_tbl) w h) ((by decide +kernel : ∀ w ∈ u_ws RX5 TX5 19, goodWord w = true) w h)
