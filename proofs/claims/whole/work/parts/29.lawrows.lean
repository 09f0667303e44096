theorem mw_0 : Cond.classLink RL 7 RX6 ∈ lw_tbl := wLr1_in _ (List.mem_of_getElem? (i := 0) rfl)
theorem mw_1 : Cond.instantiable RX6 7 ∈ lw_tbl := wLr1_in _ (List.mem_of_getElem? (i := 1) rfl)
theorem mw_2 : Cond.initialized RX6 ∈ lw_tbl := wLr1_in _ (List.mem_of_getElem? (i := 2) rfl)
theorem mw_3 : Cond.classLink RL 10 RX7 ∈ lw_tbl := wLr1_in _ (List.mem_of_getElem? (i := 3) rfl)
theorem mw_4 : Cond.instantiable RX7 17 ∈ lw_tbl := wLr1_in _ (List.mem_of_getElem? (i := 4) rfl)
theorem mw_5 : Cond.initialized RX7 ∈ lw_tbl := wLr1_in _ (List.mem_of_getElem? (i := 5) rfl)
theorem mw_6 : Cond.methodLink RL 9 yX6_init ∈ lw_tbl := wLr1_in _ (List.mem_of_getElem? (i := 6) rfl)
theorem mw_7 : Cond.instanceMethod yX6_init ∈ lw_tbl := wLr1_in _ (List.mem_of_getElem? (i := 7) rfl)
theorem mw_8 : Cond.code yX6_init cX6_init 2 none ∈ lw_tbl := wLr1_in _ (List.mem_of_getElem? (i := 8) rfl)
theorem mw_9 : Cond.methodLink RX6 1 objectInit ∈ lw_tbl := wLr1_in _ (List.mem_of_getElem? (i := 9) rfl)
theorem mw_10 : Cond.instanceMethod objectInit ∈ lw_tbl := wLr1_in _ (List.mem_of_getElem? (i := 10) rfl)
theorem mw_11 : Cond.code objectInit ⟨#[0xb1]⟩ 1 none ∈ lw_tbl := wLr1_in _ (List.mem_of_getElem? (i := 11) rfl)
theorem mw_12 : Cond.classLink RX6 7 RX1 ∈ lw_tbl := wLr1_in _ (List.mem_of_getElem? (i := 12) rfl)
theorem mw_13 : Cond.instantiable RX1 9 ∈ lw_tbl := wLr1_in _ (List.mem_of_getElem? (i := 13) rfl)
theorem mw_14 : Cond.initialized RX1 ∈ lw_tbl := wLr1_in _ (List.mem_of_getElem? (i := 14) rfl)
theorem mw_15 : Cond.fieldLink RX6 10 "FillCells" "filling" "LFillCells$Filling;" ∈ lw_tbl := wLr1_in _ (List.mem_of_getElem? (i := 15) rfl)
theorem mw_16 : Cond.classLink RX6 16 RX2 ∈ lw_tbl := wLr1_in _ (List.mem_of_getElem? (i := 16) rfl)
theorem mw_17 : Cond.instantiable RX2 3 ∈ lw_tbl := wLr1_in _ (List.mem_of_getElem? (i := 17) rfl)
theorem mw_18 : Cond.initialized RX2 ∈ lw_tbl := wLr1_in _ (List.mem_of_getElem? (i := 18) rfl)
theorem mw_19 : Cond.fieldLink RX6 19 "FillCells" "history" "LFillCells$History;" ∈ lw_tbl := wLr1_in _ (List.mem_of_getElem? (i := 19) rfl)
theorem mw_20 : Cond.classLink RX6 23 RX4 ∈ lw_tbl := wLr1_in _ (List.mem_of_getElem? (i := 20) rfl)
theorem mw_21 : Cond.instantiable RX4 2 ∈ lw_tbl := wLr1_in _ (List.mem_of_getElem? (i := 21) rfl)
theorem mw_22 : Cond.initialized RX4 ∈ lw_tbl := wLr1_in _ (List.mem_of_getElem? (i := 22) rfl)
theorem mw_23 : Cond.fieldLink RX6 26 "FillCells" "text" "LFillCells$Text;" ∈ lw_tbl := wLr1_in _ (List.mem_of_getElem? (i := 23) rfl)
theorem mw_24 : Cond.arrayClass .int ∈ lw_tbl := wLr2_in _ (List.mem_of_getElem? (i := 0) rfl)
theorem mw_25 : Cond.fieldLink RX6 30 "FillCells" "settings" "[I" ∈ lw_tbl := wLr2_in _ (List.mem_of_getElem? (i := 1) rfl)
theorem mw_26 : Cond.fieldLink RX6 34 "FillCells" "bads" "I" ∈ lw_tbl := wLr2_in _ (List.mem_of_getElem? (i := 2) rfl)
theorem mw_27 : Cond.fieldLink RX6 38 "FillCells" "noes" "I" ∈ lw_tbl := wLr2_in _ (List.mem_of_getElem? (i := 3) rfl)
theorem mw_28 : Cond.fieldLink RX6 41 "FillCells" "fulls" "I" ∈ lw_tbl := wLr2_in _ (List.mem_of_getElem? (i := 4) rfl)
theorem mw_29 : Cond.fieldLink RX6 44 "FillCells" "SETTING_FIRST" "[I" ∈ lw_tbl := wLr2_in _ (List.mem_of_getElem? (i := 5) rfl)
theorem mw_30 : Cond.instanceMethod yX1_init ∈ lw_tbl := wLr2_in _ (List.mem_of_getElem? (i := 6) rfl)
theorem mw_31 : Cond.code yX1_init cX1_init 1 none ∈ lw_tbl := wLr2_in _ (List.mem_of_getElem? (i := 7) rfl)
theorem mw_32 : Cond.methodLink RX1 3 objectInit ∈ lw_tbl := wLr2_in _ (List.mem_of_getElem? (i := 8) rfl)
theorem mw_33 : Cond.classLink RX1 9 RX0 ∈ lw_tbl := wLr2_in _ (List.mem_of_getElem? (i := 9) rfl)
theorem mw_34 : Cond.instantiable RX0 5 ∈ lw_tbl := wLr2_in _ (List.mem_of_getElem? (i := 10) rfl)
theorem mw_35 : Cond.initialized RX0 ∈ lw_tbl := wLr2_in _ (List.mem_of_getElem? (i := 11) rfl)
theorem mw_36 : Cond.fieldLink RX1 12 "FillCells$Filling" "field" "LFillCells$Field;" ∈ lw_tbl := wLr2_in _ (List.mem_of_getElem? (i := 12) rfl)
theorem mw_37 : Cond.classLink RX1 18 RX5 ∈ lw_tbl := wLr2_in _ (List.mem_of_getElem? (i := 13) rfl)
theorem mw_38 : Cond.instantiable RX5 8 ∈ lw_tbl := wLr2_in _ (List.mem_of_getElem? (i := 14) rfl)
theorem mw_39 : Cond.initialized RX5 ∈ lw_tbl := wLr2_in _ (List.mem_of_getElem? (i := 15) rfl)
theorem mw_40 : Cond.fieldLink RX1 21 "FillCells$Filling" "windows" "LFillCells$Windows;" ∈ lw_tbl := wLr2_in _ (List.mem_of_getElem? (i := 16) rfl)
theorem mw_41 : Cond.classLink RX1 25 RX3 ∈ lw_tbl := wLr2_in _ (List.mem_of_getElem? (i := 17) rfl)
theorem mw_42 : Cond.instantiable RX3 4 ∈ lw_tbl := wLr2_in _ (List.mem_of_getElem? (i := 18) rfl)
theorem mw_43 : Cond.initialized RX3 ∈ lw_tbl := wLr2_in _ (List.mem_of_getElem? (i := 19) rfl)
theorem mw_44 : Cond.fieldLink RX1 28 "FillCells$Filling" "nets" "LFillCells$Nets;" ∈ lw_tbl := wLr2_in _ (List.mem_of_getElem? (i := 20) rfl)
theorem mw_45 : Cond.fieldLink RX1 32 "FillCells$Filling" "bestRule" "I" ∈ lw_tbl := wLr2_in _ (List.mem_of_getElem? (i := 21) rfl)
theorem mw_46 : Cond.fieldLink RX1 36 "FillCells$Filling" "bestThin" "I" ∈ lw_tbl := wLr2_in _ (List.mem_of_getElem? (i := 22) rfl)
theorem mw_47 : Cond.fieldLink RX1 39 "FillCells$Filling" "bestFill" "I" ∈ lw_tbl := wLr2_in _ (List.mem_of_getElem? (i := 23) rfl)
theorem mw_48 : Cond.arrayClass .boolean ∈ lw_tbl := wLr3_in _ (List.mem_of_getElem? (i := 0) rfl)
theorem mw_49 : Cond.fieldLink RX1 42 "FillCells$Filling" "twinsChosen" "[Z" ∈ lw_tbl := wLr3_in _ (List.mem_of_getElem? (i := 1) rfl)
theorem mw_50 : Cond.fieldLink RX1 46 "FillCells$Filling" "fillAhead" "[I" ∈ lw_tbl := wLr3_in _ (List.mem_of_getElem? (i := 2) rfl)
theorem mw_51 : Cond.fieldLink RX1 50 "FillCells$Filling" "line" "[I" ∈ lw_tbl := wLr3_in _ (List.mem_of_getElem? (i := 3) rfl)
theorem mw_52 : Cond.instanceMethod yX0_init ∈ lw_tbl := wLr3_in _ (List.mem_of_getElem? (i := 4) rfl)
theorem mw_53 : Cond.code yX0_init cX0_init 1 none ∈ lw_tbl := wLr3_in _ (List.mem_of_getElem? (i := 5) rfl)
theorem mw_54 : Cond.methodLink RX0 3 objectInit ∈ lw_tbl := wLr3_in _ (List.mem_of_getElem? (i := 6) rfl)
theorem mw_55 : Cond.fieldLink RX0 9 "FillCells$Field" "shapes" "[I" ∈ lw_tbl := wLr3_in _ (List.mem_of_getElem? (i := 7) rfl)
theorem mw_56 : Cond.fieldLink RX0 15 "FillCells$Field" "shut" "[I" ∈ lw_tbl := wLr3_in _ (List.mem_of_getElem? (i := 8) rfl)
theorem mw_57 : Cond.fieldLink RX0 18 "FillCells$Field" "net" "[I" ∈ lw_tbl := wLr3_in _ (List.mem_of_getElem? (i := 9) rfl)
theorem mw_58 : Cond.fieldLink RX0 21 "FillCells$Field" "twins" "[I" ∈ lw_tbl := wLr3_in _ (List.mem_of_getElem? (i := 10) rfl)
theorem mw_59 : Cond.fieldLink RX0 24 "FillCells$Field" "fill" "[I" ∈ lw_tbl := wLr3_in _ (List.mem_of_getElem? (i := 11) rfl)
theorem mw_60 : Cond.instanceMethod yX5_init ∈ lw_tbl := wLr3_in _ (List.mem_of_getElem? (i := 12) rfl)
theorem mw_61 : Cond.code yX5_init cX5_init 1 none ∈ lw_tbl := wLr3_in _ (List.mem_of_getElem? (i := 13) rfl)
theorem mw_62 : Cond.methodLink RX5 3 objectInit ∈ lw_tbl := wLr3_in _ (List.mem_of_getElem? (i := 14) rfl)
theorem mw_63 : Cond.fieldLink RX5 9 "FillCells$Windows" "height" "I" ∈ lw_tbl := wLr3_in _ (List.mem_of_getElem? (i := 15) rfl)
theorem mw_64 : Cond.fieldLink RX5 15 "FillCells$Windows" "width" "I" ∈ lw_tbl := wLr3_in _ (List.mem_of_getElem? (i := 16) rfl)
theorem mw_65 : Cond.fieldLink RX5 18 "FillCells$Windows" "low" "I" ∈ lw_tbl := wLr3_in _ (List.mem_of_getElem? (i := 17) rfl)
theorem mw_66 : Cond.fieldLink RX5 21 "FillCells$Windows" "high" "I" ∈ lw_tbl := wLr3_in _ (List.mem_of_getElem? (i := 18) rfl)
theorem mw_67 : Cond.fieldLink RX5 24 "FillCells$Windows" "sums" "[I" ∈ lw_tbl := wLr3_in _ (List.mem_of_getElem? (i := 19) rfl)
theorem mw_68 : Cond.fieldLink RX5 28 "FillCells$Windows" "thinOver" "[I" ∈ lw_tbl := wLr3_in _ (List.mem_of_getElem? (i := 20) rfl)
theorem mw_69 : Cond.fieldLink RX5 31 "FillCells$Windows" "fullOver" "[I" ∈ lw_tbl := wLr3_in _ (List.mem_of_getElem? (i := 21) rfl)
theorem mw_70 : Cond.fieldLink RX5 34 "FillCells$Windows" "shares" "[I" ∈ lw_tbl := wLr3_in _ (List.mem_of_getElem? (i := 22) rfl)
theorem mw_71 : Cond.instanceMethod yX3_init ∈ lw_tbl := wLr3_in _ (List.mem_of_getElem? (i := 23) rfl)
theorem mw_72 : Cond.code yX3_init cX3_init 1 none ∈ lw_tbl := wLr4_in _ (List.mem_of_getElem? (i := 0) rfl)
theorem mw_73 : Cond.methodLink RX3 3 objectInit ∈ lw_tbl := wLr4_in _ (List.mem_of_getElem? (i := 1) rfl)
theorem mw_74 : Cond.fieldLink RX3 9 "FillCells$Nets" "limits" "[I" ∈ lw_tbl := wLr4_in _ (List.mem_of_getElem? (i := 2) rfl)
theorem mw_75 : Cond.fieldLink RX3 15 "FillCells$Nets" "burdens" "[I" ∈ lw_tbl := wLr4_in _ (List.mem_of_getElem? (i := 3) rfl)
theorem mw_76 : Cond.fieldLink RX3 18 "FillCells$Nets" "borne" "[I" ∈ lw_tbl := wLr4_in _ (List.mem_of_getElem? (i := 4) rfl)
theorem mw_77 : Cond.fieldLink RX3 21 "FillCells$Nets" "twinsBorne" "[I" ∈ lw_tbl := wLr4_in _ (List.mem_of_getElem? (i := 5) rfl)
theorem mw_78 : Cond.instanceMethod yX2_init ∈ lw_tbl := wLr4_in _ (List.mem_of_getElem? (i := 6) rfl)
theorem mw_79 : Cond.code yX2_init cX2_init 1 none ∈ lw_tbl := wLr4_in _ (List.mem_of_getElem? (i := 7) rfl)
theorem mw_80 : Cond.methodLink RX2 3 objectInit ∈ lw_tbl := wLr4_in _ (List.mem_of_getElem? (i := 8) rfl)
theorem mw_81 : Cond.fieldLink RX2 9 "FillCells$History" "kept" "I" ∈ lw_tbl := wLr4_in _ (List.mem_of_getElem? (i := 9) rfl)
theorem mw_82 : Cond.fieldLink RX2 15 "FillCells$History" "oldest" "I" ∈ lw_tbl := wLr4_in _ (List.mem_of_getElem? (i := 10) rfl)
theorem mw_83 : Cond.fieldLink RX2 18 "FillCells$History" "fields" "[I" ∈ lw_tbl := wLr4_in _ (List.mem_of_getElem? (i := 11) rfl)
theorem mw_84 : Cond.instanceMethod yX4_init ∈ lw_tbl := wLr4_in _ (List.mem_of_getElem? (i := 12) rfl)
theorem mw_85 : Cond.code yX4_init cX4_init 1 none ∈ lw_tbl := wLr4_in _ (List.mem_of_getElem? (i := 13) rfl)
theorem mw_86 : Cond.methodLink RX4 3 objectInit ∈ lw_tbl := wLr4_in _ (List.mem_of_getElem? (i := 14) rfl)
theorem mw_87 : Cond.fieldLink RX4 9 "FillCells$Text" "length" "I" ∈ lw_tbl := wLr4_in _ (List.mem_of_getElem? (i := 15) rfl)
theorem mw_88 : Cond.fieldLink RX4 15 "FillCells$Text" "bytes" "[I" ∈ lw_tbl := wLr4_in _ (List.mem_of_getElem? (i := 16) rfl)
theorem mw_89 : Cond.methodLink RX6 47 yX6_useSettings ∈ lw_tbl := wLr4_in _ (List.mem_of_getElem? (i := 17) rfl)
theorem mw_90 : Cond.instanceMethod yX6_useSettings ∈ lw_tbl := wLr4_in _ (List.mem_of_getElem? (i := 18) rfl)
theorem mw_91 : Cond.selects RX6 yX6_useSettings yX6_useSettings ∈ lw_tbl := wLr4_in _ (List.mem_of_getElem? (i := 19) rfl)
theorem mw_92 : Cond.code yX6_useSettings cX6_useSettings 3 none ∈ lw_tbl := wLr4_in _ (List.mem_of_getElem? (i := 20) rfl)
theorem mw_93 : Cond.fieldLink RX6 117 "FillCells$Filling" "windows" "LFillCells$Windows;" ∈ lw_tbl := wLr4_in _ (List.mem_of_getElem? (i := 21) rfl)
theorem mw_94 : Cond.fieldLink RX6 239 "FillCells$Windows" "height" "I" ∈ lw_tbl := wLr4_in _ (List.mem_of_getElem? (i := 22) rfl)
theorem mw_95 : Cond.fieldLink RX6 242 "FillCells$Windows" "width" "I" ∈ lw_tbl := wLr4_in _ (List.mem_of_getElem? (i := 23) rfl)
theorem mw_96 : Cond.fieldLink RX6 245 "FillCells$Windows" "low" "I" ∈ lw_tbl := wLr5_in _ (List.mem_of_getElem? (i := 0) rfl)
theorem mw_97 : Cond.fieldLink RX6 248 "FillCells$Windows" "high" "I" ∈ lw_tbl := wLr5_in _ (List.mem_of_getElem? (i := 1) rfl)
theorem mw_98 : Cond.fieldLink RX6 157 "FillCells$Filling" "nets" "LFillCells$Nets;" ∈ lw_tbl := wLr5_in _ (List.mem_of_getElem? (i := 2) rfl)
theorem mw_99 : Cond.fieldLink RX6 233 "FillCells$Nets" "limits" "[I" ∈ lw_tbl := wLr5_in _ (List.mem_of_getElem? (i := 3) rfl)
theorem mw_100 : Cond.methodLink RX6 82 yX1_measure ∈ lw_tbl := wLr5_in _ (List.mem_of_getElem? (i := 4) rfl)
theorem mw_101 : Cond.instanceMethod yX1_measure ∈ lw_tbl := wLr5_in _ (List.mem_of_getElem? (i := 5) rfl)
theorem mw_102 : Cond.selects RX1 yX1_measure yX1_measure ∈ lw_tbl := wLr5_in _ (List.mem_of_getElem? (i := 6) rfl)
theorem mw_103 : Cond.code yX1_measure cX1_measure 1 none ∈ lw_tbl := wLr5_in _ (List.mem_of_getElem? (i := 7) rfl)
theorem mw_104 : Cond.methodLink RX1 53 yX5_measure ∈ lw_tbl := wLr5_in _ (List.mem_of_getElem? (i := 8) rfl)
theorem mw_105 : Cond.instanceMethod yX5_measure ∈ lw_tbl := wLr5_in _ (List.mem_of_getElem? (i := 9) rfl)
theorem mw_106 : Cond.selects RX5 yX5_measure yX5_measure ∈ lw_tbl := wLr5_in _ (List.mem_of_getElem? (i := 10) rfl)
theorem mw_107 : Cond.code yX5_measure cX5_measure 3 none ∈ lw_tbl := wLr5_in _ (List.mem_of_getElem? (i := 11) rfl)
theorem mw_108 : Cond.methodLink RX5 41 yJ7_fill_53178 ∈ lw_tbl := wLr5_in _ (List.mem_of_getElem? (i := 12) rfl)
theorem mw_109 : Cond.static yJ7_fill_53178 ∈ lw_tbl := wLr5_in _ (List.mem_of_getElem? (i := 13) rfl)
theorem mw_110 : Cond.initialized RJ7 ∈ lw_tbl := wLr5_in _ (List.mem_of_getElem? (i := 14) rfl)
theorem mw_111 : Cond.code yJ7_fill_53178 cJ7_fill_53178 4 none ∈ lw_tbl := wLr5_in _ (List.mem_of_getElem? (i := 15) rfl)
theorem mw_112 : Cond.methodLink RX5 47 yX5_lies ∈ lw_tbl := wLr5_in _ (List.mem_of_getElem? (i := 16) rfl)
theorem mw_113 : Cond.instanceMethod yX5_lies ∈ lw_tbl := wLr5_in _ (List.mem_of_getElem? (i := 17) rfl)
theorem mw_114 : Cond.selects RX5 yX5_lies yX5_lies ∈ lw_tbl := wLr5_in _ (List.mem_of_getElem? (i := 18) rfl)
theorem mw_115 : Cond.code yX5_lies cX5_lies 2 (some .boolean) ∈ lw_tbl := wLr5_in _ (List.mem_of_getElem? (i := 19) rfl)
theorem mw_116 : Cond.methodLink RX5 51 yX5_addUp ∈ lw_tbl := wLr5_in _ (List.mem_of_getElem? (i := 20) rfl)
theorem mw_117 : Cond.instanceMethod yX5_addUp ∈ lw_tbl := wLr5_in _ (List.mem_of_getElem? (i := 21) rfl)
theorem mw_118 : Cond.selects RX5 yX5_addUp yX5_addUp ∈ lw_tbl := wLr5_in _ (List.mem_of_getElem? (i := 22) rfl)
theorem mw_119 : Cond.code yX5_addUp cX5_addUp 7 none ∈ lw_tbl := wLr5_in _ (List.mem_of_getElem? (i := 23) rfl)
theorem mw_120 : Cond.fieldLink RX5 71 "FillCells$Field" "twins" "[I" ∈ lw_tbl := wLr6_in _ (List.mem_of_getElem? (i := 0) rfl)
theorem mw_121 : Cond.methodLink RX5 65 yX0_sumOf ∈ lw_tbl := wLr6_in _ (List.mem_of_getElem? (i := 1) rfl)
theorem mw_122 : Cond.instanceMethod yX0_sumOf ∈ lw_tbl := wLr6_in _ (List.mem_of_getElem? (i := 2) rfl)
theorem mw_123 : Cond.selects RX0 yX0_sumOf yX0_sumOf ∈ lw_tbl := wLr6_in _ (List.mem_of_getElem? (i := 3) rfl)
theorem mw_124 : Cond.code yX0_sumOf cX0_sumOf 2 (some .int) ∈ lw_tbl := wLr6_in _ (List.mem_of_getElem? (i := 4) rfl)
theorem mw_125 : Cond.methodLink RX5 55 yX5_isThin ∈ lw_tbl := wLr6_in _ (List.mem_of_getElem? (i := 5) rfl)
theorem mw_126 : Cond.instanceMethod yX5_isThin ∈ lw_tbl := wLr6_in _ (List.mem_of_getElem? (i := 6) rfl)
theorem mw_127 : Cond.selects RX5 yX5_isThin yX5_isThin ∈ lw_tbl := wLr6_in _ (List.mem_of_getElem? (i := 7) rfl)
theorem mw_128 : Cond.code yX5_isThin cX5_isThin 2 (some .boolean) ∈ lw_tbl := wLr6_in _ (List.mem_of_getElem? (i := 8) rfl)
theorem mw_129 : Cond.methodLink RX5 58 yX5_spread ∈ lw_tbl := wLr6_in _ (List.mem_of_getElem? (i := 9) rfl)
theorem mw_130 : Cond.instanceMethod yX5_spread ∈ lw_tbl := wLr6_in _ (List.mem_of_getElem? (i := 10) rfl)
theorem mw_131 : Cond.selects RX5 yX5_spread yX5_spread ∈ lw_tbl := wLr6_in _ (List.mem_of_getElem? (i := 11) rfl)
theorem mw_132 : Cond.code yX5_spread cX5_spread 6 none ∈ lw_tbl := wLr6_in _ (List.mem_of_getElem? (i := 12) rfl)
theorem mw_133 : Cond.methodLink RX5 62 yX5_isFull ∈ lw_tbl := wLr6_in _ (List.mem_of_getElem? (i := 13) rfl)
theorem mw_134 : Cond.instanceMethod yX5_isFull ∈ lw_tbl := wLr6_in _ (List.mem_of_getElem? (i := 14) rfl)
theorem mw_135 : Cond.selects RX5 yX5_isFull yX5_isFull ∈ lw_tbl := wLr6_in _ (List.mem_of_getElem? (i := 15) rfl)
theorem mw_136 : Cond.code yX5_isFull cX5_isFull 2 (some .boolean) ∈ lw_tbl := wLr6_in _ (List.mem_of_getElem? (i := 16) rfl)
theorem mw_137 : Cond.methodLink RX1 57 yX3_measure ∈ lw_tbl := wLr6_in _ (List.mem_of_getElem? (i := 17) rfl)
theorem mw_138 : Cond.instanceMethod yX3_measure ∈ lw_tbl := wLr6_in _ (List.mem_of_getElem? (i := 18) rfl)
theorem mw_139 : Cond.selects RX3 yX3_measure yX3_measure ∈ lw_tbl := wLr6_in _ (List.mem_of_getElem? (i := 19) rfl)
theorem mw_140 : Cond.code yX3_measure cX3_measure 5 none ∈ lw_tbl := wLr6_in _ (List.mem_of_getElem? (i := 20) rfl)
theorem mw_141 : Cond.fieldLink RX3 30 "FillCells$Field" "net" "[I" ∈ lw_tbl := wLr6_in _ (List.mem_of_getElem? (i := 21) rfl)
theorem mw_142 : Cond.fieldLink RX3 39 "FillCells$Field" "twins" "[I" ∈ lw_tbl := wLr6_in _ (List.mem_of_getElem? (i := 22) rfl)
theorem mw_143 : Cond.fieldLink RX3 42 "FillCells$Field" "fill" "[I" ∈ lw_tbl := wLr6_in _ (List.mem_of_getElem? (i := 23) rfl)
theorem mw_144 : Cond.methodLink RX3 24 yJ7_fill_53178 ∈ lw_tbl := wLr7_in _ (List.mem_of_getElem? (i := 0) rfl)
theorem mw_145 : Cond.methodLink RX3 35 yX3_netsBeside ∈ lw_tbl := wLr7_in _ (List.mem_of_getElem? (i := 1) rfl)
theorem mw_146 : Cond.static yX3_netsBeside ∈ lw_tbl := wLr7_in _ (List.mem_of_getElem? (i := 2) rfl)
theorem mw_147 : Cond.code yX3_netsBeside cX3_netsBeside 4 (some .int) ∈ lw_tbl := wLr7_in _ (List.mem_of_getElem? (i := 3) rfl)
theorem mw_148 : Cond.methodLink RX3 44 yX3_shift ∈ lw_tbl := wLr7_in _ (List.mem_of_getElem? (i := 4) rfl)
theorem mw_149 : Cond.instanceMethod yX3_shift ∈ lw_tbl := wLr7_in _ (List.mem_of_getElem? (i := 5) rfl)
theorem mw_150 : Cond.selects RX3 yX3_shift yX3_shift ∈ lw_tbl := wLr7_in _ (List.mem_of_getElem? (i := 6) rfl)
theorem mw_151 : Cond.code yX3_shift cX3_shift 4 none ∈ lw_tbl := wLr7_in _ (List.mem_of_getElem? (i := 7) rfl)
theorem mw_152 : Cond.methodLink RL 12 yX7_init ∈ lw_tbl := wLr7_in _ (List.mem_of_getElem? (i := 8) rfl)
theorem mw_153 : Cond.instanceMethod yX7_init ∈ lw_tbl := wLr7_in _ (List.mem_of_getElem? (i := 9) rfl)
theorem mw_154 : Cond.code yX7_init cX7_init 1 none ∈ lw_tbl := wLr7_in _ (List.mem_of_getElem? (i := 10) rfl)
theorem mw_155 : Cond.methodLink RX7 1 objectInit ∈ lw_tbl := wLr7_in _ (List.mem_of_getElem? (i := 11) rfl)
theorem mw_156 : Cond.fieldLink RX7 7 "FillCellsModel" "s" "[I" ∈ lw_tbl := wLr7_in _ (List.mem_of_getElem? (i := 12) rfl)
theorem mw_157 : Cond.fieldLink RX7 13 "FillCellsModel" "past" "[I" ∈ lw_tbl := wLr7_in _ (List.mem_of_getElem? (i := 13) rfl)
theorem mw_158 : Cond.fieldLink RX7 16 "FillCellsModel" "kept" "[I" ∈ lw_tbl := wLr7_in _ (List.mem_of_getElem? (i := 14) rfl)
theorem mw_159 : Cond.fieldLink RX7 19 "FillCellsModel" "rules" "[I" ∈ lw_tbl := wLr7_in _ (List.mem_of_getElem? (i := 15) rfl)
theorem mw_160 : Cond.fieldLink RX7 22 "FillCellsModel" "refused" "[I" ∈ lw_tbl := wLr7_in _ (List.mem_of_getElem? (i := 16) rfl)
theorem mw_161 : Cond.fieldLink RX7 25 "FillCellsModel" "text" "[I" ∈ lw_tbl := wLr7_in _ (List.mem_of_getElem? (i := 17) rfl)
theorem mw_162 : Cond.fieldLink RX7 28 "FillCellsModel" "sums" "[I" ∈ lw_tbl := wLr7_in _ (List.mem_of_getElem? (i := 18) rfl)
theorem mw_163 : Cond.fieldLink RX7 31 "FillCellsModel" "thin" "[I" ∈ lw_tbl := wLr7_in _ (List.mem_of_getElem? (i := 19) rfl)
theorem mw_164 : Cond.fieldLink RX7 34 "FillCellsModel" "family" "[I" ∈ lw_tbl := wLr7_in _ (List.mem_of_getElem? (i := 20) rfl)
theorem mw_165 : Cond.fieldLink RX7 37 "FillCellsModel" "members" "[I" ∈ lw_tbl := wLr7_in _ (List.mem_of_getElem? (i := 21) rfl)
theorem mw_166 : Cond.fieldLink RX7 40 "FillCellsModel" "burdens" "[I" ∈ lw_tbl := wLr7_in _ (List.mem_of_getElem? (i := 22) rfl)
theorem mw_167 : Cond.fieldLink RX7 43 "FillCellsModel" "more" "[I" ∈ lw_tbl := wLr7_in _ (List.mem_of_getElem? (i := 23) rfl)
theorem mw_168 : Cond.fieldLink RX7 46 "FillCellsModel" "results" "[I" ∈ lw_tbl := wLr8_in _ (List.mem_of_getElem? (i := 0) rfl)
theorem mw_169 : Cond.methodLink RL 13 yX6_sets ∈ lw_tbl := wLr8_in _ (List.mem_of_getElem? (i := 1) rfl)
theorem mw_170 : Cond.instanceMethod yX6_sets ∈ lw_tbl := wLr8_in _ (List.mem_of_getElem? (i := 2) rfl)
theorem mw_171 : Cond.selects RX6 yX6_sets yX6_sets ∈ lw_tbl := wLr8_in _ (List.mem_of_getElem? (i := 3) rfl)
theorem mw_172 : Cond.code yX6_sets cX6_sets 6 (some .int) ∈ lw_tbl := wLr8_in _ (List.mem_of_getElem? (i := 4) rfl)
theorem mw_173 : Cond.fieldLink RX6 58 "FillCells" "PART_MOST" "[I" ∈ lw_tbl := wLr8_in _ (List.mem_of_getElem? (i := 5) rfl)
theorem mw_174 : Cond.fieldLink RX6 65 "FillCells$Filling" "field" "LFillCells$Field;" ∈ lw_tbl := wLr8_in _ (List.mem_of_getElem? (i := 6) rfl)
theorem mw_175 : Cond.methodLink RX6 50 yX6_isCell ∈ lw_tbl := wLr8_in _ (List.mem_of_getElem? (i := 7) rfl)
theorem mw_176 : Cond.static yX6_isCell ∈ lw_tbl := wLr8_in _ (List.mem_of_getElem? (i := 8) rfl)
theorem mw_177 : Cond.code yX6_isCell cX6_isCell 1 (some .boolean) ∈ lw_tbl := wLr8_in _ (List.mem_of_getElem? (i := 9) rfl)
theorem mw_178 : Cond.methodLink RX6 54 yX6_isIn ∈ lw_tbl := wLr8_in _ (List.mem_of_getElem? (i := 10) rfl)
theorem mw_179 : Cond.static yX6_isIn ∈ lw_tbl := wLr8_in _ (List.mem_of_getElem? (i := 11) rfl)
theorem mw_180 : Cond.code yX6_isIn cX6_isIn 3 (some .boolean) ∈ lw_tbl := wLr8_in _ (List.mem_of_getElem? (i := 12) rfl)
theorem mw_181 : Cond.methodLink RX6 61 yX6_refuse ∈ lw_tbl := wLr8_in _ (List.mem_of_getElem? (i := 13) rfl)
theorem mw_182 : Cond.instanceMethod yX6_refuse ∈ lw_tbl := wLr8_in _ (List.mem_of_getElem? (i := 14) rfl)
theorem mw_183 : Cond.selects RX6 yX6_refuse yX6_refuse ∈ lw_tbl := wLr8_in _ (List.mem_of_getElem? (i := 15) rfl)
theorem mw_184 : Cond.code yX6_refuse cX6_refuse 2 (some .int) ∈ lw_tbl := wLr8_in _ (List.mem_of_getElem? (i := 16) rfl)
theorem mw_185 : Cond.methodLink RX6 69 yX2_note ∈ lw_tbl := wLr8_in _ (List.mem_of_getElem? (i := 17) rfl)
theorem mw_186 : Cond.instanceMethod yX2_note ∈ lw_tbl := wLr8_in _ (List.mem_of_getElem? (i := 18) rfl)
theorem mw_187 : Cond.selects RX2 yX2_note yX2_note ∈ lw_tbl := wLr8_in _ (List.mem_of_getElem? (i := 19) rfl)
theorem mw_188 : Cond.code yX2_note cX2_note 4 none ∈ lw_tbl := wLr8_in _ (List.mem_of_getElem? (i := 20) rfl)
theorem mw_189 : Cond.methodLink RX2 22 yX2_start ∈ lw_tbl := wLr8_in _ (List.mem_of_getElem? (i := 21) rfl)
theorem mw_190 : Cond.instanceMethod yX2_start ∈ lw_tbl := wLr8_in _ (List.mem_of_getElem? (i := 22) rfl)
theorem mw_191 : Cond.selects RX2 yX2_start yX2_start ∈ lw_tbl := wLr8_in _ (List.mem_of_getElem? (i := 23) rfl)
theorem mw_192 : Cond.code yX2_start cX2_start 2 (some .int) ∈ lw_tbl := wLr9_in _ (List.mem_of_getElem? (i := 0) rfl)
theorem mw_193 : Cond.methodLink RX2 26 yX0_packed ∈ lw_tbl := wLr9_in _ (List.mem_of_getElem? (i := 1) rfl)
theorem mw_194 : Cond.instanceMethod yX0_packed ∈ lw_tbl := wLr9_in _ (List.mem_of_getElem? (i := 2) rfl)
theorem mw_195 : Cond.selects RX0 yX0_packed yX0_packed ∈ lw_tbl := wLr9_in _ (List.mem_of_getElem? (i := 3) rfl)
theorem mw_196 : Cond.code yX0_packed cX0_packed 2 (some .int) ∈ lw_tbl := wLr9_in _ (List.mem_of_getElem? (i := 4) rfl)
theorem mw_197 : Cond.methodLink RX6 73 yX0_part ∈ lw_tbl := wLr9_in _ (List.mem_of_getElem? (i := 5) rfl)
theorem mw_198 : Cond.instanceMethod yX0_part ∈ lw_tbl := wLr9_in _ (List.mem_of_getElem? (i := 6) rfl)
theorem mw_199 : Cond.selects RX0 yX0_part yX0_part ∈ lw_tbl := wLr9_in _ (List.mem_of_getElem? (i := 7) rfl)
theorem mw_200 : Cond.code yX0_part cX0_part 2 (some (.array .int)) ∈ lw_tbl := wLr9_in _ (List.mem_of_getElem? (i := 8) rfl)
theorem mw_201 : Cond.methodLink RX6 79 yX0_settle ∈ lw_tbl := wLr9_in _ (List.mem_of_getElem? (i := 9) rfl)
theorem mw_202 : Cond.instanceMethod yX0_settle ∈ lw_tbl := wLr9_in _ (List.mem_of_getElem? (i := 10) rfl)
theorem mw_203 : Cond.selects RX0 yX0_settle yX0_settle ∈ lw_tbl := wLr9_in _ (List.mem_of_getElem? (i := 11) rfl)
theorem mw_204 : Cond.code yX0_settle cX0_settle 2 none ∈ lw_tbl := wLr9_in _ (List.mem_of_getElem? (i := 12) rfl)
theorem mw_205 : Cond.methodLink RX0 45 Lib.Math.min.name ∈ lw_tbl := wLr9_in _ (List.mem_of_getElem? (i := 13) rfl)
theorem mw_206 : Cond.static Lib.Math.min.name ∈ lw_tbl := wLr9_in _ (List.mem_of_getElem? (i := 14) rfl)
theorem mw_207 : Cond.initialized "java/lang/Math" ∈ lw_tbl := wLr9_in _ (List.mem_of_getElem? (i := 15) rfl)
theorem mw_208 : Cond.code Lib.Math.min.name Lib.Math.min.code 2 (some .int) ∈ lw_tbl := wLr9_in _ (List.mem_of_getElem? (i := 16) rfl)
theorem mw_209 : Cond.methodLink RX0 41 yX0_room ∈ lw_tbl := wLr9_in _ (List.mem_of_getElem? (i := 17) rfl)
theorem mw_210 : Cond.instanceMethod yX0_room ∈ lw_tbl := wLr9_in _ (List.mem_of_getElem? (i := 18) rfl)
theorem mw_211 : Cond.selects RX0 yX0_room yX0_room ∈ lw_tbl := wLr9_in _ (List.mem_of_getElem? (i := 19) rfl)
theorem mw_212 : Cond.code yX0_room cX0_room 2 (some .int) ∈ lw_tbl := wLr9_in _ (List.mem_of_getElem? (i := 20) rfl)
theorem mw_213 : Cond.methodLink RX0 48 yX0_makeAlike ∈ lw_tbl := wLr9_in _ (List.mem_of_getElem? (i := 21) rfl)
theorem mw_214 : Cond.instanceMethod yX0_makeAlike ∈ lw_tbl := wLr9_in _ (List.mem_of_getElem? (i := 22) rfl)
theorem mw_215 : Cond.selects RX0 yX0_makeAlike yX0_makeAlike ∈ lw_tbl := wLr9_in _ (List.mem_of_getElem? (i := 23) rfl)
theorem mw_216 : Cond.code yX0_makeAlike cX0_makeAlike 4 none ∈ lw_tbl := wLr10_in _ (List.mem_of_getElem? (i := 0) rfl)
theorem mw_217 : Cond.methodLink RX6 85 yX2_keep ∈ lw_tbl := wLr10_in _ (List.mem_of_getElem? (i := 1) rfl)
theorem mw_218 : Cond.instanceMethod yX2_keep ∈ lw_tbl := wLr10_in _ (List.mem_of_getElem? (i := 2) rfl)
theorem mw_219 : Cond.selects RX2 yX2_keep yX2_keep ∈ lw_tbl := wLr10_in _ (List.mem_of_getElem? (i := 3) rfl)
theorem mw_220 : Cond.code yX2_keep cX2_keep 1 none ∈ lw_tbl := wLr10_in _ (List.mem_of_getElem? (i := 4) rfl)
theorem mw_221 : Cond.methodLink RL 17 yX7_sets ∈ lw_tbl := wLr10_in _ (List.mem_of_getElem? (i := 5) rfl)
theorem mw_222 : Cond.instanceMethod yX7_sets ∈ lw_tbl := wLr10_in _ (List.mem_of_getElem? (i := 6) rfl)
theorem mw_223 : Cond.selects RX7 yX7_sets yX7_sets ∈ lw_tbl := wLr10_in _ (List.mem_of_getElem? (i := 7) rfl)
theorem mw_224 : Cond.code yX7_sets cX7_sets 5 (some .int) ∈ lw_tbl := wLr10_in _ (List.mem_of_getElem? (i := 8) rfl)
theorem mw_225 : Cond.methodLink RX7 61 yX7_isCell ∈ lw_tbl := wLr10_in _ (List.mem_of_getElem? (i := 9) rfl)
theorem mw_226 : Cond.static yX7_isCell ∈ lw_tbl := wLr10_in _ (List.mem_of_getElem? (i := 10) rfl)
theorem mw_227 : Cond.code yX7_isCell cX7_isCell 1 (some .boolean) ∈ lw_tbl := wLr10_in _ (List.mem_of_getElem? (i := 11) rfl)
theorem mw_228 : Cond.methodLink RX7 49 yX7_in ∈ lw_tbl := wLr10_in _ (List.mem_of_getElem? (i := 12) rfl)
theorem mw_229 : Cond.static yX7_in ∈ lw_tbl := wLr10_in _ (List.mem_of_getElem? (i := 13) rfl)
theorem mw_230 : Cond.code yX7_in cX7_in 3 (some .boolean) ∈ lw_tbl := wLr10_in _ (List.mem_of_getElem? (i := 14) rfl)
theorem mw_231 : Cond.methodLink RX7 65 yX7_refuses ∈ lw_tbl := wLr10_in _ (List.mem_of_getElem? (i := 15) rfl)
theorem mw_232 : Cond.instanceMethod yX7_refuses ∈ lw_tbl := wLr10_in _ (List.mem_of_getElem? (i := 16) rfl)
theorem mw_233 : Cond.selects RX7 yX7_refuses yX7_refuses ∈ lw_tbl := wLr10_in _ (List.mem_of_getElem? (i := 17) rfl)
theorem mw_234 : Cond.code yX7_refuses cX7_refuses 2 (some .int) ∈ lw_tbl := wLr10_in _ (List.mem_of_getElem? (i := 18) rfl)
theorem mw_235 : Cond.methodLink RX7 68 yX7_aside ∈ lw_tbl := wLr10_in _ (List.mem_of_getElem? (i := 19) rfl)
theorem mw_236 : Cond.instanceMethod yX7_aside ∈ lw_tbl := wLr10_in _ (List.mem_of_getElem? (i := 20) rfl)
theorem mw_237 : Cond.selects RX7 yX7_aside yX7_aside ∈ lw_tbl := wLr10_in _ (List.mem_of_getElem? (i := 21) rfl)
theorem mw_238 : Cond.code yX7_aside cX7_aside 2 none ∈ lw_tbl := wLr10_in _ (List.mem_of_getElem? (i := 22) rfl)
theorem mw_239 : Cond.methodLink RX7 71 yX7_keeps ∈ lw_tbl := wLr10_in _ (List.mem_of_getElem? (i := 23) rfl)
theorem mw_240 : Cond.instanceMethod yX7_keeps ∈ lw_tbl := wLr11_in _ (List.mem_of_getElem? (i := 0) rfl)
theorem mw_241 : Cond.selects RX7 yX7_keeps yX7_keeps ∈ lw_tbl := wLr11_in _ (List.mem_of_getElem? (i := 1) rfl)
theorem mw_242 : Cond.code yX7_keeps cX7_keeps 2 none ∈ lw_tbl := wLr11_in _ (List.mem_of_getElem? (i := 2) rfl)
theorem mw_243 : Cond.fieldLink RX7 53 "FillCellsModel" "known" "I" ∈ lw_tbl := wLr11_in _ (List.mem_of_getElem? (i := 3) rfl)
theorem mw_244 : Cond.methodLink RX7 74 yX7_settles ∈ lw_tbl := wLr11_in _ (List.mem_of_getElem? (i := 4) rfl)
theorem mw_245 : Cond.instanceMethod yX7_settles ∈ lw_tbl := wLr11_in _ (List.mem_of_getElem? (i := 5) rfl)
theorem mw_246 : Cond.selects RX7 yX7_settles yX7_settles ∈ lw_tbl := wLr11_in _ (List.mem_of_getElem? (i := 6) rfl)
theorem mw_247 : Cond.code yX7_settles cX7_settles 4 none ∈ lw_tbl := wLr11_in _ (List.mem_of_getElem? (i := 7) rfl)
theorem mw_248 : Cond.methodLink RX7 57 yX7_sumOf ∈ lw_tbl := wLr11_in _ (List.mem_of_getElem? (i := 8) rfl)
theorem mw_249 : Cond.instanceMethod yX7_sumOf ∈ lw_tbl := wLr11_in _ (List.mem_of_getElem? (i := 9) rfl)
theorem mw_250 : Cond.selects RX7 yX7_sumOf yX7_sumOf ∈ lw_tbl := wLr11_in _ (List.mem_of_getElem? (i := 10) rfl)
theorem mw_251 : Cond.code yX7_sumOf cX7_sumOf 2 (some .int) ∈ lw_tbl := wLr11_in _ (List.mem_of_getElem? (i := 11) rfl)
theorem mw_252 : Cond.methodLink RL 18 yX6_draw ∈ lw_tbl := wLr11_in _ (List.mem_of_getElem? (i := 12) rfl)
theorem mw_253 : Cond.instanceMethod yX6_draw ∈ lw_tbl := wLr11_in _ (List.mem_of_getElem? (i := 13) rfl)
theorem mw_254 : Cond.selects RX6 yX6_draw yX6_draw ∈ lw_tbl := wLr11_in _ (List.mem_of_getElem? (i := 14) rfl)
theorem mw_255 : Cond.code yX6_draw cX6_draw 3 (some .int) ∈ lw_tbl := wLr11_in _ (List.mem_of_getElem? (i := 15) rfl)
theorem mw_256 : Cond.constant RX6 88 (999999) ∈ lw_tbl := wLr11_in _ (List.mem_of_getElem? (i := 16) rfl)
theorem mw_257 : Cond.fieldLink RX6 93 "FillCells$Field" "fill" "[I" ∈ lw_tbl := wLr11_in _ (List.mem_of_getElem? (i := 17) rfl)
theorem mw_258 : Cond.fieldLink RX6 101 "FillCells$Field" "shapes" "[I" ∈ lw_tbl := wLr11_in _ (List.mem_of_getElem? (i := 18) rfl)
theorem mw_259 : Cond.methodLink RX6 89 yX0_drawShapes ∈ lw_tbl := wLr11_in _ (List.mem_of_getElem? (i := 19) rfl)
theorem mw_260 : Cond.instanceMethod yX0_drawShapes ∈ lw_tbl := wLr11_in _ (List.mem_of_getElem? (i := 20) rfl)
theorem mw_261 : Cond.selects RX0 yX0_drawShapes yX0_drawShapes ∈ lw_tbl := wLr11_in _ (List.mem_of_getElem? (i := 21) rfl)
theorem mw_262 : Cond.code yX0_drawShapes cX0_drawShapes 7 none ∈ lw_tbl := wLr11_in _ (List.mem_of_getElem? (i := 22) rfl)
theorem mw_263 : Cond.methodLink RX0 27 Lib.Math.max.name ∈ lw_tbl := wLr11_in _ (List.mem_of_getElem? (i := 23) rfl)
theorem mw_264 : Cond.static Lib.Math.max.name ∈ lw_tbl := wLr12_in _ (List.mem_of_getElem? (i := 0) rfl)
theorem mw_265 : Cond.code Lib.Math.max.name Lib.Math.max.code 2 (some .int) ∈ lw_tbl := wLr12_in _ (List.mem_of_getElem? (i := 1) rfl)
theorem mw_266 : Cond.constantLong RX0 33 (1103515245) ∈ lw_tbl := wLr12_in _ (List.mem_of_getElem? (i := 2) rfl)
theorem mw_267 : Cond.constantLong RX0 35 (12345) ∈ lw_tbl := wLr12_in _ (List.mem_of_getElem? (i := 3) rfl)
theorem mw_268 : Cond.constantLong RX0 37 (2147483648) ∈ lw_tbl := wLr12_in _ (List.mem_of_getElem? (i := 4) rfl)
theorem mw_269 : Cond.constantLong RX0 39 (65536) ∈ lw_tbl := wLr12_in _ (List.mem_of_getElem? (i := 5) rfl)
theorem mw_270 : Cond.methodLink RX6 96 yJ7_fill_53178 ∈ lw_tbl := wLr12_in _ (List.mem_of_getElem? (i := 6) rfl)
theorem mw_271 : Cond.methodLink RX6 104 yX6_total ∈ lw_tbl := wLr12_in _ (List.mem_of_getElem? (i := 7) rfl)
theorem mw_272 : Cond.static yX6_total ∈ lw_tbl := wLr12_in _ (List.mem_of_getElem? (i := 8) rfl)
theorem mw_273 : Cond.code yX6_total cX6_total 6 (some .int) ∈ lw_tbl := wLr12_in _ (List.mem_of_getElem? (i := 9) rfl)
theorem mw_274 : Cond.methodLink RL 22 yX7_draw ∈ lw_tbl := wLr12_in _ (List.mem_of_getElem? (i := 10) rfl)
theorem mw_275 : Cond.instanceMethod yX7_draw ∈ lw_tbl := wLr12_in _ (List.mem_of_getElem? (i := 11) rfl)
theorem mw_276 : Cond.selects RX7 yX7_draw yX7_draw ∈ lw_tbl := wLr12_in _ (List.mem_of_getElem? (i := 12) rfl)
theorem mw_277 : Cond.code yX7_draw cX7_draw 7 (some .int) ∈ lw_tbl := wLr12_in _ (List.mem_of_getElem? (i := 13) rfl)
theorem mw_278 : Cond.constant RX7 77 (999999) ∈ lw_tbl := wLr12_in _ (List.mem_of_getElem? (i := 14) rfl)
theorem mw_279 : Cond.constantLong RX7 78 (1103515245) ∈ lw_tbl := wLr12_in _ (List.mem_of_getElem? (i := 15) rfl)
theorem mw_280 : Cond.constantLong RX7 80 (12345) ∈ lw_tbl := wLr12_in _ (List.mem_of_getElem? (i := 16) rfl)
theorem mw_281 : Cond.constantLong RX7 82 (2147483648) ∈ lw_tbl := wLr12_in _ (List.mem_of_getElem? (i := 17) rfl)
theorem mw_282 : Cond.constantLong RX7 84 (65536) ∈ lw_tbl := wLr12_in _ (List.mem_of_getElem? (i := 18) rfl)
theorem mw_283 : Cond.methodLink RL 23 yX6_empties ∈ lw_tbl := wLr12_in _ (List.mem_of_getElem? (i := 19) rfl)
theorem mw_284 : Cond.instanceMethod yX6_empties ∈ lw_tbl := wLr12_in _ (List.mem_of_getElem? (i := 20) rfl)
theorem mw_285 : Cond.selects RX6 yX6_empties yX6_empties ∈ lw_tbl := wLr12_in _ (List.mem_of_getElem? (i := 21) rfl)
theorem mw_286 : Cond.code yX6_empties cX6_empties 2 (some .int) ∈ lw_tbl := wLr12_in _ (List.mem_of_getElem? (i := 22) rfl)
theorem mw_287 : Cond.methodLink RL 27 yX7_empties ∈ lw_tbl := wLr12_in _ (List.mem_of_getElem? (i := 23) rfl)
theorem mw_288 : Cond.instanceMethod yX7_empties ∈ lw_tbl := wLr13_in _ (List.mem_of_getElem? (i := 0) rfl)
theorem mw_289 : Cond.selects RX7 yX7_empties yX7_empties ∈ lw_tbl := wLr13_in _ (List.mem_of_getElem? (i := 1) rfl)
theorem mw_290 : Cond.code yX7_empties cX7_empties 3 (some .int) ∈ lw_tbl := wLr13_in _ (List.mem_of_getElem? (i := 2) rfl)
theorem mw_291 : Cond.methodLink RX7 86 yX7_fillOf ∈ lw_tbl := wLr13_in _ (List.mem_of_getElem? (i := 3) rfl)
theorem mw_292 : Cond.instanceMethod yX7_fillOf ∈ lw_tbl := wLr13_in _ (List.mem_of_getElem? (i := 4) rfl)
theorem mw_293 : Cond.selects RX7 yX7_fillOf yX7_fillOf ∈ lw_tbl := wLr13_in _ (List.mem_of_getElem? (i := 5) rfl)
theorem mw_294 : Cond.code yX7_fillOf cX7_fillOf 3 (some .int) ∈ lw_tbl := wLr13_in _ (List.mem_of_getElem? (i := 6) rfl)
theorem mw_295 : Cond.methodLink RL 28 yX6_rules ∈ lw_tbl := wLr13_in _ (List.mem_of_getElem? (i := 7) rfl)
theorem mw_296 : Cond.instanceMethod yX6_rules ∈ lw_tbl := wLr13_in _ (List.mem_of_getElem? (i := 8) rfl)
theorem mw_297 : Cond.selects RX6 yX6_rules yX6_rules ∈ lw_tbl := wLr13_in _ (List.mem_of_getElem? (i := 9) rfl)
theorem mw_298 : Cond.code yX6_rules cX6_rules 4 (some .int) ∈ lw_tbl := wLr13_in _ (List.mem_of_getElem? (i := 10) rfl)
theorem mw_299 : Cond.fieldLink RX6 108 "FillCells" "SETTING_LEAST" "[I" ∈ lw_tbl := wLr13_in _ (List.mem_of_getElem? (i := 11) rfl)
theorem mw_300 : Cond.fieldLink RX6 111 "FillCells" "SETTING_MOST" "[I" ∈ lw_tbl := wLr13_in _ (List.mem_of_getElem? (i := 12) rfl)
theorem mw_301 : Cond.methodLink RL 31 yX7_rules ∈ lw_tbl := wLr13_in _ (List.mem_of_getElem? (i := 13) rfl)
theorem mw_302 : Cond.instanceMethod yX7_rules ∈ lw_tbl := wLr13_in _ (List.mem_of_getElem? (i := 14) rfl)
theorem mw_303 : Cond.selects RX7 yX7_rules yX7_rules ∈ lw_tbl := wLr13_in _ (List.mem_of_getElem? (i := 15) rfl)
theorem mw_304 : Cond.code yX7_rules cX7_rules 5 (some .int) ∈ lw_tbl := wLr13_in _ (List.mem_of_getElem? (i := 16) rfl)
theorem mw_305 : Cond.methodLink RL 32 yX6_of ∈ lw_tbl := wLr13_in _ (List.mem_of_getElem? (i := 17) rfl)
theorem mw_306 : Cond.instanceMethod yX6_of ∈ lw_tbl := wLr13_in _ (List.mem_of_getElem? (i := 18) rfl)
theorem mw_307 : Cond.selects RX6 yX6_of yX6_of ∈ lw_tbl := wLr13_in _ (List.mem_of_getElem? (i := 19) rfl)
theorem mw_308 : Cond.code yX6_of cX6_of 3 (some .int) ∈ lw_tbl := wLr13_in _ (List.mem_of_getElem? (i := 20) rfl)
theorem mw_309 : Cond.fieldLink RX6 121 "FillCells$Windows" "thinOver" "[I" ∈ lw_tbl := wLr13_in _ (List.mem_of_getElem? (i := 21) rfl)
theorem mw_310 : Cond.methodLink RX6 114 yX1_may ∈ lw_tbl := wLr13_in _ (List.mem_of_getElem? (i := 22) rfl)
theorem mw_311 : Cond.instanceMethod yX1_may ∈ lw_tbl := wLr13_in _ (List.mem_of_getElem? (i := 23) rfl)
theorem mw_312 : Cond.selects RX1 yX1_may yX1_may ∈ lw_tbl := wLr14_in _ (List.mem_of_getElem? (i := 0) rfl)
theorem mw_313 : Cond.code yX1_may cX1_may 3 (some .boolean) ∈ lw_tbl := wLr14_in _ (List.mem_of_getElem? (i := 1) rfl)
theorem mw_314 : Cond.fieldLink RX1 58 "FillCells$Field" "twins" "[I" ∈ lw_tbl := wLr14_in _ (List.mem_of_getElem? (i := 2) rfl)
theorem mw_315 : Cond.methodLink RX1 61 yX1_loneMay ∈ lw_tbl := wLr14_in _ (List.mem_of_getElem? (i := 3) rfl)
theorem mw_316 : Cond.instanceMethod yX1_loneMay ∈ lw_tbl := wLr14_in _ (List.mem_of_getElem? (i := 4) rfl)
theorem mw_317 : Cond.selects RX1 yX1_loneMay yX1_loneMay ∈ lw_tbl := wLr14_in _ (List.mem_of_getElem? (i := 5) rfl)
theorem mw_318 : Cond.code yX1_loneMay cX1_loneMay 2 (some .boolean) ∈ lw_tbl := wLr14_in _ (List.mem_of_getElem? (i := 6) rfl)
theorem mw_319 : Cond.fieldLink RX1 69 "FillCells$Field" "fill" "[I" ∈ lw_tbl := wLr14_in _ (List.mem_of_getElem? (i := 7) rfl)
theorem mw_320 : Cond.fieldLink RX1 76 "FillCells$Windows" "fullOver" "[I" ∈ lw_tbl := wLr14_in _ (List.mem_of_getElem? (i := 8) rfl)
theorem mw_321 : Cond.methodLink RX1 72 yX0_room ∈ lw_tbl := wLr14_in _ (List.mem_of_getElem? (i := 9) rfl)
theorem mw_322 : Cond.methodLink RX1 79 yX3_bear ∈ lw_tbl := wLr14_in _ (List.mem_of_getElem? (i := 10) rfl)
theorem mw_323 : Cond.instanceMethod yX3_bear ∈ lw_tbl := wLr14_in _ (List.mem_of_getElem? (i := 11) rfl)
theorem mw_324 : Cond.selects RX3 yX3_bear yX3_bear ∈ lw_tbl := wLr14_in _ (List.mem_of_getElem? (i := 12) rfl)
theorem mw_325 : Cond.code yX3_bear cX3_bear 5 (some .boolean) ∈ lw_tbl := wLr14_in _ (List.mem_of_getElem? (i := 13) rfl)
theorem mw_326 : Cond.methodLink RX3 48 yX3_gain ∈ lw_tbl := wLr14_in _ (List.mem_of_getElem? (i := 14) rfl)
theorem mw_327 : Cond.instanceMethod yX3_gain ∈ lw_tbl := wLr14_in _ (List.mem_of_getElem? (i := 15) rfl)
theorem mw_328 : Cond.selects RX3 yX3_gain yX3_gain ∈ lw_tbl := wLr14_in _ (List.mem_of_getElem? (i := 16) rfl)
theorem mw_329 : Cond.code yX3_gain cX3_gain 4 (some .int) ∈ lw_tbl := wLr14_in _ (List.mem_of_getElem? (i := 17) rfl)
theorem mw_330 : Cond.methodLink RX1 65 yX1_twinsMay ∈ lw_tbl := wLr14_in _ (List.mem_of_getElem? (i := 18) rfl)
theorem mw_331 : Cond.instanceMethod yX1_twinsMay ∈ lw_tbl := wLr14_in _ (List.mem_of_getElem? (i := 19) rfl)
theorem mw_332 : Cond.selects RX1 yX1_twinsMay yX1_twinsMay ∈ lw_tbl := wLr14_in _ (List.mem_of_getElem? (i := 20) rfl)
theorem mw_333 : Cond.code yX1_twinsMay cX1_twinsMay 4 (some .boolean) ∈ lw_tbl := wLr14_in _ (List.mem_of_getElem? (i := 21) rfl)
theorem mw_334 : Cond.methodLink RX1 82 yX5_bearTwins ∈ lw_tbl := wLr14_in _ (List.mem_of_getElem? (i := 22) rfl)
theorem mw_335 : Cond.instanceMethod yX5_bearTwins ∈ lw_tbl := wLr14_in _ (List.mem_of_getElem? (i := 23) rfl)
theorem mw_336 : Cond.selects RX5 yX5_bearTwins yX5_bearTwins ∈ lw_tbl := wLr15_in _ (List.mem_of_getElem? (i := 0) rfl)
theorem mw_337 : Cond.code yX5_bearTwins cX5_bearTwins 4 (some .boolean) ∈ lw_tbl := wLr15_in _ (List.mem_of_getElem? (i := 1) rfl)
theorem mw_338 : Cond.methodLink RL 35 yX7_of ∈ lw_tbl := wLr15_in _ (List.mem_of_getElem? (i := 2) rfl)
theorem mw_339 : Cond.instanceMethod yX7_of ∈ lw_tbl := wLr15_in _ (List.mem_of_getElem? (i := 3) rfl)
theorem mw_340 : Cond.selects RX7 yX7_of yX7_of ∈ lw_tbl := wLr15_in _ (List.mem_of_getElem? (i := 4) rfl)
theorem mw_341 : Cond.code yX7_of cX7_of 3 (some .int) ∈ lw_tbl := wLr15_in _ (List.mem_of_getElem? (i := 5) rfl)
theorem mw_342 : Cond.methodLink RX7 122 yX7_lays ∈ lw_tbl := wLr15_in _ (List.mem_of_getElem? (i := 6) rfl)
theorem mw_343 : Cond.instanceMethod yX7_lays ∈ lw_tbl := wLr15_in _ (List.mem_of_getElem? (i := 7) rfl)
theorem mw_344 : Cond.selects RX7 yX7_lays yX7_lays ∈ lw_tbl := wLr15_in _ (List.mem_of_getElem? (i := 8) rfl)
theorem mw_345 : Cond.code yX7_lays cX7_lays 1 none ∈ lw_tbl := wLr15_in _ (List.mem_of_getElem? (i := 9) rfl)
theorem mw_346 : Cond.methodLink RX7 103 yX7_laysSums ∈ lw_tbl := wLr15_in _ (List.mem_of_getElem? (i := 10) rfl)
theorem mw_347 : Cond.instanceMethod yX7_laysSums ∈ lw_tbl := wLr15_in _ (List.mem_of_getElem? (i := 11) rfl)
theorem mw_348 : Cond.selects RX7 yX7_laysSums yX7_laysSums ∈ lw_tbl := wLr15_in _ (List.mem_of_getElem? (i := 12) rfl)
theorem mw_349 : Cond.code yX7_laysSums cX7_laysSums 4 none ∈ lw_tbl := wLr15_in _ (List.mem_of_getElem? (i := 13) rfl)
theorem mw_350 : Cond.methodLink RX7 90 yX7_isWindow ∈ lw_tbl := wLr15_in _ (List.mem_of_getElem? (i := 14) rfl)
theorem mw_351 : Cond.instanceMethod yX7_isWindow ∈ lw_tbl := wLr15_in _ (List.mem_of_getElem? (i := 15) rfl)
theorem mw_352 : Cond.selects RX7 yX7_isWindow yX7_isWindow ∈ lw_tbl := wLr15_in _ (List.mem_of_getElem? (i := 16) rfl)
theorem mw_353 : Cond.code yX7_isWindow cX7_isWindow 2 (some .boolean) ∈ lw_tbl := wLr15_in _ (List.mem_of_getElem? (i := 17) rfl)
theorem mw_354 : Cond.methodLink RX7 106 yX7_laysThin ∈ lw_tbl := wLr15_in _ (List.mem_of_getElem? (i := 18) rfl)
theorem mw_355 : Cond.instanceMethod yX7_laysThin ∈ lw_tbl := wLr15_in _ (List.mem_of_getElem? (i := 19) rfl)
theorem mw_356 : Cond.selects RX7 yX7_laysThin yX7_laysThin ∈ lw_tbl := wLr15_in _ (List.mem_of_getElem? (i := 20) rfl)
theorem mw_357 : Cond.code yX7_laysThin cX7_laysThin 3 none ∈ lw_tbl := wLr15_in _ (List.mem_of_getElem? (i := 21) rfl)
theorem mw_358 : Cond.methodLink RX7 93 yX7_isThin ∈ lw_tbl := wLr15_in _ (List.mem_of_getElem? (i := 22) rfl)
theorem mw_359 : Cond.instanceMethod yX7_isThin ∈ lw_tbl := wLr15_in _ (List.mem_of_getElem? (i := 23) rfl)
theorem mw_360 : Cond.selects RX7 yX7_isThin yX7_isThin ∈ lw_tbl := wLr16_in _ (List.mem_of_getElem? (i := 0) rfl)
theorem mw_361 : Cond.code yX7_isThin cX7_isThin 2 (some .boolean) ∈ lw_tbl := wLr16_in _ (List.mem_of_getElem? (i := 1) rfl)
theorem mw_362 : Cond.methodLink RX7 109 yX7_laysBurdens ∈ lw_tbl := wLr16_in _ (List.mem_of_getElem? (i := 2) rfl)
theorem mw_363 : Cond.instanceMethod yX7_laysBurdens ∈ lw_tbl := wLr16_in _ (List.mem_of_getElem? (i := 3) rfl)
theorem mw_364 : Cond.selects RX7 yX7_laysBurdens yX7_laysBurdens ∈ lw_tbl := wLr16_in _ (List.mem_of_getElem? (i := 4) rfl)
theorem mw_365 : Cond.code yX7_laysBurdens cX7_laysBurdens 3 none ∈ lw_tbl := wLr16_in _ (List.mem_of_getElem? (i := 5) rfl)
theorem mw_366 : Cond.methodLink RX7 100 yX7_isBurden ∈ lw_tbl := wLr16_in _ (List.mem_of_getElem? (i := 6) rfl)
theorem mw_367 : Cond.instanceMethod yX7_isBurden ∈ lw_tbl := wLr16_in _ (List.mem_of_getElem? (i := 7) rfl)
theorem mw_368 : Cond.selects RX7 yX7_isBurden yX7_isBurden ∈ lw_tbl := wLr16_in _ (List.mem_of_getElem? (i := 8) rfl)
theorem mw_369 : Cond.code yX7_isBurden cX7_isBurden 3 (some .boolean) ∈ lw_tbl := wLr16_in _ (List.mem_of_getElem? (i := 9) rfl)
theorem mw_370 : Cond.methodLink RX7 96 yX7_liesBeside ∈ lw_tbl := wLr16_in _ (List.mem_of_getElem? (i := 10) rfl)
theorem mw_371 : Cond.instanceMethod yX7_liesBeside ∈ lw_tbl := wLr16_in _ (List.mem_of_getElem? (i := 11) rfl)
theorem mw_372 : Cond.selects RX7 yX7_liesBeside yX7_liesBeside ∈ lw_tbl := wLr16_in _ (List.mem_of_getElem? (i := 12) rfl)
theorem mw_373 : Cond.code yX7_liesBeside cX7_liesBeside 4 (some .boolean) ∈ lw_tbl := wLr16_in _ (List.mem_of_getElem? (i := 13) rfl)
theorem mw_374 : Cond.methodLink RX7 125 yX7_may ∈ lw_tbl := wLr16_in _ (List.mem_of_getElem? (i := 14) rfl)
theorem mw_375 : Cond.instanceMethod yX7_may ∈ lw_tbl := wLr16_in _ (List.mem_of_getElem? (i := 15) rfl)
theorem mw_376 : Cond.selects RX7 yX7_may yX7_may ∈ lw_tbl := wLr16_in _ (List.mem_of_getElem? (i := 16) rfl)
theorem mw_377 : Cond.code yX7_may cX7_may 5 (some .boolean) ∈ lw_tbl := wLr16_in _ (List.mem_of_getElem? (i := 17) rfl)
theorem mw_378 : Cond.fieldLink RX7 112 "FillCellsModel" "size" "I" ∈ lw_tbl := wLr16_in _ (List.mem_of_getElem? (i := 18) rfl)
theorem mw_379 : Cond.methodLink RX7 115 yX7_marks ∈ lw_tbl := wLr16_in _ (List.mem_of_getElem? (i := 19) rfl)
theorem mw_380 : Cond.instanceMethod yX7_marks ∈ lw_tbl := wLr16_in _ (List.mem_of_getElem? (i := 20) rfl)
theorem mw_381 : Cond.selects RX7 yX7_marks yX7_marks ∈ lw_tbl := wLr16_in _ (List.mem_of_getElem? (i := 21) rfl)
theorem mw_382 : Cond.code yX7_marks cX7_marks 4 none ∈ lw_tbl := wLr16_in _ (List.mem_of_getElem? (i := 22) rfl)
theorem mw_383 : Cond.methodLink RX7 119 yX7_manyIn ∈ lw_tbl := wLr16_in _ (List.mem_of_getElem? (i := 23) rfl)
theorem mw_384 : Cond.instanceMethod yX7_manyIn ∈ lw_tbl := wLr17_in _ (List.mem_of_getElem? (i := 0) rfl)
theorem mw_385 : Cond.selects RX7 yX7_manyIn yX7_manyIn ∈ lw_tbl := wLr17_in _ (List.mem_of_getElem? (i := 1) rfl)
theorem mw_386 : Cond.code yX7_manyIn cX7_manyIn 4 (some .int) ∈ lw_tbl := wLr17_in _ (List.mem_of_getElem? (i := 2) rfl)
theorem mw_387 : Cond.methodLink RL 36 yX6_sum ∈ lw_tbl := wLr17_in _ (List.mem_of_getElem? (i := 3) rfl)
theorem mw_388 : Cond.instanceMethod yX6_sum ∈ lw_tbl := wLr17_in _ (List.mem_of_getElem? (i := 4) rfl)
theorem mw_389 : Cond.selects RX6 yX6_sum yX6_sum ∈ lw_tbl := wLr17_in _ (List.mem_of_getElem? (i := 5) rfl)
theorem mw_390 : Cond.code yX6_sum cX6_sum 2 (some .int) ∈ lw_tbl := wLr17_in _ (List.mem_of_getElem? (i := 6) rfl)
theorem mw_391 : Cond.fieldLink RX6 126 "FillCells$Windows" "sums" "[I" ∈ lw_tbl := wLr17_in _ (List.mem_of_getElem? (i := 7) rfl)
theorem mw_392 : Cond.methodLink RL 40 yX7_sum ∈ lw_tbl := wLr17_in _ (List.mem_of_getElem? (i := 8) rfl)
theorem mw_393 : Cond.instanceMethod yX7_sum ∈ lw_tbl := wLr17_in _ (List.mem_of_getElem? (i := 9) rfl)
theorem mw_394 : Cond.selects RX7 yX7_sum yX7_sum ∈ lw_tbl := wLr17_in _ (List.mem_of_getElem? (i := 10) rfl)
theorem mw_395 : Cond.code yX7_sum cX7_sum 2 (some .int) ∈ lw_tbl := wLr17_in _ (List.mem_of_getElem? (i := 11) rfl)
theorem mw_396 : Cond.methodLink RL 41 yX6_windows ∈ lw_tbl := wLr17_in _ (List.mem_of_getElem? (i := 12) rfl)
theorem mw_397 : Cond.instanceMethod yX6_windows ∈ lw_tbl := wLr17_in _ (List.mem_of_getElem? (i := 13) rfl)
theorem mw_398 : Cond.selects RX6 yX6_windows yX6_windows ∈ lw_tbl := wLr17_in _ (List.mem_of_getElem? (i := 14) rfl)
theorem mw_399 : Cond.code yX6_windows cX6_windows 2 (some .int) ∈ lw_tbl := wLr17_in _ (List.mem_of_getElem? (i := 15) rfl)
theorem mw_400 : Cond.methodLink RX6 129 yX5_count ∈ lw_tbl := wLr17_in _ (List.mem_of_getElem? (i := 16) rfl)
theorem mw_401 : Cond.instanceMethod yX5_count ∈ lw_tbl := wLr17_in _ (List.mem_of_getElem? (i := 17) rfl)
theorem mw_402 : Cond.selects RX5 yX5_count yX5_count ∈ lw_tbl := wLr17_in _ (List.mem_of_getElem? (i := 18) rfl)
theorem mw_403 : Cond.code yX5_count cX5_count 1 (some .int) ∈ lw_tbl := wLr17_in _ (List.mem_of_getElem? (i := 19) rfl)
theorem mw_404 : Cond.methodLink RX6 133 yX5_countThin ∈ lw_tbl := wLr17_in _ (List.mem_of_getElem? (i := 20) rfl)
theorem mw_405 : Cond.instanceMethod yX5_countThin ∈ lw_tbl := wLr17_in _ (List.mem_of_getElem? (i := 21) rfl)
theorem mw_406 : Cond.selects RX5 yX5_countThin yX5_countThin ∈ lw_tbl := wLr17_in _ (List.mem_of_getElem? (i := 22) rfl)
theorem mw_407 : Cond.code yX5_countThin cX5_countThin 3 (some .int) ∈ lw_tbl := wLr17_in _ (List.mem_of_getElem? (i := 23) rfl)
theorem mw_408 : Cond.methodLink RX6 136 yX5_countThick ∈ lw_tbl := wLr18_in _ (List.mem_of_getElem? (i := 0) rfl)
theorem mw_409 : Cond.instanceMethod yX5_countThick ∈ lw_tbl := wLr18_in _ (List.mem_of_getElem? (i := 1) rfl)
theorem mw_410 : Cond.selects RX5 yX5_countThick yX5_countThick ∈ lw_tbl := wLr18_in _ (List.mem_of_getElem? (i := 2) rfl)
theorem mw_411 : Cond.code yX5_countThick cX5_countThick 3 (some .int) ∈ lw_tbl := wLr18_in _ (List.mem_of_getElem? (i := 3) rfl)
theorem mw_412 : Cond.methodLink RX6 139 yX5_countUnlike ∈ lw_tbl := wLr18_in _ (List.mem_of_getElem? (i := 4) rfl)
theorem mw_413 : Cond.instanceMethod yX5_countUnlike ∈ lw_tbl := wLr18_in _ (List.mem_of_getElem? (i := 5) rfl)
theorem mw_414 : Cond.selects RX5 yX5_countUnlike yX5_countUnlike ∈ lw_tbl := wLr18_in _ (List.mem_of_getElem? (i := 6) rfl)
theorem mw_415 : Cond.code yX5_countUnlike cX5_countUnlike 3 (some .int) ∈ lw_tbl := wLr18_in _ (List.mem_of_getElem? (i := 7) rfl)
theorem mw_416 : Cond.methodLink RX5 91 yX5_sumAbove ∈ lw_tbl := wLr18_in _ (List.mem_of_getElem? (i := 8) rfl)
theorem mw_417 : Cond.instanceMethod yX5_sumAbove ∈ lw_tbl := wLr18_in _ (List.mem_of_getElem? (i := 9) rfl)
theorem mw_418 : Cond.selects RX5 yX5_sumAbove yX5_sumAbove ∈ lw_tbl := wLr18_in _ (List.mem_of_getElem? (i := 10) rfl)
theorem mw_419 : Cond.code yX5_sumAbove cX5_sumAbove 4 (some .int) ∈ lw_tbl := wLr18_in _ (List.mem_of_getElem? (i := 11) rfl)
theorem mw_420 : Cond.methodLink RL 44 yX7_windows ∈ lw_tbl := wLr18_in _ (List.mem_of_getElem? (i := 12) rfl)
theorem mw_421 : Cond.instanceMethod yX7_windows ∈ lw_tbl := wLr18_in _ (List.mem_of_getElem? (i := 13) rfl)
theorem mw_422 : Cond.selects RX7 yX7_windows yX7_windows ∈ lw_tbl := wLr18_in _ (List.mem_of_getElem? (i := 14) rfl)
theorem mw_423 : Cond.code yX7_windows cX7_windows 2 (some .int) ∈ lw_tbl := wLr18_in _ (List.mem_of_getElem? (i := 15) rfl)
theorem mw_424 : Cond.methodLink RX7 128 yX7_windowsNow ∈ lw_tbl := wLr18_in _ (List.mem_of_getElem? (i := 16) rfl)
theorem mw_425 : Cond.instanceMethod yX7_windowsNow ∈ lw_tbl := wLr18_in _ (List.mem_of_getElem? (i := 17) rfl)
theorem mw_426 : Cond.selects RX7 yX7_windowsNow yX7_windowsNow ∈ lw_tbl := wLr18_in _ (List.mem_of_getElem? (i := 18) rfl)
theorem mw_427 : Cond.code yX7_windowsNow cX7_windowsNow 6 (some .int) ∈ lw_tbl := wLr18_in _ (List.mem_of_getElem? (i := 19) rfl)
theorem mw_428 : Cond.methodLink RL 45 yX6_worst ∈ lw_tbl := wLr18_in _ (List.mem_of_getElem? (i := 20) rfl)
theorem mw_429 : Cond.instanceMethod yX6_worst ∈ lw_tbl := wLr18_in _ (List.mem_of_getElem? (i := 21) rfl)
theorem mw_430 : Cond.selects RX6 yX6_worst yX6_worst ∈ lw_tbl := wLr18_in _ (List.mem_of_getElem? (i := 22) rfl)
theorem mw_431 : Cond.code yX6_worst cX6_worst 2 (some .int) ∈ lw_tbl := wLr18_in _ (List.mem_of_getElem? (i := 23) rfl)
theorem mw_432 : Cond.methodLink RX6 142 yX5_atLeast ∈ lw_tbl := wLr19_in _ (List.mem_of_getElem? (i := 0) rfl)
theorem mw_433 : Cond.instanceMethod yX5_atLeast ∈ lw_tbl := wLr19_in _ (List.mem_of_getElem? (i := 1) rfl)
theorem mw_434 : Cond.selects RX5 yX5_atLeast yX5_atLeast ∈ lw_tbl := wLr19_in _ (List.mem_of_getElem? (i := 2) rfl)
theorem mw_435 : Cond.code yX5_atLeast cX5_atLeast 3 (some .int) ∈ lw_tbl := wLr19_in _ (List.mem_of_getElem? (i := 3) rfl)
theorem mw_436 : Cond.methodLink RX6 145 yX5_atGreatest ∈ lw_tbl := wLr19_in _ (List.mem_of_getElem? (i := 4) rfl)
theorem mw_437 : Cond.instanceMethod yX5_atGreatest ∈ lw_tbl := wLr19_in _ (List.mem_of_getElem? (i := 5) rfl)
theorem mw_438 : Cond.selects RX5 yX5_atGreatest yX5_atGreatest ∈ lw_tbl := wLr19_in _ (List.mem_of_getElem? (i := 6) rfl)
theorem mw_439 : Cond.code yX5_atGreatest cX5_atGreatest 3 (some .int) ∈ lw_tbl := wLr19_in _ (List.mem_of_getElem? (i := 7) rfl)
theorem mw_440 : Cond.methodLink RL 48 yX7_worst ∈ lw_tbl := wLr19_in _ (List.mem_of_getElem? (i := 8) rfl)
theorem mw_441 : Cond.instanceMethod yX7_worst ∈ lw_tbl := wLr19_in _ (List.mem_of_getElem? (i := 9) rfl)
theorem mw_442 : Cond.selects RX7 yX7_worst yX7_worst ∈ lw_tbl := wLr19_in _ (List.mem_of_getElem? (i := 10) rfl)
theorem mw_443 : Cond.code yX7_worst cX7_worst 5 (some .int) ∈ lw_tbl := wLr19_in _ (List.mem_of_getElem? (i := 11) rfl)
theorem mw_444 : Cond.methodLink RL 49 yX6_order ∈ lw_tbl := wLr19_in _ (List.mem_of_getElem? (i := 12) rfl)
theorem mw_445 : Cond.instanceMethod yX6_order ∈ lw_tbl := wLr19_in _ (List.mem_of_getElem? (i := 13) rfl)
theorem mw_446 : Cond.selects RX6 yX6_order yX6_order ∈ lw_tbl := wLr19_in _ (List.mem_of_getElem? (i := 14) rfl)
theorem mw_447 : Cond.code yX6_order cX6_order 4 (some .int) ∈ lw_tbl := wLr19_in _ (List.mem_of_getElem? (i := 15) rfl)
theorem mw_448 : Cond.methodLink RX6 148 yX5_unlikeSum ∈ lw_tbl := wLr19_in _ (List.mem_of_getElem? (i := 16) rfl)
theorem mw_449 : Cond.instanceMethod yX5_unlikeSum ∈ lw_tbl := wLr19_in _ (List.mem_of_getElem? (i := 17) rfl)
theorem mw_450 : Cond.selects RX5 yX5_unlikeSum yX5_unlikeSum ∈ lw_tbl := wLr19_in _ (List.mem_of_getElem? (i := 18) rfl)
theorem mw_451 : Cond.code yX5_unlikeSum cX5_unlikeSum 4 (some .int) ∈ lw_tbl := wLr19_in _ (List.mem_of_getElem? (i := 19) rfl)
theorem mw_452 : Cond.methodLink RX6 151 yX5_countOf ∈ lw_tbl := wLr19_in _ (List.mem_of_getElem? (i := 20) rfl)
theorem mw_453 : Cond.instanceMethod yX5_countOf ∈ lw_tbl := wLr19_in _ (List.mem_of_getElem? (i := 21) rfl)
theorem mw_454 : Cond.selects RX5 yX5_countOf yX5_countOf ∈ lw_tbl := wLr19_in _ (List.mem_of_getElem? (i := 22) rfl)
theorem mw_455 : Cond.code yX5_countOf cX5_countOf 4 (some .int) ∈ lw_tbl := wLr19_in _ (List.mem_of_getElem? (i := 23) rfl)
theorem mw_456 : Cond.methodLink RL 52 yX7_order ∈ lw_tbl := wLr20_in _ (List.mem_of_getElem? (i := 0) rfl)
theorem mw_457 : Cond.instanceMethod yX7_order ∈ lw_tbl := wLr20_in _ (List.mem_of_getElem? (i := 1) rfl)
theorem mw_458 : Cond.selects RX7 yX7_order yX7_order ∈ lw_tbl := wLr20_in _ (List.mem_of_getElem? (i := 2) rfl)
theorem mw_459 : Cond.code yX7_order cX7_order 6 (some .int) ∈ lw_tbl := wLr20_in _ (List.mem_of_getElem? (i := 3) rfl)
theorem mw_460 : Cond.methodLink RX7 131 yX7_lessThan ∈ lw_tbl := wLr20_in _ (List.mem_of_getElem? (i := 4) rfl)
theorem mw_461 : Cond.instanceMethod yX7_lessThan ∈ lw_tbl := wLr20_in _ (List.mem_of_getElem? (i := 5) rfl)
theorem mw_462 : Cond.selects RX7 yX7_lessThan yX7_lessThan ∈ lw_tbl := wLr20_in _ (List.mem_of_getElem? (i := 6) rfl)
theorem mw_463 : Cond.code yX7_lessThan cX7_lessThan 7 (some .int) ∈ lw_tbl := wLr20_in _ (List.mem_of_getElem? (i := 7) rfl)
theorem mw_464 : Cond.methodLink RL 53 yX6_turn ∈ lw_tbl := wLr20_in _ (List.mem_of_getElem? (i := 8) rfl)
theorem mw_465 : Cond.instanceMethod yX6_turn ∈ lw_tbl := wLr20_in _ (List.mem_of_getElem? (i := 9) rfl)
theorem mw_466 : Cond.selects RX6 yX6_turn yX6_turn ∈ lw_tbl := wLr20_in _ (List.mem_of_getElem? (i := 10) rfl)
theorem mw_467 : Cond.code yX6_turn cX6_turn 2 (some .int) ∈ lw_tbl := wLr20_in _ (List.mem_of_getElem? (i := 11) rfl)
theorem mw_468 : Cond.methodLink RX6 154 yX5_rising ∈ lw_tbl := wLr20_in _ (List.mem_of_getElem? (i := 12) rfl)
theorem mw_469 : Cond.instanceMethod yX5_rising ∈ lw_tbl := wLr20_in _ (List.mem_of_getElem? (i := 13) rfl)
theorem mw_470 : Cond.selects RX5 yX5_rising yX5_rising ∈ lw_tbl := wLr20_in _ (List.mem_of_getElem? (i := 14) rfl)
theorem mw_471 : Cond.code yX5_rising cX5_rising 6 (some .int) ∈ lw_tbl := wLr20_in _ (List.mem_of_getElem? (i := 15) rfl)
theorem mw_472 : Cond.methodLink RX5 94 yX5_countOf ∈ lw_tbl := wLr20_in _ (List.mem_of_getElem? (i := 16) rfl)
theorem mw_473 : Cond.methodLink RX5 97 yX5_likeOne ∈ lw_tbl := wLr20_in _ (List.mem_of_getElem? (i := 17) rfl)
theorem mw_474 : Cond.instanceMethod yX5_likeOne ∈ lw_tbl := wLr20_in _ (List.mem_of_getElem? (i := 18) rfl)
theorem mw_475 : Cond.selects RX5 yX5_likeOne yX5_likeOne ∈ lw_tbl := wLr20_in _ (List.mem_of_getElem? (i := 19) rfl)
theorem mw_476 : Cond.code yX5_likeOne cX5_likeOne 5 (some .int) ∈ lw_tbl := wLr20_in _ (List.mem_of_getElem? (i := 20) rfl)
theorem mw_477 : Cond.methodLink RL 56 yX7_turn ∈ lw_tbl := wLr20_in _ (List.mem_of_getElem? (i := 21) rfl)
theorem mw_478 : Cond.instanceMethod yX7_turn ∈ lw_tbl := wLr20_in _ (List.mem_of_getElem? (i := 22) rfl)
theorem mw_479 : Cond.selects RX7 yX7_turn yX7_turn ∈ lw_tbl := wLr20_in _ (List.mem_of_getElem? (i := 23) rfl)
theorem mw_480 : Cond.code yX7_turn cX7_turn 6 (some .int) ∈ lw_tbl := wLr21_in _ (List.mem_of_getElem? (i := 0) rfl)
theorem mw_481 : Cond.methodLink RL 57 yX6_burden ∈ lw_tbl := wLr21_in _ (List.mem_of_getElem? (i := 1) rfl)
theorem mw_482 : Cond.instanceMethod yX6_burden ∈ lw_tbl := wLr21_in _ (List.mem_of_getElem? (i := 2) rfl)
theorem mw_483 : Cond.selects RX6 yX6_burden yX6_burden ∈ lw_tbl := wLr21_in _ (List.mem_of_getElem? (i := 3) rfl)
theorem mw_484 : Cond.code yX6_burden cX6_burden 2 (some .int) ∈ lw_tbl := wLr21_in _ (List.mem_of_getElem? (i := 4) rfl)
theorem mw_485 : Cond.fieldLink RX6 161 "FillCells$Nets" "burdens" "[I" ∈ lw_tbl := wLr21_in _ (List.mem_of_getElem? (i := 5) rfl)
theorem mw_486 : Cond.methodLink RL 60 yX7_burden ∈ lw_tbl := wLr21_in _ (List.mem_of_getElem? (i := 6) rfl)
theorem mw_487 : Cond.instanceMethod yX7_burden ∈ lw_tbl := wLr21_in _ (List.mem_of_getElem? (i := 7) rfl)
theorem mw_488 : Cond.selects RX7 yX7_burden yX7_burden ∈ lw_tbl := wLr21_in _ (List.mem_of_getElem? (i := 8) rfl)
theorem mw_489 : Cond.code yX7_burden cX7_burden 2 (some .int) ∈ lw_tbl := wLr21_in _ (List.mem_of_getElem? (i := 9) rfl)
theorem mw_490 : Cond.methodLink RL 61 yX6_all ∈ lw_tbl := wLr21_in _ (List.mem_of_getElem? (i := 10) rfl)
theorem mw_491 : Cond.instanceMethod yX6_all ∈ lw_tbl := wLr21_in _ (List.mem_of_getElem? (i := 11) rfl)
theorem mw_492 : Cond.selects RX6 yX6_all yX6_all ∈ lw_tbl := wLr21_in _ (List.mem_of_getElem? (i := 12) rfl)
theorem mw_493 : Cond.code yX6_all cX6_all 2 (some .int) ∈ lw_tbl := wLr21_in _ (List.mem_of_getElem? (i := 13) rfl)
theorem mw_494 : Cond.fieldLink RX6 169 "FillCells$Field" "shut" "[I" ∈ lw_tbl := wLr21_in _ (List.mem_of_getElem? (i := 14) rfl)
theorem mw_495 : Cond.methodLink RX6 166 yX0_countFilled ∈ lw_tbl := wLr21_in _ (List.mem_of_getElem? (i := 15) rfl)
theorem mw_496 : Cond.instanceMethod yX0_countFilled ∈ lw_tbl := wLr21_in _ (List.mem_of_getElem? (i := 16) rfl)
theorem mw_497 : Cond.selects RX0 yX0_countFilled yX0_countFilled ∈ lw_tbl := wLr21_in _ (List.mem_of_getElem? (i := 17) rfl)
theorem mw_498 : Cond.code yX0_countFilled cX0_countFilled 3 (some .int) ∈ lw_tbl := wLr21_in _ (List.mem_of_getElem? (i := 18) rfl)
theorem mw_499 : Cond.methodLink RL 64 yX7_all ∈ lw_tbl := wLr21_in _ (List.mem_of_getElem? (i := 19) rfl)
theorem mw_500 : Cond.instanceMethod yX7_all ∈ lw_tbl := wLr21_in _ (List.mem_of_getElem? (i := 20) rfl)
theorem mw_501 : Cond.selects RX7 yX7_all yX7_all ∈ lw_tbl := wLr21_in _ (List.mem_of_getElem? (i := 21) rfl)
theorem mw_502 : Cond.code yX7_all cX7_all 4 (some .int) ∈ lw_tbl := wLr21_in _ (List.mem_of_getElem? (i := 22) rfl)
theorem mw_503 : Cond.methodLink RL 65 yX6_more ∈ lw_tbl := wLr21_in _ (List.mem_of_getElem? (i := 23) rfl)
theorem mw_504 : Cond.instanceMethod yX6_more ∈ lw_tbl := wLr22_in _ (List.mem_of_getElem? (i := 0) rfl)
theorem mw_505 : Cond.selects RX6 yX6_more yX6_more ∈ lw_tbl := wLr22_in _ (List.mem_of_getElem? (i := 1) rfl)
theorem mw_506 : Cond.code yX6_more cX6_more 2 (some .int) ∈ lw_tbl := wLr22_in _ (List.mem_of_getElem? (i := 2) rfl)
theorem mw_507 : Cond.methodLink RX6 172 yX6_changeFamily ∈ lw_tbl := wLr22_in _ (List.mem_of_getElem? (i := 3) rfl)
theorem mw_508 : Cond.instanceMethod yX6_changeFamily ∈ lw_tbl := wLr22_in _ (List.mem_of_getElem? (i := 4) rfl)
theorem mw_509 : Cond.selects RX6 yX6_changeFamily yX6_changeFamily ∈ lw_tbl := wLr22_in _ (List.mem_of_getElem? (i := 5) rfl)
theorem mw_510 : Cond.code yX6_changeFamily cX6_changeFamily 3 (some .int) ∈ lw_tbl := wLr22_in _ (List.mem_of_getElem? (i := 6) rfl)
theorem mw_511 : Cond.methodLink RX6 236 yX1_change ∈ lw_tbl := wLr22_in _ (List.mem_of_getElem? (i := 7) rfl)
theorem mw_512 : Cond.instanceMethod yX1_change ∈ lw_tbl := wLr22_in _ (List.mem_of_getElem? (i := 8) rfl)
theorem mw_513 : Cond.selects RX1 yX1_change yX1_change ∈ lw_tbl := wLr22_in _ (List.mem_of_getElem? (i := 9) rfl)
theorem mw_514 : Cond.code yX1_change cX1_change 5 none ∈ lw_tbl := wLr22_in _ (List.mem_of_getElem? (i := 10) rfl)
theorem mw_515 : Cond.methodLink RX1 121 yX5_shift ∈ lw_tbl := wLr22_in _ (List.mem_of_getElem? (i := 11) rfl)
theorem mw_516 : Cond.instanceMethod yX5_shift ∈ lw_tbl := wLr22_in _ (List.mem_of_getElem? (i := 12) rfl)
theorem mw_517 : Cond.selects RX5 yX5_shift yX5_shift ∈ lw_tbl := wLr22_in _ (List.mem_of_getElem? (i := 13) rfl)
theorem mw_518 : Cond.code yX5_shift cX5_shift 9 none ∈ lw_tbl := wLr22_in _ (List.mem_of_getElem? (i := 14) rfl)
theorem mw_519 : Cond.methodLink RX5 74 Lib.Math.min.name ∈ lw_tbl := wLr22_in _ (List.mem_of_getElem? (i := 15) rfl)
theorem mw_520 : Cond.methodLink RX5 80 Lib.Math.max.name ∈ lw_tbl := wLr22_in _ (List.mem_of_getElem? (i := 16) rfl)
theorem mw_521 : Cond.methodLink RX5 83 yX5_shiftOne ∈ lw_tbl := wLr22_in _ (List.mem_of_getElem? (i := 17) rfl)
theorem mw_522 : Cond.instanceMethod yX5_shiftOne ∈ lw_tbl := wLr22_in _ (List.mem_of_getElem? (i := 18) rfl)
theorem mw_523 : Cond.selects RX5 yX5_shiftOne yX5_shiftOne ∈ lw_tbl := wLr22_in _ (List.mem_of_getElem? (i := 19) rfl)
theorem mw_524 : Cond.code yX5_shiftOne cX5_shiftOne 5 none ∈ lw_tbl := wLr22_in _ (List.mem_of_getElem? (i := 20) rfl)
theorem mw_525 : Cond.methodLink RX1 125 yX3_shift ∈ lw_tbl := wLr22_in _ (List.mem_of_getElem? (i := 21) rfl)
theorem mw_526 : Cond.methodLink RL 68 yX7_more ∈ lw_tbl := wLr22_in _ (List.mem_of_getElem? (i := 22) rfl)
theorem mw_527 : Cond.instanceMethod yX7_more ∈ lw_tbl := wLr22_in _ (List.mem_of_getElem? (i := 23) rfl)
theorem mw_528 : Cond.selects RX7 yX7_more yX7_more ∈ lw_tbl := wLr23_in _ (List.mem_of_getElem? (i := 0) rfl)
theorem mw_529 : Cond.code yX7_more cX7_more 2 (some .int) ∈ lw_tbl := wLr23_in _ (List.mem_of_getElem? (i := 1) rfl)
theorem mw_530 : Cond.methodLink RX7 135 yX7_fills ∈ lw_tbl := wLr23_in _ (List.mem_of_getElem? (i := 2) rfl)
theorem mw_531 : Cond.instanceMethod yX7_fills ∈ lw_tbl := wLr23_in _ (List.mem_of_getElem? (i := 3) rfl)
theorem mw_532 : Cond.selects RX7 yX7_fills yX7_fills ∈ lw_tbl := wLr23_in _ (List.mem_of_getElem? (i := 4) rfl)
theorem mw_533 : Cond.code yX7_fills cX7_fills 3 none ∈ lw_tbl := wLr23_in _ (List.mem_of_getElem? (i := 5) rfl)
theorem mw_534 : Cond.methodLink RL 69 yX6_less ∈ lw_tbl := wLr23_in _ (List.mem_of_getElem? (i := 6) rfl)
theorem mw_535 : Cond.instanceMethod yX6_less ∈ lw_tbl := wLr23_in _ (List.mem_of_getElem? (i := 7) rfl)
theorem mw_536 : Cond.selects RX6 yX6_less yX6_less ∈ lw_tbl := wLr23_in _ (List.mem_of_getElem? (i := 8) rfl)
theorem mw_537 : Cond.code yX6_less cX6_less 2 (some .int) ∈ lw_tbl := wLr23_in _ (List.mem_of_getElem? (i := 9) rfl)
theorem mw_538 : Cond.methodLink RL 72 yX7_less ∈ lw_tbl := wLr23_in _ (List.mem_of_getElem? (i := 10) rfl)
theorem mw_539 : Cond.instanceMethod yX7_less ∈ lw_tbl := wLr23_in _ (List.mem_of_getElem? (i := 11) rfl)
theorem mw_540 : Cond.selects RX7 yX7_less yX7_less ∈ lw_tbl := wLr23_in _ (List.mem_of_getElem? (i := 12) rfl)
theorem mw_541 : Cond.code yX7_less cX7_less 2 (some .int) ∈ lw_tbl := wLr23_in _ (List.mem_of_getElem? (i := 13) rfl)
theorem mw_542 : Cond.methodLink RL 73 yX6_next ∈ lw_tbl := wLr23_in _ (List.mem_of_getElem? (i := 14) rfl)
theorem mw_543 : Cond.instanceMethod yX6_next ∈ lw_tbl := wLr23_in _ (List.mem_of_getElem? (i := 15) rfl)
theorem mw_544 : Cond.selects RX6 yX6_next yX6_next ∈ lw_tbl := wLr23_in _ (List.mem_of_getElem? (i := 16) rfl)
theorem mw_545 : Cond.code yX6_next cX6_next 1 (some .int) ∈ lw_tbl := wLr23_in _ (List.mem_of_getElem? (i := 17) rfl)
theorem mw_546 : Cond.methodLink RX6 176 yX1_choice ∈ lw_tbl := wLr23_in _ (List.mem_of_getElem? (i := 18) rfl)
theorem mw_547 : Cond.instanceMethod yX1_choice ∈ lw_tbl := wLr23_in _ (List.mem_of_getElem? (i := 19) rfl)
theorem mw_548 : Cond.selects RX1 yX1_choice yX1_choice ∈ lw_tbl := wLr23_in _ (List.mem_of_getElem? (i := 20) rfl)
theorem mw_549 : Cond.code yX1_choice cX1_choice 7 (some .int) ∈ lw_tbl := wLr23_in _ (List.mem_of_getElem? (i := 21) rfl)
theorem mw_550 : Cond.methodLink RX1 85 yX5_atLeast ∈ lw_tbl := wLr23_in _ (List.mem_of_getElem? (i := 22) rfl)
theorem mw_551 : Cond.methodLink RX1 89 yX5_isThin ∈ lw_tbl := wLr23_in _ (List.mem_of_getElem? (i := 23) rfl)
theorem mw_552 : Cond.methodLink RX1 92 yX1_chooseTwins ∈ lw_tbl := wLr24_in _ (List.mem_of_getElem? (i := 0) rfl)
theorem mw_553 : Cond.instanceMethod yX1_chooseTwins ∈ lw_tbl := wLr24_in _ (List.mem_of_getElem? (i := 1) rfl)
theorem mw_554 : Cond.selects RX1 yX1_chooseTwins yX1_chooseTwins ∈ lw_tbl := wLr24_in _ (List.mem_of_getElem? (i := 2) rfl)
theorem mw_555 : Cond.code yX1_chooseTwins cX1_chooseTwins 4 none ∈ lw_tbl := wLr24_in _ (List.mem_of_getElem? (i := 3) rfl)
theorem mw_556 : Cond.methodLink RX1 103 yX1_wantedTwin ∈ lw_tbl := wLr24_in _ (List.mem_of_getElem? (i := 4) rfl)
theorem mw_557 : Cond.instanceMethod yX1_wantedTwin ∈ lw_tbl := wLr24_in _ (List.mem_of_getElem? (i := 5) rfl)
theorem mw_558 : Cond.selects RX1 yX1_wantedTwin yX1_wantedTwin ∈ lw_tbl := wLr24_in _ (List.mem_of_getElem? (i := 6) rfl)
theorem mw_559 : Cond.code yX1_wantedTwin cX1_wantedTwin 4 (some .int) ∈ lw_tbl := wLr24_in _ (List.mem_of_getElem? (i := 7) rfl)
theorem mw_560 : Cond.methodLink RX1 106 yX1_isWanted ∈ lw_tbl := wLr24_in _ (List.mem_of_getElem? (i := 8) rfl)
theorem mw_561 : Cond.instanceMethod yX1_isWanted ∈ lw_tbl := wLr24_in _ (List.mem_of_getElem? (i := 9) rfl)
theorem mw_562 : Cond.selects RX1 yX1_isWanted yX1_isWanted ∈ lw_tbl := wLr24_in _ (List.mem_of_getElem? (i := 10) rfl)
theorem mw_563 : Cond.code yX1_isWanted cX1_isWanted 3 (some .boolean) ∈ lw_tbl := wLr24_in _ (List.mem_of_getElem? (i := 11) rfl)
theorem mw_564 : Cond.fieldLink RX1 109 "FillCells$Windows" "thinOver" "[I" ∈ lw_tbl := wLr24_in _ (List.mem_of_getElem? (i := 12) rfl)
theorem mw_565 : Cond.methodLink RX1 112 yX5_has ∈ lw_tbl := wLr24_in _ (List.mem_of_getElem? (i := 13) rfl)
theorem mw_566 : Cond.instanceMethod yX5_has ∈ lw_tbl := wLr24_in _ (List.mem_of_getElem? (i := 14) rfl)
theorem mw_567 : Cond.selects RX5 yX5_has yX5_has ∈ lw_tbl := wLr24_in _ (List.mem_of_getElem? (i := 15) rfl)
theorem mw_568 : Cond.code yX5_has cX5_has 5 (some .boolean) ∈ lw_tbl := wLr24_in _ (List.mem_of_getElem? (i := 16) rfl)
theorem mw_569 : Cond.methodLink RX1 96 yX1_isChosen ∈ lw_tbl := wLr24_in _ (List.mem_of_getElem? (i := 17) rfl)
theorem mw_570 : Cond.instanceMethod yX1_isChosen ∈ lw_tbl := wLr24_in _ (List.mem_of_getElem? (i := 18) rfl)
theorem mw_571 : Cond.selects RX1 yX1_isChosen yX1_isChosen ∈ lw_tbl := wLr24_in _ (List.mem_of_getElem? (i := 19) rfl)
theorem mw_572 : Cond.code yX1_isChosen cX1_isChosen 4 (some .boolean) ∈ lw_tbl := wLr24_in _ (List.mem_of_getElem? (i := 20) rfl)
theorem mw_573 : Cond.methodLink RX1 99 yX1_rank ∈ lw_tbl := wLr24_in _ (List.mem_of_getElem? (i := 21) rfl)
theorem mw_574 : Cond.instanceMethod yX1_rank ∈ lw_tbl := wLr24_in _ (List.mem_of_getElem? (i := 22) rfl)
theorem mw_575 : Cond.selects RX1 yX1_rank yX1_rank ∈ lw_tbl := wLr24_in _ (List.mem_of_getElem? (i := 23) rfl)
theorem mw_576 : Cond.code yX1_rank cX1_rank 3 (some .int) ∈ lw_tbl := wLr25_in _ (List.mem_of_getElem? (i := 0) rfl)
theorem mw_577 : Cond.methodLink RX1 115 yX0_sumOf ∈ lw_tbl := wLr25_in _ (List.mem_of_getElem? (i := 1) rfl)
theorem mw_578 : Cond.methodLink RX1 118 yX3_gainOfAll ∈ lw_tbl := wLr25_in _ (List.mem_of_getElem? (i := 2) rfl)
theorem mw_579 : Cond.instanceMethod yX3_gainOfAll ∈ lw_tbl := wLr25_in _ (List.mem_of_getElem? (i := 3) rfl)
theorem mw_580 : Cond.selects RX3 yX3_gainOfAll yX3_gainOfAll ∈ lw_tbl := wLr25_in _ (List.mem_of_getElem? (i := 4) rfl)
theorem mw_581 : Cond.code yX3_gainOfAll cX3_gainOfAll 5 (some .int) ∈ lw_tbl := wLr25_in _ (List.mem_of_getElem? (i := 5) rfl)
theorem mw_582 : Cond.methodLink RL 76 yX7_next ∈ lw_tbl := wLr25_in _ (List.mem_of_getElem? (i := 6) rfl)
theorem mw_583 : Cond.instanceMethod yX7_next ∈ lw_tbl := wLr25_in _ (List.mem_of_getElem? (i := 7) rfl)
theorem mw_584 : Cond.selects RX7 yX7_next yX7_next ∈ lw_tbl := wLr25_in _ (List.mem_of_getElem? (i := 8) rfl)
theorem mw_585 : Cond.code yX7_next cX7_next 1 (some .int) ∈ lw_tbl := wLr25_in _ (List.mem_of_getElem? (i := 9) rfl)
theorem mw_586 : Cond.methodLink RX7 151 yX7_nextBy ∈ lw_tbl := wLr25_in _ (List.mem_of_getElem? (i := 10) rfl)
theorem mw_587 : Cond.instanceMethod yX7_nextBy ∈ lw_tbl := wLr25_in _ (List.mem_of_getElem? (i := 11) rfl)
theorem mw_588 : Cond.selects RX7 yX7_nextBy yX7_nextBy ∈ lw_tbl := wLr25_in _ (List.mem_of_getElem? (i := 12) rfl)
theorem mw_589 : Cond.code yX7_nextBy cX7_nextBy 7 (some .int) ∈ lw_tbl := wLr25_in _ (List.mem_of_getElem? (i := 13) rfl)
theorem mw_590 : Cond.methodLink RX7 141 yX7_thinnest ∈ lw_tbl := wLr25_in _ (List.mem_of_getElem? (i := 14) rfl)
theorem mw_591 : Cond.instanceMethod yX7_thinnest ∈ lw_tbl := wLr25_in _ (List.mem_of_getElem? (i := 15) rfl)
theorem mw_592 : Cond.selects RX7 yX7_thinnest yX7_thinnest ∈ lw_tbl := wLr25_in _ (List.mem_of_getElem? (i := 16) rfl)
theorem mw_593 : Cond.code yX7_thinnest cX7_thinnest 3 (some .int) ∈ lw_tbl := wLr25_in _ (List.mem_of_getElem? (i := 17) rfl)
theorem mw_594 : Cond.methodLink RX7 144 yX7_reaches ∈ lw_tbl := wLr25_in _ (List.mem_of_getElem? (i := 18) rfl)
theorem mw_595 : Cond.instanceMethod yX7_reaches ∈ lw_tbl := wLr25_in _ (List.mem_of_getElem? (i := 19) rfl)
theorem mw_596 : Cond.selects RX7 yX7_reaches yX7_reaches ∈ lw_tbl := wLr25_in _ (List.mem_of_getElem? (i := 20) rfl)
theorem mw_597 : Cond.code yX7_reaches cX7_reaches 4 (some .boolean) ∈ lw_tbl := wLr25_in _ (List.mem_of_getElem? (i := 21) rfl)
theorem mw_598 : Cond.methodLink RX7 138 yX7_has ∈ lw_tbl := wLr25_in _ (List.mem_of_getElem? (i := 22) rfl)
theorem mw_599 : Cond.instanceMethod yX7_has ∈ lw_tbl := wLr25_in _ (List.mem_of_getElem? (i := 23) rfl)
theorem mw_600 : Cond.selects RX7 yX7_has yX7_has ∈ lw_tbl := wLr26_in _ (List.mem_of_getElem? (i := 0) rfl)
theorem mw_601 : Cond.code yX7_has cX7_has 3 (some .boolean) ∈ lw_tbl := wLr26_in _ (List.mem_of_getElem? (i := 1) rfl)
theorem mw_602 : Cond.methodLink RX7 147 yX7_keyBy ∈ lw_tbl := wLr26_in _ (List.mem_of_getElem? (i := 2) rfl)
theorem mw_603 : Cond.instanceMethod yX7_keyBy ∈ lw_tbl := wLr26_in _ (List.mem_of_getElem? (i := 3) rfl)
theorem mw_604 : Cond.selects RX7 yX7_keyBy yX7_keyBy ∈ lw_tbl := wLr26_in _ (List.mem_of_getElem? (i := 4) rfl)
theorem mw_605 : Cond.code yX7_keyBy cX7_keyBy 3 (some .int) ∈ lw_tbl := wLr26_in _ (List.mem_of_getElem? (i := 5) rfl)
theorem mw_606 : Cond.methodLink RL 77 yX6_steps ∈ lw_tbl := wLr26_in _ (List.mem_of_getElem? (i := 6) rfl)
theorem mw_607 : Cond.instanceMethod yX6_steps ∈ lw_tbl := wLr26_in _ (List.mem_of_getElem? (i := 7) rfl)
theorem mw_608 : Cond.selects RX6 yX6_steps yX6_steps ∈ lw_tbl := wLr26_in _ (List.mem_of_getElem? (i := 8) rfl)
theorem mw_609 : Cond.code yX6_steps cX6_steps 3 (some .int) ∈ lw_tbl := wLr26_in _ (List.mem_of_getElem? (i := 9) rfl)
theorem mw_610 : Cond.methodLink RX6 179 yX1_stepOn ∈ lw_tbl := wLr26_in _ (List.mem_of_getElem? (i := 10) rfl)
theorem mw_611 : Cond.instanceMethod yX1_stepOn ∈ lw_tbl := wLr26_in _ (List.mem_of_getElem? (i := 11) rfl)
theorem mw_612 : Cond.selects RX1 yX1_stepOn yX1_stepOn ∈ lw_tbl := wLr26_in _ (List.mem_of_getElem? (i := 12) rfl)
theorem mw_613 : Cond.code yX1_stepOn cX1_stepOn 5 (some .int) ∈ lw_tbl := wLr26_in _ (List.mem_of_getElem? (i := 13) rfl)
theorem mw_614 : Cond.methodLink RX1 126 yX1_choice ∈ lw_tbl := wLr26_in _ (List.mem_of_getElem? (i := 14) rfl)
theorem mw_615 : Cond.methodLink RX1 129 yX1_change ∈ lw_tbl := wLr26_in _ (List.mem_of_getElem? (i := 15) rfl)
theorem mw_616 : Cond.methodLink RL 80 yX7_steps ∈ lw_tbl := wLr26_in _ (List.mem_of_getElem? (i := 16) rfl)
theorem mw_617 : Cond.instanceMethod yX7_steps ∈ lw_tbl := wLr26_in _ (List.mem_of_getElem? (i := 17) rfl)
theorem mw_618 : Cond.selects RX7 yX7_steps yX7_steps ∈ lw_tbl := wLr26_in _ (List.mem_of_getElem? (i := 18) rfl)
theorem mw_619 : Cond.code yX7_steps cX7_steps 3 (some .int) ∈ lw_tbl := wLr26_in _ (List.mem_of_getElem? (i := 19) rfl)
theorem mw_620 : Cond.methodLink RX7 154 yX7_stepsBy ∈ lw_tbl := wLr26_in _ (List.mem_of_getElem? (i := 20) rfl)
theorem mw_621 : Cond.instanceMethod yX7_stepsBy ∈ lw_tbl := wLr26_in _ (List.mem_of_getElem? (i := 21) rfl)
theorem mw_622 : Cond.selects RX7 yX7_stepsBy yX7_stepsBy ∈ lw_tbl := wLr26_in _ (List.mem_of_getElem? (i := 22) rfl)
theorem mw_623 : Cond.code yX7_stepsBy cX7_stepsBy 4 (some .int) ∈ lw_tbl := wLr26_in _ (List.mem_of_getElem? (i := 23) rfl)
theorem mw_624 : Cond.methodLink RL 81 yX6_thins ∈ lw_tbl := wLr27_in _ (List.mem_of_getElem? (i := 0) rfl)
theorem mw_625 : Cond.instanceMethod yX6_thins ∈ lw_tbl := wLr27_in _ (List.mem_of_getElem? (i := 1) rfl)
theorem mw_626 : Cond.selects RX6 yX6_thins yX6_thins ∈ lw_tbl := wLr27_in _ (List.mem_of_getElem? (i := 2) rfl)
theorem mw_627 : Cond.code yX6_thins cX6_thins 2 (some .int) ∈ lw_tbl := wLr27_in _ (List.mem_of_getElem? (i := 3) rfl)
theorem mw_628 : Cond.methodLink RX6 182 yX1_thinOut ∈ lw_tbl := wLr27_in _ (List.mem_of_getElem? (i := 4) rfl)
theorem mw_629 : Cond.instanceMethod yX1_thinOut ∈ lw_tbl := wLr27_in _ (List.mem_of_getElem? (i := 5) rfl)
theorem mw_630 : Cond.selects RX1 yX1_thinOut yX1_thinOut ∈ lw_tbl := wLr27_in _ (List.mem_of_getElem? (i := 6) rfl)
theorem mw_631 : Cond.code yX1_thinOut cX1_thinOut 4 (some .int) ∈ lw_tbl := wLr27_in _ (List.mem_of_getElem? (i := 7) rfl)
theorem mw_632 : Cond.methodLink RX1 139 Lib.Math.min.name ∈ lw_tbl := wLr27_in _ (List.mem_of_getElem? (i := 8) rfl)
theorem mw_633 : Cond.methodLink RX1 136 yX5_slack ∈ lw_tbl := wLr27_in _ (List.mem_of_getElem? (i := 9) rfl)
theorem mw_634 : Cond.instanceMethod yX5_slack ∈ lw_tbl := wLr27_in _ (List.mem_of_getElem? (i := 10) rfl)
theorem mw_635 : Cond.selects RX5 yX5_slack yX5_slack ∈ lw_tbl := wLr27_in _ (List.mem_of_getElem? (i := 11) rfl)
theorem mw_636 : Cond.code yX5_slack cX5_slack 6 (some .int) ∈ lw_tbl := wLr27_in _ (List.mem_of_getElem? (i := 12) rfl)
theorem mw_637 : Cond.methodLink RX5 87 yX5_share ∈ lw_tbl := wLr27_in _ (List.mem_of_getElem? (i := 13) rfl)
theorem mw_638 : Cond.instanceMethod yX5_share ∈ lw_tbl := wLr27_in _ (List.mem_of_getElem? (i := 14) rfl)
theorem mw_639 : Cond.selects RX5 yX5_share yX5_share ∈ lw_tbl := wLr27_in _ (List.mem_of_getElem? (i := 15) rfl)
theorem mw_640 : Cond.code yX5_share cX5_share 4 (some .int) ∈ lw_tbl := wLr27_in _ (List.mem_of_getElem? (i := 16) rfl)
theorem mw_641 : Cond.methodLink RX5 37 yX5_has ∈ lw_tbl := wLr27_in _ (List.mem_of_getElem? (i := 17) rfl)
theorem mw_642 : Cond.methodLink RL 84 yX7_thins ∈ lw_tbl := wLr27_in _ (List.mem_of_getElem? (i := 18) rfl)
theorem mw_643 : Cond.instanceMethod yX7_thins ∈ lw_tbl := wLr27_in _ (List.mem_of_getElem? (i := 19) rfl)
theorem mw_644 : Cond.selects RX7 yX7_thins yX7_thins ∈ lw_tbl := wLr27_in _ (List.mem_of_getElem? (i := 20) rfl)
theorem mw_645 : Cond.code yX7_thins cX7_thins 2 (some .int) ∈ lw_tbl := wLr27_in _ (List.mem_of_getElem? (i := 21) rfl)
theorem mw_646 : Cond.methodLink RX7 161 yX7_loses ∈ lw_tbl := wLr27_in _ (List.mem_of_getElem? (i := 22) rfl)
theorem mw_647 : Cond.instanceMethod yX7_loses ∈ lw_tbl := wLr27_in _ (List.mem_of_getElem? (i := 23) rfl)
theorem mw_648 : Cond.selects RX7 yX7_loses yX7_loses ∈ lw_tbl := wLr28_in _ (List.mem_of_getElem? (i := 0) rfl)
theorem mw_649 : Cond.code yX7_loses cX7_loses 3 (some .int) ∈ lw_tbl := wLr28_in _ (List.mem_of_getElem? (i := 1) rfl)
theorem mw_650 : Cond.methodLink RX7 157 yX7_mayLose ∈ lw_tbl := wLr28_in _ (List.mem_of_getElem? (i := 2) rfl)
theorem mw_651 : Cond.instanceMethod yX7_mayLose ∈ lw_tbl := wLr28_in _ (List.mem_of_getElem? (i := 3) rfl)
theorem mw_652 : Cond.selects RX7 yX7_mayLose yX7_mayLose ∈ lw_tbl := wLr28_in _ (List.mem_of_getElem? (i := 4) rfl)
theorem mw_653 : Cond.code yX7_mayLose cX7_mayLose 3 (some .boolean) ∈ lw_tbl := wLr28_in _ (List.mem_of_getElem? (i := 5) rfl)
theorem mw_654 : Cond.methodLink RL 85 yX6_best ∈ lw_tbl := wLr28_in _ (List.mem_of_getElem? (i := 6) rfl)
theorem mw_655 : Cond.instanceMethod yX6_best ∈ lw_tbl := wLr28_in _ (List.mem_of_getElem? (i := 7) rfl)
theorem mw_656 : Cond.selects RX6 yX6_best yX6_best ∈ lw_tbl := wLr28_in _ (List.mem_of_getElem? (i := 8) rfl)
theorem mw_657 : Cond.code yX6_best cX6_best 3 (some .int) ∈ lw_tbl := wLr28_in _ (List.mem_of_getElem? (i := 9) rfl)
theorem mw_658 : Cond.fieldLink RX6 195 "FillCells$Filling" "bestRule" "I" ∈ lw_tbl := wLr28_in _ (List.mem_of_getElem? (i := 10) rfl)
theorem mw_659 : Cond.fieldLink RX6 198 "FillCells$Filling" "bestThin" "I" ∈ lw_tbl := wLr28_in _ (List.mem_of_getElem? (i := 11) rfl)
theorem mw_660 : Cond.fieldLink RX6 201 "FillCells$Filling" "bestFill" "I" ∈ lw_tbl := wLr28_in _ (List.mem_of_getElem? (i := 12) rfl)
theorem mw_661 : Cond.methodLink RX6 185 yX1_markFill ∈ lw_tbl := wLr28_in _ (List.mem_of_getElem? (i := 13) rfl)
theorem mw_662 : Cond.instanceMethod yX1_markFill ∈ lw_tbl := wLr28_in _ (List.mem_of_getElem? (i := 14) rfl)
theorem mw_663 : Cond.selects RX1 yX1_markFill yX1_markFill ∈ lw_tbl := wLr28_in _ (List.mem_of_getElem? (i := 15) rfl)
theorem mw_664 : Cond.code yX1_markFill cX1_markFill 1 none ∈ lw_tbl := wLr28_in _ (List.mem_of_getElem? (i := 16) rfl)
theorem mw_665 : Cond.methodLink RX1 144 arraycopyName ∈ lw_tbl := wLr28_in _ (List.mem_of_getElem? (i := 17) rfl)
theorem mw_666 : Cond.native arraycopyName ∈ lw_tbl := wLr28_in _ (List.mem_of_getElem? (i := 18) rfl)
theorem mw_667 : Cond.static arraycopyName ∈ lw_tbl := wLr28_in _ (List.mem_of_getElem? (i := 19) rfl)
theorem mw_668 : Cond.initialized "java/lang/System" ∈ lw_tbl := wLr28_in _ (List.mem_of_getElem? (i := 20) rfl)
theorem mw_669 : Cond.methodLink RX6 188 yX1_rate ∈ lw_tbl := wLr28_in _ (List.mem_of_getElem? (i := 21) rfl)
theorem mw_670 : Cond.instanceMethod yX1_rate ∈ lw_tbl := wLr28_in _ (List.mem_of_getElem? (i := 22) rfl)
theorem mw_671 : Cond.selects RX1 yX1_rate yX1_rate ∈ lw_tbl := wLr28_in _ (List.mem_of_getElem? (i := 23) rfl)
theorem mw_672 : Cond.code yX1_rate cX1_rate 4 none ∈ lw_tbl := wLr29_in _ (List.mem_of_getElem? (i := 0) rfl)
theorem mw_673 : Cond.methodLink RX1 152 yX5_countThin ∈ lw_tbl := wLr29_in _ (List.mem_of_getElem? (i := 1) rfl)
theorem mw_674 : Cond.methodLink RX6 192 yX1_layBack ∈ lw_tbl := wLr29_in _ (List.mem_of_getElem? (i := 2) rfl)
theorem mw_675 : Cond.instanceMethod yX1_layBack ∈ lw_tbl := wLr29_in _ (List.mem_of_getElem? (i := 3) rfl)
theorem mw_676 : Cond.selects RX1 yX1_layBack yX1_layBack ∈ lw_tbl := wLr29_in _ (List.mem_of_getElem? (i := 4) rfl)
theorem mw_677 : Cond.code yX1_layBack cX1_layBack 1 none ∈ lw_tbl := wLr29_in _ (List.mem_of_getElem? (i := 5) rfl)
theorem mw_678 : Cond.methodLink RX1 150 yX1_measure ∈ lw_tbl := wLr29_in _ (List.mem_of_getElem? (i := 6) rfl)
theorem mw_679 : Cond.methodLink RL 88 yX7_best ∈ lw_tbl := wLr29_in _ (List.mem_of_getElem? (i := 7) rfl)
theorem mw_680 : Cond.instanceMethod yX7_best ∈ lw_tbl := wLr29_in _ (List.mem_of_getElem? (i := 8) rfl)
theorem mw_681 : Cond.selects RX7 yX7_best yX7_best ∈ lw_tbl := wLr29_in _ (List.mem_of_getElem? (i := 9) rfl)
theorem mw_682 : Cond.code yX7_best cX7_best 5 (some .int) ∈ lw_tbl := wLr29_in _ (List.mem_of_getElem? (i := 10) rfl)
theorem mw_683 : Cond.methodLink RX7 164 yX7_back ∈ lw_tbl := wLr29_in _ (List.mem_of_getElem? (i := 11) rfl)
theorem mw_684 : Cond.instanceMethod yX7_back ∈ lw_tbl := wLr29_in _ (List.mem_of_getElem? (i := 12) rfl)
theorem mw_685 : Cond.selects RX7 yX7_back yX7_back ∈ lw_tbl := wLr29_in _ (List.mem_of_getElem? (i := 13) rfl)
theorem mw_686 : Cond.code yX7_back cX7_back 2 none ∈ lw_tbl := wLr29_in _ (List.mem_of_getElem? (i := 14) rfl)
theorem mw_687 : Cond.methodLink RL 89 yX6_row ∈ lw_tbl := wLr29_in _ (List.mem_of_getElem? (i := 15) rfl)
theorem mw_688 : Cond.instanceMethod yX6_row ∈ lw_tbl := wLr29_in _ (List.mem_of_getElem? (i := 16) rfl)
theorem mw_689 : Cond.selects RX6 yX6_row yX6_row ∈ lw_tbl := wLr29_in _ (List.mem_of_getElem? (i := 17) rfl)
theorem mw_690 : Cond.code yX6_row cX6_row 3 (some .int) ∈ lw_tbl := wLr29_in _ (List.mem_of_getElem? (i := 18) rfl)
theorem mw_691 : Cond.methodLink RX6 204 yX1_leastInRow ∈ lw_tbl := wLr29_in _ (List.mem_of_getElem? (i := 19) rfl)
theorem mw_692 : Cond.instanceMethod yX1_leastInRow ∈ lw_tbl := wLr29_in _ (List.mem_of_getElem? (i := 20) rfl)
theorem mw_693 : Cond.selects RX1 yX1_leastInRow yX1_leastInRow ∈ lw_tbl := wLr29_in _ (List.mem_of_getElem? (i := 21) rfl)
theorem mw_694 : Cond.code yX1_leastInRow cX1_leastInRow 9 (some .int) ∈ lw_tbl := wLr29_in _ (List.mem_of_getElem? (i := 22) rfl)
theorem mw_695 : Cond.fieldLink RX1 155 "FillCells$Field" "shapes" "[I" ∈ lw_tbl := wLr29_in _ (List.mem_of_getElem? (i := 23) rfl)
theorem mw_696 : Cond.fieldLink RX1 158 "FillCells$Windows" "width" "I" ∈ lw_tbl := wLr30_in _ (List.mem_of_getElem? (i := 0) rfl)
theorem mw_697 : Cond.fieldLink RX1 164 "FillCells$Field" "shut" "[I" ∈ lw_tbl := wLr30_in _ (List.mem_of_getElem? (i := 1) rfl)
theorem mw_698 : Cond.methodLink RX1 161 yX1_stretch ∈ lw_tbl := wLr30_in _ (List.mem_of_getElem? (i := 2) rfl)
theorem mw_699 : Cond.instanceMethod yX1_stretch ∈ lw_tbl := wLr30_in _ (List.mem_of_getElem? (i := 3) rfl)
theorem mw_700 : Cond.selects RX1 yX1_stretch yX1_stretch ∈ lw_tbl := wLr30_in _ (List.mem_of_getElem? (i := 4) rfl)
theorem mw_701 : Cond.code yX1_stretch cX1_stretch 4 (some .int) ∈ lw_tbl := wLr30_in _ (List.mem_of_getElem? (i := 5) rfl)
theorem mw_702 : Cond.methodLink RL 92 yX7_row ∈ lw_tbl := wLr30_in _ (List.mem_of_getElem? (i := 6) rfl)
theorem mw_703 : Cond.instanceMethod yX7_row ∈ lw_tbl := wLr30_in _ (List.mem_of_getElem? (i := 7) rfl)
theorem mw_704 : Cond.selects RX7 yX7_row yX7_row ∈ lw_tbl := wLr30_in _ (List.mem_of_getElem? (i := 8) rfl)
theorem mw_705 : Cond.code yX7_row cX7_row 9 (some .int) ∈ lw_tbl := wLr30_in _ (List.mem_of_getElem? (i := 9) rfl)
theorem mw_706 : Cond.methodLink RL 93 yX6_undo ∈ lw_tbl := wLr30_in _ (List.mem_of_getElem? (i := 10) rfl)
theorem mw_707 : Cond.instanceMethod yX6_undo ∈ lw_tbl := wLr30_in _ (List.mem_of_getElem? (i := 11) rfl)
theorem mw_708 : Cond.selects RX6 yX6_undo yX6_undo ∈ lw_tbl := wLr30_in _ (List.mem_of_getElem? (i := 12) rfl)
theorem mw_709 : Cond.code yX6_undo cX6_undo 1 (some .int) ∈ lw_tbl := wLr30_in _ (List.mem_of_getElem? (i := 13) rfl)
theorem mw_710 : Cond.fieldLink RX6 207 "FillCells$History" "kept" "I" ∈ lw_tbl := wLr30_in _ (List.mem_of_getElem? (i := 14) rfl)
theorem mw_711 : Cond.methodLink RX6 210 yX2_takeBack ∈ lw_tbl := wLr30_in _ (List.mem_of_getElem? (i := 15) rfl)
theorem mw_712 : Cond.instanceMethod yX2_takeBack ∈ lw_tbl := wLr30_in _ (List.mem_of_getElem? (i := 16) rfl)
theorem mw_713 : Cond.selects RX2 yX2_takeBack yX2_takeBack ∈ lw_tbl := wLr30_in _ (List.mem_of_getElem? (i := 17) rfl)
theorem mw_714 : Cond.code yX2_takeBack cX2_takeBack 4 none ∈ lw_tbl := wLr30_in _ (List.mem_of_getElem? (i := 18) rfl)
theorem mw_715 : Cond.methodLink RX2 31 yX0_unpack ∈ lw_tbl := wLr30_in _ (List.mem_of_getElem? (i := 19) rfl)
theorem mw_716 : Cond.instanceMethod yX0_unpack ∈ lw_tbl := wLr30_in _ (List.mem_of_getElem? (i := 20) rfl)
theorem mw_717 : Cond.selects RX0 yX0_unpack yX0_unpack ∈ lw_tbl := wLr30_in _ (List.mem_of_getElem? (i := 21) rfl)
theorem mw_718 : Cond.code yX0_unpack cX0_unpack 3 none ∈ lw_tbl := wLr30_in _ (List.mem_of_getElem? (i := 22) rfl)
theorem mw_719 : Cond.methodLink RL 96 yX7_undo ∈ lw_tbl := wLr30_in _ (List.mem_of_getElem? (i := 23) rfl)
theorem mw_720 : Cond.instanceMethod yX7_undo ∈ lw_tbl := wLr31_in _ (List.mem_of_getElem? (i := 0) rfl)
theorem mw_721 : Cond.selects RX7 yX7_undo yX7_undo ∈ lw_tbl := wLr31_in _ (List.mem_of_getElem? (i := 1) rfl)
theorem mw_722 : Cond.code yX7_undo cX7_undo 2 (some .int) ∈ lw_tbl := wLr31_in _ (List.mem_of_getElem? (i := 2) rfl)
theorem mw_723 : Cond.methodLink RL 97 yX6_type ∈ lw_tbl := wLr31_in _ (List.mem_of_getElem? (i := 3) rfl)
theorem mw_724 : Cond.instanceMethod yX6_type ∈ lw_tbl := wLr31_in _ (List.mem_of_getElem? (i := 4) rfl)
theorem mw_725 : Cond.selects RX6 yX6_type yX6_type ∈ lw_tbl := wLr31_in _ (List.mem_of_getElem? (i := 5) rfl)
theorem mw_726 : Cond.code yX6_type cX6_type 2 (some .int) ∈ lw_tbl := wLr31_in _ (List.mem_of_getElem? (i := 6) rfl)
theorem mw_727 : Cond.fieldLink RX6 213 "FillCells$Text" "length" "I" ∈ lw_tbl := wLr31_in _ (List.mem_of_getElem? (i := 7) rfl)
theorem mw_728 : Cond.methodLink RX6 216 yX4_append ∈ lw_tbl := wLr31_in _ (List.mem_of_getElem? (i := 8) rfl)
theorem mw_729 : Cond.instanceMethod yX4_append ∈ lw_tbl := wLr31_in _ (List.mem_of_getElem? (i := 9) rfl)
theorem mw_730 : Cond.selects RX4 yX4_append yX4_append ∈ lw_tbl := wLr31_in _ (List.mem_of_getElem? (i := 10) rfl)
theorem mw_731 : Cond.code yX4_append cX4_append 2 none ∈ lw_tbl := wLr31_in _ (List.mem_of_getElem? (i := 11) rfl)
theorem mw_732 : Cond.methodLink RL 100 yX7_type ∈ lw_tbl := wLr31_in _ (List.mem_of_getElem? (i := 12) rfl)
theorem mw_733 : Cond.instanceMethod yX7_type ∈ lw_tbl := wLr31_in _ (List.mem_of_getElem? (i := 13) rfl)
theorem mw_734 : Cond.selects RX7 yX7_type yX7_type ∈ lw_tbl := wLr31_in _ (List.mem_of_getElem? (i := 14) rfl)
theorem mw_735 : Cond.code yX7_type cX7_type 2 (some .int) ∈ lw_tbl := wLr31_in _ (List.mem_of_getElem? (i := 15) rfl)
theorem mw_736 : Cond.fieldLink RX7 167 "FillCellsModel" "typed" "I" ∈ lw_tbl := wLr31_in _ (List.mem_of_getElem? (i := 16) rfl)
theorem mw_737 : Cond.methodLink RL 101 yX6_clear ∈ lw_tbl := wLr31_in _ (List.mem_of_getElem? (i := 17) rfl)
theorem mw_738 : Cond.instanceMethod yX6_clear ∈ lw_tbl := wLr31_in _ (List.mem_of_getElem? (i := 18) rfl)
theorem mw_739 : Cond.selects RX6 yX6_clear yX6_clear ∈ lw_tbl := wLr31_in _ (List.mem_of_getElem? (i := 19) rfl)
theorem mw_740 : Cond.code yX6_clear cX6_clear 2 (some .int) ∈ lw_tbl := wLr31_in _ (List.mem_of_getElem? (i := 20) rfl)
theorem mw_741 : Cond.methodLink RL 104 yX7_clear ∈ lw_tbl := wLr31_in _ (List.mem_of_getElem? (i := 21) rfl)
theorem mw_742 : Cond.instanceMethod yX7_clear ∈ lw_tbl := wLr31_in _ (List.mem_of_getElem? (i := 22) rfl)
theorem mw_743 : Cond.selects RX7 yX7_clear yX7_clear ∈ lw_tbl := wLr31_in _ (List.mem_of_getElem? (i := 23) rfl)
theorem mw_744 : Cond.code yX7_clear cX7_clear 2 (some .int) ∈ lw_tbl := wLr32_in _ (List.mem_of_getElem? (i := 0) rfl)
theorem mw_745 : Cond.methodLink RL 105 yX6_reads ∈ lw_tbl := wLr32_in _ (List.mem_of_getElem? (i := 1) rfl)
theorem mw_746 : Cond.instanceMethod yX6_reads ∈ lw_tbl := wLr32_in _ (List.mem_of_getElem? (i := 2) rfl)
theorem mw_747 : Cond.selects RX6 yX6_reads yX6_reads ∈ lw_tbl := wLr32_in _ (List.mem_of_getElem? (i := 3) rfl)
theorem mw_748 : Cond.code yX6_reads cX6_reads 3 (some .int) ∈ lw_tbl := wLr32_in _ (List.mem_of_getElem? (i := 4) rfl)
theorem mw_749 : Cond.methodLink RX6 219 yX4_fault ∈ lw_tbl := wLr32_in _ (List.mem_of_getElem? (i := 5) rfl)
theorem mw_750 : Cond.instanceMethod yX4_fault ∈ lw_tbl := wLr32_in _ (List.mem_of_getElem? (i := 6) rfl)
theorem mw_751 : Cond.selects RX4 yX4_fault yX4_fault ∈ lw_tbl := wLr32_in _ (List.mem_of_getElem? (i := 7) rfl)
theorem mw_752 : Cond.code yX4_fault cX4_fault 6 (some .int) ∈ lw_tbl := wLr32_in _ (List.mem_of_getElem? (i := 8) rfl)
theorem mw_753 : Cond.methodLink RX4 19 yX4_isSign ∈ lw_tbl := wLr32_in _ (List.mem_of_getElem? (i := 9) rfl)
theorem mw_754 : Cond.static yX4_isSign ∈ lw_tbl := wLr32_in _ (List.mem_of_getElem? (i := 10) rfl)
theorem mw_755 : Cond.code yX4_isSign cX4_isSign 1 (some .boolean) ∈ lw_tbl := wLr32_in _ (List.mem_of_getElem? (i := 11) rfl)
theorem mw_756 : Cond.methodLink RX6 222 yX4_tell ∈ lw_tbl := wLr32_in _ (List.mem_of_getElem? (i := 12) rfl)
theorem mw_757 : Cond.instanceMethod yX4_tell ∈ lw_tbl := wLr32_in _ (List.mem_of_getElem? (i := 13) rfl)
theorem mw_758 : Cond.selects RX4 yX4_tell yX4_tell ∈ lw_tbl := wLr32_in _ (List.mem_of_getElem? (i := 14) rfl)
theorem mw_759 : Cond.code yX4_tell cX4_tell 6 (some .int) ∈ lw_tbl := wLr32_in _ (List.mem_of_getElem? (i := 15) rfl)
theorem mw_760 : Cond.methodLink RX4 23 yX4_tellCell ∈ lw_tbl := wLr32_in _ (List.mem_of_getElem? (i := 16) rfl)
theorem mw_761 : Cond.static yX4_tellCell ∈ lw_tbl := wLr32_in _ (List.mem_of_getElem? (i := 17) rfl)
theorem mw_762 : Cond.code yX4_tellCell cX4_tellCell 3 none ∈ lw_tbl := wLr32_in _ (List.mem_of_getElem? (i := 18) rfl)
theorem mw_763 : Cond.fieldLink RX4 30 "FillCells$Field" "shut" "[I" ∈ lw_tbl := wLr32_in _ (List.mem_of_getElem? (i := 19) rfl)
theorem mw_764 : Cond.fieldLink RX4 35 "FillCells$Field" "shapes" "[I" ∈ lw_tbl := wLr32_in _ (List.mem_of_getElem? (i := 20) rfl)
theorem mw_765 : Cond.methodLink RL 108 yX7_reads ∈ lw_tbl := wLr32_in _ (List.mem_of_getElem? (i := 21) rfl)
theorem mw_766 : Cond.instanceMethod yX7_reads ∈ lw_tbl := wLr32_in _ (List.mem_of_getElem? (i := 22) rfl)
theorem mw_767 : Cond.selects RX7 yX7_reads yX7_reads ∈ lw_tbl := wLr32_in _ (List.mem_of_getElem? (i := 23) rfl)
theorem mw_768 : Cond.code yX7_reads cX7_reads 3 (some .int) ∈ lw_tbl := wLr33_in _ (List.mem_of_getElem? (i := 0) rfl)
theorem mw_769 : Cond.fieldLink RX7 170 "FillCellsModel" "at" "I" ∈ lw_tbl := wLr33_in _ (List.mem_of_getElem? (i := 1) rfl)
theorem mw_770 : Cond.methodLink RX7 176 yX7_skips ∈ lw_tbl := wLr33_in _ (List.mem_of_getElem? (i := 2) rfl)
theorem mw_771 : Cond.instanceMethod yX7_skips ∈ lw_tbl := wLr33_in _ (List.mem_of_getElem? (i := 3) rfl)
theorem mw_772 : Cond.selects RX7 yX7_skips yX7_skips ∈ lw_tbl := wLr33_in _ (List.mem_of_getElem? (i := 4) rfl)
theorem mw_773 : Cond.code yX7_skips cX7_skips 1 none ∈ lw_tbl := wLr33_in _ (List.mem_of_getElem? (i := 5) rfl)
theorem mw_774 : Cond.methodLink RX7 173 yX7_byteAt ∈ lw_tbl := wLr33_in _ (List.mem_of_getElem? (i := 6) rfl)
theorem mw_775 : Cond.instanceMethod yX7_byteAt ∈ lw_tbl := wLr33_in _ (List.mem_of_getElem? (i := 7) rfl)
theorem mw_776 : Cond.selects RX7 yX7_byteAt yX7_byteAt ∈ lw_tbl := wLr33_in _ (List.mem_of_getElem? (i := 8) rfl)
theorem mw_777 : Cond.code yX7_byteAt cX7_byteAt 2 (some .int) ∈ lw_tbl := wLr33_in _ (List.mem_of_getElem? (i := 9) rfl)
theorem mw_778 : Cond.methodLink RX7 183 yX7_isRow ∈ lw_tbl := wLr33_in _ (List.mem_of_getElem? (i := 10) rfl)
theorem mw_779 : Cond.instanceMethod yX7_isRow ∈ lw_tbl := wLr33_in _ (List.mem_of_getElem? (i := 11) rfl)
theorem mw_780 : Cond.selects RX7 yX7_isRow yX7_isRow ∈ lw_tbl := wLr33_in _ (List.mem_of_getElem? (i := 12) rfl)
theorem mw_781 : Cond.code yX7_isRow cX7_isRow 4 (some .boolean) ∈ lw_tbl := wLr33_in _ (List.mem_of_getElem? (i := 13) rfl)
theorem mw_782 : Cond.methodLink RX7 179 yX7_becomes ∈ lw_tbl := wLr33_in _ (List.mem_of_getElem? (i := 14) rfl)
theorem mw_783 : Cond.instanceMethod yX7_becomes ∈ lw_tbl := wLr33_in _ (List.mem_of_getElem? (i := 15) rfl)
theorem mw_784 : Cond.selects RX7 yX7_becomes yX7_becomes ∈ lw_tbl := wLr33_in _ (List.mem_of_getElem? (i := 16) rfl)
theorem mw_785 : Cond.code yX7_becomes cX7_becomes 3 none ∈ lw_tbl := wLr33_in _ (List.mem_of_getElem? (i := 17) rfl)
theorem mw_786 : Cond.methodLink RL 109 yX6_told ∈ lw_tbl := wLr33_in _ (List.mem_of_getElem? (i := 18) rfl)
theorem mw_787 : Cond.instanceMethod yX6_told ∈ lw_tbl := wLr33_in _ (List.mem_of_getElem? (i := 19) rfl)
theorem mw_788 : Cond.selects RX6 yX6_told yX6_told ∈ lw_tbl := wLr33_in _ (List.mem_of_getElem? (i := 20) rfl)
theorem mw_789 : Cond.code yX6_told cX6_told 2 (some .int) ∈ lw_tbl := wLr33_in _ (List.mem_of_getElem? (i := 21) rfl)
theorem mw_790 : Cond.methodLink RL 112 yX7_told ∈ lw_tbl := wLr33_in _ (List.mem_of_getElem? (i := 22) rfl)
theorem mw_791 : Cond.instanceMethod yX7_told ∈ lw_tbl := wLr33_in _ (List.mem_of_getElem? (i := 23) rfl)
theorem mw_792 : Cond.selects RX7 yX7_told yX7_told ∈ lw_tbl := wLr34_in _ (List.mem_of_getElem? (i := 0) rfl)
theorem mw_793 : Cond.code yX7_told cX7_told 2 (some .int) ∈ lw_tbl := wLr34_in _ (List.mem_of_getElem? (i := 1) rfl)
theorem mw_794 : Cond.methodLink RX7 186 yX7_toldOf ∈ lw_tbl := wLr34_in _ (List.mem_of_getElem? (i := 2) rfl)
theorem mw_795 : Cond.instanceMethod yX7_toldOf ∈ lw_tbl := wLr34_in _ (List.mem_of_getElem? (i := 3) rfl)
theorem mw_796 : Cond.selects RX7 yX7_toldOf yX7_toldOf ∈ lw_tbl := wLr34_in _ (List.mem_of_getElem? (i := 4) rfl)
theorem mw_797 : Cond.code yX7_toldOf cX7_toldOf 2 (some .int) ∈ lw_tbl := wLr34_in _ (List.mem_of_getElem? (i := 5) rfl)
theorem mw_798 : Cond.methodLink RL 113 yX6_digest ∈ lw_tbl := wLr34_in _ (List.mem_of_getElem? (i := 6) rfl)
theorem mw_799 : Cond.instanceMethod yX6_digest ∈ lw_tbl := wLr34_in _ (List.mem_of_getElem? (i := 7) rfl)
theorem mw_800 : Cond.selects RX6 yX6_digest yX6_digest ∈ lw_tbl := wLr34_in _ (List.mem_of_getElem? (i := 8) rfl)
theorem mw_801 : Cond.code yX6_digest cX6_digest 5 (some .long) ∈ lw_tbl := wLr34_in _ (List.mem_of_getElem? (i := 9) rfl)
theorem mw_802 : Cond.constantLong RX6 226 (2081) ∈ lw_tbl := wLr34_in _ (List.mem_of_getElem? (i := 10) rfl)
theorem mw_803 : Cond.constantLong RX6 228 (31) ∈ lw_tbl := wLr34_in _ (List.mem_of_getElem? (i := 11) rfl)
theorem mw_804 : Cond.methodLink RX6 230 yX6_told ∈ lw_tbl := wLr34_in _ (List.mem_of_getElem? (i := 12) rfl)
theorem mw_805 : Cond.methodLink RL 117 yX7_digest ∈ lw_tbl := wLr34_in _ (List.mem_of_getElem? (i := 13) rfl)
theorem mw_806 : Cond.instanceMethod yX7_digest ∈ lw_tbl := wLr34_in _ (List.mem_of_getElem? (i := 14) rfl)
theorem mw_807 : Cond.selects RX7 yX7_digest yX7_digest ∈ lw_tbl := wLr34_in _ (List.mem_of_getElem? (i := 15) rfl)
theorem mw_808 : Cond.code yX7_digest cX7_digest 5 (some .long) ∈ lw_tbl := wLr34_in _ (List.mem_of_getElem? (i := 16) rfl)
theorem mw_809 : Cond.constantLong RX7 189 (2081) ∈ lw_tbl := wLr34_in _ (List.mem_of_getElem? (i := 17) rfl)
theorem mw_810 : Cond.constantLong RX7 191 (31) ∈ lw_tbl := wLr34_in _ (List.mem_of_getElem? (i := 18) rfl)
theorem mC {a : Cond} {l T : List Cond} (h : a ∈ T) (hl : ∀ w ∈ l, w ∈ T) : ∀ w ∈ a :: l, w ∈ T := List.forall_mem_cons.mpr ⟨h, hl⟩
theorem mN {T : List Cond} : ∀ w ∈ ([] : List Cond), w ∈ T := fun _ h => absurd h List.not_mem_nil
theorem in_wsX6_init_r1 : ∀ w ∈ wsX6_init_r1, w ∈ lw_tbl := (mC mw_9 (mC mw_10 (mC mw_11 (mC mw_12 (mC mw_13 (mC mw_14 (mC mw_15 (mC mw_16 (mC mw_17 (mC mw_18 (mC mw_19 (mC mw_20 (mC mw_21 (mC mw_22 (mC mw_23 (mC mw_24 (mC mw_25 (mC mw_26 (mC mw_27 (mC mw_28 (mC mw_29 (mC mw_30 (mC mw_31 (mC mw_32 mN))))))))))))))))))))))))
theorem in_wsX6_init_r2 : ∀ w ∈ wsX6_init_r2, w ∈ lw_tbl := (mC mw_33 (mC mw_34 (mC mw_35 (mC mw_36 (mC mw_37 (mC mw_38 (mC mw_39 (mC mw_40 (mC mw_41 (mC mw_42 (mC mw_43 (mC mw_44 (mC mw_45 (mC mw_46 (mC mw_47 (mC mw_48 (mC mw_49 (mC mw_50 (mC mw_51 (mC mw_52 (mC mw_53 (mC mw_54 (mC mw_55 (mC mw_56 mN))))))))))))))))))))))))
theorem in_wsX6_init_r3 : ∀ w ∈ wsX6_init_r3, w ∈ lw_tbl := (mC mw_57 (mC mw_58 (mC mw_59 (mC mw_60 (mC mw_61 (mC mw_62 (mC mw_63 (mC mw_64 (mC mw_65 (mC mw_66 (mC mw_67 (mC mw_68 (mC mw_69 (mC mw_70 (mC mw_71 (mC mw_72 (mC mw_73 (mC mw_74 (mC mw_75 (mC mw_76 (mC mw_77 (mC mw_78 (mC mw_79 (mC mw_80 mN))))))))))))))))))))))))
theorem in_wsX6_init_r4 : ∀ w ∈ wsX6_init_r4, w ∈ lw_tbl := (mC mw_81 (mC mw_82 (mC mw_83 (mC mw_84 (mC mw_85 (mC mw_86 (mC mw_87 (mC mw_88 (mC mw_89 (mC mw_90 (mC mw_91 (mC mw_2 (mC mw_92 (mC mw_93 (mC mw_94 (mC mw_95 (mC mw_96 (mC mw_97 (mC mw_98 (mC mw_99 (mC mw_100 (mC mw_101 (mC mw_102 (mC mw_103 mN))))))))))))))))))))))))
theorem in_wsX6_init_r5 : ∀ w ∈ wsX6_init_r5, w ∈ lw_tbl := (mC mw_104 (mC mw_105 (mC mw_106 (mC mw_107 (mC mw_108 (mC mw_109 (mC mw_110 (mC mw_111 (mC mw_112 (mC mw_113 (mC mw_114 (mC mw_115 (mC mw_116 (mC mw_117 (mC mw_118 (mC mw_119 (mC mw_120 (mC mw_121 (mC mw_122 (mC mw_123 (mC mw_124 (mC mw_125 (mC mw_126 (mC mw_127 mN))))))))))))))))))))))))
theorem in_wsX6_init_r6 : ∀ w ∈ wsX6_init_r6, w ∈ lw_tbl := (mC mw_128 (mC mw_129 (mC mw_130 (mC mw_131 (mC mw_132 (mC mw_133 (mC mw_134 (mC mw_135 (mC mw_136 (mC mw_137 (mC mw_138 (mC mw_139 (mC mw_140 (mC mw_141 (mC mw_142 (mC mw_143 (mC mw_144 (mC mw_145 (mC mw_146 (mC mw_147 (mC mw_148 (mC mw_149 (mC mw_150 (mC mw_151 mN))))))))))))))))))))))))
theorem in_wsX6_init : ∀ w ∈ wsX6_init, w ∈ lw_tbl := mC mw_8 (mA (mA (mA (mA (mA (mA (mA (mA in_wsX6_init_r1 (mA in_wsX6_init_r2 (mA in_wsX6_init_r3 (mA in_wsX6_init_r4 (mA in_wsX6_init_r5 in_wsX6_init_r6))))) wwsX10_in) wwsX60_in) wwsX20_in) wwsX40_in) wwsX00_in) wwsX50_in) wwsX30_in)
set_option maxRecDepth 20000 in
theorem hL_X6_init : GoodIn lw_tbl (wsX6_init) := goodIn_sub in_wsX6_init (by decide +kernel)
theorem in_wsX7_init : ∀ w ∈ wsX7_init, w ∈ lw_tbl := mC mw_154 (mA (mC mw_155 (mC mw_10 (mC mw_11 (mC mw_24 (mC mw_156 (mC mw_157 (mC mw_158 (mC mw_159 (mC mw_160 (mC mw_161 (mC mw_162 (mC mw_163 (mC mw_164 (mC mw_165 (mC mw_166 (mC mw_167 (mC mw_168 mN))))))))))))))))) wwsX70_in)
set_option maxRecDepth 20000 in
theorem hL_X7_init : GoodIn lw_tbl (wsX7_init) := goodIn_sub in_wsX7_init (by decide +kernel)
theorem in_wsX6_sets_r1 : ∀ w ∈ wsX6_sets_r1, w ∈ lw_tbl := (mC mw_173 (mC mw_19 (mC mw_15 (mC mw_174 (mC mw_175 (mC mw_176 (mC mw_2 (mC mw_177 (mC mw_178 (mC mw_179 (mC mw_180 (mC mw_181 (mC mw_182 (mC mw_183 (mC mw_184 (mC mw_26 (mC mw_27 (mC mw_28 (mC mw_185 (mC mw_186 (mC mw_187 (mC mw_18 (mC mw_188 (mC mw_81 mN))))))))))))))))))))))))
theorem in_wsX6_sets_r2 : ∀ w ∈ wsX6_sets_r2, w ∈ lw_tbl := (mC mw_83 (mC mw_189 (mC mw_190 (mC mw_191 (mC mw_192 (mC mw_82 (mC mw_193 (mC mw_194 (mC mw_195 (mC mw_35 (mC mw_196 (mC mw_55 (mC mw_59 (mC mw_56 (mC mw_57 (mC mw_58 (mC mw_197 (mC mw_198 (mC mw_199 (mC mw_200 (mC mw_201 (mC mw_202 (mC mw_203 (mC mw_204 mN))))))))))))))))))))))))
theorem in_wsX6_sets_r3 : ∀ w ∈ wsX6_sets_r3, w ∈ lw_tbl := (mC mw_205 (mC mw_206 (mC mw_207 (mC mw_208 (mC mw_209 (mC mw_210 (mC mw_211 (mC mw_212 (mC mw_213 (mC mw_214 (mC mw_215 (mC mw_216 (mC mw_100 (mC mw_101 (mC mw_102 (mC mw_14 (mC mw_103 (mC mw_40 (mC mw_36 (mC mw_44 (mC mw_104 (mC mw_105 (mC mw_106 (mC mw_39 mN))))))))))))))))))))))))
theorem in_wsX6_sets_r4 : ∀ w ∈ wsX6_sets_r4, w ∈ lw_tbl := (mC mw_107 (mC mw_68 (mC mw_69 (mC mw_70 (mC mw_67 (mC mw_108 (mC mw_109 (mC mw_110 (mC mw_111 (mC mw_112 (mC mw_113 (mC mw_114 (mC mw_115 (mC mw_63 (mC mw_64 (mC mw_116 (mC mw_117 (mC mw_118 (mC mw_119 (mC mw_120 (mC mw_121 (mC mw_122 (mC mw_123 (mC mw_124 mN))))))))))))))))))))))))
theorem in_wsX6_sets_r5 : ∀ w ∈ wsX6_sets_r5, w ∈ lw_tbl := (mC mw_125 (mC mw_126 (mC mw_127 (mC mw_128 (mC mw_65 (mC mw_129 (mC mw_130 (mC mw_131 (mC mw_132 (mC mw_133 (mC mw_134 (mC mw_135 (mC mw_136 (mC mw_66 (mC mw_137 (mC mw_138 (mC mw_139 (mC mw_43 (mC mw_140 (mC mw_75 (mC mw_77 (mC mw_141 (mC mw_76 (mC mw_142 mN))))))))))))))))))))))))
theorem in_wsX6_sets_r6 : ∀ w ∈ wsX6_sets_r6, w ∈ lw_tbl := (mC mw_143 (mC mw_144 (mC mw_145 (mC mw_146 (mC mw_147 (mC mw_148 (mC mw_149 (mC mw_150 (mC mw_151 (mC mw_217 (mC mw_218 (mC mw_219 (mC mw_220 mN)))))))))))))
theorem in_wsX6_sets : ∀ w ∈ wsX6_sets, w ∈ lw_tbl := mC mw_172 (mA (mA (mA (mA (mA (mA (mA in_wsX6_sets_r1 (mA in_wsX6_sets_r2 (mA in_wsX6_sets_r3 (mA in_wsX6_sets_r4 (mA in_wsX6_sets_r5 in_wsX6_sets_r6))))) wwsX60_in) wwsX10_in) wwsX20_in) wwsX00_in) wwsX50_in) wwsX30_in)
set_option maxRecDepth 20000 in
theorem hL_X6_sets : GoodIn lw_tbl (wsV RL 13 RX6 yX6_sets wsX6_sets) := goodIn_sub (mA (mC mw_169 (mC mw_170 (mC mw_171 (mC mw_2 mN)))) in_wsX6_sets) (by decide +kernel)
theorem in_wsX7_sets_r1 : ∀ w ∈ wsX7_sets_r1, w ∈ lw_tbl := (mC mw_156 (mC mw_225 (mC mw_226 (mC mw_5 (mC mw_227 (mC mw_228 (mC mw_229 (mC mw_230 (mC mw_231 (mC mw_232 (mC mw_233 (mC mw_234 (mC mw_160 (mC mw_235 (mC mw_236 (mC mw_237 (mC mw_238 (mC mw_158 (mC mw_239 (mC mw_240 (mC mw_241 (mC mw_242 (mC mw_243 (mC mw_157 mN))))))))))))))))))))))))
theorem in_wsX7_sets_r2 : ∀ w ∈ wsX7_sets_r2, w ∈ lw_tbl := (mC mw_244 (mC mw_245 (mC mw_246 (mC mw_247 (mC mw_248 (mC mw_249 (mC mw_250 (mC mw_251 mN))))))))
theorem in_wsX7_sets : ∀ w ∈ wsX7_sets, w ∈ lw_tbl := mC mw_224 (mA (mA in_wsX7_sets_r1 in_wsX7_sets_r2) wwsX70_in)
set_option maxRecDepth 20000 in
theorem hL_X7_sets : GoodIn lw_tbl (wsV RL 17 RX7 yX7_sets wsX7_sets) := goodIn_sub (mA (mC mw_221 (mC mw_222 (mC mw_223 (mC mw_5 mN)))) in_wsX7_sets) (by decide +kernel)
theorem in_wsX6_draw_r1 : ∀ w ∈ wsX6_draw_r1, w ∈ lw_tbl := (mC mw_256 (mC mw_19 (mC mw_15 (mC mw_174 (mC mw_257 (mC mw_258 (mC mw_178 (mC mw_179 (mC mw_2 (mC mw_180 (mC mw_181 (mC mw_182 (mC mw_183 (mC mw_184 (mC mw_26 (mC mw_27 (mC mw_28 (mC mw_185 (mC mw_186 (mC mw_187 (mC mw_18 (mC mw_188 (mC mw_81 (mC mw_83 mN))))))))))))))))))))))))
theorem in_wsX6_draw_r2 : ∀ w ∈ wsX6_draw_r2, w ∈ lw_tbl := (mC mw_189 (mC mw_190 (mC mw_191 (mC mw_192 (mC mw_82 (mC mw_193 (mC mw_194 (mC mw_195 (mC mw_35 (mC mw_196 (mC mw_55 (mC mw_59 (mC mw_56 (mC mw_57 (mC mw_58 (mC mw_259 (mC mw_260 (mC mw_261 (mC mw_262 (mC mw_263 (mC mw_264 (mC mw_207 (mC mw_265 (mC mw_266 mN))))))))))))))))))))))))
theorem in_wsX6_draw_r3 : ∀ w ∈ wsX6_draw_r3, w ∈ lw_tbl := (mC mw_267 (mC mw_268 (mC mw_269 (mC mw_270 (mC mw_109 (mC mw_110 (mC mw_111 (mC mw_100 (mC mw_101 (mC mw_102 (mC mw_14 (mC mw_103 (mC mw_40 (mC mw_36 (mC mw_44 (mC mw_104 (mC mw_105 (mC mw_106 (mC mw_39 (mC mw_107 (mC mw_68 (mC mw_69 (mC mw_70 (mC mw_67 mN))))))))))))))))))))))))
theorem in_wsX6_draw_r4 : ∀ w ∈ wsX6_draw_r4, w ∈ lw_tbl := (mC mw_108 (mC mw_112 (mC mw_113 (mC mw_114 (mC mw_115 (mC mw_63 (mC mw_64 (mC mw_116 (mC mw_117 (mC mw_118 (mC mw_119 (mC mw_120 (mC mw_121 (mC mw_122 (mC mw_123 (mC mw_124 (mC mw_125 (mC mw_126 (mC mw_127 (mC mw_128 (mC mw_65 (mC mw_129 (mC mw_130 (mC mw_131 mN))))))))))))))))))))))))
theorem in_wsX6_draw_r5 : ∀ w ∈ wsX6_draw_r5, w ∈ lw_tbl := (mC mw_132 (mC mw_133 (mC mw_134 (mC mw_135 (mC mw_136 (mC mw_66 (mC mw_137 (mC mw_138 (mC mw_139 (mC mw_43 (mC mw_140 (mC mw_75 (mC mw_77 (mC mw_141 (mC mw_76 (mC mw_142 (mC mw_143 (mC mw_144 (mC mw_145 (mC mw_146 (mC mw_147 (mC mw_148 (mC mw_149 (mC mw_150 mN))))))))))))))))))))))))
theorem in_wsX6_draw_r6 : ∀ w ∈ wsX6_draw_r6, w ∈ lw_tbl := (mC mw_151 (mC mw_217 (mC mw_218 (mC mw_219 (mC mw_220 (mC mw_271 (mC mw_272 (mC mw_273 mN))))))))
theorem in_wsX6_draw : ∀ w ∈ wsX6_draw, w ∈ lw_tbl := mC mw_255 (mA (mA (mA (mA (mA (mA (mA in_wsX6_draw_r1 (mA in_wsX6_draw_r2 (mA in_wsX6_draw_r3 (mA in_wsX6_draw_r4 (mA in_wsX6_draw_r5 in_wsX6_draw_r6))))) wwsX60_in) wwsX10_in) wwsX00_in) wwsX20_in) wwsX50_in) wwsX30_in)
set_option maxRecDepth 20000 in
theorem hL_X6_draw : GoodIn lw_tbl (wsV RL 18 RX6 yX6_draw wsX6_draw) := goodIn_sub (mA (mC mw_252 (mC mw_253 (mC mw_254 (mC mw_2 mN)))) in_wsX6_draw) (by decide +kernel)
theorem in_wsX7_draw_r1 : ∀ w ∈ wsX7_draw_r1, w ∈ lw_tbl := (mC mw_278 (mC mw_279 (mC mw_280 (mC mw_281 (mC mw_156 (mC mw_282 (mC mw_228 (mC mw_229 (mC mw_5 (mC mw_230 (mC mw_231 (mC mw_232 (mC mw_233 (mC mw_234 (mC mw_160 (mC mw_235 (mC mw_236 (mC mw_237 (mC mw_238 (mC mw_158 (mC mw_239 (mC mw_240 (mC mw_241 (mC mw_242 mN))))))))))))))))))))))))
theorem in_wsX7_draw_r2 : ∀ w ∈ wsX7_draw_r2, w ∈ lw_tbl := (mC mw_243 (mC mw_157 mN))
theorem in_wsX7_draw : ∀ w ∈ wsX7_draw, w ∈ lw_tbl := mC mw_277 (mA (mA in_wsX7_draw_r1 in_wsX7_draw_r2) wwsX70_in)
set_option maxRecDepth 20000 in
theorem hL_X7_draw : GoodIn lw_tbl (wsV RL 22 RX7 yX7_draw wsX7_draw) := goodIn_sub (mA (mC mw_274 (mC mw_275 (mC mw_276 (mC mw_5 mN)))) in_wsX7_draw) (by decide +kernel)
theorem in_wsX6_empties_r1 : ∀ w ∈ wsX6_empties_r1, w ∈ lw_tbl := (mC mw_19 (mC mw_15 (mC mw_174 (mC mw_257 (mC mw_185 (mC mw_186 (mC mw_187 (mC mw_18 (mC mw_188 (mC mw_81 (mC mw_83 (mC mw_189 (mC mw_190 (mC mw_191 (mC mw_192 (mC mw_82 (mC mw_193 (mC mw_194 (mC mw_195 (mC mw_35 (mC mw_196 (mC mw_55 (mC mw_59 (mC mw_56 mN))))))))))))))))))))))))
theorem in_wsX6_empties_r2 : ∀ w ∈ wsX6_empties_r2, w ∈ lw_tbl := (mC mw_57 (mC mw_58 (mC mw_271 (mC mw_272 (mC mw_2 (mC mw_273 (mC mw_270 (mC mw_109 (mC mw_110 (mC mw_111 (mC mw_100 (mC mw_101 (mC mw_102 (mC mw_14 (mC mw_103 (mC mw_40 (mC mw_36 (mC mw_44 (mC mw_104 (mC mw_105 (mC mw_106 (mC mw_39 (mC mw_107 (mC mw_68 mN))))))))))))))))))))))))
theorem in_wsX6_empties_r3 : ∀ w ∈ wsX6_empties_r3, w ∈ lw_tbl := (mC mw_69 (mC mw_70 (mC mw_67 (mC mw_108 (mC mw_112 (mC mw_113 (mC mw_114 (mC mw_115 (mC mw_63 (mC mw_64 (mC mw_116 (mC mw_117 (mC mw_118 (mC mw_119 (mC mw_120 (mC mw_121 (mC mw_122 (mC mw_123 (mC mw_124 (mC mw_125 (mC mw_126 (mC mw_127 (mC mw_128 (mC mw_65 mN))))))))))))))))))))))))
theorem in_wsX6_empties_r4 : ∀ w ∈ wsX6_empties_r4, w ∈ lw_tbl := (mC mw_129 (mC mw_130 (mC mw_131 (mC mw_132 (mC mw_133 (mC mw_134 (mC mw_135 (mC mw_136 (mC mw_66 (mC mw_137 (mC mw_138 (mC mw_139 (mC mw_43 (mC mw_140 (mC mw_75 (mC mw_77 (mC mw_141 (mC mw_76 (mC mw_142 (mC mw_143 (mC mw_144 (mC mw_145 (mC mw_146 (mC mw_147 mN))))))))))))))))))))))))
theorem in_wsX6_empties_r5 : ∀ w ∈ wsX6_empties_r5, w ∈ lw_tbl := (mC mw_148 (mC mw_149 (mC mw_150 (mC mw_151 (mC mw_217 (mC mw_218 (mC mw_219 (mC mw_220 mN))))))))
theorem in_wsX6_empties : ∀ w ∈ wsX6_empties, w ∈ lw_tbl := mC mw_286 (mA (mA (mA (mA (mA (mA (mA in_wsX6_empties_r1 (mA in_wsX6_empties_r2 (mA in_wsX6_empties_r3 (mA in_wsX6_empties_r4 in_wsX6_empties_r5)))) wwsX60_in) wwsX10_in) wwsX00_in) wwsX20_in) wwsX50_in) wwsX30_in)
set_option maxRecDepth 20000 in
theorem hL_X6_empties : GoodIn lw_tbl (wsV RL 23 RX6 yX6_empties wsX6_empties) := goodIn_sub (mA (mC mw_283 (mC mw_284 (mC mw_285 (mC mw_2 mN)))) in_wsX6_empties) (by decide +kernel)
theorem in_wsX7_empties : ∀ w ∈ wsX7_empties, w ∈ lw_tbl := mC mw_290 (mA (mC mw_156 (mC mw_235 (mC mw_236 (mC mw_237 (mC mw_5 (mC mw_238 (mC mw_158 (mC mw_239 (mC mw_240 (mC mw_241 (mC mw_242 (mC mw_243 (mC mw_157 (mC mw_291 (mC mw_292 (mC mw_293 (mC mw_294 mN))))))))))))))))) wwsX70_in)
set_option maxRecDepth 20000 in
theorem hL_X7_empties : GoodIn lw_tbl (wsV RL 27 RX7 yX7_empties wsX7_empties) := goodIn_sub (mA (mC mw_287 (mC mw_288 (mC mw_289 (mC mw_5 mN)))) in_wsX7_empties) (by decide +kernel)
theorem in_wsX6_rules_r1 : ∀ w ∈ wsX6_rules_r1, w ∈ lw_tbl := (mC mw_299 (mC mw_300 (mC mw_25 (mC mw_178 (mC mw_179 (mC mw_2 (mC mw_180 (mC mw_181 (mC mw_182 (mC mw_183 (mC mw_184 (mC mw_26 (mC mw_27 (mC mw_28 (mC mw_89 (mC mw_90 (mC mw_91 (mC mw_92 (mC mw_15 (mC mw_93 (mC mw_94 (mC mw_95 (mC mw_96 (mC mw_97 mN))))))))))))))))))))))))
theorem in_wsX6_rules_r2 : ∀ w ∈ wsX6_rules_r2, w ∈ lw_tbl := (mC mw_98 (mC mw_99 (mC mw_100 (mC mw_101 (mC mw_102 (mC mw_14 (mC mw_103 (mC mw_40 (mC mw_36 (mC mw_44 (mC mw_104 (mC mw_105 (mC mw_106 (mC mw_39 (mC mw_107 (mC mw_68 (mC mw_69 (mC mw_70 (mC mw_67 (mC mw_108 (mC mw_109 (mC mw_110 (mC mw_111 (mC mw_112 mN))))))))))))))))))))))))
theorem in_wsX6_rules_r3 : ∀ w ∈ wsX6_rules_r3, w ∈ lw_tbl := (mC mw_113 (mC mw_114 (mC mw_115 (mC mw_63 (mC mw_64 (mC mw_116 (mC mw_117 (mC mw_118 (mC mw_119 (mC mw_120 (mC mw_121 (mC mw_122 (mC mw_123 (mC mw_35 (mC mw_124 (mC mw_55 (mC mw_59 (mC mw_125 (mC mw_126 (mC mw_127 (mC mw_128 (mC mw_65 (mC mw_129 (mC mw_130 mN))))))))))))))))))))))))
theorem in_wsX6_rules_r4 : ∀ w ∈ wsX6_rules_r4, w ∈ lw_tbl := (mC mw_131 (mC mw_132 (mC mw_133 (mC mw_134 (mC mw_135 (mC mw_136 (mC mw_66 (mC mw_137 (mC mw_138 (mC mw_139 (mC mw_43 (mC mw_140 (mC mw_75 (mC mw_77 (mC mw_141 (mC mw_76 (mC mw_142 (mC mw_143 (mC mw_144 (mC mw_145 (mC mw_146 (mC mw_147 (mC mw_148 (mC mw_149 mN))))))))))))))))))))))))
theorem in_wsX6_rules_r5 : ∀ w ∈ wsX6_rules_r5, w ∈ lw_tbl := (mC mw_150 (mC mw_151 mN))
theorem in_wsX6_rules : ∀ w ∈ wsX6_rules, w ∈ lw_tbl := mC mw_298 (mA (mA (mA (mA (mA (mA in_wsX6_rules_r1 (mA in_wsX6_rules_r2 (mA in_wsX6_rules_r3 (mA in_wsX6_rules_r4 in_wsX6_rules_r5)))) wwsX60_in) wwsX10_in) wwsX50_in) wwsX30_in) wwsX00_in)
set_option maxRecDepth 20000 in
theorem hL_X6_rules : GoodIn lw_tbl (wsV RL 28 RX6 yX6_rules wsX6_rules) := goodIn_sub (mA (mC mw_295 (mC mw_296 (mC mw_297 (mC mw_2 mN)))) in_wsX6_rules) (by decide +kernel)
theorem in_wsX7_rules : ∀ w ∈ wsX7_rules, w ∈ lw_tbl := mC mw_304 (mA (mC mw_159 (mC mw_228 (mC mw_229 (mC mw_5 (mC mw_230 (mC mw_231 (mC mw_232 (mC mw_233 (mC mw_234 (mC mw_160 mN)))))))))) wwsX70_in)
set_option maxRecDepth 20000 in
theorem hL_X7_rules : GoodIn lw_tbl (wsV RL 31 RX7 yX7_rules wsX7_rules) := goodIn_sub (mA (mC mw_301 (mC mw_302 (mC mw_303 (mC mw_5 mN)))) in_wsX7_rules) (by decide +kernel)
theorem in_wsX6_of_r1 : ∀ w ∈ wsX6_of_r1, w ∈ lw_tbl := (mC mw_15 (mC mw_93 (mC mw_309 (mC mw_174 (mC mw_175 (mC mw_176 (mC mw_2 (mC mw_177 (mC mw_178 (mC mw_179 (mC mw_180 (mC mw_181 (mC mw_182 (mC mw_183 (mC mw_184 (mC mw_26 (mC mw_27 (mC mw_28 (mC mw_310 (mC mw_311 (mC mw_312 (mC mw_14 (mC mw_313 (mC mw_36 mN))))))))))))))))))))))))
theorem in_wsX6_of_r2 : ∀ w ∈ wsX6_of_r2, w ∈ lw_tbl := (mC mw_314 (mC mw_315 (mC mw_316 (mC mw_317 (mC mw_318 (mC mw_319 (mC mw_40 (mC mw_320 (mC mw_44 (mC mw_321 (mC mw_210 (mC mw_211 (mC mw_35 (mC mw_212 (mC mw_56 (mC mw_55 (mC mw_322 (mC mw_323 (mC mw_324 (mC mw_43 (mC mw_325 (mC mw_75 (mC mw_74 (mC mw_326 mN))))))))))))))))))))))))
theorem in_wsX6_of_r3 : ∀ w ∈ wsX6_of_r3, w ∈ lw_tbl := (mC mw_327 (mC mw_328 (mC mw_329 (mC mw_76 (mC mw_77 (mC mw_330 (mC mw_331 (mC mw_332 (mC mw_333 (mC mw_334 (mC mw_335 (mC mw_336 (mC mw_39 (mC mw_337 (mC mw_70 (mC mw_67 (mC mw_66 (mC mw_197 (mC mw_198 (mC mw_199 (mC mw_200 (mC mw_57 (mC mw_58 (mC mw_59 mN))))))))))))))))))))))))
theorem in_wsX6_of : ∀ w ∈ wsX6_of, w ∈ lw_tbl := mC mw_308 (mA (mA (mA (mA (mA (mA in_wsX6_of_r1 (mA in_wsX6_of_r2 in_wsX6_of_r3)) wwsX60_in) wwsX10_in) wwsX50_in) wwsX00_in) wwsX30_in)
set_option maxRecDepth 20000 in
theorem hL_X6_of : GoodIn lw_tbl (wsV RL 32 RX6 yX6_of wsX6_of) := goodIn_sub (mA (mC mw_305 (mC mw_306 (mC mw_307 (mC mw_2 mN)))) in_wsX6_of) (by decide +kernel)
theorem in_wsX7_of_r1 : ∀ w ∈ wsX7_of_r1, w ∈ lw_tbl := (mC mw_156 (mC mw_163 (mC mw_225 (mC mw_226 (mC mw_5 (mC mw_227 (mC mw_228 (mC mw_229 (mC mw_230 (mC mw_231 (mC mw_232 (mC mw_233 (mC mw_234 (mC mw_160 (mC mw_342 (mC mw_343 (mC mw_344 (mC mw_345 (mC mw_346 (mC mw_347 (mC mw_348 (mC mw_349 (mC mw_162 (mC mw_159 mN))))))))))))))))))))))))
theorem in_wsX7_of_r2 : ∀ w ∈ wsX7_of_r2, w ∈ lw_tbl := (mC mw_350 (mC mw_351 (mC mw_352 (mC mw_353 (mC mw_248 (mC mw_249 (mC mw_250 (mC mw_251 (mC mw_354 (mC mw_355 (mC mw_356 (mC mw_357 (mC mw_358 (mC mw_359 (mC mw_360 (mC mw_361 (mC mw_362 (mC mw_363 (mC mw_364 (mC mw_365 (mC mw_166 (mC mw_366 (mC mw_367 (mC mw_368 mN))))))))))))))))))))))))
theorem in_wsX7_of_r3 : ∀ w ∈ wsX7_of_r3, w ∈ lw_tbl := (mC mw_369 (mC mw_370 (mC mw_371 (mC mw_372 (mC mw_373 (mC mw_374 (mC mw_375 (mC mw_376 (mC mw_377 (mC mw_167 (mC mw_378 (mC mw_165 (mC mw_379 (mC mw_380 (mC mw_381 (mC mw_382 (mC mw_164 (mC mw_383 (mC mw_384 (mC mw_385 (mC mw_386 mN)))))))))))))))))))))
theorem in_wsX7_of : ∀ w ∈ wsX7_of, w ∈ lw_tbl := mC mw_341 (mA (mA in_wsX7_of_r1 (mA in_wsX7_of_r2 in_wsX7_of_r3)) wwsX70_in)
set_option maxRecDepth 20000 in
theorem hL_X7_of : GoodIn lw_tbl (wsV RL 35 RX7 yX7_of wsX7_of) := goodIn_sub (mA (mC mw_338 (mC mw_339 (mC mw_340 (mC mw_5 mN)))) in_wsX7_of) (by decide +kernel)
theorem in_wsX6_sum : ∀ w ∈ wsX6_sum, w ∈ lw_tbl := mC mw_390 (mA (mA (mA (mC mw_15 (mC mw_93 (mC mw_391 (mC mw_175 (mC mw_176 (mC mw_2 (mC mw_177 (mC mw_178 (mC mw_179 (mC mw_180 (mC mw_181 (mC mw_182 (mC mw_183 (mC mw_184 (mC mw_26 (mC mw_27 (mC mw_28 mN))))))))))))))))) wwsX60_in) wwsX10_in) wwsX50_in)
set_option maxRecDepth 20000 in
theorem hL_X6_sum : GoodIn lw_tbl (wsV RL 36 RX6 yX6_sum wsX6_sum) := goodIn_sub (mA (mC mw_387 (mC mw_388 (mC mw_389 (mC mw_2 mN)))) in_wsX6_sum) (by decide +kernel)
theorem in_wsX7_sum_r1 : ∀ w ∈ wsX7_sum_r1, w ∈ lw_tbl := (mC mw_162 (mC mw_346 (mC mw_347 (mC mw_348 (mC mw_5 (mC mw_349 (mC mw_159 (mC mw_350 (mC mw_351 (mC mw_352 (mC mw_353 (mC mw_248 (mC mw_249 (mC mw_250 (mC mw_251 (mC mw_156 (mC mw_225 (mC mw_226 (mC mw_227 (mC mw_228 (mC mw_229 (mC mw_230 (mC mw_231 (mC mw_232 mN))))))))))))))))))))))))
theorem in_wsX7_sum_r2 : ∀ w ∈ wsX7_sum_r2, w ∈ lw_tbl := (mC mw_233 (mC mw_234 (mC mw_160 mN)))
theorem in_wsX7_sum : ∀ w ∈ wsX7_sum, w ∈ lw_tbl := mC mw_395 (mA (mA in_wsX7_sum_r1 in_wsX7_sum_r2) wwsX70_in)
set_option maxRecDepth 20000 in
theorem hL_X7_sum : GoodIn lw_tbl (wsV RL 40 RX7 yX7_sum wsX7_sum) := goodIn_sub (mA (mC mw_392 (mC mw_393 (mC mw_394 (mC mw_5 mN)))) in_wsX7_sum) (by decide +kernel)
theorem in_wsX6_windows_r1 : ∀ w ∈ wsX6_windows_r1, w ∈ lw_tbl := (mC mw_15 (mC mw_93 (mC mw_400 (mC mw_401 (mC mw_402 (mC mw_39 (mC mw_403 (mC mw_63 (mC mw_64 (mC mw_404 (mC mw_405 (mC mw_406 (mC mw_407 (mC mw_125 (mC mw_126 (mC mw_127 (mC mw_128 (mC mw_67 (mC mw_65 (mC mw_408 (mC mw_409 (mC mw_410 (mC mw_411 (mC mw_66 mN))))))))))))))))))))))))
theorem in_wsX6_windows_r2 : ∀ w ∈ wsX6_windows_r2, w ∈ lw_tbl := (mC mw_412 (mC mw_413 (mC mw_414 (mC mw_415 (mC mw_416 (mC mw_417 (mC mw_418 (mC mw_419 (mC mw_181 (mC mw_182 (mC mw_183 (mC mw_2 (mC mw_184 (mC mw_26 (mC mw_27 (mC mw_28 mN))))))))))))))))
theorem in_wsX6_windows : ∀ w ∈ wsX6_windows, w ∈ lw_tbl := mC mw_399 (mA (mA (mA (mA in_wsX6_windows_r1 in_wsX6_windows_r2) wwsX60_in) wwsX10_in) wwsX50_in)
set_option maxRecDepth 20000 in
theorem hL_X6_windows : GoodIn lw_tbl (wsV RL 41 RX6 yX6_windows wsX6_windows) := goodIn_sub (mA (mC mw_396 (mC mw_397 (mC mw_398 (mC mw_2 mN)))) in_wsX6_windows) (by decide +kernel)
theorem in_wsX7_windows_r1 : ∀ w ∈ wsX7_windows_r1, w ∈ lw_tbl := (mC mw_346 (mC mw_347 (mC mw_348 (mC mw_5 (mC mw_349 (mC mw_162 (mC mw_159 (mC mw_350 (mC mw_351 (mC mw_352 (mC mw_353 (mC mw_248 (mC mw_249 (mC mw_250 (mC mw_251 (mC mw_156 (mC mw_228 (mC mw_229 (mC mw_230 (mC mw_424 (mC mw_425 (mC mw_426 (mC mw_427 (mC mw_358 mN))))))))))))))))))))))))
theorem in_wsX7_windows_r2 : ∀ w ∈ wsX7_windows_r2, w ∈ lw_tbl := (mC mw_359 (mC mw_360 (mC mw_361 (mC mw_231 (mC mw_232 (mC mw_233 (mC mw_234 (mC mw_160 mN))))))))
theorem in_wsX7_windows : ∀ w ∈ wsX7_windows, w ∈ lw_tbl := mC mw_423 (mA (mA in_wsX7_windows_r1 in_wsX7_windows_r2) wwsX70_in)
set_option maxRecDepth 20000 in
theorem hL_X7_windows : GoodIn lw_tbl (wsV RL 44 RX7 yX7_windows wsX7_windows) := goodIn_sub (mA (mC mw_420 (mC mw_421 (mC mw_422 (mC mw_5 mN)))) in_wsX7_windows) (by decide +kernel)
theorem in_wsX6_worst : ∀ w ∈ wsX6_worst, w ∈ lw_tbl := mC mw_431 (mA (mA (mA (mC mw_15 (mC mw_93 (mC mw_391 (mC mw_432 (mC mw_433 (mC mw_434 (mC mw_39 (mC mw_435 (mC mw_67 (mC mw_436 (mC mw_437 (mC mw_438 (mC mw_439 (mC mw_181 (mC mw_182 (mC mw_183 (mC mw_2 (mC mw_184 (mC mw_26 (mC mw_27 (mC mw_28 mN))))))))))))))))))))) wwsX60_in) wwsX10_in) wwsX50_in)
set_option maxRecDepth 20000 in
theorem hL_X6_worst : GoodIn lw_tbl (wsV RL 45 RX6 yX6_worst wsX6_worst) := goodIn_sub (mA (mC mw_428 (mC mw_429 (mC mw_430 (mC mw_2 mN)))) in_wsX6_worst) (by decide +kernel)
theorem in_wsX7_worst : ∀ w ∈ wsX7_worst, w ∈ lw_tbl := mC mw_443 (mA (mC mw_162 (mC mw_228 (mC mw_229 (mC mw_5 (mC mw_230 (mC mw_231 (mC mw_232 (mC mw_233 (mC mw_234 (mC mw_160 (mC mw_346 (mC mw_347 (mC mw_348 (mC mw_349 (mC mw_159 (mC mw_350 (mC mw_351 (mC mw_352 (mC mw_353 (mC mw_248 (mC mw_249 (mC mw_250 (mC mw_251 (mC mw_156 mN)))))))))))))))))))))))) wwsX70_in)
set_option maxRecDepth 20000 in
theorem hL_X7_worst : GoodIn lw_tbl (wsV RL 48 RX7 yX7_worst wsX7_worst) := goodIn_sub (mA (mC mw_440 (mC mw_441 (mC mw_442 (mC mw_5 mN)))) in_wsX7_worst) (by decide +kernel)
theorem in_wsX6_order_r1 : ∀ w ∈ wsX6_order_r1, w ∈ lw_tbl := (mC mw_15 (mC mw_93 (mC mw_178 (mC mw_179 (mC mw_2 (mC mw_180 (mC mw_181 (mC mw_182 (mC mw_183 (mC mw_184 (mC mw_26 (mC mw_27 (mC mw_28 (mC mw_448 (mC mw_449 (mC mw_450 (mC mw_39 (mC mw_451 (mC mw_416 (mC mw_417 (mC mw_418 (mC mw_419 (mC mw_67 (mC mw_452 mN))))))))))))))))))))))))
theorem in_wsX6_order_r2 : ∀ w ∈ wsX6_order_r2, w ∈ lw_tbl := (mC mw_453 (mC mw_454 (mC mw_455 mN)))
theorem in_wsX6_order : ∀ w ∈ wsX6_order, w ∈ lw_tbl := mC mw_447 (mA (mA (mA (mA in_wsX6_order_r1 in_wsX6_order_r2) wwsX60_in) wwsX10_in) wwsX50_in)
set_option maxRecDepth 20000 in
theorem hL_X6_order : GoodIn lw_tbl (wsV RL 49 RX6 yX6_order wsX6_order) := goodIn_sub (mA (mC mw_444 (mC mw_445 (mC mw_446 (mC mw_2 mN)))) in_wsX6_order) (by decide +kernel)
theorem in_wsX7_order_r1 : ∀ w ∈ wsX7_order_r1, w ∈ lw_tbl := (mC mw_162 (mC mw_228 (mC mw_229 (mC mw_5 (mC mw_230 (mC mw_231 (mC mw_232 (mC mw_233 (mC mw_234 (mC mw_160 (mC mw_346 (mC mw_347 (mC mw_348 (mC mw_349 (mC mw_159 (mC mw_350 (mC mw_351 (mC mw_352 (mC mw_353 (mC mw_248 (mC mw_249 (mC mw_250 (mC mw_251 (mC mw_156 mN))))))))))))))))))))))))
theorem in_wsX7_order_r2 : ∀ w ∈ wsX7_order_r2, w ∈ lw_tbl := (mC mw_460 (mC mw_461 (mC mw_462 (mC mw_463 mN))))
theorem in_wsX7_order : ∀ w ∈ wsX7_order, w ∈ lw_tbl := mC mw_459 (mA (mA in_wsX7_order_r1 in_wsX7_order_r2) wwsX70_in)
set_option maxRecDepth 20000 in
theorem hL_X7_order : GoodIn lw_tbl (wsV RL 52 RX7 yX7_order wsX7_order) := goodIn_sub (mA (mC mw_456 (mC mw_457 (mC mw_458 (mC mw_5 mN)))) in_wsX7_order) (by decide +kernel)
theorem in_wsX6_turn_r1 : ∀ w ∈ wsX6_turn_r1, w ∈ lw_tbl := (mC mw_15 (mC mw_93 (mC mw_181 (mC mw_182 (mC mw_183 (mC mw_2 (mC mw_184 (mC mw_26 (mC mw_27 (mC mw_28 (mC mw_468 (mC mw_469 (mC mw_470 (mC mw_39 (mC mw_471 (mC mw_416 (mC mw_417 (mC mw_418 (mC mw_419 (mC mw_67 (mC mw_472 (mC mw_453 (mC mw_454 (mC mw_455 mN))))))))))))))))))))))))
theorem in_wsX6_turn_r2 : ∀ w ∈ wsX6_turn_r2, w ∈ lw_tbl := (mC mw_473 (mC mw_474 (mC mw_475 (mC mw_476 mN))))
theorem in_wsX6_turn : ∀ w ∈ wsX6_turn, w ∈ lw_tbl := mC mw_467 (mA (mA (mA (mA in_wsX6_turn_r1 in_wsX6_turn_r2) wwsX60_in) wwsX10_in) wwsX50_in)
set_option maxRecDepth 20000 in
theorem hL_X6_turn : GoodIn lw_tbl (wsV RL 53 RX6 yX6_turn wsX6_turn) := goodIn_sub (mA (mC mw_464 (mC mw_465 (mC mw_466 (mC mw_2 mN)))) in_wsX6_turn) (by decide +kernel)
theorem in_wsX7_turn_r1 : ∀ w ∈ wsX7_turn_r1, w ∈ lw_tbl := (mC mw_162 (mC mw_231 (mC mw_232 (mC mw_233 (mC mw_5 (mC mw_234 (mC mw_160 (mC mw_346 (mC mw_347 (mC mw_348 (mC mw_349 (mC mw_159 (mC mw_350 (mC mw_351 (mC mw_352 (mC mw_353 (mC mw_248 (mC mw_249 (mC mw_250 (mC mw_251 (mC mw_156 (mC mw_460 (mC mw_461 (mC mw_462 mN))))))))))))))))))))))))
theorem in_wsX7_turn_r2 : ∀ w ∈ wsX7_turn_r2, w ∈ lw_tbl := (mC mw_463 mN)
theorem in_wsX7_turn : ∀ w ∈ wsX7_turn, w ∈ lw_tbl := mC mw_480 (mA (mA in_wsX7_turn_r1 in_wsX7_turn_r2) wwsX70_in)
set_option maxRecDepth 20000 in
theorem hL_X7_turn : GoodIn lw_tbl (wsV RL 56 RX7 yX7_turn wsX7_turn) := goodIn_sub (mA (mC mw_477 (mC mw_478 (mC mw_479 (mC mw_5 mN)))) in_wsX7_turn) (by decide +kernel)
theorem in_wsX6_burden : ∀ w ∈ wsX6_burden, w ∈ lw_tbl := mC mw_484 (mA (mA (mA (mC mw_15 (mC mw_98 (mC mw_485 (mC mw_178 (mC mw_179 (mC mw_2 (mC mw_180 (mC mw_181 (mC mw_182 (mC mw_183 (mC mw_184 (mC mw_26 (mC mw_27 (mC mw_28 mN)))))))))))))) wwsX60_in) wwsX10_in) wwsX30_in)
set_option maxRecDepth 20000 in
theorem hL_X6_burden : GoodIn lw_tbl (wsV RL 57 RX6 yX6_burden wsX6_burden) := goodIn_sub (mA (mC mw_481 (mC mw_482 (mC mw_483 (mC mw_2 mN)))) in_wsX6_burden) (by decide +kernel)
theorem in_wsX7_burden : ∀ w ∈ wsX7_burden, w ∈ lw_tbl := mC mw_489 (mA (mC mw_166 (mC mw_362 (mC mw_363 (mC mw_364 (mC mw_5 (mC mw_365 (mC mw_156 (mC mw_366 (mC mw_367 (mC mw_368 (mC mw_369 (mC mw_370 (mC mw_371 (mC mw_372 (mC mw_373 (mC mw_228 (mC mw_229 (mC mw_230 (mC mw_231 (mC mw_232 (mC mw_233 (mC mw_234 (mC mw_160 mN))))))))))))))))))))))) wwsX70_in)
set_option maxRecDepth 20000 in
theorem hL_X7_burden : GoodIn lw_tbl (wsV RL 60 RX7 yX7_burden wsX7_burden) := goodIn_sub (mA (mC mw_486 (mC mw_487 (mC mw_488 (mC mw_5 mN)))) in_wsX7_burden) (by decide +kernel)
theorem in_wsX6_all : ∀ w ∈ wsX6_all, w ∈ lw_tbl := mC mw_493 (mA (mA (mA (mC mw_15 (mC mw_174 (mC mw_257 (mC mw_258 (mC mw_494 (mC mw_271 (mC mw_272 (mC mw_2 (mC mw_273 (mC mw_495 (mC mw_496 (mC mw_497 (mC mw_35 (mC mw_498 (mC mw_59 (mC mw_181 (mC mw_182 (mC mw_183 (mC mw_184 (mC mw_26 (mC mw_27 (mC mw_28 mN)))))))))))))))))))))) wwsX60_in) wwsX10_in) wwsX00_in)
set_option maxRecDepth 20000 in
theorem hL_X6_all : GoodIn lw_tbl (wsV RL 61 RX6 yX6_all wsX6_all) := goodIn_sub (mA (mC mw_490 (mC mw_491 (mC mw_492 (mC mw_2 mN)))) in_wsX6_all) (by decide +kernel)
theorem in_wsX7_all : ∀ w ∈ wsX7_all, w ∈ lw_tbl := mC mw_502 (mA (mC mw_156 (mC mw_228 (mC mw_229 (mC mw_5 (mC mw_230 (mC mw_231 (mC mw_232 (mC mw_233 (mC mw_234 (mC mw_160 mN)))))))))) wwsX70_in)
set_option maxRecDepth 20000 in
theorem hL_X7_all : GoodIn lw_tbl (wsV RL 64 RX7 yX7_all wsX7_all) := goodIn_sub (mA (mC mw_499 (mC mw_500 (mC mw_501 (mC mw_5 mN)))) in_wsX7_all) (by decide +kernel)
theorem in_wsX6_more_r1 : ∀ w ∈ wsX6_more_r1, w ∈ lw_tbl := (mC mw_15 (mC mw_175 (mC mw_176 (mC mw_2 (mC mw_177 (mC mw_178 (mC mw_179 (mC mw_180 (mC mw_181 (mC mw_182 (mC mw_183 (mC mw_184 (mC mw_26 (mC mw_27 (mC mw_28 (mC mw_310 (mC mw_311 (mC mw_312 (mC mw_14 (mC mw_313 (mC mw_36 (mC mw_314 (mC mw_315 (mC mw_316 mN))))))))))))))))))))))))
theorem in_wsX6_more_r2 : ∀ w ∈ wsX6_more_r2, w ∈ lw_tbl := (mC mw_317 (mC mw_318 (mC mw_319 (mC mw_40 (mC mw_320 (mC mw_44 (mC mw_321 (mC mw_210 (mC mw_211 (mC mw_35 (mC mw_212 (mC mw_56 (mC mw_55 (mC mw_322 (mC mw_323 (mC mw_324 (mC mw_43 (mC mw_325 (mC mw_75 (mC mw_74 (mC mw_326 (mC mw_327 (mC mw_328 (mC mw_329 mN))))))))))))))))))))))))
theorem in_wsX6_more_r3 : ∀ w ∈ wsX6_more_r3, w ∈ lw_tbl := (mC mw_76 (mC mw_77 (mC mw_330 (mC mw_331 (mC mw_332 (mC mw_333 (mC mw_334 (mC mw_335 (mC mw_336 (mC mw_39 (mC mw_337 (mC mw_70 (mC mw_67 (mC mw_66 (mC mw_507 (mC mw_508 (mC mw_509 (mC mw_510 (mC mw_19 (mC mw_174 (mC mw_257 (mC mw_185 (mC mw_186 (mC mw_187 mN))))))))))))))))))))))))
theorem in_wsX6_more_r4 : ∀ w ∈ wsX6_more_r4, w ∈ lw_tbl := (mC mw_18 (mC mw_188 (mC mw_81 (mC mw_83 (mC mw_189 (mC mw_190 (mC mw_191 (mC mw_192 (mC mw_82 (mC mw_193 (mC mw_194 (mC mw_195 (mC mw_196 (mC mw_59 (mC mw_57 (mC mw_58 (mC mw_511 (mC mw_512 (mC mw_513 (mC mw_514 (mC mw_515 (mC mw_516 (mC mw_517 (mC mw_518 mN))))))))))))))))))))))))
theorem in_wsX6_more_r5 : ∀ w ∈ wsX6_more_r5, w ∈ lw_tbl := (mC mw_63 (mC mw_519 (mC mw_206 (mC mw_207 (mC mw_208 (mC mw_64 (mC mw_520 (mC mw_264 (mC mw_265 (mC mw_521 (mC mw_522 (mC mw_523 (mC mw_524 (mC mw_68 (mC mw_69 (mC mw_125 (mC mw_126 (mC mw_127 (mC mw_128 (mC mw_65 (mC mw_133 (mC mw_134 (mC mw_135 (mC mw_136 mN))))))))))))))))))))))))
theorem in_wsX6_more_r6 : ∀ w ∈ wsX6_more_r6, w ∈ lw_tbl := (mC mw_129 (mC mw_130 (mC mw_131 (mC mw_132 (mC mw_525 (mC mw_149 (mC mw_150 (mC mw_151 (mC mw_217 (mC mw_218 (mC mw_219 (mC mw_220 mN))))))))))))
theorem in_wsX6_more : ∀ w ∈ wsX6_more, w ∈ lw_tbl := mC mw_506 (mA (mA (mA (mA (mA (mA (mA in_wsX6_more_r1 (mA in_wsX6_more_r2 (mA in_wsX6_more_r3 (mA in_wsX6_more_r4 (mA in_wsX6_more_r5 in_wsX6_more_r6))))) wwsX60_in) wwsX10_in) wwsX00_in) wwsX50_in) wwsX30_in) wwsX20_in)
set_option maxRecDepth 20000 in
theorem hL_X6_more : GoodIn lw_tbl (wsV RL 65 RX6 yX6_more wsX6_more) := goodIn_sub (mA (mC mw_503 (mC mw_504 (mC mw_505 (mC mw_2 mN)))) in_wsX6_more) (by decide +kernel)
theorem in_wsX7_more_r1 : ∀ w ∈ wsX7_more_r1, w ∈ lw_tbl := (mC mw_156 (mC mw_225 (mC mw_226 (mC mw_5 (mC mw_227 (mC mw_228 (mC mw_229 (mC mw_230 (mC mw_231 (mC mw_232 (mC mw_233 (mC mw_234 (mC mw_160 (mC mw_342 (mC mw_343 (mC mw_344 (mC mw_345 (mC mw_346 (mC mw_347 (mC mw_348 (mC mw_349 (mC mw_162 (mC mw_159 (mC mw_350 mN))))))))))))))))))))))))
theorem in_wsX7_more_r2 : ∀ w ∈ wsX7_more_r2, w ∈ lw_tbl := (mC mw_351 (mC mw_352 (mC mw_353 (mC mw_248 (mC mw_249 (mC mw_250 (mC mw_251 (mC mw_354 (mC mw_355 (mC mw_356 (mC mw_357 (mC mw_163 (mC mw_358 (mC mw_359 (mC mw_360 (mC mw_361 (mC mw_362 (mC mw_363 (mC mw_364 (mC mw_365 (mC mw_166 (mC mw_366 (mC mw_367 (mC mw_368 mN))))))))))))))))))))))))
theorem in_wsX7_more_r3 : ∀ w ∈ wsX7_more_r3, w ∈ lw_tbl := (mC mw_369 (mC mw_370 (mC mw_371 (mC mw_372 (mC mw_373 (mC mw_374 (mC mw_375 (mC mw_376 (mC mw_377 (mC mw_167 (mC mw_378 (mC mw_165 (mC mw_379 (mC mw_380 (mC mw_381 (mC mw_382 (mC mw_164 (mC mw_383 (mC mw_384 (mC mw_385 (mC mw_386 (mC mw_235 (mC mw_236 (mC mw_237 mN))))))))))))))))))))))))
theorem in_wsX7_more_r4 : ∀ w ∈ wsX7_more_r4, w ∈ lw_tbl := (mC mw_238 (mC mw_158 (mC mw_239 (mC mw_240 (mC mw_241 (mC mw_242 (mC mw_243 (mC mw_157 (mC mw_530 (mC mw_531 (mC mw_532 (mC mw_533 mN))))))))))))
theorem in_wsX7_more : ∀ w ∈ wsX7_more, w ∈ lw_tbl := mC mw_529 (mA (mA in_wsX7_more_r1 (mA in_wsX7_more_r2 (mA in_wsX7_more_r3 in_wsX7_more_r4))) wwsX70_in)
set_option maxRecDepth 20000 in
theorem hL_X7_more : GoodIn lw_tbl (wsV RL 68 RX7 yX7_more wsX7_more) := goodIn_sub (mA (mC mw_526 (mC mw_527 (mC mw_528 (mC mw_5 mN)))) in_wsX7_more) (by decide +kernel)
theorem in_wsX6_less_r1 : ∀ w ∈ wsX6_less_r1, w ∈ lw_tbl := (mC mw_15 (mC mw_174 (mC mw_257 (mC mw_175 (mC mw_176 (mC mw_2 (mC mw_177 (mC mw_178 (mC mw_179 (mC mw_180 (mC mw_181 (mC mw_182 (mC mw_183 (mC mw_184 (mC mw_26 (mC mw_27 (mC mw_28 (mC mw_507 (mC mw_508 (mC mw_509 (mC mw_510 (mC mw_19 (mC mw_185 (mC mw_186 mN))))))))))))))))))))))))
theorem in_wsX6_less_r2 : ∀ w ∈ wsX6_less_r2, w ∈ lw_tbl := (mC mw_187 (mC mw_18 (mC mw_188 (mC mw_81 (mC mw_83 (mC mw_189 (mC mw_190 (mC mw_191 (mC mw_192 (mC mw_82 (mC mw_193 (mC mw_194 (mC mw_195 (mC mw_35 (mC mw_196 (mC mw_55 (mC mw_59 (mC mw_56 (mC mw_57 (mC mw_58 (mC mw_511 (mC mw_512 (mC mw_513 (mC mw_14 mN))))))))))))))))))))))))
theorem in_wsX6_less_r3 : ∀ w ∈ wsX6_less_r3, w ∈ lw_tbl := (mC mw_514 (mC mw_36 (mC mw_314 (mC mw_319 (mC mw_40 (mC mw_44 (mC mw_515 (mC mw_516 (mC mw_517 (mC mw_39 (mC mw_518 (mC mw_63 (mC mw_519 (mC mw_206 (mC mw_207 (mC mw_208 (mC mw_64 (mC mw_520 (mC mw_264 (mC mw_265 (mC mw_521 (mC mw_522 (mC mw_523 (mC mw_524 mN))))))))))))))))))))))))
theorem in_wsX6_less_r4 : ∀ w ∈ wsX6_less_r4, w ∈ lw_tbl := (mC mw_67 (mC mw_68 (mC mw_69 (mC mw_125 (mC mw_126 (mC mw_127 (mC mw_128 (mC mw_65 (mC mw_133 (mC mw_134 (mC mw_135 (mC mw_136 (mC mw_66 (mC mw_129 (mC mw_130 (mC mw_131 (mC mw_132 (mC mw_525 (mC mw_149 (mC mw_150 (mC mw_43 (mC mw_151 (mC mw_76 (mC mw_75 mN))))))))))))))))))))))))
theorem in_wsX6_less_r5 : ∀ w ∈ wsX6_less_r5, w ∈ lw_tbl := (mC mw_217 (mC mw_218 (mC mw_219 (mC mw_220 mN))))
theorem in_wsX6_less : ∀ w ∈ wsX6_less, w ∈ lw_tbl := mC mw_537 (mA (mA (mA (mA (mA (mA (mA in_wsX6_less_r1 (mA in_wsX6_less_r2 (mA in_wsX6_less_r3 (mA in_wsX6_less_r4 in_wsX6_less_r5)))) wwsX60_in) wwsX10_in) wwsX00_in) wwsX20_in) wwsX50_in) wwsX30_in)
set_option maxRecDepth 20000 in
theorem hL_X6_less : GoodIn lw_tbl (wsV RL 69 RX6 yX6_less wsX6_less) := goodIn_sub (mA (mC mw_534 (mC mw_535 (mC mw_536 (mC mw_2 mN)))) in_wsX6_less) (by decide +kernel)
theorem in_wsX7_less_r1 : ∀ w ∈ wsX7_less_r1, w ∈ lw_tbl := (mC mw_156 (mC mw_225 (mC mw_226 (mC mw_5 (mC mw_227 (mC mw_228 (mC mw_229 (mC mw_230 (mC mw_231 (mC mw_232 (mC mw_233 (mC mw_234 (mC mw_160 (mC mw_235 (mC mw_236 (mC mw_237 (mC mw_238 (mC mw_158 (mC mw_239 (mC mw_240 (mC mw_241 (mC mw_242 (mC mw_243 (mC mw_157 mN))))))))))))))))))))))))
theorem in_wsX7_less_r2 : ∀ w ∈ wsX7_less_r2, w ∈ lw_tbl := (mC mw_379 (mC mw_380 (mC mw_381 (mC mw_382 (mC mw_378 (mC mw_164 (mC mw_165 (mC mw_530 (mC mw_531 (mC mw_532 (mC mw_533 mN)))))))))))
theorem in_wsX7_less : ∀ w ∈ wsX7_less, w ∈ lw_tbl := mC mw_541 (mA (mA in_wsX7_less_r1 in_wsX7_less_r2) wwsX70_in)
set_option maxRecDepth 20000 in
theorem hL_X7_less : GoodIn lw_tbl (wsV RL 72 RX7 yX7_less wsX7_less) := goodIn_sub (mA (mC mw_538 (mC mw_539 (mC mw_540 (mC mw_5 mN)))) in_wsX7_less) (by decide +kernel)
theorem in_wsX6_next_r1 : ∀ w ∈ wsX6_next_r1, w ∈ lw_tbl := (mC mw_15 (mC mw_25 (mC mw_546 (mC mw_547 (mC mw_548 (mC mw_14 (mC mw_549 (mC mw_40 (mC mw_550 (mC mw_433 (mC mw_434 (mC mw_39 (mC mw_435 (mC mw_67 (mC mw_551 (mC mw_126 (mC mw_127 (mC mw_128 (mC mw_65 (mC mw_552 (mC mw_553 (mC mw_554 (mC mw_555 (mC mw_49 mN))))))))))))))))))))))))
theorem in_wsX6_next_r2 : ∀ w ∈ wsX6_next_r2, w ∈ lw_tbl := (mC mw_556 (mC mw_557 (mC mw_558 (mC mw_559 (mC mw_36 (mC mw_314 (mC mw_560 (mC mw_561 (mC mw_562 (mC mw_563 (mC mw_564 (mC mw_565 (mC mw_566 (mC mw_567 (mC mw_568 (mC mw_63 (mC mw_64 (mC mw_330 (mC mw_331 (mC mw_332 (mC mw_333 (mC mw_319 (mC mw_44 (mC mw_321 mN))))))))))))))))))))))))
theorem in_wsX6_next_r3 : ∀ w ∈ wsX6_next_r3, w ∈ lw_tbl := (mC mw_210 (mC mw_211 (mC mw_35 (mC mw_212 (mC mw_56 (mC mw_55 (mC mw_334 (mC mw_335 (mC mw_336 (mC mw_337 (mC mw_70 (mC mw_66 (mC mw_322 (mC mw_323 (mC mw_324 (mC mw_43 (mC mw_325 (mC mw_75 (mC mw_74 (mC mw_326 (mC mw_327 (mC mw_328 (mC mw_329 (mC mw_76 mN))))))))))))))))))))))))
theorem in_wsX6_next_r4 : ∀ w ∈ wsX6_next_r4, w ∈ lw_tbl := (mC mw_77 (mC mw_569 (mC mw_570 (mC mw_571 (mC mw_572 (mC mw_315 (mC mw_316 (mC mw_317 (mC mw_318 (mC mw_320 (mC mw_573 (mC mw_574 (mC mw_575 (mC mw_576 (mC mw_577 (mC mw_122 (mC mw_123 (mC mw_124 (mC mw_59 (mC mw_578 (mC mw_579 (mC mw_580 (mC mw_581 mN)))))))))))))))))))))))
theorem in_wsX6_next : ∀ w ∈ wsX6_next, w ∈ lw_tbl := mC mw_545 (mA (mA (mA (mA (mA (mA in_wsX6_next_r1 (mA in_wsX6_next_r2 (mA in_wsX6_next_r3 in_wsX6_next_r4))) wwsX60_in) wwsX10_in) wwsX50_in) wwsX00_in) wwsX30_in)
set_option maxRecDepth 20000 in
theorem hL_X6_next : GoodIn lw_tbl (wsV RL 73 RX6 yX6_next wsX6_next) := goodIn_sub (mA (mC mw_542 (mC mw_543 (mC mw_544 (mC mw_2 mN)))) in_wsX6_next) (by decide +kernel)
theorem in_wsX7_next_r1 : ∀ w ∈ wsX7_next_r1, w ∈ lw_tbl := (mC mw_159 (mC mw_586 (mC mw_587 (mC mw_588 (mC mw_5 (mC mw_589 (mC mw_342 (mC mw_343 (mC mw_344 (mC mw_345 (mC mw_346 (mC mw_347 (mC mw_348 (mC mw_349 (mC mw_162 (mC mw_350 (mC mw_351 (mC mw_352 (mC mw_353 (mC mw_248 (mC mw_249 (mC mw_250 (mC mw_251 (mC mw_156 mN))))))))))))))))))))))))
theorem in_wsX7_next_r2 : ∀ w ∈ wsX7_next_r2, w ∈ lw_tbl := (mC mw_354 (mC mw_355 (mC mw_356 (mC mw_357 (mC mw_163 (mC mw_358 (mC mw_359 (mC mw_360 (mC mw_361 (mC mw_362 (mC mw_363 (mC mw_364 (mC mw_365 (mC mw_166 (mC mw_366 (mC mw_367 (mC mw_368 (mC mw_369 (mC mw_370 (mC mw_371 (mC mw_372 (mC mw_373 (mC mw_590 (mC mw_591 mN))))))))))))))))))))))))
theorem in_wsX7_next_r3 : ∀ w ∈ wsX7_next_r3, w ∈ lw_tbl := (mC mw_592 (mC mw_593 (mC mw_374 (mC mw_375 (mC mw_376 (mC mw_377 (mC mw_167 (mC mw_378 (mC mw_165 (mC mw_379 (mC mw_380 (mC mw_381 (mC mw_382 (mC mw_164 (mC mw_383 (mC mw_384 (mC mw_385 (mC mw_386 (mC mw_594 (mC mw_595 (mC mw_596 (mC mw_597 (mC mw_598 (mC mw_599 mN))))))))))))))))))))))))
theorem in_wsX7_next_r4 : ∀ w ∈ wsX7_next_r4, w ∈ lw_tbl := (mC mw_600 (mC mw_601 (mC mw_228 (mC mw_229 (mC mw_230 (mC mw_602 (mC mw_603 (mC mw_604 (mC mw_605 mN)))))))))
theorem in_wsX7_next : ∀ w ∈ wsX7_next, w ∈ lw_tbl := mC mw_585 (mA (mA in_wsX7_next_r1 (mA in_wsX7_next_r2 (mA in_wsX7_next_r3 in_wsX7_next_r4))) wwsX70_in)
set_option maxRecDepth 20000 in
theorem hL_X7_next : GoodIn lw_tbl (wsV RL 76 RX7 yX7_next wsX7_next) := goodIn_sub (mA (mC mw_582 (mC mw_583 (mC mw_584 (mC mw_5 mN)))) in_wsX7_next) (by decide +kernel)
theorem in_wsX6_steps_r1 : ∀ w ∈ wsX6_steps_r1, w ∈ lw_tbl := (mC mw_19 (mC mw_15 (mC mw_174 (mC mw_25 (mC mw_178 (mC mw_179 (mC mw_2 (mC mw_180 (mC mw_181 (mC mw_182 (mC mw_183 (mC mw_184 (mC mw_26 (mC mw_27 (mC mw_28 (mC mw_185 (mC mw_186 (mC mw_187 (mC mw_18 (mC mw_188 (mC mw_81 (mC mw_83 (mC mw_189 (mC mw_190 mN))))))))))))))))))))))))
theorem in_wsX6_steps_r2 : ∀ w ∈ wsX6_steps_r2, w ∈ lw_tbl := (mC mw_191 (mC mw_192 (mC mw_82 (mC mw_193 (mC mw_194 (mC mw_195 (mC mw_35 (mC mw_196 (mC mw_55 (mC mw_59 (mC mw_56 (mC mw_57 (mC mw_58 (mC mw_610 (mC mw_611 (mC mw_612 (mC mw_14 (mC mw_613 (mC mw_614 (mC mw_547 (mC mw_548 (mC mw_549 (mC mw_40 (mC mw_550 mN))))))))))))))))))))))))
theorem in_wsX6_steps_r3 : ∀ w ∈ wsX6_steps_r3, w ∈ lw_tbl := (mC mw_433 (mC mw_434 (mC mw_39 (mC mw_435 (mC mw_67 (mC mw_551 (mC mw_126 (mC mw_127 (mC mw_128 (mC mw_65 (mC mw_552 (mC mw_553 (mC mw_554 (mC mw_555 (mC mw_49 (mC mw_556 (mC mw_557 (mC mw_558 (mC mw_559 (mC mw_36 (mC mw_314 (mC mw_560 (mC mw_561 (mC mw_562 mN))))))))))))))))))))))))
theorem in_wsX6_steps_r4 : ∀ w ∈ wsX6_steps_r4, w ∈ lw_tbl := (mC mw_563 (mC mw_564 (mC mw_565 (mC mw_566 (mC mw_567 (mC mw_568 (mC mw_63 (mC mw_64 (mC mw_330 (mC mw_331 (mC mw_332 (mC mw_333 (mC mw_319 (mC mw_44 (mC mw_321 (mC mw_210 (mC mw_211 (mC mw_212 (mC mw_334 (mC mw_335 (mC mw_336 (mC mw_337 (mC mw_70 (mC mw_66 mN))))))))))))))))))))))))
theorem in_wsX6_steps_r5 : ∀ w ∈ wsX6_steps_r5, w ∈ lw_tbl := (mC mw_322 (mC mw_323 (mC mw_324 (mC mw_43 (mC mw_325 (mC mw_75 (mC mw_74 (mC mw_326 (mC mw_327 (mC mw_328 (mC mw_329 (mC mw_76 (mC mw_77 (mC mw_569 (mC mw_570 (mC mw_571 (mC mw_572 (mC mw_315 (mC mw_316 (mC mw_317 (mC mw_318 (mC mw_320 (mC mw_573 (mC mw_574 mN))))))))))))))))))))))))
theorem in_wsX6_steps_r6 : ∀ w ∈ wsX6_steps_r6, w ∈ lw_tbl := (mC mw_575 (mC mw_576 (mC mw_577 (mC mw_122 (mC mw_123 (mC mw_124 (mC mw_578 (mC mw_579 (mC mw_580 (mC mw_581 (mC mw_615 (mC mw_512 (mC mw_513 (mC mw_514 (mC mw_515 (mC mw_516 (mC mw_517 (mC mw_518 (mC mw_519 (mC mw_206 (mC mw_207 (mC mw_208 (mC mw_520 (mC mw_264 mN))))))))))))))))))))))))
theorem in_wsX6_steps_r7 : ∀ w ∈ wsX6_steps_r7, w ∈ lw_tbl := (mC mw_265 (mC mw_521 (mC mw_522 (mC mw_523 (mC mw_524 (mC mw_68 (mC mw_69 (mC mw_125 (mC mw_133 (mC mw_134 (mC mw_135 (mC mw_136 (mC mw_129 (mC mw_130 (mC mw_131 (mC mw_132 (mC mw_525 (mC mw_149 (mC mw_150 (mC mw_151 (mC mw_217 (mC mw_218 (mC mw_219 (mC mw_220 mN))))))))))))))))))))))))
theorem in_wsX6_steps : ∀ w ∈ wsX6_steps, w ∈ lw_tbl := mC mw_609 (mA (mA (mA (mA (mA (mA (mA in_wsX6_steps_r1 (mA in_wsX6_steps_r2 (mA in_wsX6_steps_r3 (mA in_wsX6_steps_r4 (mA in_wsX6_steps_r5 (mA in_wsX6_steps_r6 in_wsX6_steps_r7)))))) wwsX60_in) wwsX10_in) wwsX20_in) wwsX00_in) wwsX50_in) wwsX30_in)
set_option maxRecDepth 20000 in
theorem hL_X6_steps : GoodIn lw_tbl (wsV RL 77 RX6 yX6_steps wsX6_steps) := goodIn_sub (mA (mC mw_606 (mC mw_607 (mC mw_608 (mC mw_2 mN)))) in_wsX6_steps) (by decide +kernel)
theorem in_wsX7_steps_r1 : ∀ w ∈ wsX7_steps_r1, w ∈ lw_tbl := (mC mw_159 (mC mw_228 (mC mw_229 (mC mw_5 (mC mw_230 (mC mw_231 (mC mw_232 (mC mw_233 (mC mw_234 (mC mw_160 (mC mw_235 (mC mw_236 (mC mw_237 (mC mw_238 (mC mw_158 (mC mw_156 (mC mw_620 (mC mw_621 (mC mw_622 (mC mw_623 (mC mw_586 (mC mw_587 (mC mw_588 (mC mw_589 mN))))))))))))))))))))))))
theorem in_wsX7_steps_r2 : ∀ w ∈ wsX7_steps_r2, w ∈ lw_tbl := (mC mw_342 (mC mw_343 (mC mw_344 (mC mw_345 (mC mw_346 (mC mw_347 (mC mw_348 (mC mw_349 (mC mw_162 (mC mw_350 (mC mw_351 (mC mw_352 (mC mw_353 (mC mw_248 (mC mw_249 (mC mw_250 (mC mw_251 (mC mw_354 (mC mw_355 (mC mw_356 (mC mw_357 (mC mw_163 (mC mw_358 (mC mw_359 mN))))))))))))))))))))))))
theorem in_wsX7_steps_r3 : ∀ w ∈ wsX7_steps_r3, w ∈ lw_tbl := (mC mw_360 (mC mw_361 (mC mw_362 (mC mw_363 (mC mw_364 (mC mw_365 (mC mw_166 (mC mw_366 (mC mw_367 (mC mw_368 (mC mw_369 (mC mw_370 (mC mw_371 (mC mw_372 (mC mw_373 (mC mw_590 (mC mw_591 (mC mw_592 (mC mw_593 (mC mw_374 (mC mw_375 (mC mw_376 (mC mw_377 (mC mw_167 mN))))))))))))))))))))))))
theorem in_wsX7_steps_r4 : ∀ w ∈ wsX7_steps_r4, w ∈ lw_tbl := (mC mw_378 (mC mw_165 (mC mw_379 (mC mw_380 (mC mw_381 (mC mw_382 (mC mw_164 (mC mw_383 (mC mw_384 (mC mw_385 (mC mw_386 (mC mw_594 (mC mw_595 (mC mw_596 (mC mw_597 (mC mw_598 (mC mw_599 (mC mw_600 (mC mw_601 (mC mw_602 (mC mw_603 (mC mw_604 (mC mw_605 (mC mw_530 mN))))))))))))))))))))))))
theorem in_wsX7_steps_r5 : ∀ w ∈ wsX7_steps_r5, w ∈ lw_tbl := (mC mw_531 (mC mw_532 (mC mw_533 (mC mw_239 (mC mw_240 (mC mw_241 (mC mw_242 (mC mw_243 (mC mw_157 mN)))))))))
theorem in_wsX7_steps : ∀ w ∈ wsX7_steps, w ∈ lw_tbl := mC mw_619 (mA (mA in_wsX7_steps_r1 (mA in_wsX7_steps_r2 (mA in_wsX7_steps_r3 (mA in_wsX7_steps_r4 in_wsX7_steps_r5)))) wwsX70_in)
set_option maxRecDepth 20000 in
theorem hL_X7_steps : GoodIn lw_tbl (wsV RL 80 RX7 yX7_steps wsX7_steps) := goodIn_sub (mA (mC mw_616 (mC mw_617 (mC mw_618 (mC mw_5 mN)))) in_wsX7_steps) (by decide +kernel)
theorem in_wsX6_thins_r1 : ∀ w ∈ wsX6_thins_r1, w ∈ lw_tbl := (mC mw_19 (mC mw_15 (mC mw_174 (mC mw_185 (mC mw_186 (mC mw_187 (mC mw_18 (mC mw_188 (mC mw_81 (mC mw_83 (mC mw_189 (mC mw_190 (mC mw_191 (mC mw_192 (mC mw_82 (mC mw_193 (mC mw_194 (mC mw_195 (mC mw_35 (mC mw_196 (mC mw_55 (mC mw_59 (mC mw_56 (mC mw_57 mN))))))))))))))))))))))))
theorem in_wsX6_thins_r2 : ∀ w ∈ wsX6_thins_r2, w ∈ lw_tbl := (mC mw_58 (mC mw_628 (mC mw_629 (mC mw_630 (mC mw_14 (mC mw_631 (mC mw_36 (mC mw_319 (mC mw_40 (mC mw_314 (mC mw_632 (mC mw_206 (mC mw_207 (mC mw_208 (mC mw_272 (mC mw_2 (mC mw_273 (mC mw_633 (mC mw_634 (mC mw_635 (mC mw_39 (mC mw_636 (mC mw_67 (mC mw_65 mN))))))))))))))))))))))))
theorem in_wsX6_thins_r3 : ∀ w ∈ wsX6_thins_r3, w ∈ lw_tbl := (mC mw_519 (mC mw_637 (mC mw_638 (mC mw_639 (mC mw_640 (mC mw_70 (mC mw_641 (mC mw_566 (mC mw_567 (mC mw_568 (mC mw_63 (mC mw_64 (mC mw_615 (mC mw_512 (mC mw_513 (mC mw_514 (mC mw_44 (mC mw_515 (mC mw_516 (mC mw_517 (mC mw_518 (mC mw_520 (mC mw_264 (mC mw_265 mN))))))))))))))))))))))))
theorem in_wsX6_thins_r4 : ∀ w ∈ wsX6_thins_r4, w ∈ lw_tbl := (mC mw_521 (mC mw_522 (mC mw_523 (mC mw_524 (mC mw_68 (mC mw_69 (mC mw_125 (mC mw_126 (mC mw_127 (mC mw_128 (mC mw_133 (mC mw_134 (mC mw_135 (mC mw_136 (mC mw_66 (mC mw_129 (mC mw_130 (mC mw_131 (mC mw_132 (mC mw_525 (mC mw_149 (mC mw_150 (mC mw_43 (mC mw_151 mN))))))))))))))))))))))))
theorem in_wsX6_thins_r5 : ∀ w ∈ wsX6_thins_r5, w ∈ lw_tbl := (mC mw_76 (mC mw_75 (mC mw_217 (mC mw_218 (mC mw_219 (mC mw_220 mN))))))
theorem in_wsX6_thins : ∀ w ∈ wsX6_thins, w ∈ lw_tbl := mC mw_627 (mA (mA (mA (mA (mA (mA (mA in_wsX6_thins_r1 (mA in_wsX6_thins_r2 (mA in_wsX6_thins_r3 (mA in_wsX6_thins_r4 in_wsX6_thins_r5)))) wwsX60_in) wwsX10_in) wwsX20_in) wwsX00_in) wwsX50_in) wwsX30_in)
set_option maxRecDepth 20000 in
theorem hL_X6_thins : GoodIn lw_tbl (wsV RL 81 RX6 yX6_thins wsX6_thins) := goodIn_sub (mA (mC mw_624 (mC mw_625 (mC mw_626 (mC mw_2 mN)))) in_wsX6_thins) (by decide +kernel)
theorem in_wsX7_thins_r1 : ∀ w ∈ wsX7_thins_r1, w ∈ lw_tbl := (mC mw_235 (mC mw_236 (mC mw_237 (mC mw_5 (mC mw_238 (mC mw_158 (mC mw_156 (mC mw_646 (mC mw_647 (mC mw_648 (mC mw_649 (mC mw_291 (mC mw_292 (mC mw_293 (mC mw_294 (mC mw_379 (mC mw_380 (mC mw_381 (mC mw_382 (mC mw_378 (mC mw_164 (mC mw_165 (mC mw_650 (mC mw_651 mN))))))))))))))))))))))))
theorem in_wsX7_thins_r2 : ∀ w ∈ wsX7_thins_r2, w ∈ lw_tbl := (mC mw_652 (mC mw_653 (mC mw_162 (mC mw_159 (mC mw_346 (mC mw_347 (mC mw_348 (mC mw_349 (mC mw_350 (mC mw_351 (mC mw_352 (mC mw_353 (mC mw_248 (mC mw_249 (mC mw_250 (mC mw_251 (mC mw_383 (mC mw_384 (mC mw_385 (mC mw_386 (mC mw_530 (mC mw_531 (mC mw_532 (mC mw_533 mN))))))))))))))))))))))))
theorem in_wsX7_thins_r3 : ∀ w ∈ wsX7_thins_r3, w ∈ lw_tbl := (mC mw_239 (mC mw_240 (mC mw_241 (mC mw_242 (mC mw_243 (mC mw_157 mN))))))
theorem in_wsX7_thins : ∀ w ∈ wsX7_thins, w ∈ lw_tbl := mC mw_645 (mA (mA in_wsX7_thins_r1 (mA in_wsX7_thins_r2 in_wsX7_thins_r3)) wwsX70_in)
set_option maxRecDepth 20000 in
theorem hL_X7_thins : GoodIn lw_tbl (wsV RL 84 RX7 yX7_thins wsX7_thins) := goodIn_sub (mA (mC mw_642 (mC mw_643 (mC mw_644 (mC mw_5 mN)))) in_wsX7_thins) (by decide +kernel)
theorem in_wsX6_best_r1 : ∀ w ∈ wsX6_best_r1, w ∈ lw_tbl := (mC mw_15 (mC mw_658 (mC mw_659 (mC mw_660 (mC mw_178 (mC mw_179 (mC mw_2 (mC mw_180 (mC mw_181 (mC mw_182 (mC mw_183 (mC mw_184 (mC mw_26 (mC mw_27 (mC mw_28 (mC mw_661 (mC mw_662 (mC mw_663 (mC mw_14 (mC mw_664 (mC mw_36 (mC mw_319 (mC mw_50 (mC mw_665 mN))))))))))))))))))))))))
theorem in_wsX6_best_r2 : ∀ w ∈ wsX6_best_r2, w ∈ lw_tbl := (mC mw_666 (mC mw_667 (mC mw_668 (mC mw_610 (mC mw_611 (mC mw_612 (mC mw_613 (mC mw_614 (mC mw_547 (mC mw_548 (mC mw_549 (mC mw_40 (mC mw_550 (mC mw_433 (mC mw_434 (mC mw_39 (mC mw_435 (mC mw_67 (mC mw_551 (mC mw_126 (mC mw_127 (mC mw_128 (mC mw_65 (mC mw_552 mN))))))))))))))))))))))))
theorem in_wsX6_best_r3 : ∀ w ∈ wsX6_best_r3, w ∈ lw_tbl := (mC mw_553 (mC mw_554 (mC mw_555 (mC mw_49 (mC mw_556 (mC mw_557 (mC mw_558 (mC mw_559 (mC mw_314 (mC mw_560 (mC mw_561 (mC mw_562 (mC mw_563 (mC mw_564 (mC mw_565 (mC mw_566 (mC mw_567 (mC mw_568 (mC mw_63 (mC mw_64 (mC mw_330 (mC mw_331 (mC mw_332 (mC mw_333 mN))))))))))))))))))))))))
theorem in_wsX6_best_r4 : ∀ w ∈ wsX6_best_r4, w ∈ lw_tbl := (mC mw_44 (mC mw_321 (mC mw_210 (mC mw_211 (mC mw_35 (mC mw_212 (mC mw_56 (mC mw_55 (mC mw_334 (mC mw_335 (mC mw_336 (mC mw_337 (mC mw_70 (mC mw_66 (mC mw_322 (mC mw_323 (mC mw_324 (mC mw_43 (mC mw_325 (mC mw_75 (mC mw_74 (mC mw_326 (mC mw_327 (mC mw_328 mN))))))))))))))))))))))))
theorem in_wsX6_best_r5 : ∀ w ∈ wsX6_best_r5, w ∈ lw_tbl := (mC mw_329 (mC mw_76 (mC mw_77 (mC mw_569 (mC mw_570 (mC mw_571 (mC mw_572 (mC mw_315 (mC mw_316 (mC mw_317 (mC mw_318 (mC mw_320 (mC mw_573 (mC mw_574 (mC mw_575 (mC mw_576 (mC mw_577 (mC mw_122 (mC mw_123 (mC mw_124 (mC mw_59 (mC mw_578 (mC mw_579 (mC mw_580 mN))))))))))))))))))))))))
theorem in_wsX6_best_r6 : ∀ w ∈ wsX6_best_r6, w ∈ lw_tbl := (mC mw_581 (mC mw_615 (mC mw_512 (mC mw_513 (mC mw_514 (mC mw_515 (mC mw_516 (mC mw_517 (mC mw_518 (mC mw_519 (mC mw_206 (mC mw_207 (mC mw_208 (mC mw_520 (mC mw_264 (mC mw_265 (mC mw_521 (mC mw_522 (mC mw_523 (mC mw_524 (mC mw_68 (mC mw_69 (mC mw_125 (mC mw_133 mN))))))))))))))))))))))))
theorem in_wsX6_best_r7 : ∀ w ∈ wsX6_best_r7, w ∈ lw_tbl := (mC mw_134 (mC mw_135 (mC mw_136 (mC mw_129 (mC mw_130 (mC mw_131 (mC mw_132 (mC mw_525 (mC mw_149 (mC mw_150 (mC mw_151 (mC mw_628 (mC mw_629 (mC mw_630 (mC mw_631 (mC mw_632 (mC mw_272 (mC mw_273 (mC mw_633 (mC mw_634 (mC mw_635 (mC mw_636 (mC mw_637 (mC mw_638 mN))))))))))))))))))))))))
theorem in_wsX6_best_r8 : ∀ w ∈ wsX6_best_r8, w ∈ lw_tbl := (mC mw_639 (mC mw_640 (mC mw_641 (mC mw_669 (mC mw_670 (mC mw_671 (mC mw_672 (mC mw_46 (mC mw_47 (mC mw_45 (mC mw_673 (mC mw_405 (mC mw_406 (mC mw_407 (mC mw_674 (mC mw_675 (mC mw_676 (mC mw_677 (mC mw_678 (mC mw_101 (mC mw_102 (mC mw_103 (mC mw_104 (mC mw_105 mN))))))))))))))))))))))))
theorem in_wsX6_best_r9 : ∀ w ∈ wsX6_best_r9, w ∈ lw_tbl := (mC mw_106 (mC mw_107 (mC mw_108 (mC mw_109 (mC mw_110 (mC mw_111 (mC mw_112 (mC mw_113 (mC mw_114 (mC mw_115 (mC mw_116 (mC mw_117 (mC mw_118 (mC mw_119 (mC mw_120 (mC mw_121 (mC mw_137 (mC mw_138 (mC mw_139 (mC mw_140 (mC mw_141 (mC mw_142 (mC mw_143 (mC mw_144 mN))))))))))))))))))))))))
theorem in_wsX6_best_r10 : ∀ w ∈ wsX6_best_r10, w ∈ lw_tbl := (mC mw_145 (mC mw_146 (mC mw_147 (mC mw_148 mN))))
theorem in_wsX6_best : ∀ w ∈ wsX6_best, w ∈ lw_tbl := mC mw_657 (mA (mA (mA (mA (mA (mA in_wsX6_best_r1 (mA in_wsX6_best_r2 (mA in_wsX6_best_r3 (mA in_wsX6_best_r4 (mA in_wsX6_best_r5 (mA in_wsX6_best_r6 (mA in_wsX6_best_r7 (mA in_wsX6_best_r8 (mA in_wsX6_best_r9 in_wsX6_best_r10))))))))) wwsX60_in) wwsX10_in) wwsX00_in) wwsX50_in) wwsX30_in)
set_option maxRecDepth 20000 in
theorem hL_X6_best : GoodIn lw_tbl (wsV RL 85 RX6 yX6_best wsX6_best) := goodIn_sub (mA (mC mw_654 (mC mw_655 (mC mw_656 (mC mw_2 mN)))) in_wsX6_best) (by decide +kernel)
theorem in_wsX7_best_r1 : ∀ w ∈ wsX7_best_r1, w ∈ lw_tbl := (mC mw_168 (mC mw_228 (mC mw_229 (mC mw_5 (mC mw_230 (mC mw_231 (mC mw_232 (mC mw_233 (mC mw_234 (mC mw_160 (mC mw_235 (mC mw_236 (mC mw_237 (mC mw_238 (mC mw_158 (mC mw_156 (mC mw_620 (mC mw_621 (mC mw_622 (mC mw_623 (mC mw_586 (mC mw_587 (mC mw_588 (mC mw_589 mN))))))))))))))))))))))))
theorem in_wsX7_best_r2 : ∀ w ∈ wsX7_best_r2, w ∈ lw_tbl := (mC mw_342 (mC mw_343 (mC mw_344 (mC mw_345 (mC mw_346 (mC mw_347 (mC mw_348 (mC mw_349 (mC mw_162 (mC mw_159 (mC mw_350 (mC mw_351 (mC mw_352 (mC mw_353 (mC mw_248 (mC mw_249 (mC mw_250 (mC mw_251 (mC mw_354 (mC mw_355 (mC mw_356 (mC mw_357 (mC mw_163 (mC mw_358 mN))))))))))))))))))))))))
theorem in_wsX7_best_r3 : ∀ w ∈ wsX7_best_r3, w ∈ lw_tbl := (mC mw_359 (mC mw_360 (mC mw_361 (mC mw_362 (mC mw_363 (mC mw_364 (mC mw_365 (mC mw_166 (mC mw_366 (mC mw_367 (mC mw_368 (mC mw_369 (mC mw_370 (mC mw_371 (mC mw_372 (mC mw_373 (mC mw_590 (mC mw_591 (mC mw_592 (mC mw_593 (mC mw_374 (mC mw_375 (mC mw_376 (mC mw_377 mN))))))))))))))))))))))))
theorem in_wsX7_best_r4 : ∀ w ∈ wsX7_best_r4, w ∈ lw_tbl := (mC mw_167 (mC mw_378 (mC mw_165 (mC mw_379 (mC mw_380 (mC mw_381 (mC mw_382 (mC mw_164 (mC mw_383 (mC mw_384 (mC mw_385 (mC mw_386 (mC mw_594 (mC mw_595 (mC mw_596 (mC mw_597 (mC mw_598 (mC mw_599 (mC mw_600 (mC mw_601 (mC mw_602 (mC mw_603 (mC mw_604 (mC mw_605 mN))))))))))))))))))))))))
theorem in_wsX7_best_r5 : ∀ w ∈ wsX7_best_r5, w ∈ lw_tbl := (mC mw_530 (mC mw_531 (mC mw_532 (mC mw_533 (mC mw_646 (mC mw_647 (mC mw_648 (mC mw_649 (mC mw_291 (mC mw_292 (mC mw_293 (mC mw_294 (mC mw_650 (mC mw_651 (mC mw_652 (mC mw_653 (mC mw_424 (mC mw_425 (mC mw_426 (mC mw_427 (mC mw_683 (mC mw_684 (mC mw_685 (mC mw_686 mN))))))))))))))))))))))))
theorem in_wsX7_best : ∀ w ∈ wsX7_best, w ∈ lw_tbl := mC mw_682 (mA (mA in_wsX7_best_r1 (mA in_wsX7_best_r2 (mA in_wsX7_best_r3 (mA in_wsX7_best_r4 in_wsX7_best_r5)))) wwsX70_in)
set_option maxRecDepth 20000 in
theorem hL_X7_best : GoodIn lw_tbl (wsV RL 88 RX7 yX7_best wsX7_best) := goodIn_sub (mA (mC mw_679 (mC mw_680 (mC mw_681 (mC mw_5 mN)))) in_wsX7_best) (by decide +kernel)
theorem in_wsX6_row_r1 : ∀ w ∈ wsX6_row_r1, w ∈ lw_tbl := (mC mw_15 (mC mw_178 (mC mw_179 (mC mw_2 (mC mw_180 (mC mw_181 (mC mw_182 (mC mw_183 (mC mw_184 (mC mw_26 (mC mw_27 (mC mw_28 (mC mw_691 (mC mw_692 (mC mw_693 (mC mw_14 (mC mw_694 (mC mw_36 (mC mw_695 (mC mw_51 (mC mw_665 (mC mw_666 (mC mw_667 (mC mw_668 mN))))))))))))))))))))))))
theorem in_wsX6_row_r2 : ∀ w ∈ wsX6_row_r2, w ∈ lw_tbl := (mC mw_40 (mC mw_696 (mC mw_697 (mC mw_632 (mC mw_206 (mC mw_207 (mC mw_208 (mC mw_698 (mC mw_699 (mC mw_700 (mC mw_701 mN)))))))))))
theorem in_wsX6_row : ∀ w ∈ wsX6_row, w ∈ lw_tbl := mC mw_690 (mA (mA (mA (mA (mA in_wsX6_row_r1 in_wsX6_row_r2) wwsX60_in) wwsX10_in) wwsX00_in) wwsX50_in)
set_option maxRecDepth 20000 in
theorem hL_X6_row : GoodIn lw_tbl (wsV RL 89 RX6 yX6_row wsX6_row) := goodIn_sub (mA (mC mw_687 (mC mw_688 (mC mw_689 (mC mw_2 mN)))) in_wsX6_row) (by decide +kernel)
theorem in_wsX7_row : ∀ w ∈ wsX7_row, w ∈ lw_tbl := mC mw_705 (mA (mC mw_168 (mC mw_159 (mC mw_156 (mC mw_228 (mC mw_229 (mC mw_5 (mC mw_230 (mC mw_231 (mC mw_232 (mC mw_233 (mC mw_234 (mC mw_160 mN)))))))))))) wwsX70_in)
set_option maxRecDepth 20000 in
theorem hL_X7_row : GoodIn lw_tbl (wsV RL 92 RX7 yX7_row wsX7_row) := goodIn_sub (mA (mC mw_702 (mC mw_703 (mC mw_704 (mC mw_5 mN)))) in_wsX7_row) (by decide +kernel)
theorem in_wsX6_undo_r1 : ∀ w ∈ wsX6_undo_r1, w ∈ lw_tbl := (mC mw_19 (mC mw_710 (mC mw_15 (mC mw_174 (mC mw_181 (mC mw_182 (mC mw_183 (mC mw_2 (mC mw_184 (mC mw_26 (mC mw_27 (mC mw_28 (mC mw_711 (mC mw_712 (mC mw_713 (mC mw_18 (mC mw_714 (mC mw_81 (mC mw_83 (mC mw_189 (mC mw_190 (mC mw_191 (mC mw_192 (mC mw_82 mN))))))))))))))))))))))))
theorem in_wsX6_undo_r2 : ∀ w ∈ wsX6_undo_r2, w ∈ lw_tbl := (mC mw_715 (mC mw_716 (mC mw_717 (mC mw_35 (mC mw_718 (mC mw_55 (mC mw_59 (mC mw_56 (mC mw_57 (mC mw_58 (mC mw_100 (mC mw_101 (mC mw_102 (mC mw_14 (mC mw_103 (mC mw_40 (mC mw_36 (mC mw_44 (mC mw_104 (mC mw_105 (mC mw_106 (mC mw_39 (mC mw_107 (mC mw_68 mN))))))))))))))))))))))))
theorem in_wsX6_undo_r3 : ∀ w ∈ wsX6_undo_r3, w ∈ lw_tbl := (mC mw_69 (mC mw_70 (mC mw_67 (mC mw_108 (mC mw_109 (mC mw_110 (mC mw_111 (mC mw_112 (mC mw_113 (mC mw_114 (mC mw_115 (mC mw_63 (mC mw_64 (mC mw_116 (mC mw_117 (mC mw_118 (mC mw_119 (mC mw_120 (mC mw_121 (mC mw_122 (mC mw_123 (mC mw_124 (mC mw_125 (mC mw_126 mN))))))))))))))))))))))))
theorem in_wsX6_undo_r4 : ∀ w ∈ wsX6_undo_r4, w ∈ lw_tbl := (mC mw_127 (mC mw_128 (mC mw_65 (mC mw_129 (mC mw_130 (mC mw_131 (mC mw_132 (mC mw_133 (mC mw_134 (mC mw_135 (mC mw_136 (mC mw_66 (mC mw_137 (mC mw_138 (mC mw_139 (mC mw_43 (mC mw_140 (mC mw_75 (mC mw_77 (mC mw_141 (mC mw_76 (mC mw_142 (mC mw_143 (mC mw_144 mN))))))))))))))))))))))))
theorem in_wsX6_undo_r5 : ∀ w ∈ wsX6_undo_r5, w ∈ lw_tbl := (mC mw_145 (mC mw_146 (mC mw_147 (mC mw_148 (mC mw_149 (mC mw_150 (mC mw_151 mN)))))))
theorem in_wsX6_undo : ∀ w ∈ wsX6_undo, w ∈ lw_tbl := mC mw_709 (mA (mA (mA (mA (mA (mA (mA in_wsX6_undo_r1 (mA in_wsX6_undo_r2 (mA in_wsX6_undo_r3 (mA in_wsX6_undo_r4 in_wsX6_undo_r5)))) wwsX60_in) wwsX20_in) wwsX10_in) wwsX00_in) wwsX50_in) wwsX30_in)
set_option maxRecDepth 20000 in
theorem hL_X6_undo : GoodIn lw_tbl (wsV RL 93 RX6 yX6_undo wsX6_undo) := goodIn_sub (mA (mC mw_706 (mC mw_707 (mC mw_708 (mC mw_2 mN)))) in_wsX6_undo) (by decide +kernel)
theorem in_wsX7_undo : ∀ w ∈ wsX7_undo, w ∈ lw_tbl := mC mw_722 (mA (mC mw_243 (mC mw_156 (mC mw_157 (mC mw_231 (mC mw_232 (mC mw_233 (mC mw_5 (mC mw_234 (mC mw_160 mN))))))))) wwsX70_in)
set_option maxRecDepth 20000 in
theorem hL_X7_undo : GoodIn lw_tbl (wsV RL 96 RX7 yX7_undo wsX7_undo) := goodIn_sub (mA (mC mw_719 (mC mw_720 (mC mw_721 (mC mw_5 mN)))) in_wsX7_undo) (by decide +kernel)
theorem in_wsX6_type : ∀ w ∈ wsX6_type, w ∈ lw_tbl := mC mw_726 (mA (mA (mC mw_23 (mC mw_727 (mC mw_178 (mC mw_179 (mC mw_2 (mC mw_180 (mC mw_181 (mC mw_182 (mC mw_183 (mC mw_184 (mC mw_26 (mC mw_27 (mC mw_28 (mC mw_728 (mC mw_729 (mC mw_730 (mC mw_22 (mC mw_731 (mC mw_87 (mC mw_88 mN)))))))))))))))))))) wwsX60_in) wwsX40_in)
set_option maxRecDepth 20000 in
theorem hL_X6_type : GoodIn lw_tbl (wsV RL 97 RX6 yX6_type wsX6_type) := goodIn_sub (mA (mC mw_723 (mC mw_724 (mC mw_725 (mC mw_2 mN)))) in_wsX6_type) (by decide +kernel)
theorem in_wsX7_type : ∀ w ∈ wsX7_type, w ∈ lw_tbl := mC mw_735 (mA (mC mw_736 (mC mw_161 (mC mw_228 (mC mw_229 (mC mw_5 (mC mw_230 (mC mw_231 (mC mw_232 (mC mw_233 (mC mw_234 (mC mw_160 mN))))))))))) wwsX70_in)
set_option maxRecDepth 20000 in
theorem hL_X7_type : GoodIn lw_tbl (wsV RL 100 RX7 yX7_type wsX7_type) := goodIn_sub (mA (mC mw_732 (mC mw_733 (mC mw_734 (mC mw_5 mN)))) in_wsX7_type) (by decide +kernel)
theorem in_wsX6_clear : ∀ w ∈ wsX6_clear, w ∈ lw_tbl := mC mw_740 (mA (mA (mC mw_23 (mC mw_727 mN)) wwsX60_in) wwsX40_in)
set_option maxRecDepth 20000 in
theorem hL_X6_clear : GoodIn lw_tbl (wsV RL 101 RX6 yX6_clear wsX6_clear) := goodIn_sub (mA (mC mw_737 (mC mw_738 (mC mw_739 (mC mw_2 mN)))) in_wsX6_clear) (by decide +kernel)
theorem in_wsX7_clear : ∀ w ∈ wsX7_clear, w ∈ lw_tbl := mC mw_744 (mA (mC mw_736 mN) wwsX70_in)
set_option maxRecDepth 20000 in
theorem hL_X7_clear : GoodIn lw_tbl (wsV RL 104 RX7 yX7_clear wsX7_clear) := goodIn_sub (mA (mC mw_741 (mC mw_742 (mC mw_743 (mC mw_5 mN)))) in_wsX7_clear) (by decide +kernel)
theorem in_wsX6_reads_r1 : ∀ w ∈ wsX6_reads_r1, w ∈ lw_tbl := (mC mw_23 (mC mw_19 (mC mw_15 (mC mw_174 (mC mw_749 (mC mw_750 (mC mw_751 (mC mw_22 (mC mw_752 (mC mw_87 (mC mw_88 (mC mw_753 (mC mw_754 (mC mw_755 (mC mw_185 (mC mw_186 (mC mw_187 (mC mw_18 (mC mw_188 (mC mw_81 (mC mw_83 (mC mw_189 (mC mw_190 (mC mw_191 mN))))))))))))))))))))))))
theorem in_wsX6_reads_r2 : ∀ w ∈ wsX6_reads_r2, w ∈ lw_tbl := (mC mw_192 (mC mw_82 (mC mw_193 (mC mw_194 (mC mw_195 (mC mw_35 (mC mw_196 (mC mw_55 (mC mw_59 (mC mw_56 (mC mw_57 (mC mw_58 (mC mw_756 (mC mw_757 (mC mw_758 (mC mw_759 (mC mw_760 (mC mw_761 (mC mw_762 (mC mw_763 (mC mw_764 (mC mw_176 (mC mw_2 (mC mw_177 mN))))))))))))))))))))))))
theorem in_wsX6_reads_r3 : ∀ w ∈ wsX6_reads_r3, w ∈ lw_tbl := (mC mw_178 (mC mw_179 (mC mw_180 (mC mw_201 (mC mw_202 (mC mw_203 (mC mw_204 (mC mw_205 (mC mw_206 (mC mw_207 (mC mw_208 (mC mw_209 (mC mw_210 (mC mw_211 (mC mw_212 (mC mw_213 (mC mw_214 (mC mw_215 (mC mw_216 (mC mw_100 (mC mw_101 (mC mw_102 (mC mw_14 (mC mw_103 mN))))))))))))))))))))))))
theorem in_wsX6_reads_r4 : ∀ w ∈ wsX6_reads_r4, w ∈ lw_tbl := (mC mw_40 (mC mw_36 (mC mw_44 (mC mw_104 (mC mw_105 (mC mw_106 (mC mw_39 (mC mw_107 (mC mw_68 (mC mw_69 (mC mw_70 (mC mw_67 (mC mw_108 (mC mw_109 (mC mw_110 (mC mw_111 (mC mw_112 (mC mw_113 (mC mw_114 (mC mw_115 (mC mw_63 (mC mw_64 (mC mw_116 (mC mw_117 mN))))))))))))))))))))))))
theorem in_wsX6_reads_r5 : ∀ w ∈ wsX6_reads_r5, w ∈ lw_tbl := (mC mw_118 (mC mw_119 (mC mw_120 (mC mw_121 (mC mw_122 (mC mw_123 (mC mw_124 (mC mw_125 (mC mw_126 (mC mw_127 (mC mw_128 (mC mw_65 (mC mw_129 (mC mw_130 (mC mw_131 (mC mw_132 (mC mw_133 (mC mw_134 (mC mw_135 (mC mw_136 (mC mw_66 (mC mw_137 (mC mw_138 (mC mw_139 mN))))))))))))))))))))))))
theorem in_wsX6_reads_r6 : ∀ w ∈ wsX6_reads_r6, w ∈ lw_tbl := (mC mw_43 (mC mw_140 (mC mw_75 (mC mw_77 (mC mw_141 (mC mw_76 (mC mw_142 (mC mw_143 (mC mw_144 (mC mw_145 (mC mw_146 (mC mw_147 (mC mw_148 (mC mw_149 (mC mw_150 (mC mw_151 (mC mw_217 (mC mw_218 (mC mw_219 (mC mw_220 mN))))))))))))))))))))
theorem in_wsX6_reads : ∀ w ∈ wsX6_reads, w ∈ lw_tbl := mC mw_748 (mA (mA (mA (mA (mA (mA (mA (mA in_wsX6_reads_r1 (mA in_wsX6_reads_r2 (mA in_wsX6_reads_r3 (mA in_wsX6_reads_r4 (mA in_wsX6_reads_r5 in_wsX6_reads_r6))))) wwsX60_in) wwsX10_in) wwsX40_in) wwsX20_in) wwsX00_in) wwsX50_in) wwsX30_in)
set_option maxRecDepth 20000 in
theorem hL_X6_reads : GoodIn lw_tbl (wsV RL 105 RX6 yX6_reads wsX6_reads) := goodIn_sub (mA (mC mw_745 (mC mw_746 (mC mw_747 (mC mw_2 mN)))) in_wsX6_reads) (by decide +kernel)
theorem in_wsX7_reads_r1 : ∀ w ∈ wsX7_reads_r1, w ∈ lw_tbl := (mC mw_769 (mC mw_736 (mC mw_235 (mC mw_236 (mC mw_237 (mC mw_5 (mC mw_238 (mC mw_158 (mC mw_156 (mC mw_770 (mC mw_771 (mC mw_772 (mC mw_773 (mC mw_774 (mC mw_775 (mC mw_776 (mC mw_777 (mC mw_161 (mC mw_778 (mC mw_779 (mC mw_780 (mC mw_781 (mC mw_228 (mC mw_229 mN))))))))))))))))))))))))
theorem in_wsX7_reads_r2 : ∀ w ∈ wsX7_reads_r2, w ∈ lw_tbl := (mC mw_230 (mC mw_782 (mC mw_783 (mC mw_784 (mC mw_785 (mC mw_683 (mC mw_684 (mC mw_685 (mC mw_686 (mC mw_239 (mC mw_240 (mC mw_241 (mC mw_242 (mC mw_243 (mC mw_157 (mC mw_244 (mC mw_245 (mC mw_246 (mC mw_247 (mC mw_248 (mC mw_249 (mC mw_250 (mC mw_251 mN)))))))))))))))))))))))
theorem in_wsX7_reads : ∀ w ∈ wsX7_reads, w ∈ lw_tbl := mC mw_768 (mA (mA in_wsX7_reads_r1 in_wsX7_reads_r2) wwsX70_in)
set_option maxRecDepth 20000 in
theorem hL_X7_reads : GoodIn lw_tbl (wsV RL 108 RX7 yX7_reads wsX7_reads) := goodIn_sub (mA (mC mw_765 (mC mw_766 (mC mw_767 (mC mw_5 mN)))) in_wsX7_reads) (by decide +kernel)
theorem in_wsX6_told : ∀ w ∈ wsX6_told, w ∈ lw_tbl := mC mw_789 (mA (mA (mA (mC mw_26 (mC mw_27 (mC mw_28 (mC mw_23 (mC mw_727 (mC mw_25 (mC mw_19 (mC mw_710 (mC mw_181 (mC mw_182 (mC mw_183 (mC mw_2 (mC mw_184 mN))))))))))))) wwsX60_in) wwsX40_in) wwsX20_in)
set_option maxRecDepth 20000 in
theorem hL_X6_told : GoodIn lw_tbl (wsV RL 109 RX6 yX6_told wsX6_told) := goodIn_sub (mA (mC mw_786 (mC mw_787 (mC mw_788 (mC mw_2 mN)))) in_wsX6_told) (by decide +kernel)
theorem in_wsX7_told : ∀ w ∈ wsX7_told, w ∈ lw_tbl := mC mw_793 (mA (mC mw_228 (mC mw_229 (mC mw_5 (mC mw_230 (mC mw_794 (mC mw_795 (mC mw_796 (mC mw_797 (mC mw_160 (mC mw_736 (mC mw_159 (mC mw_243 (mC mw_231 (mC mw_232 (mC mw_233 (mC mw_234 mN)))))))))))))))) wwsX70_in)
set_option maxRecDepth 20000 in
theorem hL_X7_told : GoodIn lw_tbl (wsV RL 112 RX7 yX7_told wsX7_told) := goodIn_sub (mA (mC mw_790 (mC mw_791 (mC mw_792 (mC mw_5 mN)))) in_wsX7_told) (by decide +kernel)
theorem in_wsX6_digest_r1 : ∀ w ∈ wsX6_digest_r1, w ∈ lw_tbl := (mC mw_802 (mC mw_803 (mC mw_15 (mC mw_98 (mC mw_99 (mC mw_174 (mC mw_93 (mC mw_485 (mC mw_804 (mC mw_787 (mC mw_788 (mC mw_2 (mC mw_789 (mC mw_26 (mC mw_27 (mC mw_28 (mC mw_23 (mC mw_727 (mC mw_25 (mC mw_19 (mC mw_710 (mC mw_181 (mC mw_182 (mC mw_183 mN))))))))))))))))))))))))
theorem in_wsX6_digest_r2 : ∀ w ∈ wsX6_digest_r2, w ∈ lw_tbl := (mC mw_184 (mC mw_197 (mC mw_198 (mC mw_199 (mC mw_35 (mC mw_200 (mC mw_55 (mC mw_56 (mC mw_57 (mC mw_58 (mC mw_59 (mC mw_404 (mC mw_405 (mC mw_406 (mC mw_39 (mC mw_407 (mC mw_125 (mC mw_126 (mC mw_127 (mC mw_128 (mC mw_67 (mC mw_65 (mC mw_408 (mC mw_409 mN))))))))))))))))))))))))
theorem in_wsX6_digest_r3 : ∀ w ∈ wsX6_digest_r3, w ∈ lw_tbl := (mC mw_410 (mC mw_411 (mC mw_66 mN)))
theorem in_wsX6_digest : ∀ w ∈ wsX6_digest, w ∈ lw_tbl := mC mw_801 (mA (mA (mA (mA (mA (mA (mA (mA in_wsX6_digest_r1 (mA in_wsX6_digest_r2 in_wsX6_digest_r3)) wwsX60_in) wwsX10_in) wwsX30_in) wwsX40_in) wwsX20_in) wwsX00_in) wwsX50_in)
set_option maxRecDepth 20000 in
theorem hL_X6_digest : GoodIn lw_tbl (wsV RL 113 RX6 yX6_digest wsX6_digest) := goodIn_sub (mA (mC mw_798 (mC mw_799 (mC mw_800 (mC mw_2 mN)))) in_wsX6_digest) (by decide +kernel)
theorem in_wsX7_digest_r1 : ∀ w ∈ wsX7_digest_r1, w ∈ lw_tbl := (mC mw_809 (mC mw_810 (mC mw_159 (mC mw_156 (mC mw_166 (mC mw_794 (mC mw_795 (mC mw_796 (mC mw_5 (mC mw_797 (mC mw_160 (mC mw_736 (mC mw_243 (mC mw_346 (mC mw_347 (mC mw_348 (mC mw_349 (mC mw_162 (mC mw_350 (mC mw_351 (mC mw_352 (mC mw_353 (mC mw_248 (mC mw_249 mN))))))))))))))))))))))))
theorem in_wsX7_digest_r2 : ∀ w ∈ wsX7_digest_r2, w ∈ lw_tbl := (mC mw_250 (mC mw_251 (mC mw_424 (mC mw_425 (mC mw_426 (mC mw_427 (mC mw_358 (mC mw_359 (mC mw_360 (mC mw_361 (mC mw_362 (mC mw_363 (mC mw_364 (mC mw_365 (mC mw_366 (mC mw_367 (mC mw_368 (mC mw_369 (mC mw_370 (mC mw_371 (mC mw_372 (mC mw_373 mN))))))))))))))))))))))
theorem in_wsX7_digest : ∀ w ∈ wsX7_digest, w ∈ lw_tbl := mC mw_808 (mA (mA in_wsX7_digest_r1 in_wsX7_digest_r2) wwsX70_in)
set_option maxRecDepth 20000 in
theorem hL_X7_digest : GoodIn lw_tbl (wsV RL 117 RX7 yX7_digest wsX7_digest) := goodIn_sub (mA (mC mw_805 (mC mw_806 (mC mw_807 (mC mw_5 mN)))) in_wsX7_digest) (by decide +kernel)
theorem dL_law_0 : decode cL_law 0 = .ok (.new 7, 3) := by decide +kernel
theorem dL_law_3 : decode cL_law 3 = .ok (.dup, 1) := by decide +kernel
theorem dL_law_4 : decode cL_law 4 = .ok (.invokespecial 9, 3) := by decide +kernel
theorem dL_law_7 : decode cL_law 7 = .ok (.astore_n 1, 1) := by decide +kernel
theorem dL_law_8 : decode cL_law 8 = .ok (.new 10, 3) := by decide +kernel
theorem dL_law_11 : decode cL_law 11 = .ok (.dup, 1) := by decide +kernel
theorem dL_law_12 : decode cL_law 12 = .ok (.invokespecial 12, 3) := by decide +kernel
theorem dL_law_15 : decode cL_law 15 = .ok (.astore_n 2, 1) := by decide +kernel
theorem dL_law_16 : decode cL_law 16 = .ok (.iconst 0, 1) := by decide +kernel
theorem dL_law_17 : decode cL_law 17 = .ok (.istore_n 3, 1) := by decide +kernel
theorem dL_law_18 : decode cL_law 18 = .ok (.iload_n 3, 1) := by decide +kernel
theorem dL_law_19 : decode cL_law 19 = .ok (.aload_n 0, 1) := by decide +kernel
theorem dL_law_20 : decode cL_law 20 = .ok (.arraylength, 1) := by decide +kernel
theorem dL_law_21 : decode cL_law 21 = .ok (.iconst 4, 1) := by decide +kernel
theorem dL_law_22 : decode cL_law 22 = .ok (.isub, 1) := by decide +kernel
theorem dL_law_23 : decode cL_law 23 = .ok (.if_icmp .gt 707, 3) := by decide +kernel
theorem dL_law_26 : decode cL_law 26 = .ok (.aload_n 0, 1) := by decide +kernel
theorem dL_law_27 : decode cL_law 27 = .ok (.iload_n 3, 1) := by decide +kernel
theorem dL_law_28 : decode cL_law 28 = .ok (.iaload, 1) := by decide +kernel
theorem dL_law_29 : decode cL_law 29 = .ok (.bipush 31, 2) := by decide +kernel
theorem dL_law_31 : decode cL_law 31 = .ok (.iand, 1) := by decide +kernel
theorem dL_law_32 : decode cL_law 32 = .ok (.tableswitch 692 0 24 #[116, 159, 192, 205, 238, 271, 294, 317, 340, 373, 396, 419, 442, 465, 488, 501, 524, 537, 560, 593, 606, 629, 642, 655, 678], 116) := by decide +kernel
theorem dL_law_148 : decode cL_law 148 = .ok (.aload_n 1, 1) := by decide +kernel
theorem dL_law_149 : decode cL_law 149 = .ok (.aload_n 0, 1) := by decide +kernel
theorem dL_law_150 : decode cL_law 150 = .ok (.iload_n 3, 1) := by decide +kernel
theorem dL_law_151 : decode cL_law 151 = .ok (.iconst 1, 1) := by decide +kernel
theorem dL_law_152 : decode cL_law 152 = .ok (.iadd, 1) := by decide +kernel
theorem dL_law_153 : decode cL_law 153 = .ok (.iaload, 1) := by decide +kernel
theorem dL_law_154 : decode cL_law 154 = .ok (.aload_n 0, 1) := by decide +kernel
theorem dL_law_155 : decode cL_law 155 = .ok (.iload_n 3, 1) := by decide +kernel
theorem dL_law_156 : decode cL_law 156 = .ok (.iconst 2, 1) := by decide +kernel
theorem dL_law_157 : decode cL_law 157 = .ok (.iadd, 1) := by decide +kernel
theorem dL_law_158 : decode cL_law 158 = .ok (.iaload, 1) := by decide +kernel
theorem dL_law_159 : decode cL_law 159 = .ok (.aload_n 0, 1) := by decide +kernel
theorem dL_law_160 : decode cL_law 160 = .ok (.iload_n 3, 1) := by decide +kernel
theorem dL_law_161 : decode cL_law 161 = .ok (.iconst 3, 1) := by decide +kernel
theorem dL_law_162 : decode cL_law 162 = .ok (.iadd, 1) := by decide +kernel
theorem dL_law_163 : decode cL_law 163 = .ok (.iaload, 1) := by decide +kernel
theorem dL_law_164 : decode cL_law 164 = .ok (.invokevirtual 13, 3) := by decide +kernel
theorem dL_law_167 : decode cL_law 167 = .ok (.aload_n 2, 1) := by decide +kernel
theorem dL_law_168 : decode cL_law 168 = .ok (.aload_n 0, 1) := by decide +kernel
theorem dL_law_169 : decode cL_law 169 = .ok (.iload_n 3, 1) := by decide +kernel
theorem dL_law_170 : decode cL_law 170 = .ok (.iconst 1, 1) := by decide +kernel
theorem dL_law_171 : decode cL_law 171 = .ok (.iadd, 1) := by decide +kernel
theorem dL_law_172 : decode cL_law 172 = .ok (.iaload, 1) := by decide +kernel
theorem dL_law_173 : decode cL_law 173 = .ok (.aload_n 0, 1) := by decide +kernel
theorem dL_law_174 : decode cL_law 174 = .ok (.iload_n 3, 1) := by decide +kernel
theorem dL_law_175 : decode cL_law 175 = .ok (.iconst 2, 1) := by decide +kernel
theorem dL_law_176 : decode cL_law 176 = .ok (.iadd, 1) := by decide +kernel
theorem dL_law_177 : decode cL_law 177 = .ok (.iaload, 1) := by decide +kernel
theorem dL_law_178 : decode cL_law 178 = .ok (.aload_n 0, 1) := by decide +kernel
theorem dL_law_179 : decode cL_law 179 = .ok (.iload_n 3, 1) := by decide +kernel
theorem dL_law_180 : decode cL_law 180 = .ok (.iconst 3, 1) := by decide +kernel
theorem dL_law_181 : decode cL_law 181 = .ok (.iadd, 1) := by decide +kernel
theorem dL_law_182 : decode cL_law 182 = .ok (.iaload, 1) := by decide +kernel
theorem dL_law_183 : decode cL_law 183 = .ok (.invokevirtual 17, 3) := by decide +kernel
theorem dL_law_186 : decode cL_law 186 = .ok (.if_icmp .eq 538, 3) := by decide +kernel
theorem dL_law_189 : decode cL_law 189 = .ok (.iconst 0, 1) := by decide +kernel
theorem dL_law_190 : decode cL_law 190 = .ok (.ireturn, 1) := by decide +kernel
theorem dL_law_191 : decode cL_law 191 = .ok (.aload_n 1, 1) := by decide +kernel
theorem dL_law_192 : decode cL_law 192 = .ok (.aload_n 0, 1) := by decide +kernel
theorem dL_law_193 : decode cL_law 193 = .ok (.iload_n 3, 1) := by decide +kernel
theorem dL_law_194 : decode cL_law 194 = .ok (.iconst 1, 1) := by decide +kernel
theorem dL_law_195 : decode cL_law 195 = .ok (.iadd, 1) := by decide +kernel
theorem dL_law_196 : decode cL_law 196 = .ok (.iaload, 1) := by decide +kernel
theorem dL_law_197 : decode cL_law 197 = .ok (.aload_n 0, 1) := by decide +kernel
theorem dL_law_198 : decode cL_law 198 = .ok (.iload_n 3, 1) := by decide +kernel
theorem dL_law_199 : decode cL_law 199 = .ok (.iconst 2, 1) := by decide +kernel
theorem dL_law_200 : decode cL_law 200 = .ok (.iadd, 1) := by decide +kernel
theorem dL_law_201 : decode cL_law 201 = .ok (.iaload, 1) := by decide +kernel
theorem dL_law_202 : decode cL_law 202 = .ok (.invokevirtual 18, 3) := by decide +kernel
theorem dL_law_205 : decode cL_law 205 = .ok (.aload_n 2, 1) := by decide +kernel
theorem dL_law_206 : decode cL_law 206 = .ok (.aload_n 0, 1) := by decide +kernel
theorem dL_law_207 : decode cL_law 207 = .ok (.iload_n 3, 1) := by decide +kernel
theorem dL_law_208 : decode cL_law 208 = .ok (.iconst 1, 1) := by decide +kernel
theorem dL_law_209 : decode cL_law 209 = .ok (.iadd, 1) := by decide +kernel
theorem dL_law_210 : decode cL_law 210 = .ok (.iaload, 1) := by decide +kernel
theorem dL_law_211 : decode cL_law 211 = .ok (.aload_n 0, 1) := by decide +kernel
theorem dL_law_212 : decode cL_law 212 = .ok (.iload_n 3, 1) := by decide +kernel
theorem dL_law_213 : decode cL_law 213 = .ok (.iconst 2, 1) := by decide +kernel
theorem dL_law_214 : decode cL_law 214 = .ok (.iadd, 1) := by decide +kernel
theorem dL_law_215 : decode cL_law 215 = .ok (.iaload, 1) := by decide +kernel
theorem dL_law_216 : decode cL_law 216 = .ok (.invokevirtual 22, 3) := by decide +kernel
theorem dL_law_219 : decode cL_law 219 = .ok (.if_icmp .eq 505, 3) := by decide +kernel
theorem dL_law_222 : decode cL_law 222 = .ok (.iconst 0, 1) := by decide +kernel
theorem dL_law_223 : decode cL_law 223 = .ok (.ireturn, 1) := by decide +kernel
theorem dL_law_224 : decode cL_law 224 = .ok (.aload_n 1, 1) := by decide +kernel
theorem dL_law_225 : decode cL_law 225 = .ok (.invokevirtual 23, 3) := by decide +kernel
theorem dL_law_228 : decode cL_law 228 = .ok (.aload_n 2, 1) := by decide +kernel
theorem dL_law_229 : decode cL_law 229 = .ok (.invokevirtual 27, 3) := by decide +kernel
theorem dL_law_232 : decode cL_law 232 = .ok (.if_icmp .eq 492, 3) := by decide +kernel
theorem dL_law_235 : decode cL_law 235 = .ok (.iconst 0, 1) := by decide +kernel
theorem dL_law_236 : decode cL_law 236 = .ok (.ireturn, 1) := by decide +kernel
theorem dL_law_237 : decode cL_law 237 = .ok (.aload_n 1, 1) := by decide +kernel
theorem dL_law_238 : decode cL_law 238 = .ok (.aload_n 0, 1) := by decide +kernel
theorem dL_law_239 : decode cL_law 239 = .ok (.iload_n 3, 1) := by decide +kernel
theorem dL_law_240 : decode cL_law 240 = .ok (.iconst 1, 1) := by decide +kernel
theorem dL_law_241 : decode cL_law 241 = .ok (.iadd, 1) := by decide +kernel
theorem dL_law_242 : decode cL_law 242 = .ok (.iaload, 1) := by decide +kernel
theorem dL_law_243 : decode cL_law 243 = .ok (.aload_n 0, 1) := by decide +kernel
theorem dL_law_244 : decode cL_law 244 = .ok (.iload_n 3, 1) := by decide +kernel
theorem dL_law_245 : decode cL_law 245 = .ok (.iconst 2, 1) := by decide +kernel
theorem dL_law_246 : decode cL_law 246 = .ok (.iadd, 1) := by decide +kernel
theorem dL_law_247 : decode cL_law 247 = .ok (.iaload, 1) := by decide +kernel
theorem dL_law_248 : decode cL_law 248 = .ok (.invokevirtual 28, 3) := by decide +kernel
theorem dL_law_251 : decode cL_law 251 = .ok (.aload_n 2, 1) := by decide +kernel
theorem dL_law_252 : decode cL_law 252 = .ok (.aload_n 0, 1) := by decide +kernel
theorem dL_law_253 : decode cL_law 253 = .ok (.iload_n 3, 1) := by decide +kernel
theorem dL_law_254 : decode cL_law 254 = .ok (.iconst 1, 1) := by decide +kernel
theorem dL_law_255 : decode cL_law 255 = .ok (.iadd, 1) := by decide +kernel
theorem dL_law_256 : decode cL_law 256 = .ok (.iaload, 1) := by decide +kernel
theorem dL_law_257 : decode cL_law 257 = .ok (.aload_n 0, 1) := by decide +kernel
theorem dL_law_258 : decode cL_law 258 = .ok (.iload_n 3, 1) := by decide +kernel
theorem dL_law_259 : decode cL_law 259 = .ok (.iconst 2, 1) := by decide +kernel
theorem dL_law_260 : decode cL_law 260 = .ok (.iadd, 1) := by decide +kernel
theorem dL_law_261 : decode cL_law 261 = .ok (.iaload, 1) := by decide +kernel
theorem dL_law_262 : decode cL_law 262 = .ok (.invokevirtual 31, 3) := by decide +kernel
theorem dL_law_265 : decode cL_law 265 = .ok (.if_icmp .eq 459, 3) := by decide +kernel
theorem dL_law_268 : decode cL_law 268 = .ok (.iconst 0, 1) := by decide +kernel
theorem dL_law_269 : decode cL_law 269 = .ok (.ireturn, 1) := by decide +kernel
theorem dL_law_270 : decode cL_law 270 = .ok (.aload_n 1, 1) := by decide +kernel
theorem dL_law_271 : decode cL_law 271 = .ok (.aload_n 0, 1) := by decide +kernel
theorem dL_law_272 : decode cL_law 272 = .ok (.iload_n 3, 1) := by decide +kernel
theorem dL_law_273 : decode cL_law 273 = .ok (.iconst 1, 1) := by decide +kernel
theorem dL_law_274 : decode cL_law 274 = .ok (.iadd, 1) := by decide +kernel
theorem dL_law_275 : decode cL_law 275 = .ok (.iaload, 1) := by decide +kernel
theorem dL_law_276 : decode cL_law 276 = .ok (.aload_n 0, 1) := by decide +kernel
theorem dL_law_277 : decode cL_law 277 = .ok (.iload_n 3, 1) := by decide +kernel
theorem dL_law_278 : decode cL_law 278 = .ok (.iconst 2, 1) := by decide +kernel
theorem dL_law_279 : decode cL_law 279 = .ok (.iadd, 1) := by decide +kernel
theorem dL_law_280 : decode cL_law 280 = .ok (.iaload, 1) := by decide +kernel
theorem dL_law_281 : decode cL_law 281 = .ok (.invokevirtual 32, 3) := by decide +kernel
theorem dL_law_284 : decode cL_law 284 = .ok (.aload_n 2, 1) := by decide +kernel
theorem dL_law_285 : decode cL_law 285 = .ok (.aload_n 0, 1) := by decide +kernel
theorem dL_law_286 : decode cL_law 286 = .ok (.iload_n 3, 1) := by decide +kernel
theorem dL_law_287 : decode cL_law 287 = .ok (.iconst 1, 1) := by decide +kernel
theorem dL_law_288 : decode cL_law 288 = .ok (.iadd, 1) := by decide +kernel
theorem dL_law_289 : decode cL_law 289 = .ok (.iaload, 1) := by decide +kernel
theorem dL_law_290 : decode cL_law 290 = .ok (.aload_n 0, 1) := by decide +kernel
theorem dL_law_291 : decode cL_law 291 = .ok (.iload_n 3, 1) := by decide +kernel
theorem dL_law_292 : decode cL_law 292 = .ok (.iconst 2, 1) := by decide +kernel
theorem dL_law_293 : decode cL_law 293 = .ok (.iadd, 1) := by decide +kernel
theorem dL_law_294 : decode cL_law 294 = .ok (.iaload, 1) := by decide +kernel
theorem dL_law_295 : decode cL_law 295 = .ok (.invokevirtual 35, 3) := by decide +kernel
theorem dL_law_298 : decode cL_law 298 = .ok (.if_icmp .eq 426, 3) := by decide +kernel
theorem dL_law_301 : decode cL_law 301 = .ok (.iconst 0, 1) := by decide +kernel
theorem dL_law_302 : decode cL_law 302 = .ok (.ireturn, 1) := by decide +kernel
theorem dL_law_303 : decode cL_law 303 = .ok (.aload_n 1, 1) := by decide +kernel
theorem dL_law_304 : decode cL_law 304 = .ok (.aload_n 0, 1) := by decide +kernel
theorem dL_law_305 : decode cL_law 305 = .ok (.iload_n 3, 1) := by decide +kernel
theorem dL_law_306 : decode cL_law 306 = .ok (.iconst 1, 1) := by decide +kernel
theorem dL_law_307 : decode cL_law 307 = .ok (.iadd, 1) := by decide +kernel
theorem dL_law_308 : decode cL_law 308 = .ok (.iaload, 1) := by decide +kernel
theorem dL_law_309 : decode cL_law 309 = .ok (.invokevirtual 36, 3) := by decide +kernel
theorem dL_law_312 : decode cL_law 312 = .ok (.aload_n 2, 1) := by decide +kernel
theorem dL_law_313 : decode cL_law 313 = .ok (.aload_n 0, 1) := by decide +kernel
theorem dL_law_314 : decode cL_law 314 = .ok (.iload_n 3, 1) := by decide +kernel
theorem dL_law_315 : decode cL_law 315 = .ok (.iconst 1, 1) := by decide +kernel
theorem dL_law_316 : decode cL_law 316 = .ok (.iadd, 1) := by decide +kernel
theorem dL_law_317 : decode cL_law 317 = .ok (.iaload, 1) := by decide +kernel
theorem dL_law_318 : decode cL_law 318 = .ok (.invokevirtual 40, 3) := by decide +kernel
theorem dL_law_321 : decode cL_law 321 = .ok (.if_icmp .eq 403, 3) := by decide +kernel
theorem dL_law_324 : decode cL_law 324 = .ok (.iconst 0, 1) := by decide +kernel
theorem dL_law_325 : decode cL_law 325 = .ok (.ireturn, 1) := by decide +kernel
theorem dL_law_326 : decode cL_law 326 = .ok (.aload_n 1, 1) := by decide +kernel
theorem dL_law_327 : decode cL_law 327 = .ok (.aload_n 0, 1) := by decide +kernel
theorem dL_law_328 : decode cL_law 328 = .ok (.iload_n 3, 1) := by decide +kernel
theorem dL_law_329 : decode cL_law 329 = .ok (.iconst 1, 1) := by decide +kernel
theorem dL_law_330 : decode cL_law 330 = .ok (.iadd, 1) := by decide +kernel
theorem dL_law_331 : decode cL_law 331 = .ok (.iaload, 1) := by decide +kernel
theorem dL_law_332 : decode cL_law 332 = .ok (.invokevirtual 41, 3) := by decide +kernel
theorem dL_law_335 : decode cL_law 335 = .ok (.aload_n 2, 1) := by decide +kernel
theorem dL_law_336 : decode cL_law 336 = .ok (.aload_n 0, 1) := by decide +kernel
theorem dL_law_337 : decode cL_law 337 = .ok (.iload_n 3, 1) := by decide +kernel
theorem dL_law_338 : decode cL_law 338 = .ok (.iconst 1, 1) := by decide +kernel
theorem dL_law_339 : decode cL_law 339 = .ok (.iadd, 1) := by decide +kernel
theorem dL_law_340 : decode cL_law 340 = .ok (.iaload, 1) := by decide +kernel
theorem dL_law_341 : decode cL_law 341 = .ok (.invokevirtual 44, 3) := by decide +kernel
theorem dL_law_344 : decode cL_law 344 = .ok (.if_icmp .eq 380, 3) := by decide +kernel
theorem dL_law_347 : decode cL_law 347 = .ok (.iconst 0, 1) := by decide +kernel
theorem dL_law_348 : decode cL_law 348 = .ok (.ireturn, 1) := by decide +kernel
theorem dL_law_349 : decode cL_law 349 = .ok (.aload_n 1, 1) := by decide +kernel
theorem dL_law_350 : decode cL_law 350 = .ok (.aload_n 0, 1) := by decide +kernel
theorem dL_law_351 : decode cL_law 351 = .ok (.iload_n 3, 1) := by decide +kernel
theorem dL_law_352 : decode cL_law 352 = .ok (.iconst 1, 1) := by decide +kernel
theorem dL_law_353 : decode cL_law 353 = .ok (.iadd, 1) := by decide +kernel
theorem dL_law_354 : decode cL_law 354 = .ok (.iaload, 1) := by decide +kernel
theorem dL_law_355 : decode cL_law 355 = .ok (.invokevirtual 45, 3) := by decide +kernel
theorem dL_law_358 : decode cL_law 358 = .ok (.aload_n 2, 1) := by decide +kernel
theorem dL_law_359 : decode cL_law 359 = .ok (.aload_n 0, 1) := by decide +kernel
theorem dL_law_360 : decode cL_law 360 = .ok (.iload_n 3, 1) := by decide +kernel
theorem dL_law_361 : decode cL_law 361 = .ok (.iconst 1, 1) := by decide +kernel
theorem dL_law_362 : decode cL_law 362 = .ok (.iadd, 1) := by decide +kernel
theorem dL_law_363 : decode cL_law 363 = .ok (.iaload, 1) := by decide +kernel
theorem dL_law_364 : decode cL_law 364 = .ok (.invokevirtual 48, 3) := by decide +kernel
theorem dL_law_367 : decode cL_law 367 = .ok (.if_icmp .eq 357, 3) := by decide +kernel
theorem dL_law_370 : decode cL_law 370 = .ok (.iconst 0, 1) := by decide +kernel
theorem dL_law_371 : decode cL_law 371 = .ok (.ireturn, 1) := by decide +kernel
theorem dL_law_372 : decode cL_law 372 = .ok (.aload_n 1, 1) := by decide +kernel
theorem dL_law_373 : decode cL_law 373 = .ok (.aload_n 0, 1) := by decide +kernel
theorem dL_law_374 : decode cL_law 374 = .ok (.iload_n 3, 1) := by decide +kernel
theorem dL_law_375 : decode cL_law 375 = .ok (.iconst 1, 1) := by decide +kernel
theorem dL_law_376 : decode cL_law 376 = .ok (.iadd, 1) := by decide +kernel
theorem dL_law_377 : decode cL_law 377 = .ok (.iaload, 1) := by decide +kernel
theorem dL_law_378 : decode cL_law 378 = .ok (.aload_n 0, 1) := by decide +kernel
theorem dL_law_379 : decode cL_law 379 = .ok (.iload_n 3, 1) := by decide +kernel
theorem dL_law_380 : decode cL_law 380 = .ok (.iconst 2, 1) := by decide +kernel
theorem dL_law_381 : decode cL_law 381 = .ok (.iadd, 1) := by decide +kernel
theorem dL_law_382 : decode cL_law 382 = .ok (.iaload, 1) := by decide +kernel
theorem dL_law_383 : decode cL_law 383 = .ok (.invokevirtual 49, 3) := by decide +kernel
theorem dL_law_386 : decode cL_law 386 = .ok (.aload_n 2, 1) := by decide +kernel
theorem dL_law_387 : decode cL_law 387 = .ok (.aload_n 0, 1) := by decide +kernel
theorem dL_law_388 : decode cL_law 388 = .ok (.iload_n 3, 1) := by decide +kernel
theorem dL_law_389 : decode cL_law 389 = .ok (.iconst 1, 1) := by decide +kernel
theorem dL_law_390 : decode cL_law 390 = .ok (.iadd, 1) := by decide +kernel
theorem dL_law_391 : decode cL_law 391 = .ok (.iaload, 1) := by decide +kernel
theorem dL_law_392 : decode cL_law 392 = .ok (.aload_n 0, 1) := by decide +kernel
theorem dL_law_393 : decode cL_law 393 = .ok (.iload_n 3, 1) := by decide +kernel
theorem dL_law_394 : decode cL_law 394 = .ok (.iconst 2, 1) := by decide +kernel
theorem dL_law_395 : decode cL_law 395 = .ok (.iadd, 1) := by decide +kernel
theorem dL_law_396 : decode cL_law 396 = .ok (.iaload, 1) := by decide +kernel
theorem dL_law_397 : decode cL_law 397 = .ok (.invokevirtual 52, 3) := by decide +kernel
theorem dL_law_400 : decode cL_law 400 = .ok (.if_icmp .eq 324, 3) := by decide +kernel
theorem dL_law_403 : decode cL_law 403 = .ok (.iconst 0, 1) := by decide +kernel
theorem dL_law_404 : decode cL_law 404 = .ok (.ireturn, 1) := by decide +kernel
theorem dL_law_405 : decode cL_law 405 = .ok (.aload_n 1, 1) := by decide +kernel
theorem dL_law_406 : decode cL_law 406 = .ok (.aload_n 0, 1) := by decide +kernel
theorem dL_law_407 : decode cL_law 407 = .ok (.iload_n 3, 1) := by decide +kernel
theorem dL_law_408 : decode cL_law 408 = .ok (.iconst 1, 1) := by decide +kernel
theorem dL_law_409 : decode cL_law 409 = .ok (.iadd, 1) := by decide +kernel
theorem dL_law_410 : decode cL_law 410 = .ok (.iaload, 1) := by decide +kernel
theorem dL_law_411 : decode cL_law 411 = .ok (.invokevirtual 53, 3) := by decide +kernel
theorem dL_law_414 : decode cL_law 414 = .ok (.aload_n 2, 1) := by decide +kernel
theorem dL_law_415 : decode cL_law 415 = .ok (.aload_n 0, 1) := by decide +kernel
theorem dL_law_416 : decode cL_law 416 = .ok (.iload_n 3, 1) := by decide +kernel
theorem dL_law_417 : decode cL_law 417 = .ok (.iconst 1, 1) := by decide +kernel
theorem dL_law_418 : decode cL_law 418 = .ok (.iadd, 1) := by decide +kernel
theorem dL_law_419 : decode cL_law 419 = .ok (.iaload, 1) := by decide +kernel
theorem dL_law_420 : decode cL_law 420 = .ok (.invokevirtual 56, 3) := by decide +kernel
theorem dL_law_423 : decode cL_law 423 = .ok (.if_icmp .eq 301, 3) := by decide +kernel
theorem dL_law_426 : decode cL_law 426 = .ok (.iconst 0, 1) := by decide +kernel
theorem dL_law_427 : decode cL_law 427 = .ok (.ireturn, 1) := by decide +kernel
theorem dL_law_428 : decode cL_law 428 = .ok (.aload_n 1, 1) := by decide +kernel
theorem dL_law_429 : decode cL_law 429 = .ok (.aload_n 0, 1) := by decide +kernel
theorem dL_law_430 : decode cL_law 430 = .ok (.iload_n 3, 1) := by decide +kernel
theorem dL_law_431 : decode cL_law 431 = .ok (.iconst 1, 1) := by decide +kernel
theorem dL_law_432 : decode cL_law 432 = .ok (.iadd, 1) := by decide +kernel
theorem dL_law_433 : decode cL_law 433 = .ok (.iaload, 1) := by decide +kernel
theorem dL_law_434 : decode cL_law 434 = .ok (.invokevirtual 57, 3) := by decide +kernel
theorem dL_law_437 : decode cL_law 437 = .ok (.aload_n 2, 1) := by decide +kernel
theorem dL_law_438 : decode cL_law 438 = .ok (.aload_n 0, 1) := by decide +kernel
theorem dL_law_439 : decode cL_law 439 = .ok (.iload_n 3, 1) := by decide +kernel
theorem dL_law_440 : decode cL_law 440 = .ok (.iconst 1, 1) := by decide +kernel
theorem dL_law_441 : decode cL_law 441 = .ok (.iadd, 1) := by decide +kernel
theorem dL_law_442 : decode cL_law 442 = .ok (.iaload, 1) := by decide +kernel
theorem dL_law_443 : decode cL_law 443 = .ok (.invokevirtual 60, 3) := by decide +kernel
theorem dL_law_446 : decode cL_law 446 = .ok (.if_icmp .eq 278, 3) := by decide +kernel
theorem dL_law_449 : decode cL_law 449 = .ok (.iconst 0, 1) := by decide +kernel
theorem dL_law_450 : decode cL_law 450 = .ok (.ireturn, 1) := by decide +kernel
theorem dL_law_451 : decode cL_law 451 = .ok (.aload_n 1, 1) := by decide +kernel
theorem dL_law_452 : decode cL_law 452 = .ok (.aload_n 0, 1) := by decide +kernel
theorem dL_law_453 : decode cL_law 453 = .ok (.iload_n 3, 1) := by decide +kernel
theorem dL_law_454 : decode cL_law 454 = .ok (.iconst 1, 1) := by decide +kernel
theorem dL_law_455 : decode cL_law 455 = .ok (.iadd, 1) := by decide +kernel
theorem dL_law_456 : decode cL_law 456 = .ok (.iaload, 1) := by decide +kernel
theorem dL_law_457 : decode cL_law 457 = .ok (.invokevirtual 61, 3) := by decide +kernel
theorem dL_law_460 : decode cL_law 460 = .ok (.aload_n 2, 1) := by decide +kernel
theorem dL_law_461 : decode cL_law 461 = .ok (.aload_n 0, 1) := by decide +kernel
theorem dL_law_462 : decode cL_law 462 = .ok (.iload_n 3, 1) := by decide +kernel
theorem dL_law_463 : decode cL_law 463 = .ok (.iconst 1, 1) := by decide +kernel
theorem dL_law_464 : decode cL_law 464 = .ok (.iadd, 1) := by decide +kernel
theorem dL_law_465 : decode cL_law 465 = .ok (.iaload, 1) := by decide +kernel
theorem dL_law_466 : decode cL_law 466 = .ok (.invokevirtual 64, 3) := by decide +kernel
theorem dL_law_469 : decode cL_law 469 = .ok (.if_icmp .eq 255, 3) := by decide +kernel
theorem dL_law_472 : decode cL_law 472 = .ok (.iconst 0, 1) := by decide +kernel
theorem dL_law_473 : decode cL_law 473 = .ok (.ireturn, 1) := by decide +kernel
theorem dL_law_474 : decode cL_law 474 = .ok (.aload_n 1, 1) := by decide +kernel
theorem dL_law_475 : decode cL_law 475 = .ok (.aload_n 0, 1) := by decide +kernel
theorem dL_law_476 : decode cL_law 476 = .ok (.iload_n 3, 1) := by decide +kernel
theorem dL_law_477 : decode cL_law 477 = .ok (.iconst 1, 1) := by decide +kernel
theorem dL_law_478 : decode cL_law 478 = .ok (.iadd, 1) := by decide +kernel
theorem dL_law_479 : decode cL_law 479 = .ok (.iaload, 1) := by decide +kernel
theorem dL_law_480 : decode cL_law 480 = .ok (.invokevirtual 65, 3) := by decide +kernel
theorem dL_law_483 : decode cL_law 483 = .ok (.aload_n 2, 1) := by decide +kernel
theorem dL_law_484 : decode cL_law 484 = .ok (.aload_n 0, 1) := by decide +kernel
theorem dL_law_485 : decode cL_law 485 = .ok (.iload_n 3, 1) := by decide +kernel
theorem dL_law_486 : decode cL_law 486 = .ok (.iconst 1, 1) := by decide +kernel
theorem dL_law_487 : decode cL_law 487 = .ok (.iadd, 1) := by decide +kernel
theorem dL_law_488 : decode cL_law 488 = .ok (.iaload, 1) := by decide +kernel
theorem dL_law_489 : decode cL_law 489 = .ok (.invokevirtual 68, 3) := by decide +kernel
theorem dL_law_492 : decode cL_law 492 = .ok (.if_icmp .eq 232, 3) := by decide +kernel
theorem dL_law_495 : decode cL_law 495 = .ok (.iconst 0, 1) := by decide +kernel
theorem dL_law_496 : decode cL_law 496 = .ok (.ireturn, 1) := by decide +kernel
theorem dL_law_497 : decode cL_law 497 = .ok (.aload_n 1, 1) := by decide +kernel
theorem dL_law_498 : decode cL_law 498 = .ok (.aload_n 0, 1) := by decide +kernel
theorem dL_law_499 : decode cL_law 499 = .ok (.iload_n 3, 1) := by decide +kernel
theorem dL_law_500 : decode cL_law 500 = .ok (.iconst 1, 1) := by decide +kernel
theorem dL_law_501 : decode cL_law 501 = .ok (.iadd, 1) := by decide +kernel
theorem dL_law_502 : decode cL_law 502 = .ok (.iaload, 1) := by decide +kernel
theorem dL_law_503 : decode cL_law 503 = .ok (.invokevirtual 69, 3) := by decide +kernel
theorem dL_law_506 : decode cL_law 506 = .ok (.aload_n 2, 1) := by decide +kernel
theorem dL_law_507 : decode cL_law 507 = .ok (.aload_n 0, 1) := by decide +kernel
theorem dL_law_508 : decode cL_law 508 = .ok (.iload_n 3, 1) := by decide +kernel
theorem dL_law_509 : decode cL_law 509 = .ok (.iconst 1, 1) := by decide +kernel
theorem dL_law_510 : decode cL_law 510 = .ok (.iadd, 1) := by decide +kernel
theorem dL_law_511 : decode cL_law 511 = .ok (.iaload, 1) := by decide +kernel
theorem dL_law_512 : decode cL_law 512 = .ok (.invokevirtual 72, 3) := by decide +kernel
theorem dL_law_515 : decode cL_law 515 = .ok (.if_icmp .eq 209, 3) := by decide +kernel
theorem dL_law_518 : decode cL_law 518 = .ok (.iconst 0, 1) := by decide +kernel
theorem dL_law_519 : decode cL_law 519 = .ok (.ireturn, 1) := by decide +kernel
theorem dL_law_520 : decode cL_law 520 = .ok (.aload_n 1, 1) := by decide +kernel
theorem dL_law_521 : decode cL_law 521 = .ok (.invokevirtual 73, 3) := by decide +kernel
theorem dL_law_524 : decode cL_law 524 = .ok (.aload_n 2, 1) := by decide +kernel
theorem dL_law_525 : decode cL_law 525 = .ok (.invokevirtual 76, 3) := by decide +kernel
theorem dL_law_528 : decode cL_law 528 = .ok (.if_icmp .eq 196, 3) := by decide +kernel
theorem dL_law_531 : decode cL_law 531 = .ok (.iconst 0, 1) := by decide +kernel
theorem dL_law_532 : decode cL_law 532 = .ok (.ireturn, 1) := by decide +kernel
theorem dL_law_533 : decode cL_law 533 = .ok (.aload_n 1, 1) := by decide +kernel
theorem dL_law_534 : decode cL_law 534 = .ok (.aload_n 0, 1) := by decide +kernel
theorem dL_law_535 : decode cL_law 535 = .ok (.iload_n 3, 1) := by decide +kernel
theorem dL_law_536 : decode cL_law 536 = .ok (.iconst 1, 1) := by decide +kernel
theorem dL_law_537 : decode cL_law 537 = .ok (.iadd, 1) := by decide +kernel
theorem dL_law_538 : decode cL_law 538 = .ok (.iaload, 1) := by decide +kernel
theorem dL_law_539 : decode cL_law 539 = .ok (.invokevirtual 77, 3) := by decide +kernel
theorem dL_law_542 : decode cL_law 542 = .ok (.aload_n 2, 1) := by decide +kernel
theorem dL_law_543 : decode cL_law 543 = .ok (.aload_n 0, 1) := by decide +kernel
theorem dL_law_544 : decode cL_law 544 = .ok (.iload_n 3, 1) := by decide +kernel
theorem dL_law_545 : decode cL_law 545 = .ok (.iconst 1, 1) := by decide +kernel
theorem dL_law_546 : decode cL_law 546 = .ok (.iadd, 1) := by decide +kernel
theorem dL_law_547 : decode cL_law 547 = .ok (.iaload, 1) := by decide +kernel
theorem dL_law_548 : decode cL_law 548 = .ok (.invokevirtual 80, 3) := by decide +kernel
theorem dL_law_551 : decode cL_law 551 = .ok (.if_icmp .eq 173, 3) := by decide +kernel
theorem dL_law_554 : decode cL_law 554 = .ok (.iconst 0, 1) := by decide +kernel
theorem dL_law_555 : decode cL_law 555 = .ok (.ireturn, 1) := by decide +kernel
theorem dL_law_556 : decode cL_law 556 = .ok (.aload_n 1, 1) := by decide +kernel
theorem dL_law_557 : decode cL_law 557 = .ok (.invokevirtual 81, 3) := by decide +kernel
theorem dL_law_560 : decode cL_law 560 = .ok (.aload_n 2, 1) := by decide +kernel
theorem dL_law_561 : decode cL_law 561 = .ok (.invokevirtual 84, 3) := by decide +kernel
theorem dL_law_564 : decode cL_law 564 = .ok (.if_icmp .eq 160, 3) := by decide +kernel
theorem dL_law_567 : decode cL_law 567 = .ok (.iconst 0, 1) := by decide +kernel
theorem dL_law_568 : decode cL_law 568 = .ok (.ireturn, 1) := by decide +kernel
theorem dL_law_569 : decode cL_law 569 = .ok (.aload_n 1, 1) := by decide +kernel
theorem dL_law_570 : decode cL_law 570 = .ok (.aload_n 0, 1) := by decide +kernel
theorem dL_law_571 : decode cL_law 571 = .ok (.iload_n 3, 1) := by decide +kernel
theorem dL_law_572 : decode cL_law 572 = .ok (.iconst 1, 1) := by decide +kernel
theorem dL_law_573 : decode cL_law 573 = .ok (.iadd, 1) := by decide +kernel
theorem dL_law_574 : decode cL_law 574 = .ok (.iaload, 1) := by decide +kernel
theorem dL_law_575 : decode cL_law 575 = .ok (.invokevirtual 85, 3) := by decide +kernel
theorem dL_law_578 : decode cL_law 578 = .ok (.aload_n 2, 1) := by decide +kernel
theorem dL_law_579 : decode cL_law 579 = .ok (.aload_n 0, 1) := by decide +kernel
theorem dL_law_580 : decode cL_law 580 = .ok (.iload_n 3, 1) := by decide +kernel
theorem dL_law_581 : decode cL_law 581 = .ok (.iconst 1, 1) := by decide +kernel
theorem dL_law_582 : decode cL_law 582 = .ok (.iadd, 1) := by decide +kernel
theorem dL_law_583 : decode cL_law 583 = .ok (.iaload, 1) := by decide +kernel
theorem dL_law_584 : decode cL_law 584 = .ok (.invokevirtual 88, 3) := by decide +kernel
theorem dL_law_587 : decode cL_law 587 = .ok (.if_icmp .eq 137, 3) := by decide +kernel
theorem dL_law_590 : decode cL_law 590 = .ok (.iconst 0, 1) := by decide +kernel
theorem dL_law_591 : decode cL_law 591 = .ok (.ireturn, 1) := by decide +kernel
theorem dL_law_592 : decode cL_law 592 = .ok (.aload_n 1, 1) := by decide +kernel
theorem dL_law_593 : decode cL_law 593 = .ok (.aload_n 0, 1) := by decide +kernel
theorem dL_law_594 : decode cL_law 594 = .ok (.iload_n 3, 1) := by decide +kernel
theorem dL_law_595 : decode cL_law 595 = .ok (.iconst 1, 1) := by decide +kernel
theorem dL_law_596 : decode cL_law 596 = .ok (.iadd, 1) := by decide +kernel
theorem dL_law_597 : decode cL_law 597 = .ok (.iaload, 1) := by decide +kernel
theorem dL_law_598 : decode cL_law 598 = .ok (.aload_n 0, 1) := by decide +kernel
theorem dL_law_599 : decode cL_law 599 = .ok (.iload_n 3, 1) := by decide +kernel
theorem dL_law_600 : decode cL_law 600 = .ok (.iconst 2, 1) := by decide +kernel
theorem dL_law_601 : decode cL_law 601 = .ok (.iadd, 1) := by decide +kernel
theorem dL_law_602 : decode cL_law 602 = .ok (.iaload, 1) := by decide +kernel
theorem dL_law_603 : decode cL_law 603 = .ok (.invokevirtual 89, 3) := by decide +kernel
theorem dL_law_606 : decode cL_law 606 = .ok (.aload_n 2, 1) := by decide +kernel
theorem dL_law_607 : decode cL_law 607 = .ok (.aload_n 0, 1) := by decide +kernel
theorem dL_law_608 : decode cL_law 608 = .ok (.iload_n 3, 1) := by decide +kernel
theorem dL_law_609 : decode cL_law 609 = .ok (.iconst 1, 1) := by decide +kernel
theorem dL_law_610 : decode cL_law 610 = .ok (.iadd, 1) := by decide +kernel
theorem dL_law_611 : decode cL_law 611 = .ok (.iaload, 1) := by decide +kernel
theorem dL_law_612 : decode cL_law 612 = .ok (.aload_n 0, 1) := by decide +kernel
theorem dL_law_613 : decode cL_law 613 = .ok (.iload_n 3, 1) := by decide +kernel
theorem dL_law_614 : decode cL_law 614 = .ok (.iconst 2, 1) := by decide +kernel
theorem dL_law_615 : decode cL_law 615 = .ok (.iadd, 1) := by decide +kernel
theorem dL_law_616 : decode cL_law 616 = .ok (.iaload, 1) := by decide +kernel
theorem dL_law_617 : decode cL_law 617 = .ok (.invokevirtual 92, 3) := by decide +kernel
theorem dL_law_620 : decode cL_law 620 = .ok (.if_icmp .eq 104, 3) := by decide +kernel
theorem dL_law_623 : decode cL_law 623 = .ok (.iconst 0, 1) := by decide +kernel
theorem dL_law_624 : decode cL_law 624 = .ok (.ireturn, 1) := by decide +kernel
theorem dL_law_625 : decode cL_law 625 = .ok (.aload_n 1, 1) := by decide +kernel
theorem dL_law_626 : decode cL_law 626 = .ok (.invokevirtual 93, 3) := by decide +kernel
theorem dL_law_629 : decode cL_law 629 = .ok (.aload_n 2, 1) := by decide +kernel
theorem dL_law_630 : decode cL_law 630 = .ok (.invokevirtual 96, 3) := by decide +kernel
theorem dL_law_633 : decode cL_law 633 = .ok (.if_icmp .eq 91, 3) := by decide +kernel
theorem dL_law_636 : decode cL_law 636 = .ok (.iconst 0, 1) := by decide +kernel
theorem dL_law_637 : decode cL_law 637 = .ok (.ireturn, 1) := by decide +kernel
theorem dL_law_638 : decode cL_law 638 = .ok (.aload_n 1, 1) := by decide +kernel
theorem dL_law_639 : decode cL_law 639 = .ok (.aload_n 0, 1) := by decide +kernel
theorem dL_law_640 : decode cL_law 640 = .ok (.iload_n 3, 1) := by decide +kernel
theorem dL_law_641 : decode cL_law 641 = .ok (.iconst 1, 1) := by decide +kernel
theorem dL_law_642 : decode cL_law 642 = .ok (.iadd, 1) := by decide +kernel
theorem dL_law_643 : decode cL_law 643 = .ok (.iaload, 1) := by decide +kernel
theorem dL_law_644 : decode cL_law 644 = .ok (.invokevirtual 97, 3) := by decide +kernel
theorem dL_law_647 : decode cL_law 647 = .ok (.aload_n 2, 1) := by decide +kernel
theorem dL_law_648 : decode cL_law 648 = .ok (.aload_n 0, 1) := by decide +kernel
theorem dL_law_649 : decode cL_law 649 = .ok (.iload_n 3, 1) := by decide +kernel
theorem dL_law_650 : decode cL_law 650 = .ok (.iconst 1, 1) := by decide +kernel
theorem dL_law_651 : decode cL_law 651 = .ok (.iadd, 1) := by decide +kernel
theorem dL_law_652 : decode cL_law 652 = .ok (.iaload, 1) := by decide +kernel
theorem dL_law_653 : decode cL_law 653 = .ok (.invokevirtual 100, 3) := by decide +kernel
theorem dL_law_656 : decode cL_law 656 = .ok (.if_icmp .eq 68, 3) := by decide +kernel
theorem dL_law_659 : decode cL_law 659 = .ok (.iconst 0, 1) := by decide +kernel
theorem dL_law_660 : decode cL_law 660 = .ok (.ireturn, 1) := by decide +kernel
theorem dL_law_661 : decode cL_law 661 = .ok (.aload_n 1, 1) := by decide +kernel
theorem dL_law_662 : decode cL_law 662 = .ok (.invokevirtual 101, 3) := by decide +kernel
theorem dL_law_665 : decode cL_law 665 = .ok (.aload_n 2, 1) := by decide +kernel
theorem dL_law_666 : decode cL_law 666 = .ok (.invokevirtual 104, 3) := by decide +kernel
theorem dL_law_669 : decode cL_law 669 = .ok (.if_icmp .eq 55, 3) := by decide +kernel
theorem dL_law_672 : decode cL_law 672 = .ok (.iconst 0, 1) := by decide +kernel
theorem dL_law_673 : decode cL_law 673 = .ok (.ireturn, 1) := by decide +kernel
theorem dL_law_674 : decode cL_law 674 = .ok (.aload_n 1, 1) := by decide +kernel
theorem dL_law_675 : decode cL_law 675 = .ok (.invokevirtual 105, 3) := by decide +kernel
theorem dL_law_678 : decode cL_law 678 = .ok (.aload_n 2, 1) := by decide +kernel
theorem dL_law_679 : decode cL_law 679 = .ok (.invokevirtual 108, 3) := by decide +kernel
theorem dL_law_682 : decode cL_law 682 = .ok (.if_icmp .eq 42, 3) := by decide +kernel
theorem dL_law_685 : decode cL_law 685 = .ok (.iconst 0, 1) := by decide +kernel
theorem dL_law_686 : decode cL_law 686 = .ok (.ireturn, 1) := by decide +kernel
theorem dL_law_687 : decode cL_law 687 = .ok (.aload_n 1, 1) := by decide +kernel
theorem dL_law_688 : decode cL_law 688 = .ok (.aload_n 0, 1) := by decide +kernel
theorem dL_law_689 : decode cL_law 689 = .ok (.iload_n 3, 1) := by decide +kernel
theorem dL_law_690 : decode cL_law 690 = .ok (.iconst 1, 1) := by decide +kernel
theorem dL_law_691 : decode cL_law 691 = .ok (.iadd, 1) := by decide +kernel
theorem dL_law_692 : decode cL_law 692 = .ok (.iaload, 1) := by decide +kernel
theorem dL_law_693 : decode cL_law 693 = .ok (.invokevirtual 109, 3) := by decide +kernel
theorem dL_law_696 : decode cL_law 696 = .ok (.aload_n 2, 1) := by decide +kernel
theorem dL_law_697 : decode cL_law 697 = .ok (.aload_n 0, 1) := by decide +kernel
theorem dL_law_698 : decode cL_law 698 = .ok (.iload_n 3, 1) := by decide +kernel
theorem dL_law_699 : decode cL_law 699 = .ok (.iconst 1, 1) := by decide +kernel
theorem dL_law_700 : decode cL_law 700 = .ok (.iadd, 1) := by decide +kernel
theorem dL_law_701 : decode cL_law 701 = .ok (.iaload, 1) := by decide +kernel
theorem dL_law_702 : decode cL_law 702 = .ok (.invokevirtual 112, 3) := by decide +kernel
theorem dL_law_705 : decode cL_law 705 = .ok (.if_icmp .eq 19, 3) := by decide +kernel
theorem dL_law_708 : decode cL_law 708 = .ok (.iconst 0, 1) := by decide +kernel
theorem dL_law_709 : decode cL_law 709 = .ok (.ireturn, 1) := by decide +kernel
theorem dL_law_710 : decode cL_law 710 = .ok (.aload_n 1, 1) := by decide +kernel
theorem dL_law_711 : decode cL_law 711 = .ok (.invokevirtual 113, 3) := by decide +kernel
theorem dL_law_714 : decode cL_law 714 = .ok (.aload_n 2, 1) := by decide +kernel
theorem dL_law_715 : decode cL_law 715 = .ok (.invokevirtual 117, 3) := by decide +kernel
theorem dL_law_718 : decode cL_law 718 = .ok (.lcmp, 1) := by decide +kernel
theorem dL_law_719 : decode cL_law 719 = .ok (.ifCond .eq 5, 3) := by decide +kernel
theorem dL_law_722 : decode cL_law 722 = .ok (.iconst 0, 1) := by decide +kernel
theorem dL_law_723 : decode cL_law 723 = .ok (.ireturn, 1) := by decide +kernel
theorem dL_law_724 : decode cL_law 724 = .ok (.iinc 3 4, 3) := by decide +kernel
theorem dL_law_727 : decode cL_law 727 = .ok (.goto (-709), 3) := by decide +kernel
theorem dL_law_730 : decode cL_law 730 = .ok (.iconst 1, 1) := by decide +kernel
theorem dL_law_731 : decode cL_law 731 = .ok (.ireturn, 1) := by decide +kernel
