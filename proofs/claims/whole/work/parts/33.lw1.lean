/-! the words of the tables, one by one -/
set_option maxRecDepth 20000 in
theorem wl_0 : Cond.code yX7_init cX7_init 2 none ∈ lw_tbl := List.mem_of_getElem? (i := 87) rfl
theorem wl_1 : Cond.initialized RX5 ∈ lw_tbl := List.mem_of_getElem? (i := 74) (by decide +kernel)
theorem wl_2 : Cond.instantiable RX5 2 ∈ lw_tbl := List.mem_of_getElem? (i := 279) (by decide +kernel)
theorem wl_3 : Cond.classLink RX7 45 RX5 ∈ lw_tbl := List.mem_of_getElem? (i := 278) (by decide +kernel)
theorem wl_4 : Cond.fieldLink RX7 41 "PrisonWeddings" "sights" "LPrisonWeddings$Sights;" ∈ lw_tbl := List.mem_of_getElem? (i := 403) (by decide +kernel)
theorem wl_5 : Cond.initialized RX6 ∈ lw_tbl := List.mem_of_getElem? (i := 73) (by decide +kernel)
theorem wl_6 : Cond.instantiable RX6 5 ∈ lw_tbl := List.mem_of_getElem? (i := 256) (by decide +kernel)
theorem wl_7 : Cond.classLink RX7 38 RX6 ∈ lw_tbl := List.mem_of_getElem? (i := 255) (by decide +kernel)
theorem wl_8 : Cond.fieldLink RX7 35 "PrisonWeddings" "trial" "LPrisonWeddings$House;" ∈ lw_tbl := List.mem_of_getElem? (i := 402) (by decide +kernel)
theorem wl_9 : Cond.fieldLink RX7 31 "PrisonWeddings" "house" "LPrisonWeddings$House;" ∈ lw_tbl := List.mem_of_getElem? (i := 401) (by decide +kernel)
theorem wl_10 : Cond.initialized RX2 ∈ lw_tbl := List.mem_of_getElem? (i := 70) (by decide +kernel)
theorem wl_11 : Cond.instantiable RX2 4 ∈ lw_tbl := List.mem_of_getElem? (i := 164) (by decide +kernel)
theorem wl_12 : Cond.classLink RX7 26 RX2 ∈ lw_tbl := List.mem_of_getElem? (i := 163) (by decide +kernel)
theorem wl_13 : Cond.fieldLink RX7 23 "PrisonWeddings" "draft" "LPrisonWeddings$Roll;" ∈ lw_tbl := List.mem_of_getElem? (i := 400) (by decide +kernel)
theorem wl_14 : Cond.fieldLink RX7 19 "PrisonWeddings" "roll" "LPrisonWeddings$Roll;" ∈ lw_tbl := List.mem_of_getElem? (i := 399) (by decide +kernel)
theorem wl_15 : Cond.initialized RX3 ∈ lw_tbl := List.mem_of_getElem? (i := 69) (by decide +kernel)
theorem wl_16 : Cond.instantiable RX3 10 ∈ lw_tbl := List.mem_of_getElem? (i := 108) (by decide +kernel)
theorem wl_17 : Cond.classLink RX7 16 RX3 ∈ lw_tbl := List.mem_of_getElem? (i := 107) (by decide +kernel)
theorem wl_18 : Cond.fieldLink RX7 12 "PrisonWeddings" "script" "LPrisonWeddings$Script;" ∈ lw_tbl := List.mem_of_getElem? (i := 398) (by decide +kernel)
theorem wl_19 : Cond.initialized RX4 ∈ lw_tbl := List.mem_of_getElem? (i := 68) (by decide +kernel)
theorem wl_20 : Cond.instantiable RX4 2 ∈ lw_tbl := List.mem_of_getElem? (i := 92) (by decide +kernel)
theorem wl_21 : Cond.classLink RX7 9 RX4 ∈ lw_tbl := List.mem_of_getElem? (i := 91) (by decide +kernel)
theorem wl_22 : Cond.code objectInit ⟨#[0xb1]⟩ 1 none ∈ lw_tbl := by decide +kernel
theorem wl_23 : Cond.instanceMethod objectInit ∈ lw_tbl := by decide +kernel
theorem wl_24 : Cond.methodLink RX7 3 objectInit ∈ lw_tbl := by decide +kernel
theorem wl_25 : Cond.methodLink RX2 3 objectInit ∈ lw_tbl := by decide +kernel
set_option maxRecDepth 20000 in
theorem wl_26 : Cond.code yX2_init cX2_init 2 none ∈ lw_tbl := List.mem_of_getElem? (i := 167) rfl
theorem wl_27 : Cond.instanceMethod yX2_init ∈ lw_tbl := List.mem_of_getElem? (i := 166) (by decide +kernel)
theorem wl_28 : Cond.methodLink RX7 28 yX2_init ∈ lw_tbl := List.mem_of_getElem? (i := 165) (by decide +kernel)
theorem wl_29 : Cond.fieldLink RX3 31 "PrisonWeddings$Roll" "number" "[I" ∈ lw_tbl := List.mem_of_getElem? (i := 139) (by decide +kernel)
theorem wl_30 : Cond.fieldLink RX3 28 "PrisonWeddings$Roll" "price" "[I" ∈ lw_tbl := List.mem_of_getElem? (i := 136) (by decide +kernel)
theorem wl_31 : Cond.fieldLink RX3 25 "PrisonWeddings$Roll" "trade" "[I" ∈ lw_tbl := List.mem_of_getElem? (i := 133) (by decide +kernel)
theorem wl_32 : Cond.fieldLink RX3 22 "PrisonWeddings$Roll" "purse" "[I" ∈ lw_tbl := List.mem_of_getElem? (i := 131) (by decide +kernel)
theorem wl_33 : Cond.fieldLink RX3 19 "PrisonWeddings$Roll" "debts" "[I" ∈ lw_tbl := List.mem_of_getElem? (i := 128) (by decide +kernel)
theorem wl_34 : Cond.fieldLink RX3 15 "PrisonWeddings$Roll" "kind" "[I" ∈ lw_tbl := List.mem_of_getElem? (i := 125) (by decide +kernel)
theorem wl_35 : Cond.arrayClass .int ∈ lw_tbl := List.mem_of_getElem? (i := 162) (by decide +kernel)
theorem wl_36 : Cond.fieldLink RX3 9 "PrisonWeddings$Roll" "female" "[Z" ∈ lw_tbl := List.mem_of_getElem? (i := 122) (by decide +kernel)
theorem wl_37 : Cond.arrayClass .boolean ∈ lw_tbl := List.mem_of_getElem? (i := 161) (by decide +kernel)
theorem wl_38 : Cond.methodLink RX3 3 objectInit ∈ lw_tbl := by decide +kernel
set_option maxRecDepth 20000 in
theorem wl_39 : Cond.code yX3_init cX3_init 1 none ∈ lw_tbl := List.mem_of_getElem? (i := 111) rfl
theorem wl_40 : Cond.instanceMethod yX3_init ∈ lw_tbl := List.mem_of_getElem? (i := 110) (by decide +kernel)
theorem wl_41 : Cond.fieldLink RX4 9 "PrisonWeddings$Script" "letters" "[C" ∈ lw_tbl := List.mem_of_getElem? (i := 97) (by decide +kernel)
theorem wl_42 : Cond.arrayClass .char ∈ lw_tbl := List.mem_of_getElem? (i := 106) (by decide +kernel)
theorem wl_43 : Cond.methodLink RX4 3 objectInit ∈ lw_tbl := by decide +kernel
set_option maxRecDepth 20000 in
theorem wl_44 : Cond.code yX4_init cX4_init 1 none ∈ lw_tbl := List.mem_of_getElem? (i := 95) rfl
theorem wl_45 : Cond.instanceMethod yX4_init ∈ lw_tbl := List.mem_of_getElem? (i := 94) (by decide +kernel)
theorem wl_46 : Cond.fieldLink RX7 80 "PrisonWeddings$Script" "length" "I" ∈ lw_tbl := List.mem_of_getElem? (i := 98) (by decide +kernel)
theorem wl_47 : Cond.fieldLink RX7 54 "PrisonWeddings" "kept" "LPrisonWeddings$Shelf;" ∈ lw_tbl := List.mem_of_getElem? (i := 405) (by decide +kernel)
theorem wl_48 : Cond.fieldLink RX7 50 "PrisonWeddings" "past" "LPrisonWeddings$Shelf;" ∈ lw_tbl := List.mem_of_getElem? (i := 404) (by decide +kernel)
set_option maxRecDepth 20000 in
theorem wl_49 : Cond.code yX1_init cX1_init 2 none ∈ lw_tbl := List.mem_of_getElem? (i := 228) rfl
theorem wl_50 : Cond.instanceMethod yX1_init ∈ lw_tbl := List.mem_of_getElem? (i := 227) (by decide +kernel)
theorem wl_51 : Cond.methodLink RX2 20 yX1_init ∈ lw_tbl := List.mem_of_getElem? (i := 226) (by decide +kernel)
theorem wl_52 : Cond.fieldLink RX0 33 "PrisonWeddings$Books" "written" "[I" ∈ lw_tbl := List.mem_of_getElem? (i := 202) (by decide +kernel)
theorem wl_53 : Cond.fieldLink RX0 30 "PrisonWeddings$Books" "woman" "[I" ∈ lw_tbl := List.mem_of_getElem? (i := 198) (by decide +kernel)
theorem wl_54 : Cond.fieldLink RX0 27 "PrisonWeddings$Books" "man" "[I" ∈ lw_tbl := List.mem_of_getElem? (i := 194) (by decide +kernel)
theorem wl_55 : Cond.fieldLink RX0 24 "PrisonWeddings$Books" "begun" "[I" ∈ lw_tbl := List.mem_of_getElem? (i := 190) (by decide +kernel)
theorem wl_56 : Cond.fieldLink RX0 21 "PrisonWeddings$Books" "state" "[I" ∈ lw_tbl := List.mem_of_getElem? (i := 187) (by decide +kernel)
theorem wl_57 : Cond.fieldLink RX0 18 "PrisonWeddings$Books" "lines" "[I" ∈ lw_tbl := List.mem_of_getElem? (i := 184) (by decide +kernel)
theorem wl_58 : Cond.fieldLink RX0 15 "PrisonWeddings$Books" "paid" "[I" ∈ lw_tbl := List.mem_of_getElem? (i := 181) (by decide +kernel)
theorem wl_59 : Cond.fieldLink RX0 9 "PrisonWeddings$Books" "coins" "[I" ∈ lw_tbl := List.mem_of_getElem? (i := 178) (by decide +kernel)
theorem wl_60 : Cond.methodLink RX0 3 objectInit ∈ lw_tbl := by decide +kernel
set_option maxRecDepth 20000 in
theorem wl_61 : Cond.code yX0_init cX0_init 1 none ∈ lw_tbl := List.mem_of_getElem? (i := 173) rfl
theorem wl_62 : Cond.instanceMethod yX0_init ∈ lw_tbl := List.mem_of_getElem? (i := 172) (by decide +kernel)
theorem wl_63 : Cond.fieldLink RX2 31 "PrisonWeddings$House" "roll" "LPrisonWeddings$Roll;" ∈ lw_tbl := List.mem_of_getElem? (i := 240) (by decide +kernel)
theorem wl_64 : Cond.fieldLink RX2 27 "PrisonWeddings$House" "linked" "[I" ∈ lw_tbl := List.mem_of_getElem? (i := 245) (by decide +kernel)
theorem wl_65 : Cond.fieldLink RX2 23 "PrisonWeddings$House" "holdings" "LPrisonWeddings$Holdings;" ∈ lw_tbl := List.mem_of_getElem? (i := 243) (by decide +kernel)
theorem wl_66 : Cond.initialized RX1 ∈ lw_tbl := List.mem_of_getElem? (i := 72) (by decide +kernel)
theorem wl_67 : Cond.instantiable RX1 3 ∈ lw_tbl := List.mem_of_getElem? (i := 225) (by decide +kernel)
theorem wl_68 : Cond.classLink RX2 18 RX1 ∈ lw_tbl := List.mem_of_getElem? (i := 224) (by decide +kernel)
theorem wl_69 : Cond.fieldLink RX2 12 "PrisonWeddings$House" "books" "LPrisonWeddings$Books;" ∈ lw_tbl := List.mem_of_getElem? (i := 241) (by decide +kernel)
theorem wl_70 : Cond.initialized RX0 ∈ lw_tbl := List.mem_of_getElem? (i := 71) (by decide +kernel)
theorem wl_71 : Cond.instantiable RX0 9 ∈ lw_tbl := List.mem_of_getElem? (i := 170) (by decide +kernel)
theorem wl_72 : Cond.classLink RX2 9 RX0 ∈ lw_tbl := List.mem_of_getElem? (i := 169) (by decide +kernel)
theorem wl_73 : Cond.methodLink RJ0 335 yJ0_coder_7d493 ∈ lw_tbl := List.mem_of_getElem? (i := 300) (by decide +kernel)
theorem wl_74 : Cond.fieldLink RJ0 9 "java/lang/String" "value" "[B" ∈ lw_tbl := List.mem_of_getElem? (i := 1220) (by decide +kernel)
set_option maxRecDepth 20000 in
theorem wl_75 : Cond.code yJ0_length_8abf5 cJ0_length_8abf5 1 (some .int) ∈ lw_tbl := List.mem_of_getElem? (i := 299) rfl
theorem wl_76 : Cond.initialized RJ0 ∈ lw_tbl := List.mem_of_getElem? (i := 75) (by decide +kernel)
theorem wl_77 : Cond.selects RJ0 yJ0_length_8abf5 yJ0_length_8abf5 ∈ lw_tbl := List.mem_of_getElem? (i := 298) (by decide +kernel)
theorem wl_78 : Cond.instanceMethod yJ0_length_8abf5 ∈ lw_tbl := List.mem_of_getElem? (i := 297) (by decide +kernel)
theorem wl_79 : Cond.methodLink RX7 59 yJ0_length_8abf5 ∈ lw_tbl := List.mem_of_getElem? (i := 296) (by decide +kernel)
theorem wl_80 : Cond.fieldLink RX5 9 "PrisonWeddings$Shelf" "rows" "[LPrisonWeddings$Books;" ∈ lw_tbl := List.mem_of_getElem? (i := 287) (by decide +kernel)
theorem wl_81 : Cond.classLink RX5 7 RX0 ∈ lw_tbl := List.mem_of_getElem? (i := 284) (by decide +kernel)
theorem wl_82 : Cond.methodLink RX5 1 objectInit ∈ lw_tbl := by decide +kernel
set_option maxRecDepth 20000 in
theorem wl_83 : Cond.code yX5_init cX5_init 3 none ∈ lw_tbl := List.mem_of_getElem? (i := 282) rfl
theorem wl_84 : Cond.instanceMethod yX5_init ∈ lw_tbl := List.mem_of_getElem? (i := 281) (by decide +kernel)
theorem wl_85 : Cond.methodLink RX7 47 yX5_init ∈ lw_tbl := List.mem_of_getElem? (i := 280) (by decide +kernel)
theorem wl_86 : Cond.fieldLink RX6 21 "PrisonWeddings$Sights" "mates" "[Z" ∈ lw_tbl := List.mem_of_getElem? (i := 266) (by decide +kernel)
theorem wl_87 : Cond.fieldLink RX6 18 "PrisonWeddings$Sights" "day" "[I" ∈ lw_tbl := List.mem_of_getElem? (i := 265) (by decide +kernel)
theorem wl_88 : Cond.fieldLink RX6 15 "PrisonWeddings$Sights" "other" "[I" ∈ lw_tbl := List.mem_of_getElem? (i := 264) (by decide +kernel)
theorem wl_89 : Cond.fieldLink RX6 9 "PrisonWeddings$Sights" "one" "[I" ∈ lw_tbl := List.mem_of_getElem? (i := 263) (by decide +kernel)
theorem wl_90 : Cond.methodLink RX6 3 objectInit ∈ lw_tbl := by decide +kernel
set_option maxRecDepth 20000 in
theorem wl_91 : Cond.code yX6_init cX6_init 1 none ∈ lw_tbl := List.mem_of_getElem? (i := 259) rfl
theorem wl_92 : Cond.instanceMethod yX6_init ∈ lw_tbl := List.mem_of_getElem? (i := 258) (by decide +kernel)
theorem wl_93 : Cond.fieldLink RX1 18 "PrisonWeddings$Holdings" "books" "LPrisonWeddings$Books;" ∈ lw_tbl := List.mem_of_getElem? (i := 230) (by decide +kernel)
theorem wl_94 : Cond.fieldLink RX1 15 "PrisonWeddings$Holdings" "next" "[I" ∈ lw_tbl := List.mem_of_getElem? (i := 232) (by decide +kernel)
theorem wl_95 : Cond.fieldLink RX1 9 "PrisonWeddings$Holdings" "held" "[I" ∈ lw_tbl := List.mem_of_getElem? (i := 231) (by decide +kernel)
theorem wl_96 : Cond.methodLink RX1 3 objectInit ∈ lw_tbl := by decide +kernel
theorem wl_97 : Cond.initialized RJ3 ∈ lw_tbl := List.mem_of_getElem? (i := 77) (by decide +kernel)
theorem wl_98 : Cond.static yJ3_checkIndex_8e157 ∈ lw_tbl := List.mem_of_getElem? (i := 323) (by decide +kernel)
theorem wl_99 : Cond.methodLink RJ0 1059 yJ3_checkIndex_8e157 ∈ lw_tbl := List.mem_of_getElem? (i := 322) (by decide +kernel)
theorem wl_100 : Cond.fieldLink RJ0 1053 "jdk/internal/util/Preconditions" "SIOOBE_FORMATTER" "Ljava/util/function/BiFunction;" ∈ lw_tbl := List.mem_of_getElem? (i := 320) (by decide +kernel)
set_option maxRecDepth 20000 in
theorem wl_101 : Cond.code yJ0_checkIndex_df160 cJ0_checkIndex_df160 2 none ∈ lw_tbl := List.mem_of_getElem? (i := 319) rfl
theorem wl_102 : Cond.static yJ0_checkIndex_df160 ∈ lw_tbl := List.mem_of_getElem? (i := 318) (by decide +kernel)
theorem wl_103 : Cond.methodLink RJ1 9 yJ0_checkIndex_df160 ∈ lw_tbl := List.mem_of_getElem? (i := 317) (by decide +kernel)
set_option maxRecDepth 20000 in
theorem wl_104 : Cond.code yJ1_charAt_3b067 cJ1_charAt_3b067 2 (some .char) ∈ lw_tbl := List.mem_of_getElem? (i := 316) rfl
theorem wl_105 : Cond.initialized RJ1 ∈ lw_tbl := List.mem_of_getElem? (i := 76) (by decide +kernel)
theorem wl_106 : Cond.static yJ1_charAt_3b067 ∈ lw_tbl := List.mem_of_getElem? (i := 315) (by decide +kernel)
theorem wl_107 : Cond.methodLink RJ0 495 yJ1_charAt_3b067 ∈ lw_tbl := List.mem_of_getElem? (i := 314) (by decide +kernel)
set_option maxRecDepth 20000 in
theorem wl_108 : Cond.code yJ0_isLatin1_aae02 cJ0_isLatin1_aae02 1 (some .boolean) ∈ lw_tbl := List.mem_of_getElem? (i := 313) rfl
theorem wl_109 : Cond.selects RJ0 yJ0_isLatin1_aae02 yJ0_isLatin1_aae02 ∈ lw_tbl := List.mem_of_getElem? (i := 312) (by decide +kernel)
theorem wl_110 : Cond.instanceMethod yJ0_isLatin1_aae02 ∈ lw_tbl := List.mem_of_getElem? (i := 311) (by decide +kernel)
theorem wl_111 : Cond.methodLink RJ0 492 yJ0_isLatin1_aae02 ∈ lw_tbl := List.mem_of_getElem? (i := 310) (by decide +kernel)
set_option maxRecDepth 20000 in
theorem wl_112 : Cond.code yJ0_charAt_5068e cJ0_charAt_5068e 2 (some .char) ∈ lw_tbl := List.mem_of_getElem? (i := 309) rfl
theorem wl_113 : Cond.selects RJ0 yJ0_charAt_5068e yJ0_charAt_5068e ∈ lw_tbl := List.mem_of_getElem? (i := 308) (by decide +kernel)
theorem wl_114 : Cond.instanceMethod yJ0_charAt_5068e ∈ lw_tbl := List.mem_of_getElem? (i := 307) (by decide +kernel)
theorem wl_115 : Cond.methodLink RX7 65 yJ0_charAt_5068e ∈ lw_tbl := List.mem_of_getElem? (i := 306) (by decide +kernel)
theorem wl_116 : Cond.fieldLink RJ0 15 "java/lang/String" "coder" "B" ∈ lw_tbl := List.mem_of_getElem? (i := 1221) (by decide +kernel)
theorem wl_117 : Cond.fieldLink RJ0 38 "java/lang/String" "COMPACT_STRINGS" "Z" ∈ lw_tbl := List.mem_of_getElem? (i := 304) (by decide +kernel)
set_option maxRecDepth 20000 in
theorem wl_118 : Cond.code yJ0_coder_7d493 cJ0_coder_7d493 1 (some .byte) ∈ lw_tbl := List.mem_of_getElem? (i := 303) rfl
theorem wl_119 : Cond.selects RJ0 yJ0_coder_7d493 yJ0_coder_7d493 ∈ lw_tbl := List.mem_of_getElem? (i := 302) (by decide +kernel)
theorem wl_120 : Cond.instanceMethod yJ0_coder_7d493 ∈ lw_tbl := List.mem_of_getElem? (i := 301) (by decide +kernel)
theorem wl_121 : Cond.methodLink RX7 73 yX3_readFrom ∈ lw_tbl := List.mem_of_getElem? (i := 348) (by decide +kernel)
theorem wl_122 : Cond.fieldLink RX4 15 "PrisonWeddings$Script" "length" "I" ∈ lw_tbl := List.mem_of_getElem? (i := 99) (by decide +kernel)
set_option maxRecDepth 20000 in
theorem wl_123 : Cond.code yX4_add cX4_add 2 (some .boolean) ∈ lw_tbl := List.mem_of_getElem? (i := 347) rfl
theorem wl_124 : Cond.selects RX4 yX4_add yX4_add ∈ lw_tbl := List.mem_of_getElem? (i := 346) (by decide +kernel)
theorem wl_125 : Cond.instanceMethod yX4_add ∈ lw_tbl := List.mem_of_getElem? (i := 345) (by decide +kernel)
theorem wl_126 : Cond.methodLink RX7 69 yX4_add ∈ lw_tbl := List.mem_of_getElem? (i := 344) (by decide +kernel)
theorem wl_127 : Cond.fieldLink RJ2 63 "java/lang/StringUTF16" "LO_BYTE_SHIFT" "I" ∈ lw_tbl := List.mem_of_getElem? (i := 342) (by decide +kernel)
theorem wl_128 : Cond.fieldLink RJ2 59 "java/lang/StringUTF16" "HI_BYTE_SHIFT" "I" ∈ lw_tbl := List.mem_of_getElem? (i := 340) (by decide +kernel)
theorem wl_129 : Cond.fieldLink RJ2 44 "java/lang/StringUTF16" "$assertionsDisabled" "Z" ∈ lw_tbl := List.mem_of_getElem? (i := 338) (by decide +kernel)
set_option maxRecDepth 20000 in
theorem wl_130 : Cond.code yJ2_getChar_3b067 cJ2_getChar_3b067 2 (some .char) ∈ lw_tbl := List.mem_of_getElem? (i := 337) rfl
theorem wl_131 : Cond.static yJ2_getChar_3b067 ∈ lw_tbl := List.mem_of_getElem? (i := 336) (by decide +kernel)
theorem wl_132 : Cond.methodLink RJ2 71 yJ2_getChar_3b067 ∈ lw_tbl := List.mem_of_getElem? (i := 335) (by decide +kernel)
theorem wl_133 : Cond.methodLink RJ2 414 yJ0_checkIndex_df160 ∈ lw_tbl := List.mem_of_getElem? (i := 334) (by decide +kernel)
set_option maxRecDepth 20000 in
theorem wl_134 : Cond.code yJ2_length_9d52b cJ2_length_9d52b 1 (some .int) ∈ lw_tbl := List.mem_of_getElem? (i := 333) rfl
theorem wl_135 : Cond.static yJ2_length_9d52b ∈ lw_tbl := List.mem_of_getElem? (i := 332) (by decide +kernel)
theorem wl_136 : Cond.methodLink RJ2 48 yJ2_length_9d52b ∈ lw_tbl := List.mem_of_getElem? (i := 331) (by decide +kernel)
set_option maxRecDepth 20000 in
theorem wl_137 : Cond.code yJ2_checkIndex_2214a cJ2_checkIndex_2214a 2 none ∈ lw_tbl := List.mem_of_getElem? (i := 330) rfl
theorem wl_138 : Cond.static yJ2_checkIndex_2214a ∈ lw_tbl := List.mem_of_getElem? (i := 329) (by decide +kernel)
theorem wl_139 : Cond.methodLink RJ2 67 yJ2_checkIndex_2214a ∈ lw_tbl := List.mem_of_getElem? (i := 328) (by decide +kernel)
set_option maxRecDepth 20000 in
theorem wl_140 : Cond.code yJ2_charAt_3b067 cJ2_charAt_3b067 2 (some .char) ∈ lw_tbl := List.mem_of_getElem? (i := 327) rfl
theorem wl_141 : Cond.initialized RJ2 ∈ lw_tbl := List.mem_of_getElem? (i := 78) (by decide +kernel)
theorem wl_142 : Cond.static yJ2_charAt_3b067 ∈ lw_tbl := List.mem_of_getElem? (i := 326) (by decide +kernel)
theorem wl_143 : Cond.methodLink RJ0 498 yJ2_charAt_3b067 ∈ lw_tbl := List.mem_of_getElem? (i := 325) (by decide +kernel)
set_option maxRecDepth 20000 in
theorem wl_144 : Cond.code yJ3_checkIndex_8e157 cJ3_checkIndex_8e157 3 (some .int) ∈ lw_tbl := List.mem_of_getElem? (i := 324) rfl
theorem wl_145 : Cond.static yX3_isFigure ∈ lw_tbl := List.mem_of_getElem? (i := 368) (by decide +kernel)
theorem wl_146 : Cond.methodLink RX3 69 yX3_isFigure ∈ lw_tbl := List.mem_of_getElem? (i := 367) (by decide +kernel)
set_option maxRecDepth 20000 in
theorem wl_147 : Cond.code yX3_readNumber cX3_readNumber 7 (some .int) ∈ lw_tbl := List.mem_of_getElem? (i := 366) rfl
theorem wl_148 : Cond.selects RX3 yX3_readNumber yX3_readNumber ∈ lw_tbl := by decide +kernel
theorem wl_149 : Cond.instanceMethod yX3_readNumber ∈ lw_tbl := List.mem_of_getElem? (i := 365) (by decide +kernel)
theorem wl_150 : Cond.methodLink RX3 61 yX3_readNumber ∈ lw_tbl := List.mem_of_getElem? (i := 363) (by decide +kernel)
set_option maxRecDepth 20000 in
theorem wl_151 : Cond.code yX3_numbersOf cX3_numbersOf 1 (some .int) ∈ lw_tbl := List.mem_of_getElem? (i := 362) rfl
theorem wl_152 : Cond.static yX3_numbersOf ∈ lw_tbl := List.mem_of_getElem? (i := 361) (by decide +kernel)
theorem wl_153 : Cond.methodLink RX3 57 yX3_numbersOf ∈ lw_tbl := List.mem_of_getElem? (i := 360) (by decide +kernel)
set_option maxRecDepth 20000 in
theorem wl_154 : Cond.code yX4_at cX4_at 2 (some .char) ∈ lw_tbl := List.mem_of_getElem? (i := 359) rfl
theorem wl_155 : Cond.selects RX4 yX4_at yX4_at ∈ lw_tbl := List.mem_of_getElem? (i := 358) (by decide +kernel)
theorem wl_156 : Cond.instanceMethod yX4_at ∈ lw_tbl := List.mem_of_getElem? (i := 357) (by decide +kernel)
theorem wl_157 : Cond.methodLink RX3 53 yX4_at ∈ lw_tbl := List.mem_of_getElem? (i := 356) (by decide +kernel)
set_option maxRecDepth 20000 in
theorem wl_158 : Cond.code yX3_readItem cX3_readItem 7 (some .int) ∈ lw_tbl := List.mem_of_getElem? (i := 355) rfl
theorem wl_159 : Cond.selects RX3 yX3_readItem yX3_readItem ∈ lw_tbl := by decide +kernel
theorem wl_160 : Cond.instanceMethod yX3_readItem ∈ lw_tbl := List.mem_of_getElem? (i := 354) (by decide +kernel)
theorem wl_161 : Cond.methodLink RX3 49 yX3_readItem ∈ lw_tbl := List.mem_of_getElem? (i := 352) (by decide +kernel)
theorem wl_162 : Cond.fieldLink RX3 44 "PrisonWeddings$Script" "length" "I" ∈ lw_tbl := List.mem_of_getElem? (i := 100) (by decide +kernel)
theorem wl_163 : Cond.fieldLink RX3 41 "PrisonWeddings$Roll" "law" "I" ∈ lw_tbl := List.mem_of_getElem? (i := 119) (by decide +kernel)
theorem wl_164 : Cond.fieldLink RX3 38 "PrisonWeddings$Roll" "parsons" "I" ∈ lw_tbl := List.mem_of_getElem? (i := 116) (by decide +kernel)
theorem wl_165 : Cond.fieldLink RX3 34 "PrisonWeddings$Roll" "persons" "I" ∈ lw_tbl := List.mem_of_getElem? (i := 113) (by decide +kernel)
set_option maxRecDepth 20000 in
theorem wl_166 : Cond.code yX3_readFrom cX3_readFrom 4 (some .int) ∈ lw_tbl := List.mem_of_getElem? (i := 351) rfl
theorem wl_167 : Cond.selects RX3 yX3_readFrom yX3_readFrom ∈ lw_tbl := List.mem_of_getElem? (i := 350) (by decide +kernel)
theorem wl_168 : Cond.instanceMethod yX3_readFrom ∈ lw_tbl := List.mem_of_getElem? (i := 349) (by decide +kernel)
theorem wl_169 : Cond.selects RX0 yX0_open yX0_open ∈ lw_tbl := List.mem_of_getElem? (i := 392) (by decide +kernel)
theorem wl_170 : Cond.instanceMethod yX0_open ∈ lw_tbl := List.mem_of_getElem? (i := 391) (by decide +kernel)
theorem wl_171 : Cond.methodLink RX2 35 yX0_open ∈ lw_tbl := List.mem_of_getElem? (i := 390) (by decide +kernel)
set_option maxRecDepth 20000 in
theorem wl_172 : Cond.code yX2_open cX2_open 1 none ∈ lw_tbl := List.mem_of_getElem? (i := 389) rfl
theorem wl_173 : Cond.selects RX2 yX2_open yX2_open ∈ lw_tbl := List.mem_of_getElem? (i := 388) (by decide +kernel)
theorem wl_174 : Cond.instanceMethod yX2_open ∈ lw_tbl := List.mem_of_getElem? (i := 387) (by decide +kernel)
theorem wl_175 : Cond.methodLink RX7 77 yX2_open ∈ lw_tbl := List.mem_of_getElem? (i := 386) (by decide +kernel)
set_option maxRecDepth 20000 in
theorem wl_176 : Cond.code yX3_enterLaw cX3_enterLaw 1 (some .boolean) ∈ lw_tbl := List.mem_of_getElem? (i := 385) rfl
theorem wl_177 : Cond.selects RX3 yX3_enterLaw yX3_enterLaw ∈ lw_tbl := by decide +kernel
theorem wl_178 : Cond.instanceMethod yX3_enterLaw ∈ lw_tbl := List.mem_of_getElem? (i := 384) (by decide +kernel)
theorem wl_179 : Cond.methodLink RX3 80 yX3_enterLaw ∈ lw_tbl := List.mem_of_getElem? (i := 382) (by decide +kernel)
set_option maxRecDepth 20000 in
theorem wl_180 : Cond.code yX3_enterParson cX3_enterParson 1 (some .boolean) ∈ lw_tbl := List.mem_of_getElem? (i := 381) rfl
theorem wl_181 : Cond.selects RX3 yX3_enterParson yX3_enterParson ∈ lw_tbl := by decide +kernel
theorem wl_182 : Cond.instanceMethod yX3_enterParson ∈ lw_tbl := List.mem_of_getElem? (i := 380) (by decide +kernel)
theorem wl_183 : Cond.methodLink RX3 76 yX3_enterParson ∈ lw_tbl := List.mem_of_getElem? (i := 378) (by decide +kernel)
set_option maxRecDepth 20000 in
theorem wl_184 : Cond.code yX3_enterPerson cX3_enterPerson 2 (some .boolean) ∈ lw_tbl := List.mem_of_getElem? (i := 377) rfl
theorem wl_185 : Cond.selects RX3 yX3_enterPerson yX3_enterPerson ∈ lw_tbl := by decide +kernel
theorem wl_186 : Cond.instanceMethod yX3_enterPerson ∈ lw_tbl := List.mem_of_getElem? (i := 376) (by decide +kernel)
theorem wl_187 : Cond.methodLink RX3 72 yX3_enterPerson ∈ lw_tbl := List.mem_of_getElem? (i := 374) (by decide +kernel)
set_option maxRecDepth 20000 in
theorem wl_188 : Cond.code yX3_enter cX3_enter 2 (some .boolean) ∈ lw_tbl := List.mem_of_getElem? (i := 373) rfl
theorem wl_189 : Cond.selects RX3 yX3_enter yX3_enter ∈ lw_tbl := by decide +kernel
theorem wl_190 : Cond.instanceMethod yX3_enter ∈ lw_tbl := List.mem_of_getElem? (i := 372) (by decide +kernel)
theorem wl_191 : Cond.methodLink RX3 65 yX3_enter ∈ lw_tbl := List.mem_of_getElem? (i := 370) (by decide +kernel)
set_option maxRecDepth 20000 in
theorem wl_192 : Cond.code yX3_isFigure cX3_isFigure 1 (some .boolean) ∈ lw_tbl := List.mem_of_getElem? (i := 369) rfl
set_option maxRecDepth 20000 in
theorem wl_193 : Cond.code yX3_isPerson cX3_isPerson 2 (some .boolean) ∈ lw_tbl := List.mem_of_getElem? (i := 397) rfl
theorem wl_194 : Cond.selects RX3 yX3_isPerson yX3_isPerson ∈ lw_tbl := List.mem_of_getElem? (i := 396) (by decide +kernel)
theorem wl_195 : Cond.instanceMethod yX3_isPerson ∈ lw_tbl := List.mem_of_getElem? (i := 395) (by decide +kernel)
theorem wl_196 : Cond.methodLink RX0 40 yX3_isPerson ∈ lw_tbl := List.mem_of_getElem? (i := 394) (by decide +kernel)
theorem wl_197 : Cond.fieldLink RX0 46 "PrisonWeddings$Roll" "purse" "[I" ∈ lw_tbl := List.mem_of_getElem? (i := 132) (by decide +kernel)
theorem wl_198 : Cond.fieldLink RX0 36 "PrisonWeddings$Books" "day" "I" ∈ lw_tbl := List.mem_of_getElem? (i := 175) (by decide +kernel)
set_option maxRecDepth 20000 in
theorem wl_199 : Cond.code yX0_open cX0_open 3 none ∈ lw_tbl := List.mem_of_getElem? (i := 393) rfl
theorem wl_200 : Cond.methodLink RL 9 yX7_init ∈ lw_tbl := List.mem_of_getElem? (i := 85) (by decide +kernel)
theorem wl_201 : Cond.instanceMethod yX7_init ∈ lw_tbl := List.mem_of_getElem? (i := 86) (by decide +kernel)
theorem wl_202 : Cond.initialized RX7 ∈ lw_tbl := List.mem_of_getElem? (i := 67) (by decide +kernel)
set_option maxRecDepth 20000 in
theorem wl_203 : Cond.code yX8_init cX8_init 1 none ∈ lw_tbl := List.mem_of_getElem? (i := 804) rfl
theorem wl_204 : Cond.selects RX8 yX8_clearTold yX8_clearTold ∈ lw_tbl := by decide +kernel
theorem wl_205 : Cond.instanceMethod yX8_clearTold ∈ lw_tbl := List.mem_of_getElem? (i := 808) (by decide +kernel)
theorem wl_206 : Cond.methodLink RX8 56 yX8_clearTold ∈ lw_tbl := List.mem_of_getElem? (i := 806) (by decide +kernel)
theorem wl_207 : Cond.fieldLink RX8 67 "PrisonWeddingsModel" "readLaw" "I" ∈ lw_tbl := List.mem_of_getElem? (i := 846) (by decide +kernel)
theorem wl_208 : Cond.fieldLink RX8 53 "PrisonWeddingsModel" "apart" "[I" ∈ lw_tbl := List.mem_of_getElem? (i := 850) (by decide +kernel)
theorem wl_209 : Cond.fieldLink RX8 50 "PrisonWeddingsModel" "looked" "[Z" ∈ lw_tbl := List.mem_of_getElem? (i := 849) (by decide +kernel)
theorem wl_210 : Cond.fieldLink RX8 46 "PrisonWeddingsModel" "holds" "[Z" ∈ lw_tbl := List.mem_of_getElem? (i := 848) (by decide +kernel)
theorem wl_211 : Cond.fieldLink RX8 43 "PrisonWeddingsModel" "now" "[I" ∈ lw_tbl := List.mem_of_getElem? (i := 847) (by decide +kernel)
theorem wl_212 : Cond.fieldLink RX8 40 "PrisonWeddingsModel" "readParson" "[I" ∈ lw_tbl := List.mem_of_getElem? (i := 845) (by decide +kernel)
theorem wl_213 : Cond.fieldLink RX8 37 "PrisonWeddingsModel" "readCoins" "[I" ∈ lw_tbl := List.mem_of_getElem? (i := 843) (by decide +kernel)
theorem wl_214 : Cond.fieldLink RX8 34 "PrisonWeddingsModel" "readPerson" "[I" ∈ lw_tbl := List.mem_of_getElem? (i := 842) (by decide +kernel)
theorem wl_215 : Cond.fieldLink RX8 31 "PrisonWeddingsModel" "told" "[I" ∈ lw_tbl := List.mem_of_getElem? (i := 840) (by decide +kernel)
theorem wl_216 : Cond.fieldLink RX8 28 "PrisonWeddingsModel" "text" "[I" ∈ lw_tbl := List.mem_of_getElem? (i := 837) (by decide +kernel)
theorem wl_217 : Cond.fieldLink RX8 25 "PrisonWeddingsModel" "seen" "[I" ∈ lw_tbl := List.mem_of_getElem? (i := 836) (by decide +kernel)
theorem wl_218 : Cond.fieldLink RX8 22 "PrisonWeddingsModel" "kept" "[I" ∈ lw_tbl := List.mem_of_getElem? (i := 834) (by decide +kernel)
theorem wl_219 : Cond.fieldLink RX8 19 "PrisonWeddingsModel" "was" "[I" ∈ lw_tbl := List.mem_of_getElem? (i := 832) (by decide +kernel)
theorem wl_220 : Cond.fieldLink RX8 16 "PrisonWeddingsModel" "st" "[I" ∈ lw_tbl := List.mem_of_getElem? (i := 830) (by decide +kernel)
theorem wl_221 : Cond.fieldLink RX8 13 "PrisonWeddingsModel" "parson" "[I" ∈ lw_tbl := List.mem_of_getElem? (i := 828) (by decide +kernel)
theorem wl_222 : Cond.fieldLink RX8 7 "PrisonWeddingsModel" "person" "[I" ∈ lw_tbl := List.mem_of_getElem? (i := 826) (by decide +kernel)
theorem wl_223 : Cond.methodLink RX8 1 objectInit ∈ lw_tbl := by decide +kernel
theorem wl_224 : Cond.static yX8_copies ∈ lw_tbl := List.mem_of_getElem? (i := 823) (by decide +kernel)
theorem wl_225 : Cond.methodLink RX8 133 yX8_copies ∈ lw_tbl := List.mem_of_getElem? (i := 822) (by decide +kernel)
theorem wl_226 : Cond.fieldLink RX8 143 "PrisonWeddingsModel" "sees" "I" ∈ lw_tbl := List.mem_of_getElem? (i := 835) (by decide +kernel)
theorem wl_227 : Cond.fieldLink RX8 140 "PrisonWeddingsModel" "keeps" "I" ∈ lw_tbl := List.mem_of_getElem? (i := 833) (by decide +kernel)
theorem wl_228 : Cond.fieldLink RX8 137 "PrisonWeddingsModel" "acts" "I" ∈ lw_tbl := List.mem_of_getElem? (i := 831) (by decide +kernel)
theorem wl_229 : Cond.fieldLink RX8 130 "PrisonWeddingsModel" "law" "I" ∈ lw_tbl := List.mem_of_getElem? (i := 829) (by decide +kernel)
theorem wl_230 : Cond.fieldLink RX8 87 "PrisonWeddingsModel" "parsons" "I" ∈ lw_tbl := List.mem_of_getElem? (i := 827) (by decide +kernel)
theorem wl_231 : Cond.fieldLink RX8 80 "PrisonWeddingsModel" "persons" "I" ∈ lw_tbl := List.mem_of_getElem? (i := 825) (by decide +kernel)
set_option maxRecDepth 20000 in
theorem wl_232 : Cond.code yX8_settles cX8_settles 2 none ∈ lw_tbl := List.mem_of_getElem? (i := 821) rfl
theorem wl_233 : Cond.selects RX8 yX8_settles yX8_settles ∈ lw_tbl := by decide +kernel
theorem wl_234 : Cond.instanceMethod yX8_settles ∈ lw_tbl := List.mem_of_getElem? (i := 820) (by decide +kernel)
theorem wl_235 : Cond.methodLink RX8 71 yX8_settles ∈ lw_tbl := List.mem_of_getElem? (i := 818) (by decide +kernel)
set_option maxRecDepth 20000 in
theorem wl_236 : Cond.code yX8_tellsParson cX8_tellsParson 3 none ∈ lw_tbl := List.mem_of_getElem? (i := 817) rfl
theorem wl_237 : Cond.selects RX8 yX8_tellsParson yX8_tellsParson ∈ lw_tbl := by decide +kernel
theorem wl_238 : Cond.instanceMethod yX8_tellsParson ∈ lw_tbl := List.mem_of_getElem? (i := 816) (by decide +kernel)
theorem wl_239 : Cond.methodLink RX8 63 yX8_tellsParson ∈ lw_tbl := List.mem_of_getElem? (i := 814) (by decide +kernel)
set_option maxRecDepth 20000 in
theorem wl_240 : Cond.code yX8_tellsPerson cX8_tellsPerson 5 none ∈ lw_tbl := List.mem_of_getElem? (i := 813) rfl
theorem wl_241 : Cond.selects RX8 yX8_tellsPerson yX8_tellsPerson ∈ lw_tbl := by decide +kernel
theorem wl_242 : Cond.instanceMethod yX8_tellsPerson ∈ lw_tbl := List.mem_of_getElem? (i := 812) (by decide +kernel)
theorem wl_243 : Cond.methodLink RX8 59 yX8_tellsPerson ∈ lw_tbl := List.mem_of_getElem? (i := 810) (by decide +kernel)
theorem wl_244 : Cond.fieldLink RX8 77 "PrisonWeddingsModel" "readParsons" "I" ∈ lw_tbl := List.mem_of_getElem? (i := 844) (by decide +kernel)
theorem wl_245 : Cond.fieldLink RX8 74 "PrisonWeddingsModel" "readPersons" "I" ∈ lw_tbl := List.mem_of_getElem? (i := 841) (by decide +kernel)
set_option maxRecDepth 20000 in
theorem wl_246 : Cond.code yX8_clearTold cX8_clearTold 1 none ∈ lw_tbl := List.mem_of_getElem? (i := 809) rfl
theorem wl_247 : Cond.initialized RX8 ∈ lw_tbl := List.mem_of_getElem? (i := 79) (by decide +kernel)
set_option maxRecDepth 20000 in
theorem wl_248 : Cond.code yX8_copies cX8_copies 6 none ∈ lw_tbl := List.mem_of_getElem? (i := 824) rfl
theorem wl_249 : Cond.methodLink RL 12 yX8_init ∈ lw_tbl := List.mem_of_getElem? (i := 802) (by decide +kernel)
theorem wl_250 : Cond.instanceMethod yX8_init ∈ lw_tbl := List.mem_of_getElem? (i := 803) (by decide +kernel)
set_option maxRecDepth 20000 in
theorem wl_251 : Cond.code yX7_write cX7_write 2 (some .int) ∈ lw_tbl := List.mem_of_getElem? (i := 427) rfl
theorem wl_252 : Cond.methodLink RL 13 yX7_write ∈ lw_tbl := List.mem_of_getElem? (i := 424) (by decide +kernel)
theorem wl_253 : Cond.instanceMethod yX7_write ∈ lw_tbl := List.mem_of_getElem? (i := 425) (by decide +kernel)
theorem wl_254 : Cond.selects RX7 yX7_write yX7_write ∈ lw_tbl := List.mem_of_getElem? (i := 426) (by decide +kernel)
set_option maxRecDepth 20000 in
theorem wl_255 : Cond.code yX8_write cX8_write 2 (some .int) ∈ lw_tbl := List.mem_of_getElem? (i := 910) rfl
set_option maxRecDepth 20000 in
theorem wl_256 : Cond.code yX8_in cX8_in 3 (some .boolean) ∈ lw_tbl := List.mem_of_getElem? (i := 913) rfl
theorem wl_257 : Cond.static yX8_in ∈ lw_tbl := List.mem_of_getElem? (i := 912) (by decide +kernel)
theorem wl_258 : Cond.methodLink RX8 83 yX8_in ∈ lw_tbl := List.mem_of_getElem? (i := 911) (by decide +kernel)
theorem wl_259 : Cond.fieldLink RX8 94 "PrisonWeddingsModel" "texted" "I" ∈ lw_tbl := List.mem_of_getElem? (i := 838) (by decide +kernel)
theorem wl_260 : Cond.methodLink RL 17 yX8_write ∈ lw_tbl := List.mem_of_getElem? (i := 907) (by decide +kernel)
theorem wl_261 : Cond.instanceMethod yX8_write ∈ lw_tbl := List.mem_of_getElem? (i := 908) (by decide +kernel)
theorem wl_262 : Cond.selects RX8 yX8_write yX8_write ∈ lw_tbl := List.mem_of_getElem? (i := 909) (by decide +kernel)
set_option maxRecDepth 20000 in
theorem wl_263 : Cond.code yX7_wipe cX7_wipe 2 (some .int) ∈ lw_tbl := List.mem_of_getElem? (i := 431) rfl
theorem wl_264 : Cond.methodLink RL 18 yX7_wipe ∈ lw_tbl := List.mem_of_getElem? (i := 428) (by decide +kernel)
theorem wl_265 : Cond.instanceMethod yX7_wipe ∈ lw_tbl := List.mem_of_getElem? (i := 429) (by decide +kernel)
theorem wl_266 : Cond.selects RX7 yX7_wipe yX7_wipe ∈ lw_tbl := List.mem_of_getElem? (i := 430) (by decide +kernel)
set_option maxRecDepth 20000 in
theorem wl_267 : Cond.code yX8_wipe cX8_wipe 2 (some .int) ∈ lw_tbl := List.mem_of_getElem? (i := 917) rfl
theorem wl_268 : Cond.methodLink RL 22 yX8_wipe ∈ lw_tbl := List.mem_of_getElem? (i := 914) (by decide +kernel)
theorem wl_269 : Cond.instanceMethod yX8_wipe ∈ lw_tbl := List.mem_of_getElem? (i := 915) (by decide +kernel)
theorem wl_270 : Cond.selects RX8 yX8_wipe yX8_wipe ∈ lw_tbl := List.mem_of_getElem? (i := 916) (by decide +kernel)
set_option maxRecDepth 20000 in
theorem wl_271 : Cond.code yX7_fault cX7_fault 1 (some .int) ∈ lw_tbl := List.mem_of_getElem? (i := 435) rfl
theorem wl_272 : Cond.methodLink RL 23 yX7_fault ∈ lw_tbl := List.mem_of_getElem? (i := 432) (by decide +kernel)
theorem wl_273 : Cond.instanceMethod yX7_fault ∈ lw_tbl := List.mem_of_getElem? (i := 433) (by decide +kernel)
theorem wl_274 : Cond.selects RX7 yX7_fault yX7_fault ∈ lw_tbl := List.mem_of_getElem? (i := 434) (by decide +kernel)
set_option maxRecDepth 20000 in
theorem wl_275 : Cond.code yX8_fault cX8_fault 2 (some .int) ∈ lw_tbl := List.mem_of_getElem? (i := 921) rfl
set_option maxRecDepth 20000 in
theorem wl_276 : Cond.code yX8_readPersonOf cX8_readPersonOf 2 (some .boolean) ∈ lw_tbl := List.mem_of_getElem? (i := 933) rfl
theorem wl_277 : Cond.selects RX8 yX8_readPersonOf yX8_readPersonOf ∈ lw_tbl := by decide +kernel
theorem wl_278 : Cond.instanceMethod yX8_readPersonOf ∈ lw_tbl := List.mem_of_getElem? (i := 932) (by decide +kernel)
theorem wl_279 : Cond.methodLink RX8 113 yX8_readPersonOf ∈ lw_tbl := List.mem_of_getElem? (i := 930) (by decide +kernel)
set_option maxRecDepth 20000 in
theorem wl_280 : Cond.code yX8_letterAt cX8_letterAt 2 (some .int) ∈ lw_tbl := List.mem_of_getElem? (i := 929) rfl
theorem wl_281 : Cond.selects RX8 yX8_letterAt yX8_letterAt ∈ lw_tbl := by decide +kernel
theorem wl_282 : Cond.instanceMethod yX8_letterAt ∈ lw_tbl := List.mem_of_getElem? (i := 928) (by decide +kernel)
theorem wl_283 : Cond.methodLink RX8 100 yX8_letterAt ∈ lw_tbl := List.mem_of_getElem? (i := 926) (by decide +kernel)
set_option maxRecDepth 20000 in
theorem wl_284 : Cond.code yX8_readItem cX8_readItem 2 (some .boolean) ∈ lw_tbl := List.mem_of_getElem? (i := 925) rfl
theorem wl_285 : Cond.selects RX8 yX8_readItem yX8_readItem ∈ lw_tbl := by decide +kernel
theorem wl_286 : Cond.instanceMethod yX8_readItem ∈ lw_tbl := List.mem_of_getElem? (i := 924) (by decide +kernel)
theorem wl_287 : Cond.methodLink RX8 123 yX8_readItem ∈ lw_tbl := List.mem_of_getElem? (i := 922) (by decide +kernel)
theorem wl_288 : Cond.fieldLink RX8 97 "PrisonWeddingsModel" "at" "I" ∈ lw_tbl := List.mem_of_getElem? (i := 839) (by decide +kernel)
set_option maxRecDepth 20000 in
theorem wl_289 : Cond.code yX8_readParsonOf cX8_readParsonOf 1 (some .boolean) ∈ lw_tbl := List.mem_of_getElem? (i := 948) rfl
theorem wl_290 : Cond.selects RX8 yX8_readParsonOf yX8_readParsonOf ∈ lw_tbl := by decide +kernel
theorem wl_291 : Cond.instanceMethod yX8_readParsonOf ∈ lw_tbl := List.mem_of_getElem? (i := 947) (by decide +kernel)
theorem wl_292 : Cond.methodLink RX8 116 yX8_readParsonOf ∈ lw_tbl := List.mem_of_getElem? (i := 945) (by decide +kernel)
set_option maxRecDepth 20000 in
theorem wl_293 : Cond.code yX8_isTold cX8_isTold 4 (some .boolean) ∈ lw_tbl := List.mem_of_getElem? (i := 944) rfl
theorem wl_294 : Cond.selects RX8 yX8_isTold yX8_isTold ∈ lw_tbl := by decide +kernel
theorem wl_295 : Cond.instanceMethod yX8_isTold ∈ lw_tbl := List.mem_of_getElem? (i := 943) (by decide +kernel)
theorem wl_296 : Cond.methodLink RX8 110 yX8_isTold ∈ lw_tbl := List.mem_of_getElem? (i := 941) (by decide +kernel)
set_option maxRecDepth 20000 in
theorem wl_297 : Cond.code yX8_isFigure cX8_isFigure 1 (some .boolean) ∈ lw_tbl := List.mem_of_getElem? (i := 940) rfl
theorem wl_298 : Cond.static yX8_isFigure ∈ lw_tbl := List.mem_of_getElem? (i := 939) (by decide +kernel)
theorem wl_299 : Cond.methodLink RX8 104 yX8_isFigure ∈ lw_tbl := List.mem_of_getElem? (i := 938) (by decide +kernel)
set_option maxRecDepth 20000 in
theorem wl_300 : Cond.code yX8_readNumbers cX8_readNumbers 3 (some .boolean) ∈ lw_tbl := List.mem_of_getElem? (i := 937) rfl
theorem wl_301 : Cond.selects RX8 yX8_readNumbers yX8_readNumbers ∈ lw_tbl := by decide +kernel
theorem wl_302 : Cond.instanceMethod yX8_readNumbers ∈ lw_tbl := List.mem_of_getElem? (i := 936) (by decide +kernel)
theorem wl_303 : Cond.methodLink RX8 107 yX8_readNumbers ∈ lw_tbl := List.mem_of_getElem? (i := 934) (by decide +kernel)
set_option maxRecDepth 20000 in
theorem wl_304 : Cond.code yX8_readLawOf cX8_readLawOf 2 (some .boolean) ∈ lw_tbl := List.mem_of_getElem? (i := 952) rfl
theorem wl_305 : Cond.selects RX8 yX8_readLawOf yX8_readLawOf ∈ lw_tbl := by decide +kernel
theorem wl_306 : Cond.instanceMethod yX8_readLawOf ∈ lw_tbl := List.mem_of_getElem? (i := 951) (by decide +kernel)
theorem wl_307 : Cond.methodLink RX8 120 yX8_readLawOf ∈ lw_tbl := List.mem_of_getElem? (i := 949) (by decide +kernel)
theorem wl_308 : Cond.methodLink RL 26 yX8_fault ∈ lw_tbl := List.mem_of_getElem? (i := 918) (by decide +kernel)
theorem wl_309 : Cond.instanceMethod yX8_fault ∈ lw_tbl := List.mem_of_getElem? (i := 919) (by decide +kernel)
theorem wl_310 : Cond.selects RX8 yX8_fault yX8_fault ∈ lw_tbl := List.mem_of_getElem? (i := 920) (by decide +kernel)
set_option maxRecDepth 20000 in
theorem wl_311 : Cond.code yX7_lay cX7_lay 1 (some .int) ∈ lw_tbl := List.mem_of_getElem? (i := 439) rfl
theorem wl_312 : Cond.fieldLink RX7 92 "PrisonWeddings$Shelf" "size" "I" ∈ lw_tbl := List.mem_of_getElem? (i := 289) (by decide +kernel)
theorem wl_313 : Cond.fieldLink RX7 89 "PrisonWeddings$Sights" "size" "I" ∈ lw_tbl := List.mem_of_getElem? (i := 262) (by decide +kernel)
theorem wl_314 : Cond.fieldLink RX7 86 "PrisonWeddings$Roll" "parsons" "I" ∈ lw_tbl := List.mem_of_getElem? (i := 117) (by decide +kernel)
theorem wl_315 : Cond.fieldLink RX7 83 "PrisonWeddings$Roll" "persons" "I" ∈ lw_tbl := List.mem_of_getElem? (i := 114) (by decide +kernel)
theorem wl_316 : Cond.methodLink RL 27 yX7_lay ∈ lw_tbl := List.mem_of_getElem? (i := 436) (by decide +kernel)
theorem wl_317 : Cond.instanceMethod yX7_lay ∈ lw_tbl := List.mem_of_getElem? (i := 437) (by decide +kernel)
theorem wl_318 : Cond.selects RX7 yX7_lay yX7_lay ∈ lw_tbl := List.mem_of_getElem? (i := 438) (by decide +kernel)
set_option maxRecDepth 20000 in
theorem wl_319 : Cond.code yX8_lay cX8_lay 1 (some .int) ∈ lw_tbl := List.mem_of_getElem? (i := 956) rfl
theorem wl_320 : Cond.methodLink RX8 126 yX8_fault ∈ lw_tbl := List.mem_of_getElem? (i := 957) (by decide +kernel)
theorem wl_321 : Cond.methodLink RL 30 yX8_lay ∈ lw_tbl := List.mem_of_getElem? (i := 953) (by decide +kernel)
theorem wl_322 : Cond.instanceMethod yX8_lay ∈ lw_tbl := List.mem_of_getElem? (i := 954) (by decide +kernel)
theorem wl_323 : Cond.selects RX8 yX8_lay yX8_lay ∈ lw_tbl := List.mem_of_getElem? (i := 955) (by decide +kernel)
set_option maxRecDepth 20000 in
theorem wl_324 : Cond.code yX7_person cX7_person 3 (some .int) ∈ lw_tbl := List.mem_of_getElem? (i := 443) rfl
set_option maxRecDepth 20000 in
theorem wl_325 : Cond.code yX2_mateBy cX2_mateBy 3 (some .int) ∈ lw_tbl := List.mem_of_getElem? (i := 452) rfl
theorem wl_326 : Cond.selects RX2 yX2_mateBy yX2_mateBy ∈ lw_tbl := List.mem_of_getElem? (i := 451) (by decide +kernel)
theorem wl_327 : Cond.instanceMethod yX2_mateBy ∈ lw_tbl := List.mem_of_getElem? (i := 450) (by decide +kernel)
theorem wl_328 : Cond.methodLink RX2 53 yX2_mateBy ∈ lw_tbl := List.mem_of_getElem? (i := 449) (by decide +kernel)
theorem wl_329 : Cond.fieldLink RX2 49 "PrisonWeddings$Books" "day" "I" ∈ lw_tbl := List.mem_of_getElem? (i := 176) (by decide +kernel)
set_option maxRecDepth 20000 in
theorem wl_330 : Cond.code yX2_mateToday cX2_mateToday 2 (some .int) ∈ lw_tbl := List.mem_of_getElem? (i := 448) rfl
theorem wl_331 : Cond.selects RX2 yX2_mateToday yX2_mateToday ∈ lw_tbl := List.mem_of_getElem? (i := 447) (by decide +kernel)
theorem wl_332 : Cond.instanceMethod yX2_mateToday ∈ lw_tbl := List.mem_of_getElem? (i := 446) (by decide +kernel)
theorem wl_333 : Cond.methodLink RX7 117 yX2_mateToday ∈ lw_tbl := List.mem_of_getElem? (i := 445) (by decide +kernel)
theorem wl_334 : Cond.methodLink RX7 93 yX3_isPerson ∈ lw_tbl := List.mem_of_getElem? (i := 444) (by decide +kernel)
theorem wl_335 : Cond.fieldLink RX7 112 "PrisonWeddings$Books" "coins" "[I" ∈ lw_tbl := List.mem_of_getElem? (i := 179) (by decide +kernel)
theorem wl_336 : Cond.fieldLink RX7 108 "PrisonWeddings$House" "books" "LPrisonWeddings$Books;" ∈ lw_tbl := List.mem_of_getElem? (i := 242) (by decide +kernel)
theorem wl_337 : Cond.fieldLink RX7 105 "PrisonWeddings$Roll" "debts" "[I" ∈ lw_tbl := List.mem_of_getElem? (i := 129) (by decide +kernel)
theorem wl_338 : Cond.fieldLink RX7 101 "PrisonWeddings$Roll" "kind" "[I" ∈ lw_tbl := List.mem_of_getElem? (i := 126) (by decide +kernel)
theorem wl_339 : Cond.fieldLink RX7 97 "PrisonWeddings$Roll" "female" "[Z" ∈ lw_tbl := List.mem_of_getElem? (i := 123) (by decide +kernel)
theorem wl_340 : Cond.selects RX0 yX0_slotOf yX0_slotOf ∈ lw_tbl := List.mem_of_getElem? (i := 467) (by decide +kernel)
theorem wl_341 : Cond.instanceMethod yX0_slotOf ∈ lw_tbl := List.mem_of_getElem? (i := 466) (by decide +kernel)
theorem wl_342 : Cond.methodLink RX1 42 yX0_slotOf ∈ lw_tbl := List.mem_of_getElem? (i := 465) (by decide +kernel)
theorem wl_343 : Cond.fieldLink RX1 46 "PrisonWeddings$Books" "begun" "[I" ∈ lw_tbl := List.mem_of_getElem? (i := 191) (by decide +kernel)
set_option maxRecDepth 20000 in
theorem wl_344 : Cond.code yX1_takeEarliest cX1_takeEarliest 4 (some .int) ∈ lw_tbl := List.mem_of_getElem? (i := 464) rfl
theorem wl_345 : Cond.selects RX1 yX1_takeEarliest yX1_takeEarliest ∈ lw_tbl := by decide +kernel
theorem wl_346 : Cond.instanceMethod yX1_takeEarliest ∈ lw_tbl := List.mem_of_getElem? (i := 463) (by decide +kernel)
theorem wl_347 : Cond.methodLink RX1 22 yX1_takeEarliest ∈ lw_tbl := List.mem_of_getElem? (i := 461) (by decide +kernel)
theorem wl_348 : Cond.fieldLink RX1 35 "PrisonWeddings$Books" "woman" "[I" ∈ lw_tbl := List.mem_of_getElem? (i := 199) (by decide +kernel)
theorem wl_349 : Cond.fieldLink RX1 32 "PrisonWeddings$Books" "man" "[I" ∈ lw_tbl := List.mem_of_getElem? (i := 195) (by decide +kernel)
set_option maxRecDepth 20000 in
theorem wl_350 : Cond.code yX1_settle cX1_settle 4 none ∈ lw_tbl := List.mem_of_getElem? (i := 460) rfl
theorem wl_351 : Cond.selects RX1 yX1_settle yX1_settle ∈ lw_tbl := List.mem_of_getElem? (i := 459) (by decide +kernel)
theorem wl_352 : Cond.instanceMethod yX1_settle ∈ lw_tbl := List.mem_of_getElem? (i := 458) (by decide +kernel)
theorem wl_353 : Cond.methodLink RX2 39 yX1_settle ∈ lw_tbl := List.mem_of_getElem? (i := 457) (by decide +kernel)
set_option maxRecDepth 20000 in
theorem wl_354 : Cond.code yX2_settle cX2_settle 1 none ∈ lw_tbl := List.mem_of_getElem? (i := 456) rfl
theorem wl_355 : Cond.selects RX2 yX2_settle yX2_settle ∈ lw_tbl := by decide +kernel
theorem wl_356 : Cond.instanceMethod yX2_settle ∈ lw_tbl := List.mem_of_getElem? (i := 455) (by decide +kernel)
theorem wl_357 : Cond.methodLink RX2 43 yX2_settle ∈ lw_tbl := List.mem_of_getElem? (i := 453) (by decide +kernel)
theorem wl_358 : Cond.instanceMethod yX2_owedBy ∈ lw_tbl := List.mem_of_getElem? (i := 489) (by decide +kernel)
theorem wl_359 : Cond.methodLink RX7 121 yX2_owedBy ∈ lw_tbl := List.mem_of_getElem? (i := 488) (by decide +kernel)
set_option maxRecDepth 20000 in
theorem wl_360 : Cond.code yX1_mateOf cX1_mateOf 4 (some .int) ∈ lw_tbl := List.mem_of_getElem? (i := 487) rfl
theorem wl_361 : Cond.selects RX1 yX1_mateOf yX1_mateOf ∈ lw_tbl := List.mem_of_getElem? (i := 486) (by decide +kernel)
theorem wl_362 : Cond.instanceMethod yX1_mateOf ∈ lw_tbl := List.mem_of_getElem? (i := 485) (by decide +kernel)
theorem wl_363 : Cond.methodLink RX2 45 yX1_mateOf ∈ lw_tbl := List.mem_of_getElem? (i := 484) (by decide +kernel)
set_option maxRecDepth 20000 in
theorem wl_364 : Cond.code yX1_isRow cX1_isRow 1 (some .boolean) ∈ lw_tbl := List.mem_of_getElem? (i := 483) rfl
theorem wl_365 : Cond.static yX1_isRow ∈ lw_tbl := List.mem_of_getElem? (i := 482) (by decide +kernel)
theorem wl_366 : Cond.methodLink RX1 49 yX1_isRow ∈ lw_tbl := List.mem_of_getElem? (i := 481) (by decide +kernel)
set_option maxRecDepth 20000 in
theorem wl_367 : Cond.code yX1_holdIfFree cX1_holdIfFree 4 none ∈ lw_tbl := List.mem_of_getElem? (i := 480) rfl
theorem wl_368 : Cond.selects RX1 yX1_holdIfFree yX1_holdIfFree ∈ lw_tbl := by decide +kernel
theorem wl_369 : Cond.instanceMethod yX1_holdIfFree ∈ lw_tbl := List.mem_of_getElem? (i := 479) (by decide +kernel)
theorem wl_370 : Cond.methodLink RX1 38 yX1_holdIfFree ∈ lw_tbl := List.mem_of_getElem? (i := 477) (by decide +kernel)
set_option maxRecDepth 20000 in
theorem wl_371 : Cond.code yX0_isLine cX0_isLine 2 (some .boolean) ∈ lw_tbl := List.mem_of_getElem? (i := 476) rfl
theorem wl_372 : Cond.selects RX0 yX0_isLine yX0_isLine ∈ lw_tbl := List.mem_of_getElem? (i := 475) (by decide +kernel)
theorem wl_373 : Cond.instanceMethod yX0_isLine ∈ lw_tbl := List.mem_of_getElem? (i := 474) (by decide +kernel)
theorem wl_374 : Cond.methodLink RX0 55 yX0_isLine ∈ lw_tbl := List.mem_of_getElem? (i := 473) (by decide +kernel)
set_option maxRecDepth 20000 in
theorem wl_375 : Cond.code yX0_isOfTwo cX0_isOfTwo 2 (some .boolean) ∈ lw_tbl := List.mem_of_getElem? (i := 472) rfl
theorem wl_376 : Cond.selects RX0 yX0_isOfTwo yX0_isOfTwo ∈ lw_tbl := List.mem_of_getElem? (i := 471) (by decide +kernel)
theorem wl_377 : Cond.instanceMethod yX0_isOfTwo ∈ lw_tbl := List.mem_of_getElem? (i := 470) (by decide +kernel)
theorem wl_378 : Cond.methodLink RX1 26 yX0_isOfTwo ∈ lw_tbl := List.mem_of_getElem? (i := 469) (by decide +kernel)
set_option maxRecDepth 20000 in
theorem wl_379 : Cond.code yX0_slotOf cX0_slotOf 3 (some .int) ∈ lw_tbl := List.mem_of_getElem? (i := 468) rfl
theorem wl_380 : Cond.methodLink RX0 65 yX0_isOfTwo ∈ lw_tbl := List.mem_of_getElem? (i := 498) (by decide +kernel)
set_option maxRecDepth 20000 in
theorem wl_381 : Cond.code yX0_linesWith cX0_linesWith 4 (some .int) ∈ lw_tbl := List.mem_of_getElem? (i := 497) rfl
theorem wl_382 : Cond.selects RX0 yX0_linesWith yX0_linesWith ∈ lw_tbl := List.mem_of_getElem? (i := 496) (by decide +kernel)
theorem wl_383 : Cond.instanceMethod yX0_linesWith ∈ lw_tbl := List.mem_of_getElem? (i := 495) (by decide +kernel)
theorem wl_384 : Cond.methodLink RX7 124 yX0_linesWith ∈ lw_tbl := List.mem_of_getElem? (i := 494) (by decide +kernel)
theorem wl_385 : Cond.methodLink RX2 65 yX2_mateToday ∈ lw_tbl := List.mem_of_getElem? (i := 493) (by decide +kernel)
theorem wl_386 : Cond.methodLink RX2 60 yX3_isPerson ∈ lw_tbl := List.mem_of_getElem? (i := 492) (by decide +kernel)
theorem wl_387 : Cond.fieldLink RX2 76 "PrisonWeddings$Roll" "kind" "[I" ∈ lw_tbl := List.mem_of_getElem? (i := 127) (by decide +kernel)
theorem wl_388 : Cond.fieldLink RX2 73 "PrisonWeddings$Roll" "debts" "[I" ∈ lw_tbl := List.mem_of_getElem? (i := 130) (by decide +kernel)
theorem wl_389 : Cond.fieldLink RX2 69 "PrisonWeddings$Roll" "female" "[Z" ∈ lw_tbl := List.mem_of_getElem? (i := 124) (by decide +kernel)
set_option maxRecDepth 20000 in
theorem wl_390 : Cond.code yX2_owedBy cX2_owedBy 4 (some .int) ∈ lw_tbl := List.mem_of_getElem? (i := 491) rfl
theorem wl_391 : Cond.selects RX2 yX2_owedBy yX2_owedBy ∈ lw_tbl := List.mem_of_getElem? (i := 490) (by decide +kernel)
theorem wl_392 : Cond.methodLink RL 31 yX7_person ∈ lw_tbl := List.mem_of_getElem? (i := 440) (by decide +kernel)
theorem wl_393 : Cond.instanceMethod yX7_person ∈ lw_tbl := List.mem_of_getElem? (i := 441) (by decide +kernel)
theorem wl_394 : Cond.selects RX7 yX7_person yX7_person ∈ lw_tbl := List.mem_of_getElem? (i := 442) (by decide +kernel)
set_option maxRecDepth 20000 in
theorem wl_395 : Cond.code yX8_person cX8_person 3 (some .int) ∈ lw_tbl := List.mem_of_getElem? (i := 961) rfl
set_option maxRecDepth 20000 in
theorem wl_396 : Cond.code yX8_findHolds cX8_findHolds 4 none ∈ lw_tbl := List.mem_of_getElem? (i := 973) rfl
theorem wl_397 : Cond.selects RX8 yX8_findHolds yX8_findHolds ∈ lw_tbl := by decide +kernel
theorem wl_398 : Cond.instanceMethod yX8_findHolds ∈ lw_tbl := List.mem_of_getElem? (i := 972) (by decide +kernel)
theorem wl_399 : Cond.methodLink RX8 180 yX8_findHolds ∈ lw_tbl := List.mem_of_getElem? (i := 970) (by decide +kernel)
set_option maxRecDepth 20000 in
theorem wl_400 : Cond.code yX8_asItIs cX8_asItIs 1 none ∈ lw_tbl := List.mem_of_getElem? (i := 969) rfl
theorem wl_401 : Cond.selects RX8 yX8_asItIs yX8_asItIs ∈ lw_tbl := by decide +kernel
theorem wl_402 : Cond.instanceMethod yX8_asItIs ∈ lw_tbl := List.mem_of_getElem? (i := 968) (by decide +kernel)
theorem wl_403 : Cond.methodLink RX8 177 yX8_asItIs ∈ lw_tbl := List.mem_of_getElem? (i := 966) (by decide +kernel)
set_option maxRecDepth 20000 in
theorem wl_404 : Cond.code yX8_isPerson cX8_isPerson 2 (some .boolean) ∈ lw_tbl := List.mem_of_getElem? (i := 965) rfl
theorem wl_405 : Cond.selects RX8 yX8_isPerson yX8_isPerson ∈ lw_tbl := by decide +kernel
theorem wl_406 : Cond.instanceMethod yX8_isPerson ∈ lw_tbl := List.mem_of_getElem? (i := 964) (by decide +kernel)
theorem wl_407 : Cond.methodLink RX8 174 yX8_isPerson ∈ lw_tbl := List.mem_of_getElem? (i := 962) (by decide +kernel)
theorem wl_408 : Cond.selects RX8 yX8_womanOf yX8_womanOf ∈ lw_tbl := by decide +kernel
theorem wl_409 : Cond.instanceMethod yX8_womanOf ∈ lw_tbl := List.mem_of_getElem? (i := 996) (by decide +kernel)
theorem wl_410 : Cond.methodLink RX8 161 yX8_womanOf ∈ lw_tbl := List.mem_of_getElem? (i := 994) (by decide +kernel)
set_option maxRecDepth 20000 in
theorem wl_411 : Cond.code yX8_begun cX8_begun 2 (some .int) ∈ lw_tbl := List.mem_of_getElem? (i := 993) rfl
theorem wl_412 : Cond.selects RX8 yX8_begun yX8_begun ∈ lw_tbl := by decide +kernel
theorem wl_413 : Cond.instanceMethod yX8_begun ∈ lw_tbl := List.mem_of_getElem? (i := 992) (by decide +kernel)
theorem wl_414 : Cond.methodLink RX8 155 yX8_begun ∈ lw_tbl := List.mem_of_getElem? (i := 990) (by decide +kernel)
set_option maxRecDepth 20000 in
theorem wl_415 : Cond.code yX8_manOf cX8_manOf 2 (some .int) ∈ lw_tbl := List.mem_of_getElem? (i := 989) rfl
theorem wl_416 : Cond.selects RX8 yX8_manOf yX8_manOf ∈ lw_tbl := by decide +kernel
theorem wl_417 : Cond.instanceMethod yX8_manOf ∈ lw_tbl := List.mem_of_getElem? (i := 988) (by decide +kernel)
theorem wl_418 : Cond.methodLink RX8 149 yX8_manOf ∈ lw_tbl := List.mem_of_getElem? (i := 986) (by decide +kernel)
set_option maxRecDepth 20000 in
theorem wl_419 : Cond.code yX8_isThere cX8_isThere 2 (some .boolean) ∈ lw_tbl := List.mem_of_getElem? (i := 985) rfl
theorem wl_420 : Cond.selects RX8 yX8_isThere yX8_isThere ∈ lw_tbl := by decide +kernel
theorem wl_421 : Cond.instanceMethod yX8_isThere ∈ lw_tbl := List.mem_of_getElem? (i := 984) (by decide +kernel)
theorem wl_422 : Cond.methodLink RX8 146 yX8_isThere ∈ lw_tbl := List.mem_of_getElem? (i := 982) (by decide +kernel)
set_option maxRecDepth 20000 in
theorem wl_423 : Cond.code yX8_isOfTwo cX8_isOfTwo 2 (some .boolean) ∈ lw_tbl := List.mem_of_getElem? (i := 981) rfl
theorem wl_424 : Cond.selects RX8 yX8_isOfTwo yX8_isOfTwo ∈ lw_tbl := by decide +kernel
theorem wl_425 : Cond.instanceMethod yX8_isOfTwo ∈ lw_tbl := List.mem_of_getElem? (i := 980) (by decide +kernel)
theorem wl_426 : Cond.methodLink RX8 152 yX8_isOfTwo ∈ lw_tbl := List.mem_of_getElem? (i := 978) (by decide +kernel)
set_option maxRecDepth 20000 in
theorem wl_427 : Cond.code yX8_nextLine cX8_nextLine 3 (some .int) ∈ lw_tbl := List.mem_of_getElem? (i := 977) rfl
theorem wl_428 : Cond.selects RX8 yX8_nextLine yX8_nextLine ∈ lw_tbl := by decide +kernel
theorem wl_429 : Cond.instanceMethod yX8_nextLine ∈ lw_tbl := List.mem_of_getElem? (i := 976) (by decide +kernel)
theorem wl_430 : Cond.methodLink RX8 158 yX8_nextLine ∈ lw_tbl := List.mem_of_getElem? (i := 974) (by decide +kernel)
set_option maxRecDepth 20000 in
theorem wl_431 : Cond.code yX8_linesOf cX8_linesOf 4 (some .int) ∈ lw_tbl := List.mem_of_getElem? (i := 1017) rfl
theorem wl_432 : Cond.selects RX8 yX8_linesOf yX8_linesOf ∈ lw_tbl := by decide +kernel
theorem wl_433 : Cond.instanceMethod yX8_linesOf ∈ lw_tbl := List.mem_of_getElem? (i := 1016) (by decide +kernel)
theorem wl_434 : Cond.methodLink RX8 186 yX8_linesOf ∈ lw_tbl := List.mem_of_getElem? (i := 1014) (by decide +kernel)
set_option maxRecDepth 20000 in
theorem wl_435 : Cond.code yX8_kindOf cX8_kindOf 2 (some .int) ∈ lw_tbl := List.mem_of_getElem? (i := 1013) rfl
theorem wl_436 : Cond.selects RX8 yX8_kindOf yX8_kindOf ∈ lw_tbl := by decide +kernel
theorem wl_437 : Cond.instanceMethod yX8_kindOf ∈ lw_tbl := List.mem_of_getElem? (i := 1012) (by decide +kernel)
theorem wl_438 : Cond.methodLink RX8 171 yX8_kindOf ∈ lw_tbl := List.mem_of_getElem? (i := 1010) (by decide +kernel)
set_option maxRecDepth 20000 in
theorem wl_439 : Cond.code yX8_isWoman cX8_isWoman 2 (some .boolean) ∈ lw_tbl := List.mem_of_getElem? (i := 1009) rfl
theorem wl_440 : Cond.selects RX8 yX8_isWoman yX8_isWoman ∈ lw_tbl := by decide +kernel
theorem wl_441 : Cond.instanceMethod yX8_isWoman ∈ lw_tbl := List.mem_of_getElem? (i := 1008) (by decide +kernel)
theorem wl_442 : Cond.methodLink RX8 168 yX8_isWoman ∈ lw_tbl := List.mem_of_getElem? (i := 1006) (by decide +kernel)
set_option maxRecDepth 20000 in
theorem wl_443 : Cond.code yX8_owes cX8_owes 4 (some .int) ∈ lw_tbl := List.mem_of_getElem? (i := 1005) rfl
theorem wl_444 : Cond.selects RX8 yX8_owes yX8_owes ∈ lw_tbl := by decide +kernel
theorem wl_445 : Cond.instanceMethod yX8_owes ∈ lw_tbl := List.mem_of_getElem? (i := 1004) (by decide +kernel)
theorem wl_446 : Cond.methodLink RX8 183 yX8_owes ∈ lw_tbl := List.mem_of_getElem? (i := 1002) (by decide +kernel)
set_option maxRecDepth 20000 in
theorem wl_447 : Cond.code yX8_mateBy cX8_mateBy 6 (some .int) ∈ lw_tbl := List.mem_of_getElem? (i := 1001) rfl
theorem wl_448 : Cond.selects RX8 yX8_mateBy yX8_mateBy ∈ lw_tbl := by decide +kernel
theorem wl_449 : Cond.instanceMethod yX8_mateBy ∈ lw_tbl := List.mem_of_getElem? (i := 1000) (by decide +kernel)
theorem wl_450 : Cond.methodLink RX8 164 yX8_mateBy ∈ lw_tbl := List.mem_of_getElem? (i := 998) (by decide +kernel)
set_option maxRecDepth 20000 in
theorem wl_451 : Cond.code yX8_womanOf cX8_womanOf 2 (some .int) ∈ lw_tbl := List.mem_of_getElem? (i := 997) rfl
theorem wl_452 : Cond.methodLink RL 35 yX8_person ∈ lw_tbl := List.mem_of_getElem? (i := 958) (by decide +kernel)
theorem wl_453 : Cond.instanceMethod yX8_person ∈ lw_tbl := List.mem_of_getElem? (i := 959) (by decide +kernel)
theorem wl_454 : Cond.selects RX8 yX8_person yX8_person ∈ lw_tbl := List.mem_of_getElem? (i := 960) (by decide +kernel)
set_option maxRecDepth 20000 in
theorem wl_455 : Cond.code yX7_parson cX7_parson 3 (some .int) ∈ lw_tbl := List.mem_of_getElem? (i := 502) rfl
theorem wl_456 : Cond.methodLink RX0 61 yX0_slotOf ∈ lw_tbl := List.mem_of_getElem? (i := 511) (by decide +kernel)
set_option maxRecDepth 20000 in
theorem wl_457 : Cond.code yX0_blanksOf cX0_blanksOf 5 (some .int) ∈ lw_tbl := List.mem_of_getElem? (i := 510) rfl
theorem wl_458 : Cond.selects RX0 yX0_blanksOf yX0_blanksOf ∈ lw_tbl := List.mem_of_getElem? (i := 509) (by decide +kernel)
theorem wl_459 : Cond.instanceMethod yX0_blanksOf ∈ lw_tbl := List.mem_of_getElem? (i := 508) (by decide +kernel)
theorem wl_460 : Cond.methodLink RX7 139 yX0_blanksOf ∈ lw_tbl := List.mem_of_getElem? (i := 507) (by decide +kernel)
set_option maxRecDepth 20000 in
theorem wl_461 : Cond.code yX3_isParson cX3_isParson 2 (some .boolean) ∈ lw_tbl := List.mem_of_getElem? (i := 506) rfl
theorem wl_462 : Cond.selects RX3 yX3_isParson yX3_isParson ∈ lw_tbl := List.mem_of_getElem? (i := 505) (by decide +kernel)
theorem wl_463 : Cond.instanceMethod yX3_isParson ∈ lw_tbl := List.mem_of_getElem? (i := 504) (by decide +kernel)
theorem wl_464 : Cond.methodLink RX7 127 yX3_isParson ∈ lw_tbl := List.mem_of_getElem? (i := 503) (by decide +kernel)
theorem wl_465 : Cond.fieldLink RX7 142 "PrisonWeddings$Books" "paid" "[I" ∈ lw_tbl := List.mem_of_getElem? (i := 182) (by decide +kernel)
theorem wl_466 : Cond.fieldLink RX7 136 "PrisonWeddings$Books" "lines" "[I" ∈ lw_tbl := List.mem_of_getElem? (i := 185) (by decide +kernel)
theorem wl_467 : Cond.fieldLink RX7 133 "PrisonWeddings$Roll" "price" "[I" ∈ lw_tbl := List.mem_of_getElem? (i := 137) (by decide +kernel)
theorem wl_468 : Cond.fieldLink RX7 130 "PrisonWeddings$Roll" "trade" "[I" ∈ lw_tbl := List.mem_of_getElem? (i := 134) (by decide +kernel)
theorem wl_469 : Cond.methodLink RL 36 yX7_parson ∈ lw_tbl := List.mem_of_getElem? (i := 499) (by decide +kernel)
theorem wl_470 : Cond.instanceMethod yX7_parson ∈ lw_tbl := List.mem_of_getElem? (i := 500) (by decide +kernel)
theorem wl_471 : Cond.selects RX7 yX7_parson yX7_parson ∈ lw_tbl := List.mem_of_getElem? (i := 501) (by decide +kernel)
set_option maxRecDepth 20000 in
theorem wl_472 : Cond.code yX8_parson cX8_parson 3 (some .int) ∈ lw_tbl := List.mem_of_getElem? (i := 1021) rfl
theorem wl_473 : Cond.methodLink RX8 189 yX8_isBlank ∈ lw_tbl := List.mem_of_getElem? (i := 1030) (by decide +kernel)
set_option maxRecDepth 20000 in
theorem wl_474 : Cond.code yX8_blanksOf cX8_blanksOf 4 (some .int) ∈ lw_tbl := List.mem_of_getElem? (i := 1029) rfl
theorem wl_475 : Cond.selects RX8 yX8_blanksOf yX8_blanksOf ∈ lw_tbl := by decide +kernel
theorem wl_476 : Cond.instanceMethod yX8_blanksOf ∈ lw_tbl := List.mem_of_getElem? (i := 1028) (by decide +kernel)
theorem wl_477 : Cond.methodLink RX8 192 yX8_blanksOf ∈ lw_tbl := List.mem_of_getElem? (i := 1026) (by decide +kernel)
set_option maxRecDepth 20000 in
theorem wl_478 : Cond.code yX8_isParson cX8_isParson 2 (some .boolean) ∈ lw_tbl := List.mem_of_getElem? (i := 1025) rfl
theorem wl_479 : Cond.selects RX8 yX8_isParson yX8_isParson ∈ lw_tbl := by decide +kernel
theorem wl_480 : Cond.instanceMethod yX8_isParson ∈ lw_tbl := List.mem_of_getElem? (i := 1024) (by decide +kernel)
theorem wl_481 : Cond.methodLink RX8 90 yX8_isParson ∈ lw_tbl := List.mem_of_getElem? (i := 1022) (by decide +kernel)
set_option maxRecDepth 20000 in
theorem wl_482 : Cond.code yX8_isBlank cX8_isBlank 2 (some .boolean) ∈ lw_tbl := List.mem_of_getElem? (i := 1033) rfl
theorem wl_483 : Cond.selects RX8 yX8_isBlank yX8_isBlank ∈ lw_tbl := by decide +kernel
theorem wl_484 : Cond.instanceMethod yX8_isBlank ∈ lw_tbl := List.mem_of_getElem? (i := 1032) (by decide +kernel)
theorem wl_485 : Cond.methodLink RL 39 yX8_parson ∈ lw_tbl := List.mem_of_getElem? (i := 1018) (by decide +kernel)
theorem wl_486 : Cond.instanceMethod yX8_parson ∈ lw_tbl := List.mem_of_getElem? (i := 1019) (by decide +kernel)
theorem wl_487 : Cond.selects RX8 yX8_parson yX8_parson ∈ lw_tbl := List.mem_of_getElem? (i := 1020) (by decide +kernel)
set_option maxRecDepth 20000 in
theorem wl_488 : Cond.code yX7_line cX7_line 6 (some .int) ∈ lw_tbl := List.mem_of_getElem? (i := 515) rfl
set_option maxRecDepth 20000 in
theorem wl_489 : Cond.code yX2_isHeld cX2_isHeld 2 (some .boolean) ∈ lw_tbl := List.mem_of_getElem? (i := 520) rfl
theorem wl_490 : Cond.selects RX2 yX2_isHeld yX2_isHeld ∈ lw_tbl := List.mem_of_getElem? (i := 519) (by decide +kernel)
theorem wl_491 : Cond.instanceMethod yX2_isHeld ∈ lw_tbl := List.mem_of_getElem? (i := 518) (by decide +kernel)
theorem wl_492 : Cond.methodLink RX7 161 yX2_isHeld ∈ lw_tbl := List.mem_of_getElem? (i := 517) (by decide +kernel)
theorem wl_493 : Cond.methodLink RX7 145 yX0_slotOf ∈ lw_tbl := List.mem_of_getElem? (i := 516) (by decide +kernel)
theorem wl_494 : Cond.fieldLink RX7 164 "PrisonWeddings$Books" "written" "[I" ∈ lw_tbl := List.mem_of_getElem? (i := 203) (by decide +kernel)
theorem wl_495 : Cond.fieldLink RX7 158 "PrisonWeddings$Books" "woman" "[I" ∈ lw_tbl := List.mem_of_getElem? (i := 200) (by decide +kernel)
theorem wl_496 : Cond.fieldLink RX7 155 "PrisonWeddings$Books" "man" "[I" ∈ lw_tbl := List.mem_of_getElem? (i := 196) (by decide +kernel)
theorem wl_497 : Cond.fieldLink RX7 152 "PrisonWeddings$Books" "begun" "[I" ∈ lw_tbl := List.mem_of_getElem? (i := 192) (by decide +kernel)
theorem wl_498 : Cond.fieldLink RX7 149 "PrisonWeddings$Books" "state" "[I" ∈ lw_tbl := List.mem_of_getElem? (i := 188) (by decide +kernel)
set_option maxRecDepth 20000 in
theorem wl_499 : Cond.code yX1_isHeld cX1_isHeld 2 (some .boolean) ∈ lw_tbl := List.mem_of_getElem? (i := 524) rfl
theorem wl_500 : Cond.selects RX1 yX1_isHeld yX1_isHeld ∈ lw_tbl := List.mem_of_getElem? (i := 523) (by decide +kernel)
theorem wl_501 : Cond.instanceMethod yX1_isHeld ∈ lw_tbl := List.mem_of_getElem? (i := 522) (by decide +kernel)
theorem wl_502 : Cond.methodLink RX2 56 yX1_isHeld ∈ lw_tbl := List.mem_of_getElem? (i := 521) (by decide +kernel)
theorem wl_503 : Cond.methodLink RL 40 yX7_line ∈ lw_tbl := List.mem_of_getElem? (i := 512) (by decide +kernel)
theorem wl_504 : Cond.instanceMethod yX7_line ∈ lw_tbl := List.mem_of_getElem? (i := 513) (by decide +kernel)
theorem wl_505 : Cond.selects RX7 yX7_line yX7_line ∈ lw_tbl := List.mem_of_getElem? (i := 514) (by decide +kernel)
set_option maxRecDepth 20000 in
theorem wl_506 : Cond.code yX8_line cX8_line 6 (some .int) ∈ lw_tbl := List.mem_of_getElem? (i := 1037) rfl
set_option maxRecDepth 20000 in
theorem wl_507 : Cond.code yX8_isLine cX8_isLine 3 (some .boolean) ∈ lw_tbl := List.mem_of_getElem? (i := 1041) rfl
theorem wl_508 : Cond.selects RX8 yX8_isLine yX8_isLine ∈ lw_tbl := by decide +kernel
theorem wl_509 : Cond.instanceMethod yX8_isLine ∈ lw_tbl := List.mem_of_getElem? (i := 1040) (by decide +kernel)
theorem wl_510 : Cond.methodLink RX8 195 yX8_isLine ∈ lw_tbl := List.mem_of_getElem? (i := 1038) (by decide +kernel)
theorem wl_511 : Cond.methodLink RL 44 yX8_line ∈ lw_tbl := List.mem_of_getElem? (i := 1034) (by decide +kernel)
theorem wl_512 : Cond.instanceMethod yX8_line ∈ lw_tbl := List.mem_of_getElem? (i := 1035) (by decide +kernel)
theorem wl_513 : Cond.selects RX8 yX8_line yX8_line ∈ lw_tbl := List.mem_of_getElem? (i := 1036) (by decide +kernel)
set_option maxRecDepth 20000 in
theorem wl_514 : Cond.code yX7_wed cX7_wed 5 (some .int) ∈ lw_tbl := List.mem_of_getElem? (i := 528) rfl
theorem wl_515 : Cond.methodLink RX2 85 yX3_isParson ∈ lw_tbl := List.mem_of_getElem? (i := 537) (by decide +kernel)
theorem wl_516 : Cond.fieldLink RX2 96 "PrisonWeddings$Roll" "price" "[I" ∈ lw_tbl := List.mem_of_getElem? (i := 138) (by decide +kernel)
set_option maxRecDepth 20000 in
theorem wl_517 : Cond.code yX2_refuseWedding cX2_refuseWedding 4 (some .int) ∈ lw_tbl := List.mem_of_getElem? (i := 536) rfl
theorem wl_518 : Cond.selects RX2 yX2_refuseWedding yX2_refuseWedding ∈ lw_tbl := List.mem_of_getElem? (i := 535) (by decide +kernel)
theorem wl_519 : Cond.instanceMethod yX2_refuseWedding ∈ lw_tbl := List.mem_of_getElem? (i := 534) (by decide +kernel)
theorem wl_520 : Cond.methodLink RX7 171 yX2_refuseWedding ∈ lw_tbl := List.mem_of_getElem? (i := 533) (by decide +kernel)
set_option maxRecDepth 20000 in
theorem wl_521 : Cond.code yX3_areTwo cX3_areTwo 3 (some .boolean) ∈ lw_tbl := List.mem_of_getElem? (i := 532) rfl
theorem wl_522 : Cond.selects RX3 yX3_areTwo yX3_areTwo ∈ lw_tbl := List.mem_of_getElem? (i := 531) (by decide +kernel)
theorem wl_523 : Cond.instanceMethod yX3_areTwo ∈ lw_tbl := List.mem_of_getElem? (i := 530) (by decide +kernel)
theorem wl_524 : Cond.methodLink RX7 167 yX3_areTwo ∈ lw_tbl := List.mem_of_getElem? (i := 529) (by decide +kernel)
theorem wl_525 : Cond.instanceMethod yX0_hasRoom ∈ lw_tbl := List.mem_of_getElem? (i := 552) (by decide +kernel)
theorem wl_526 : Cond.methodLink RX2 103 yX0_hasRoom ∈ lw_tbl := List.mem_of_getElem? (i := 551) (by decide +kernel)
theorem wl_527 : Cond.fieldLink RX2 82 "PrisonWeddings$Books" "coins" "[I" ∈ lw_tbl := List.mem_of_getElem? (i := 180) (by decide +kernel)
set_option maxRecDepth 20000 in
theorem wl_528 : Cond.code yX2_canPay cX2_canPay 4 (some .boolean) ∈ lw_tbl := List.mem_of_getElem? (i := 550) rfl
theorem wl_529 : Cond.selects RX2 yX2_canPay yX2_canPay ∈ lw_tbl := List.mem_of_getElem? (i := 549) (by decide +kernel)
theorem wl_530 : Cond.instanceMethod yX2_canPay ∈ lw_tbl := List.mem_of_getElem? (i := 548) (by decide +kernel)
theorem wl_531 : Cond.methodLink RX2 99 yX2_canPay ∈ lw_tbl := List.mem_of_getElem? (i := 547) (by decide +kernel)
theorem wl_532 : Cond.fieldLink RX2 79 "PrisonWeddings$Roll" "law" "I" ∈ lw_tbl := List.mem_of_getElem? (i := 120) (by decide +kernel)
set_option maxRecDepth 20000 in
theorem wl_533 : Cond.code yX2_isLaw cX2_isLaw 1 (some .boolean) ∈ lw_tbl := List.mem_of_getElem? (i := 546) rfl
theorem wl_534 : Cond.selects RX2 yX2_isLaw yX2_isLaw ∈ lw_tbl := by decide +kernel
theorem wl_535 : Cond.instanceMethod yX2_isLaw ∈ lw_tbl := List.mem_of_getElem? (i := 545) (by decide +kernel)
theorem wl_536 : Cond.methodLink RX2 92 yX2_isLaw ∈ lw_tbl := List.mem_of_getElem? (i := 543) (by decide +kernel)
theorem wl_537 : Cond.methodLink RX3 83 yX3_areTwo ∈ lw_tbl := List.mem_of_getElem? (i := 542) (by decide +kernel)
set_option maxRecDepth 20000 in
theorem wl_538 : Cond.code yX3_canPair cX3_canPair 5 (some .boolean) ∈ lw_tbl := List.mem_of_getElem? (i := 541) rfl
theorem wl_539 : Cond.selects RX3 yX3_canPair yX3_canPair ∈ lw_tbl := List.mem_of_getElem? (i := 540) (by decide +kernel)
theorem wl_540 : Cond.instanceMethod yX3_canPair ∈ lw_tbl := List.mem_of_getElem? (i := 539) (by decide +kernel)
theorem wl_541 : Cond.methodLink RX2 88 yX3_canPair ∈ lw_tbl := List.mem_of_getElem? (i := 538) (by decide +kernel)
theorem wl_542 : Cond.static arraycopyName ∈ lw_tbl := by decide +kernel
theorem wl_543 : Cond.native arraycopyName ∈ lw_tbl := by decide +kernel
theorem wl_544 : Cond.methodLink RX0 49 arraycopyName ∈ lw_tbl := by decide +kernel
set_option maxRecDepth 20000 in
theorem wl_545 : Cond.code yX0_copyFrom cX0_copyFrom 2 none ∈ lw_tbl := List.mem_of_getElem? (i := 566) rfl
theorem wl_546 : Cond.selects RX0 yX0_copyFrom yX0_copyFrom ∈ lw_tbl := List.mem_of_getElem? (i := 565) (by decide +kernel)
theorem wl_547 : Cond.instanceMethod yX0_copyFrom ∈ lw_tbl := List.mem_of_getElem? (i := 564) (by decide +kernel)
theorem wl_548 : Cond.methodLink RX5 23 yX0_copyFrom ∈ lw_tbl := List.mem_of_getElem? (i := 563) (by decide +kernel)
set_option maxRecDepth 20000 in
theorem wl_549 : Cond.code yX5_dropOldest cX5_dropOldest 3 none ∈ lw_tbl := List.mem_of_getElem? (i := 562) rfl
theorem wl_550 : Cond.selects RX5 yX5_dropOldest yX5_dropOldest ∈ lw_tbl := by decide +kernel
theorem wl_551 : Cond.instanceMethod yX5_dropOldest ∈ lw_tbl := List.mem_of_getElem? (i := 561) (by decide +kernel)
theorem wl_552 : Cond.methodLink RX5 20 yX5_dropOldest ∈ lw_tbl := List.mem_of_getElem? (i := 559) (by decide +kernel)
theorem wl_553 : Cond.fieldLink RX5 16 "PrisonWeddings$Shelf" "size" "I" ∈ lw_tbl := List.mem_of_getElem? (i := 288) (by decide +kernel)
set_option maxRecDepth 20000 in
theorem wl_554 : Cond.code yX5_put cX5_put 2 none ∈ lw_tbl := List.mem_of_getElem? (i := 558) rfl
theorem wl_555 : Cond.selects RX5 yX5_put yX5_put ∈ lw_tbl := List.mem_of_getElem? (i := 557) (by decide +kernel)
theorem wl_556 : Cond.instanceMethod yX5_put ∈ lw_tbl := List.mem_of_getElem? (i := 556) (by decide +kernel)
theorem wl_557 : Cond.methodLink RX7 175 yX5_put ∈ lw_tbl := List.mem_of_getElem? (i := 555) (by decide +kernel)
set_option maxRecDepth 20000 in
theorem wl_558 : Cond.code yX0_hasRoom cX0_hasRoom 2 (some .boolean) ∈ lw_tbl := List.mem_of_getElem? (i := 554) rfl
theorem wl_559 : Cond.selects RX0 yX0_hasRoom yX0_hasRoom ∈ lw_tbl := List.mem_of_getElem? (i := 553) (by decide +kernel)
theorem wl_560 : Cond.selects RX2 yX2_writeTwo yX2_writeTwo ∈ lw_tbl := List.mem_of_getElem? (i := 582) (by decide +kernel)
theorem wl_561 : Cond.instanceMethod yX2_writeTwo ∈ lw_tbl := List.mem_of_getElem? (i := 581) (by decide +kernel)
theorem wl_562 : Cond.methodLink RX2 118 yX2_writeTwo ∈ lw_tbl := List.mem_of_getElem? (i := 580) (by decide +kernel)
theorem wl_563 : Cond.methodLink RX2 115 yX0_slotOf ∈ lw_tbl := List.mem_of_getElem? (i := 579) (by decide +kernel)
theorem wl_564 : Cond.methodLink RX0 58 yX0_hasRoom ∈ lw_tbl := List.mem_of_getElem? (i := 578) (by decide +kernel)
set_option maxRecDepth 20000 in
theorem wl_565 : Cond.code yX0_begin cX0_begin 4 (some .int) ∈ lw_tbl := List.mem_of_getElem? (i := 577) rfl
theorem wl_566 : Cond.selects RX0 yX0_begin yX0_begin ∈ lw_tbl := List.mem_of_getElem? (i := 576) (by decide +kernel)
theorem wl_567 : Cond.instanceMethod yX0_begin ∈ lw_tbl := List.mem_of_getElem? (i := 575) (by decide +kernel)
theorem wl_568 : Cond.methodLink RX2 112 yX0_begin ∈ lw_tbl := List.mem_of_getElem? (i := 574) (by decide +kernel)
set_option maxRecDepth 20000 in
theorem wl_569 : Cond.code yX2_writeWedding cX2_writeWedding 6 (some .int) ∈ lw_tbl := List.mem_of_getElem? (i := 573) rfl
theorem wl_570 : Cond.selects RX2 yX2_writeWedding yX2_writeWedding ∈ lw_tbl := List.mem_of_getElem? (i := 572) (by decide +kernel)
theorem wl_571 : Cond.instanceMethod yX2_writeWedding ∈ lw_tbl := List.mem_of_getElem? (i := 571) (by decide +kernel)
theorem wl_572 : Cond.methodLink RX7 179 yX2_writeWedding ∈ lw_tbl := List.mem_of_getElem? (i := 570) (by decide +kernel)
theorem wl_573 : Cond.initialized "java/lang/System" ∈ lw_tbl := List.mem_of_getElem? (i := 80) (by decide +kernel)
theorem wl_574 : Cond.methodLink RX2 125 yX3_areTwo ∈ lw_tbl := List.mem_of_getElem? (i := 585) (by decide +kernel)
theorem wl_575 : Cond.methodLink RX2 122 yX0_isLine ∈ lw_tbl := List.mem_of_getElem? (i := 584) (by decide +kernel)
theorem wl_576 : Cond.fieldLink RX2 145 "PrisonWeddings$Books" "written" "[I" ∈ lw_tbl := List.mem_of_getElem? (i := 204) (by decide +kernel)
theorem wl_577 : Cond.fieldLink RX2 142 "PrisonWeddings$Books" "woman" "[I" ∈ lw_tbl := List.mem_of_getElem? (i := 201) (by decide +kernel)
theorem wl_578 : Cond.fieldLink RX2 139 "PrisonWeddings$Books" "man" "[I" ∈ lw_tbl := List.mem_of_getElem? (i := 197) (by decide +kernel)
theorem wl_579 : Cond.fieldLink RX2 136 "PrisonWeddings$Books" "state" "[I" ∈ lw_tbl := List.mem_of_getElem? (i := 189) (by decide +kernel)
theorem wl_580 : Cond.fieldLink RX2 133 "PrisonWeddings$Books" "paid" "[I" ∈ lw_tbl := List.mem_of_getElem? (i := 183) (by decide +kernel)
theorem wl_581 : Cond.code Lib.Math.min.name Lib.Math.min.code 2 (some .int) ∈ lw_tbl := by decide +kernel
theorem wl_582 : Cond.initialized "java/lang/Math" ∈ lw_tbl := List.mem_of_getElem? (i := 81) (by decide +kernel)
theorem wl_583 : Cond.static Lib.Math.min.name ∈ lw_tbl := by decide +kernel
theorem wl_584 : Cond.methodLink RX2 128 Lib.Math.min.name ∈ lw_tbl := by decide +kernel
set_option maxRecDepth 20000 in
theorem wl_585 : Cond.code yX2_writeTwo cX2_writeTwo 9 none ∈ lw_tbl := List.mem_of_getElem? (i := 583) rfl
theorem wl_586 : Cond.methodLink RL 45 yX7_wed ∈ lw_tbl := List.mem_of_getElem? (i := 525) (by decide +kernel)
theorem wl_587 : Cond.instanceMethod yX7_wed ∈ lw_tbl := List.mem_of_getElem? (i := 526) (by decide +kernel)
theorem wl_588 : Cond.selects RX7 yX7_wed yX7_wed ∈ lw_tbl := List.mem_of_getElem? (i := 527) (by decide +kernel)
set_option maxRecDepth 20000 in
theorem wl_589 : Cond.code yX8_wed cX8_wed 4 (some .int) ∈ lw_tbl := List.mem_of_getElem? (i := 1045) rfl
theorem wl_590 : Cond.methodLink RX8 224 yX8_canWed ∈ lw_tbl := List.mem_of_getElem? (i := 1046) (by decide +kernel)
set_option maxRecDepth 20000 in
theorem wl_591 : Cond.code yX8_womanOfTwo cX8_womanOfTwo 3 (some .int) ∈ lw_tbl := List.mem_of_getElem? (i := 1061) rfl
theorem wl_592 : Cond.selects RX8 yX8_womanOfTwo yX8_womanOfTwo ∈ lw_tbl := by decide +kernel
theorem wl_593 : Cond.instanceMethod yX8_womanOfTwo ∈ lw_tbl := List.mem_of_getElem? (i := 1060) (by decide +kernel)
theorem wl_594 : Cond.methodLink RX8 202 yX8_womanOfTwo ∈ lw_tbl := List.mem_of_getElem? (i := 1058) (by decide +kernel)
set_option maxRecDepth 20000 in
theorem wl_595 : Cond.code yX8_manOfTwo cX8_manOfTwo 3 (some .int) ∈ lw_tbl := List.mem_of_getElem? (i := 1057) rfl
theorem wl_596 : Cond.selects RX8 yX8_manOfTwo yX8_manOfTwo ∈ lw_tbl := by decide +kernel
theorem wl_597 : Cond.instanceMethod yX8_manOfTwo ∈ lw_tbl := List.mem_of_getElem? (i := 1056) (by decide +kernel)
theorem wl_598 : Cond.methodLink RX8 199 yX8_manOfTwo ∈ lw_tbl := List.mem_of_getElem? (i := 1054) (by decide +kernel)
set_option maxRecDepth 20000 in
theorem wl_599 : Cond.code yX8_canBeTwo cX8_canBeTwo 5 (some .boolean) ∈ lw_tbl := List.mem_of_getElem? (i := 1053) rfl
theorem wl_600 : Cond.selects RX8 yX8_canBeTwo yX8_canBeTwo ∈ lw_tbl := by decide +kernel
theorem wl_601 : Cond.instanceMethod yX8_canBeTwo ∈ lw_tbl := List.mem_of_getElem? (i := 1052) (by decide +kernel)
theorem wl_602 : Cond.methodLink RX8 205 yX8_canBeTwo ∈ lw_tbl := List.mem_of_getElem? (i := 1050) (by decide +kernel)
set_option maxRecDepth 20000 in
theorem wl_603 : Cond.code yX8_canWed cX8_canWed 4 (some .boolean) ∈ lw_tbl := List.mem_of_getElem? (i := 1049) rfl
theorem wl_604 : Cond.selects RX8 yX8_canWed yX8_canWed ∈ lw_tbl := by decide +kernel
theorem wl_605 : Cond.instanceMethod yX8_canWed ∈ lw_tbl := List.mem_of_getElem? (i := 1048) (by decide +kernel)
set_option maxRecDepth 20000 in
theorem wl_606 : Cond.code yX8_pays cX8_pays 7 none ∈ lw_tbl := List.mem_of_getElem? (i := 1081) rfl
theorem wl_607 : Cond.selects RX8 yX8_pays yX8_pays ∈ lw_tbl := by decide +kernel
theorem wl_608 : Cond.instanceMethod yX8_pays ∈ lw_tbl := List.mem_of_getElem? (i := 1080) (by decide +kernel)
theorem wl_609 : Cond.methodLink RX8 214 yX8_pays ∈ lw_tbl := List.mem_of_getElem? (i := 1078) (by decide +kernel)
set_option maxRecDepth 20000 in
theorem wl_610 : Cond.code yX8_weds cX8_weds 4 none ∈ lw_tbl := List.mem_of_getElem? (i := 1077) rfl
theorem wl_611 : Cond.selects RX8 yX8_weds yX8_weds ∈ lw_tbl := by decide +kernel
theorem wl_612 : Cond.instanceMethod yX8_weds ∈ lw_tbl := List.mem_of_getElem? (i := 1076) (by decide +kernel)
theorem wl_613 : Cond.methodLink RX8 230 yX8_weds ∈ lw_tbl := List.mem_of_getElem? (i := 1074) (by decide +kernel)
set_option maxRecDepth 20000 in
theorem wl_614 : Cond.code yX8_remembers cX8_remembers 2 none ∈ lw_tbl := List.mem_of_getElem? (i := 1073) rfl
theorem wl_615 : Cond.selects RX8 yX8_remembers yX8_remembers ∈ lw_tbl := by decide +kernel
theorem wl_616 : Cond.instanceMethod yX8_remembers ∈ lw_tbl := List.mem_of_getElem? (i := 1072) (by decide +kernel)
theorem wl_617 : Cond.methodLink RX8 227 yX8_remembers ∈ lw_tbl := List.mem_of_getElem? (i := 1070) (by decide +kernel)
set_option maxRecDepth 20000 in
theorem wl_618 : Cond.code yX8_canPay cX8_canPay 4 (some .boolean) ∈ lw_tbl := List.mem_of_getElem? (i := 1069) rfl
theorem wl_619 : Cond.selects RX8 yX8_canPay yX8_canPay ∈ lw_tbl := by decide +kernel
theorem wl_620 : Cond.instanceMethod yX8_canPay ∈ lw_tbl := List.mem_of_getElem? (i := 1068) (by decide +kernel)
theorem wl_621 : Cond.methodLink RX8 211 yX8_canPay ∈ lw_tbl := List.mem_of_getElem? (i := 1066) (by decide +kernel)
set_option maxRecDepth 20000 in
theorem wl_622 : Cond.code yX8_isLaw cX8_isLaw 1 (some .boolean) ∈ lw_tbl := List.mem_of_getElem? (i := 1065) rfl
theorem wl_623 : Cond.selects RX8 yX8_isLaw yX8_isLaw ∈ lw_tbl := by decide +kernel
theorem wl_624 : Cond.instanceMethod yX8_isLaw ∈ lw_tbl := List.mem_of_getElem? (i := 1064) (by decide +kernel)
theorem wl_625 : Cond.methodLink RX8 208 yX8_isLaw ∈ lw_tbl := List.mem_of_getElem? (i := 1062) (by decide +kernel)
set_option maxRecDepth 20000 in
theorem wl_626 : Cond.code yX8_writes cX8_writes 4 none ∈ lw_tbl := List.mem_of_getElem? (i := 1089) rfl
theorem wl_627 : Cond.selects RX8 yX8_writes yX8_writes ∈ lw_tbl := by decide +kernel
theorem wl_628 : Cond.instanceMethod yX8_writes ∈ lw_tbl := List.mem_of_getElem? (i := 1088) (by decide +kernel)
theorem wl_629 : Cond.methodLink RX8 220 yX8_writes ∈ lw_tbl := List.mem_of_getElem? (i := 1086) (by decide +kernel)
set_option maxRecDepth 20000 in
theorem wl_630 : Cond.code yX8_begins cX8_begins 3 (some .int) ∈ lw_tbl := List.mem_of_getElem? (i := 1085) rfl
theorem wl_631 : Cond.selects RX8 yX8_begins yX8_begins ∈ lw_tbl := by decide +kernel
theorem wl_632 : Cond.instanceMethod yX8_begins ∈ lw_tbl := List.mem_of_getElem? (i := 1084) (by decide +kernel)
theorem wl_633 : Cond.methodLink RX8 217 yX8_begins ∈ lw_tbl := List.mem_of_getElem? (i := 1082) (by decide +kernel)
theorem wl_634 : Cond.methodLink RL 48 yX8_wed ∈ lw_tbl := List.mem_of_getElem? (i := 1042) (by decide +kernel)
theorem wl_635 : Cond.instanceMethod yX8_wed ∈ lw_tbl := List.mem_of_getElem? (i := 1043) (by decide +kernel)
theorem wl_636 : Cond.selects RX8 yX8_wed yX8_wed ∈ lw_tbl := List.mem_of_getElem? (i := 1044) (by decide +kernel)
set_option maxRecDepth 20000 in
theorem wl_637 : Cond.code yX7_leave cX7_leave 3 (some .int) ∈ lw_tbl := List.mem_of_getElem? (i := 592) rfl
theorem wl_638 : Cond.fieldLink RX2 106 "PrisonWeddings$Roll" "trade" "[I" ∈ lw_tbl := List.mem_of_getElem? (i := 135) (by decide +kernel)
set_option maxRecDepth 20000 in
theorem wl_639 : Cond.code yX2_refuseBlank cX2_refuseBlank 2 (some .int) ∈ lw_tbl := List.mem_of_getElem? (i := 596) rfl
theorem wl_640 : Cond.selects RX2 yX2_refuseBlank yX2_refuseBlank ∈ lw_tbl := List.mem_of_getElem? (i := 595) (by decide +kernel)
theorem wl_641 : Cond.instanceMethod yX2_refuseBlank ∈ lw_tbl := List.mem_of_getElem? (i := 594) (by decide +kernel)
theorem wl_642 : Cond.methodLink RX7 182 yX2_refuseBlank ∈ lw_tbl := List.mem_of_getElem? (i := 593) (by decide +kernel)
theorem wl_643 : Cond.methodLink RX2 109 yX0_blanksOf ∈ lw_tbl := List.mem_of_getElem? (i := 597) (by decide +kernel)
theorem wl_644 : Cond.methodLink RX7 185 yX0_begin ∈ lw_tbl := List.mem_of_getElem? (i := 598) (by decide +kernel)
theorem wl_645 : Cond.methodLink RL 49 yX7_leave ∈ lw_tbl := List.mem_of_getElem? (i := 589) (by decide +kernel)
theorem wl_646 : Cond.instanceMethod yX7_leave ∈ lw_tbl := List.mem_of_getElem? (i := 590) (by decide +kernel)
theorem wl_647 : Cond.selects RX7 yX7_leave yX7_leave ∈ lw_tbl := List.mem_of_getElem? (i := 591) (by decide +kernel)
set_option maxRecDepth 20000 in
theorem wl_648 : Cond.code yX8_leave cX8_leave 3 (some .int) ∈ lw_tbl := List.mem_of_getElem? (i := 1093) rfl
set_option maxRecDepth 20000 in
theorem wl_649 : Cond.code yX8_canLeave cX8_canLeave 3 (some .boolean) ∈ lw_tbl := List.mem_of_getElem? (i := 1097) rfl
theorem wl_650 : Cond.selects RX8 yX8_canLeave yX8_canLeave ∈ lw_tbl := by decide +kernel
theorem wl_651 : Cond.instanceMethod yX8_canLeave ∈ lw_tbl := List.mem_of_getElem? (i := 1096) (by decide +kernel)
theorem wl_652 : Cond.methodLink RX8 233 yX8_canLeave ∈ lw_tbl := List.mem_of_getElem? (i := 1094) (by decide +kernel)
theorem wl_653 : Cond.methodLink RL 52 yX8_leave ∈ lw_tbl := List.mem_of_getElem? (i := 1090) (by decide +kernel)
theorem wl_654 : Cond.instanceMethod yX8_leave ∈ lw_tbl := List.mem_of_getElem? (i := 1091) (by decide +kernel)
theorem wl_655 : Cond.selects RX8 yX8_leave yX8_leave ∈ lw_tbl := List.mem_of_getElem? (i := 1092) (by decide +kernel)
set_option maxRecDepth 20000 in
theorem wl_656 : Cond.code yX7_fill cX7_fill 7 (some .int) ∈ lw_tbl := List.mem_of_getElem? (i := 602) rfl
theorem wl_657 : Cond.methodLink RX7 188 yX3_canPair ∈ lw_tbl := List.mem_of_getElem? (i := 603) (by decide +kernel)
theorem wl_658 : Cond.methodLink RX7 194 yX2_canPay ∈ lw_tbl := List.mem_of_getElem? (i := 608) (by decide +kernel)
theorem wl_659 : Cond.fieldLink RX2 148 "PrisonWeddings$Books" "begun" "[I" ∈ lw_tbl := List.mem_of_getElem? (i := 193) (by decide +kernel)
set_option maxRecDepth 20000 in
theorem wl_660 : Cond.code yX2_costToFill cX2_costToFill 4 (some .int) ∈ lw_tbl := List.mem_of_getElem? (i := 607) rfl
theorem wl_661 : Cond.selects RX2 yX2_costToFill yX2_costToFill ∈ lw_tbl := List.mem_of_getElem? (i := 606) (by decide +kernel)
theorem wl_662 : Cond.instanceMethod yX2_costToFill ∈ lw_tbl := List.mem_of_getElem? (i := 605) (by decide +kernel)
theorem wl_663 : Cond.methodLink RX7 191 yX2_costToFill ∈ lw_tbl := List.mem_of_getElem? (i := 604) (by decide +kernel)
theorem wl_664 : Cond.methodLink RX7 198 yX2_writeTwo ∈ lw_tbl := List.mem_of_getElem? (i := 609) (by decide +kernel)
theorem wl_665 : Cond.methodLink RL 53 yX7_fill ∈ lw_tbl := List.mem_of_getElem? (i := 599) (by decide +kernel)
theorem wl_666 : Cond.instanceMethod yX7_fill ∈ lw_tbl := List.mem_of_getElem? (i := 600) (by decide +kernel)
theorem wl_667 : Cond.selects RX7 yX7_fill yX7_fill ∈ lw_tbl := List.mem_of_getElem? (i := 601) (by decide +kernel)
set_option maxRecDepth 20000 in
theorem wl_668 : Cond.code yX8_fill cX8_fill 7 (some .int) ∈ lw_tbl := List.mem_of_getElem? (i := 1101) rfl
set_option maxRecDepth 20000 in
theorem wl_669 : Cond.code yX8_costOf cX8_costOf 4 (some .int) ∈ lw_tbl := List.mem_of_getElem? (i := 1105) rfl
theorem wl_670 : Cond.selects RX8 yX8_costOf yX8_costOf ∈ lw_tbl := by decide +kernel
theorem wl_671 : Cond.instanceMethod yX8_costOf ∈ lw_tbl := List.mem_of_getElem? (i := 1104) (by decide +kernel)
theorem wl_672 : Cond.methodLink RX8 236 yX8_costOf ∈ lw_tbl := List.mem_of_getElem? (i := 1102) (by decide +kernel)
theorem wl_673 : Cond.methodLink RL 57 yX8_fill ∈ lw_tbl := List.mem_of_getElem? (i := 1098) (by decide +kernel)
theorem wl_674 : Cond.instanceMethod yX8_fill ∈ lw_tbl := List.mem_of_getElem? (i := 1099) (by decide +kernel)
theorem wl_675 : Cond.selects RX8 yX8_fill yX8_fill ∈ lw_tbl := List.mem_of_getElem? (i := 1100) (by decide +kernel)
set_option maxRecDepth 20000 in
theorem wl_676 : Cond.code yX7_strike cX7_strike 4 (some .int) ∈ lw_tbl := List.mem_of_getElem? (i := 613) rfl
set_option maxRecDepth 20000 in
theorem wl_677 : Cond.code yX2_countHeld cX2_countHeld 3 (some .int) ∈ lw_tbl := List.mem_of_getElem? (i := 617) rfl
theorem wl_678 : Cond.selects RX2 yX2_countHeld yX2_countHeld ∈ lw_tbl := List.mem_of_getElem? (i := 616) (by decide +kernel)
theorem wl_679 : Cond.instanceMethod yX2_countHeld ∈ lw_tbl := List.mem_of_getElem? (i := 615) (by decide +kernel)
theorem wl_680 : Cond.methodLink RX7 202 yX2_countHeld ∈ lw_tbl := List.mem_of_getElem? (i := 614) (by decide +kernel)
theorem wl_681 : Cond.methodLink RL 58 yX7_strike ∈ lw_tbl := List.mem_of_getElem? (i := 610) (by decide +kernel)
theorem wl_682 : Cond.instanceMethod yX7_strike ∈ lw_tbl := List.mem_of_getElem? (i := 611) (by decide +kernel)
theorem wl_683 : Cond.selects RX7 yX7_strike yX7_strike ∈ lw_tbl := List.mem_of_getElem? (i := 612) (by decide +kernel)
set_option maxRecDepth 20000 in
theorem wl_684 : Cond.code yX8_strike cX8_strike 4 (some .int) ∈ lw_tbl := List.mem_of_getElem? (i := 1109) rfl
set_option maxRecDepth 20000 in
theorem wl_685 : Cond.code yX8_manyHold cX8_manyHold 3 (some .int) ∈ lw_tbl := List.mem_of_getElem? (i := 1113) rfl
theorem wl_686 : Cond.selects RX8 yX8_manyHold yX8_manyHold ∈ lw_tbl := by decide +kernel
theorem wl_687 : Cond.instanceMethod yX8_manyHold ∈ lw_tbl := List.mem_of_getElem? (i := 1112) (by decide +kernel)
theorem wl_688 : Cond.methodLink RX8 239 yX8_manyHold ∈ lw_tbl := List.mem_of_getElem? (i := 1110) (by decide +kernel)
theorem wl_689 : Cond.methodLink RL 61 yX8_strike ∈ lw_tbl := List.mem_of_getElem? (i := 1106) (by decide +kernel)
theorem wl_690 : Cond.instanceMethod yX8_strike ∈ lw_tbl := List.mem_of_getElem? (i := 1107) (by decide +kernel)
theorem wl_691 : Cond.selects RX8 yX8_strike yX8_strike ∈ lw_tbl := List.mem_of_getElem? (i := 1108) (by decide +kernel)
set_option maxRecDepth 20000 in
theorem wl_692 : Cond.code yX7_pass cX7_pass 2 (some .int) ∈ lw_tbl := List.mem_of_getElem? (i := 621) rfl
theorem wl_693 : Cond.fieldLink RX7 205 "PrisonWeddings$Books" "day" "I" ∈ lw_tbl := List.mem_of_getElem? (i := 177) (by decide +kernel)
theorem wl_694 : Cond.methodLink RL 62 yX7_pass ∈ lw_tbl := List.mem_of_getElem? (i := 618) (by decide +kernel)
theorem wl_695 : Cond.instanceMethod yX7_pass ∈ lw_tbl := List.mem_of_getElem? (i := 619) (by decide +kernel)
theorem wl_696 : Cond.selects RX7 yX7_pass yX7_pass ∈ lw_tbl := List.mem_of_getElem? (i := 620) (by decide +kernel)
set_option maxRecDepth 20000 in
theorem wl_697 : Cond.code yX8_pass cX8_pass 2 (some .int) ∈ lw_tbl := List.mem_of_getElem? (i := 1117) rfl
theorem wl_698 : Cond.methodLink RL 65 yX8_pass ∈ lw_tbl := List.mem_of_getElem? (i := 1114) (by decide +kernel)
theorem wl_699 : Cond.instanceMethod yX8_pass ∈ lw_tbl := List.mem_of_getElem? (i := 1115) (by decide +kernel)
theorem wl_700 : Cond.selects RX8 yX8_pass yX8_pass ∈ lw_tbl := List.mem_of_getElem? (i := 1116) (by decide +kernel)
set_option maxRecDepth 20000 in
theorem wl_701 : Cond.code yX7_undo cX7_undo 1 (some .int) ∈ lw_tbl := List.mem_of_getElem? (i := 625) rfl
set_option maxRecDepth 20000 in
theorem wl_702 : Cond.code yX5_takeInto cX5_takeInto 2 (some .boolean) ∈ lw_tbl := List.mem_of_getElem? (i := 629) rfl
theorem wl_703 : Cond.selects RX5 yX5_takeInto yX5_takeInto ∈ lw_tbl := List.mem_of_getElem? (i := 628) (by decide +kernel)
theorem wl_704 : Cond.instanceMethod yX5_takeInto ∈ lw_tbl := List.mem_of_getElem? (i := 627) (by decide +kernel)
theorem wl_705 : Cond.methodLink RX7 208 yX5_takeInto ∈ lw_tbl := List.mem_of_getElem? (i := 626) (by decide +kernel)
theorem wl_706 : Cond.methodLink RL 66 yX7_undo ∈ lw_tbl := List.mem_of_getElem? (i := 622) (by decide +kernel)
theorem wl_707 : Cond.instanceMethod yX7_undo ∈ lw_tbl := List.mem_of_getElem? (i := 623) (by decide +kernel)
theorem wl_708 : Cond.selects RX7 yX7_undo yX7_undo ∈ lw_tbl := List.mem_of_getElem? (i := 624) (by decide +kernel)
set_option maxRecDepth 20000 in
theorem wl_709 : Cond.code yX8_undo cX8_undo 1 (some .int) ∈ lw_tbl := List.mem_of_getElem? (i := 1121) rfl
theorem wl_710 : Cond.methodLink RL 69 yX8_undo ∈ lw_tbl := List.mem_of_getElem? (i := 1118) (by decide +kernel)
theorem wl_711 : Cond.instanceMethod yX8_undo ∈ lw_tbl := List.mem_of_getElem? (i := 1119) (by decide +kernel)
theorem wl_712 : Cond.selects RX8 yX8_undo yX8_undo ∈ lw_tbl := List.mem_of_getElem? (i := 1120) (by decide +kernel)
set_option maxRecDepth 20000 in
theorem wl_713 : Cond.code yX7_mate cX7_mate 3 (some .int) ∈ lw_tbl := List.mem_of_getElem? (i := 633) rfl
theorem wl_714 : Cond.methodLink RX7 215 yX2_mateBy ∈ lw_tbl := List.mem_of_getElem? (i := 637) (by decide +kernel)
set_option maxRecDepth 20000 in
theorem wl_715 : Cond.code yX7_isDay cX7_isDay 1 (some .boolean) ∈ lw_tbl := List.mem_of_getElem? (i := 636) rfl
theorem wl_716 : Cond.static yX7_isDay ∈ lw_tbl := List.mem_of_getElem? (i := 635) (by decide +kernel)
theorem wl_717 : Cond.methodLink RX7 212 yX7_isDay ∈ lw_tbl := List.mem_of_getElem? (i := 634) (by decide +kernel)
theorem wl_718 : Cond.methodLink RL 70 yX7_mate ∈ lw_tbl := List.mem_of_getElem? (i := 630) (by decide +kernel)
theorem wl_719 : Cond.instanceMethod yX7_mate ∈ lw_tbl := List.mem_of_getElem? (i := 631) (by decide +kernel)
theorem wl_720 : Cond.selects RX7 yX7_mate yX7_mate ∈ lw_tbl := List.mem_of_getElem? (i := 632) (by decide +kernel)
set_option maxRecDepth 20000 in
theorem wl_721 : Cond.code yX8_mate cX8_mate 3 (some .int) ∈ lw_tbl := List.mem_of_getElem? (i := 1125) rfl
theorem wl_722 : Cond.methodLink RL 73 yX8_mate ∈ lw_tbl := List.mem_of_getElem? (i := 1122) (by decide +kernel)
theorem wl_723 : Cond.instanceMethod yX8_mate ∈ lw_tbl := List.mem_of_getElem? (i := 1123) (by decide +kernel)
theorem wl_724 : Cond.selects RX8 yX8_mate yX8_mate ∈ lw_tbl := List.mem_of_getElem? (i := 1124) (by decide +kernel)
set_option maxRecDepth 20000 in
theorem wl_725 : Cond.code yX7_twice cX7_twice 3 (some .int) ∈ lw_tbl := List.mem_of_getElem? (i := 641) rfl
theorem wl_726 : Cond.methodLink RL 74 yX7_twice ∈ lw_tbl := List.mem_of_getElem? (i := 638) (by decide +kernel)
theorem wl_727 : Cond.instanceMethod yX7_twice ∈ lw_tbl := List.mem_of_getElem? (i := 639) (by decide +kernel)
theorem wl_728 : Cond.selects RX7 yX7_twice yX7_twice ∈ lw_tbl := List.mem_of_getElem? (i := 640) (by decide +kernel)
set_option maxRecDepth 20000 in
theorem wl_729 : Cond.code yX8_twice cX8_twice 3 (some .int) ∈ lw_tbl := List.mem_of_getElem? (i := 1129) rfl
theorem wl_730 : Cond.methodLink RL 77 yX8_twice ∈ lw_tbl := List.mem_of_getElem? (i := 1126) (by decide +kernel)
theorem wl_731 : Cond.instanceMethod yX8_twice ∈ lw_tbl := List.mem_of_getElem? (i := 1127) (by decide +kernel)
theorem wl_732 : Cond.selects RX8 yX8_twice yX8_twice ∈ lw_tbl := List.mem_of_getElem? (i := 1128) (by decide +kernel)
set_option maxRecDepth 20000 in
theorem wl_733 : Cond.code yX7_falseOnes cX7_falseOnes 1 (some .int) ∈ lw_tbl := List.mem_of_getElem? (i := 645) rfl
set_option maxRecDepth 20000 in
theorem wl_734 : Cond.code yX2_linkPersons cX2_linkPersons 2 none ∈ lw_tbl := List.mem_of_getElem? (i := 657) rfl
theorem wl_735 : Cond.selects RX2 yX2_linkPersons yX2_linkPersons ∈ lw_tbl := by decide +kernel
theorem wl_736 : Cond.instanceMethod yX2_linkPersons ∈ lw_tbl := List.mem_of_getElem? (i := 656) (by decide +kernel)
theorem wl_737 : Cond.methodLink RX2 164 yX2_linkPersons ∈ lw_tbl := List.mem_of_getElem? (i := 654) (by decide +kernel)
set_option maxRecDepth 20000 in
theorem wl_738 : Cond.code yX2_mostLinesApart cX2_mostLinesApart 4 (some .int) ∈ lw_tbl := List.mem_of_getElem? (i := 653) rfl
theorem wl_739 : Cond.selects RX2 yX2_mostLinesApart yX2_mostLinesApart ∈ lw_tbl := List.mem_of_getElem? (i := 652) (by decide +kernel)
theorem wl_740 : Cond.instanceMethod yX2_mostLinesApart ∈ lw_tbl := List.mem_of_getElem? (i := 651) (by decide +kernel)
theorem wl_741 : Cond.methodLink RX7 221 yX2_mostLinesApart ∈ lw_tbl := List.mem_of_getElem? (i := 650) (by decide +kernel)
set_option maxRecDepth 20000 in
theorem wl_742 : Cond.code yX0_countOf cX0_countOf 4 (some .int) ∈ lw_tbl := List.mem_of_getElem? (i := 649) rfl
theorem wl_743 : Cond.selects RX0 yX0_countOf yX0_countOf ∈ lw_tbl := List.mem_of_getElem? (i := 648) (by decide +kernel)
theorem wl_744 : Cond.instanceMethod yX0_countOf ∈ lw_tbl := List.mem_of_getElem? (i := 647) (by decide +kernel)
theorem wl_745 : Cond.methodLink RX7 218 yX0_countOf ∈ lw_tbl := List.mem_of_getElem? (i := 646) (by decide +kernel)
set_option maxRecDepth 20000 in
theorem wl_746 : Cond.code yX2_isInEveryLine cX2_isInEveryLine 3 (some .boolean) ∈ lw_tbl := List.mem_of_getElem? (i := 668) rfl
theorem wl_747 : Cond.selects RX2 yX2_isInEveryLine yX2_isInEveryLine ∈ lw_tbl := by decide +kernel
theorem wl_748 : Cond.instanceMethod yX2_isInEveryLine ∈ lw_tbl := List.mem_of_getElem? (i := 667) (by decide +kernel)
theorem wl_749 : Cond.methodLink RX2 172 yX2_isInEveryLine ∈ lw_tbl := List.mem_of_getElem? (i := 665) (by decide +kernel)
theorem wl_750 : Cond.constant RJ6 267 (252645135) ∈ lw_tbl := List.mem_of_getElem? (i := 664) (by decide +kernel)
theorem wl_751 : Cond.constant RJ6 266 (858993459) ∈ lw_tbl := List.mem_of_getElem? (i := 663) (by decide +kernel)
theorem wl_752 : Cond.constant RJ6 265 (1431655765) ∈ lw_tbl := List.mem_of_getElem? (i := 662) (by decide +kernel)
set_option maxRecDepth 20000 in
theorem wl_753 : Cond.code yJ6_bitCount_0f7a4 cJ6_bitCount_0f7a4 1 (some .int) ∈ lw_tbl := List.mem_of_getElem? (i := 661) rfl
theorem wl_754 : Cond.initialized RJ6 ∈ lw_tbl := List.mem_of_getElem? (i := 82) (by decide +kernel)
theorem wl_755 : Cond.static yJ6_bitCount_0f7a4 ∈ lw_tbl := List.mem_of_getElem? (i := 660) (by decide +kernel)
theorem wl_756 : Cond.methodLink RX2 167 yJ6_bitCount_0f7a4 ∈ lw_tbl := List.mem_of_getElem? (i := 659) (by decide +kernel)
theorem wl_757 : Cond.methodLink RX2 175 yX0_isOfTwo ∈ lw_tbl := List.mem_of_getElem? (i := 658) (by decide +kernel)
theorem wl_758 : Cond.methodLink RL 78 yX7_falseOnes ∈ lw_tbl := List.mem_of_getElem? (i := 642) (by decide +kernel)
theorem wl_759 : Cond.instanceMethod yX7_falseOnes ∈ lw_tbl := List.mem_of_getElem? (i := 643) (by decide +kernel)
theorem wl_760 : Cond.selects RX7 yX7_falseOnes yX7_falseOnes ∈ lw_tbl := List.mem_of_getElem? (i := 644) (by decide +kernel)
set_option maxRecDepth 20000 in
theorem wl_761 : Cond.code yX8_falseOnes cX8_falseOnes 6 (some .int) ∈ lw_tbl := List.mem_of_getElem? (i := 1133) rfl
theorem wl_762 : Cond.methodLink RL 81 yX8_falseOnes ∈ lw_tbl := List.mem_of_getElem? (i := 1130) (by decide +kernel)
theorem wl_763 : Cond.instanceMethod yX8_falseOnes ∈ lw_tbl := List.mem_of_getElem? (i := 1131) (by decide +kernel)
theorem wl_764 : Cond.selects RX8 yX8_falseOnes yX8_falseOnes ∈ lw_tbl := List.mem_of_getElem? (i := 1132) (by decide +kernel)
set_option maxRecDepth 20000 in
theorem wl_765 : Cond.code yX7_date cX7_date 5 (some .int) ∈ lw_tbl := List.mem_of_getElem? (i := 672) rfl
set_option maxRecDepth 20000 in
theorem wl_766 : Cond.code yX2_cheapestLine cX2_cheapestLine 7 (some .int) ∈ lw_tbl := List.mem_of_getElem? (i := 679) rfl
theorem wl_767 : Cond.selects RX2 yX2_cheapestLine yX2_cheapestLine ∈ lw_tbl := List.mem_of_getElem? (i := 678) (by decide +kernel)
theorem wl_768 : Cond.instanceMethod yX2_cheapestLine ∈ lw_tbl := List.mem_of_getElem? (i := 677) (by decide +kernel)
theorem wl_769 : Cond.methodLink RX7 227 yX2_cheapestLine ∈ lw_tbl := List.mem_of_getElem? (i := 676) (by decide +kernel)
set_option maxRecDepth 20000 in
theorem wl_770 : Cond.code yX7_isPart cX7_isPart 1 (some .boolean) ∈ lw_tbl := List.mem_of_getElem? (i := 675) rfl
theorem wl_771 : Cond.static yX7_isPart ∈ lw_tbl := List.mem_of_getElem? (i := 674) (by decide +kernel)
theorem wl_772 : Cond.methodLink RX7 224 yX7_isPart ∈ lw_tbl := List.mem_of_getElem? (i := 673) (by decide +kernel)
theorem wl_773 : Cond.methodLink RX2 151 yX2_costToFill ∈ lw_tbl := List.mem_of_getElem? (i := 684) (by decide +kernel)
set_option maxRecDepth 20000 in
theorem wl_774 : Cond.code yX2_costOfLine cX2_costOfLine 4 (some .int) ∈ lw_tbl := List.mem_of_getElem? (i := 683) rfl
theorem wl_775 : Cond.selects RX2 yX2_costOfLine yX2_costOfLine ∈ lw_tbl := List.mem_of_getElem? (i := 682) (by decide +kernel)
theorem wl_776 : Cond.instanceMethod yX2_costOfLine ∈ lw_tbl := List.mem_of_getElem? (i := 681) (by decide +kernel)
theorem wl_777 : Cond.methodLink RX2 154 yX2_costOfLine ∈ lw_tbl := List.mem_of_getElem? (i := 680) (by decide +kernel)
theorem wl_778 : Cond.methodLink RX7 230 yX2_costOfLine ∈ lw_tbl := List.mem_of_getElem? (i := 685) (by decide +kernel)
theorem wl_779 : Cond.methodLink RL 82 yX7_date ∈ lw_tbl := List.mem_of_getElem? (i := 669) (by decide +kernel)
theorem wl_780 : Cond.instanceMethod yX7_date ∈ lw_tbl := List.mem_of_getElem? (i := 670) (by decide +kernel)
theorem wl_781 : Cond.selects RX7 yX7_date yX7_date ∈ lw_tbl := List.mem_of_getElem? (i := 671) (by decide +kernel)
set_option maxRecDepth 20000 in
theorem wl_782 : Cond.code yX8_date cX8_date 9 (some .int) ∈ lw_tbl := List.mem_of_getElem? (i := 1137) rfl
theorem wl_783 : Cond.methodLink RL 85 yX8_date ∈ lw_tbl := List.mem_of_getElem? (i := 1134) (by decide +kernel)
theorem wl_784 : Cond.instanceMethod yX8_date ∈ lw_tbl := List.mem_of_getElem? (i := 1135) (by decide +kernel)
theorem wl_785 : Cond.selects RX8 yX8_date yX8_date ∈ lw_tbl := List.mem_of_getElem? (i := 1136) (by decide +kernel)
set_option maxRecDepth 20000 in
theorem wl_786 : Cond.code yX7_look cX7_look 3 (some .int) ∈ lw_tbl := List.mem_of_getElem? (i := 689) rfl
set_option maxRecDepth 20000 in
theorem wl_787 : Cond.code yX2_booksThatHold cX2_booksThatHold 3 (some .int) ∈ lw_tbl := List.mem_of_getElem? (i := 693) rfl
theorem wl_788 : Cond.selects RX2 yX2_booksThatHold yX2_booksThatHold ∈ lw_tbl := List.mem_of_getElem? (i := 692) (by decide +kernel)
theorem wl_789 : Cond.instanceMethod yX2_booksThatHold ∈ lw_tbl := List.mem_of_getElem? (i := 691) (by decide +kernel)
theorem wl_790 : Cond.methodLink RX7 233 yX2_booksThatHold ∈ lw_tbl := List.mem_of_getElem? (i := 690) (by decide +kernel)
theorem wl_791 : Cond.methodLink RX7 236 yJ6_bitCount_0f7a4 ∈ lw_tbl := List.mem_of_getElem? (i := 694) (by decide +kernel)
theorem wl_792 : Cond.methodLink RL 86 yX7_look ∈ lw_tbl := List.mem_of_getElem? (i := 686) (by decide +kernel)
theorem wl_793 : Cond.instanceMethod yX7_look ∈ lw_tbl := List.mem_of_getElem? (i := 687) (by decide +kernel)
theorem wl_794 : Cond.selects RX7 yX7_look yX7_look ∈ lw_tbl := List.mem_of_getElem? (i := 688) (by decide +kernel)
set_option maxRecDepth 20000 in
theorem wl_795 : Cond.code yX8_look cX8_look 7 (some .int) ∈ lw_tbl := List.mem_of_getElem? (i := 1141) rfl
theorem wl_796 : Cond.methodLink RL 89 yX8_look ∈ lw_tbl := List.mem_of_getElem? (i := 1138) (by decide +kernel)
theorem wl_797 : Cond.instanceMethod yX8_look ∈ lw_tbl := List.mem_of_getElem? (i := 1139) (by decide +kernel)
theorem wl_798 : Cond.selects RX8 yX8_look yX8_look ∈ lw_tbl := List.mem_of_getElem? (i := 1140) (by decide +kernel)
set_option maxRecDepth 20000 in
theorem wl_799 : Cond.code yX7_can cX7_can 4 (some .int) ∈ lw_tbl := List.mem_of_getElem? (i := 698) rfl
theorem wl_800 : Cond.methodLink RX2 160 yX2_refuseWedding ∈ lw_tbl := List.mem_of_getElem? (i := 703) (by decide +kernel)
theorem wl_801 : Cond.fieldLink RX2 157 "PrisonWeddings$Roll" "parsons" "I" ∈ lw_tbl := List.mem_of_getElem? (i := 118) (by decide +kernel)
set_option maxRecDepth 20000 in
theorem wl_802 : Cond.code yX2_canWedSomewhere cX2_canWedSomewhere 4 (some .boolean) ∈ lw_tbl := List.mem_of_getElem? (i := 702) rfl
theorem wl_803 : Cond.selects RX2 yX2_canWedSomewhere yX2_canWedSomewhere ∈ lw_tbl := List.mem_of_getElem? (i := 701) (by decide +kernel)
theorem wl_804 : Cond.instanceMethod yX2_canWedSomewhere ∈ lw_tbl := List.mem_of_getElem? (i := 700) (by decide +kernel)
theorem wl_805 : Cond.methodLink RX7 241 yX2_canWedSomewhere ∈ lw_tbl := List.mem_of_getElem? (i := 699) (by decide +kernel)
theorem wl_806 : Cond.methodLink RL 90 yX7_can ∈ lw_tbl := List.mem_of_getElem? (i := 695) (by decide +kernel)
theorem wl_807 : Cond.instanceMethod yX7_can ∈ lw_tbl := List.mem_of_getElem? (i := 696) (by decide +kernel)
theorem wl_808 : Cond.selects RX7 yX7_can yX7_can ∈ lw_tbl := List.mem_of_getElem? (i := 697) (by decide +kernel)
set_option maxRecDepth 20000 in
theorem wl_809 : Cond.code yX8_can cX8_can 5 (some .int) ∈ lw_tbl := List.mem_of_getElem? (i := 1145) rfl
theorem wl_810 : Cond.methodLink RL 93 yX8_can ∈ lw_tbl := List.mem_of_getElem? (i := 1142) (by decide +kernel)
theorem wl_811 : Cond.instanceMethod yX8_can ∈ lw_tbl := List.mem_of_getElem? (i := 1143) (by decide +kernel)
theorem wl_812 : Cond.selects RX8 yX8_can yX8_can ∈ lw_tbl := List.mem_of_getElem? (i := 1144) (by decide +kernel)
set_option maxRecDepth 20000 in
theorem wl_813 : Cond.code yX7_see cX7_see 5 (some .int) ∈ lw_tbl := List.mem_of_getElem? (i := 707) rfl
theorem wl_814 : Cond.fieldLink RX6 25 "PrisonWeddings$Sights" "size" "I" ∈ lw_tbl := List.mem_of_getElem? (i := 261) (by decide +kernel)
set_option maxRecDepth 20000 in
theorem wl_815 : Cond.code yX6_add cX6_add 5 (some .boolean) ∈ lw_tbl := List.mem_of_getElem? (i := 711) rfl
theorem wl_816 : Cond.selects RX6 yX6_add yX6_add ∈ lw_tbl := List.mem_of_getElem? (i := 710) (by decide +kernel)
theorem wl_817 : Cond.instanceMethod yX6_add ∈ lw_tbl := List.mem_of_getElem? (i := 709) (by decide +kernel)
theorem wl_818 : Cond.methodLink RX7 244 yX6_add ∈ lw_tbl := List.mem_of_getElem? (i := 708) (by decide +kernel)
theorem wl_819 : Cond.methodLink RL 94 yX7_see ∈ lw_tbl := List.mem_of_getElem? (i := 704) (by decide +kernel)
theorem wl_820 : Cond.instanceMethod yX7_see ∈ lw_tbl := List.mem_of_getElem? (i := 705) (by decide +kernel)
theorem wl_821 : Cond.selects RX7 yX7_see yX7_see ∈ lw_tbl := List.mem_of_getElem? (i := 706) (by decide +kernel)
set_option maxRecDepth 20000 in
theorem wl_822 : Cond.code yX8_see cX8_see 5 (some .int) ∈ lw_tbl := List.mem_of_getElem? (i := 1149) rfl
theorem wl_823 : Cond.methodLink RL 98 yX8_see ∈ lw_tbl := List.mem_of_getElem? (i := 1146) (by decide +kernel)
theorem wl_824 : Cond.instanceMethod yX8_see ∈ lw_tbl := List.mem_of_getElem? (i := 1147) (by decide +kernel)
theorem wl_825 : Cond.selects RX8 yX8_see yX8_see ∈ lw_tbl := List.mem_of_getElem? (i := 1148) (by decide +kernel)
set_option maxRecDepth 20000 in
theorem wl_826 : Cond.code yX7_forget cX7_forget 2 (some .int) ∈ lw_tbl := List.mem_of_getElem? (i := 715) rfl
theorem wl_827 : Cond.methodLink RL 99 yX7_forget ∈ lw_tbl := List.mem_of_getElem? (i := 712) (by decide +kernel)
theorem wl_828 : Cond.instanceMethod yX7_forget ∈ lw_tbl := List.mem_of_getElem? (i := 713) (by decide +kernel)
theorem wl_829 : Cond.selects RX7 yX7_forget yX7_forget ∈ lw_tbl := List.mem_of_getElem? (i := 714) (by decide +kernel)
set_option maxRecDepth 20000 in
theorem wl_830 : Cond.code yX8_forget cX8_forget 2 (some .int) ∈ lw_tbl := List.mem_of_getElem? (i := 1153) rfl
theorem wl_831 : Cond.methodLink RL 102 yX8_forget ∈ lw_tbl := List.mem_of_getElem? (i := 1150) (by decide +kernel)
theorem wl_832 : Cond.instanceMethod yX8_forget ∈ lw_tbl := List.mem_of_getElem? (i := 1151) (by decide +kernel)
theorem wl_833 : Cond.selects RX8 yX8_forget yX8_forget ∈ lw_tbl := List.mem_of_getElem? (i := 1152) (by decide +kernel)
set_option maxRecDepth 20000 in
theorem wl_834 : Cond.code yX7_trueBy cX7_trueBy 5 (some .int) ∈ lw_tbl := List.mem_of_getElem? (i := 719) rfl
theorem wl_835 : Cond.methodLink RX7 257 yX1_settle ∈ lw_tbl := List.mem_of_getElem? (i := 725) (by decide +kernel)
theorem wl_836 : Cond.fieldLink RX7 253 "PrisonWeddings$House" "holdings" "LPrisonWeddings$Holdings;" ∈ lw_tbl := List.mem_of_getElem? (i := 244) (by decide +kernel)
set_option maxRecDepth 20000 in
theorem wl_837 : Cond.code yX7_isSeenWithout cX7_isSeenWithout 2 (some .boolean) ∈ lw_tbl := List.mem_of_getElem? (i := 724) rfl
theorem wl_838 : Cond.selects RX7 yX7_isSeenWithout yX7_isSeenWithout ∈ lw_tbl := by decide +kernel
theorem wl_839 : Cond.instanceMethod yX7_isSeenWithout ∈ lw_tbl := List.mem_of_getElem? (i := 723) (by decide +kernel)
theorem wl_840 : Cond.methodLink RX7 250 yX7_isSeenWithout ∈ lw_tbl := List.mem_of_getElem? (i := 721) (by decide +kernel)
theorem wl_841 : Cond.methodLink RX7 247 yX0_isOfTwo ∈ lw_tbl := List.mem_of_getElem? (i := 720) (by decide +kernel)
theorem wl_842 : Cond.methodLink RX6 29 yX1_mateOf ∈ lw_tbl := List.mem_of_getElem? (i := 730) (by decide +kernel)
set_option maxRecDepth 20000 in
theorem wl_843 : Cond.code yX6_areSo cX6_areSo 3 (some .boolean) ∈ lw_tbl := List.mem_of_getElem? (i := 729) rfl
theorem wl_844 : Cond.selects RX6 yX6_areSo yX6_areSo ∈ lw_tbl := List.mem_of_getElem? (i := 728) (by decide +kernel)
theorem wl_845 : Cond.instanceMethod yX6_areSo ∈ lw_tbl := List.mem_of_getElem? (i := 727) (by decide +kernel)
theorem wl_846 : Cond.methodLink RX7 262 yX6_areSo ∈ lw_tbl := List.mem_of_getElem? (i := 726) (by decide +kernel)
theorem wl_847 : Cond.methodLink RL 103 yX7_trueBy ∈ lw_tbl := List.mem_of_getElem? (i := 716) (by decide +kernel)
theorem wl_848 : Cond.instanceMethod yX7_trueBy ∈ lw_tbl := List.mem_of_getElem? (i := 717) (by decide +kernel)
theorem wl_849 : Cond.selects RX7 yX7_trueBy yX7_trueBy ∈ lw_tbl := List.mem_of_getElem? (i := 718) (by decide +kernel)
set_option maxRecDepth 20000 in
theorem wl_850 : Cond.code yX8_trueBy cX8_trueBy 7 (some .int) ∈ lw_tbl := List.mem_of_getElem? (i := 1157) rfl
set_option maxRecDepth 20000 in
theorem wl_851 : Cond.code yX8_isSo cX8_isSo 4 (some .boolean) ∈ lw_tbl := List.mem_of_getElem? (i := 1161) rfl
theorem wl_852 : Cond.selects RX8 yX8_isSo yX8_isSo ∈ lw_tbl := by decide +kernel
theorem wl_853 : Cond.instanceMethod yX8_isSo ∈ lw_tbl := List.mem_of_getElem? (i := 1160) (by decide +kernel)
theorem wl_854 : Cond.methodLink RX8 242 yX8_isSo ∈ lw_tbl := List.mem_of_getElem? (i := 1158) (by decide +kernel)
theorem wl_855 : Cond.methodLink RL 106 yX8_trueBy ∈ lw_tbl := List.mem_of_getElem? (i := 1154) (by decide +kernel)
theorem wl_856 : Cond.instanceMethod yX8_trueBy ∈ lw_tbl := List.mem_of_getElem? (i := 1155) (by decide +kernel)
theorem wl_857 : Cond.selects RX8 yX8_trueBy yX8_trueBy ∈ lw_tbl := List.mem_of_getElem? (i := 1156) (by decide +kernel)
set_option maxRecDepth 20000 in
theorem wl_858 : Cond.code yX7_hand cX7_hand 4 (some .int) ∈ lw_tbl := List.mem_of_getElem? (i := 734) rfl
theorem wl_859 : Cond.methodLink RL 107 yX7_hand ∈ lw_tbl := List.mem_of_getElem? (i := 731) (by decide +kernel)
theorem wl_860 : Cond.instanceMethod yX7_hand ∈ lw_tbl := List.mem_of_getElem? (i := 732) (by decide +kernel)
theorem wl_861 : Cond.selects RX7 yX7_hand yX7_hand ∈ lw_tbl := List.mem_of_getElem? (i := 733) (by decide +kernel)
set_option maxRecDepth 20000 in
theorem wl_862 : Cond.code yX8_hand cX8_hand 4 (some .int) ∈ lw_tbl := List.mem_of_getElem? (i := 1165) rfl
theorem wl_863 : Cond.methodLink RL 110 yX8_hand ∈ lw_tbl := List.mem_of_getElem? (i := 1162) (by decide +kernel)
theorem wl_864 : Cond.instanceMethod yX8_hand ∈ lw_tbl := List.mem_of_getElem? (i := 1163) (by decide +kernel)
theorem wl_865 : Cond.selects RX8 yX8_hand yX8_hand ∈ lw_tbl := List.mem_of_getElem? (i := 1164) (by decide +kernel)
set_option maxRecDepth 20000 in
theorem wl_866 : Cond.code yX7_child cX7_child 3 (some .int) ∈ lw_tbl := List.mem_of_getElem? (i := 738) rfl
theorem wl_867 : Cond.methodLink RL 111 yX7_child ∈ lw_tbl := List.mem_of_getElem? (i := 735) (by decide +kernel)
theorem wl_868 : Cond.instanceMethod yX7_child ∈ lw_tbl := List.mem_of_getElem? (i := 736) (by decide +kernel)
theorem wl_869 : Cond.selects RX7 yX7_child yX7_child ∈ lw_tbl := List.mem_of_getElem? (i := 737) (by decide +kernel)
set_option maxRecDepth 20000 in
theorem wl_870 : Cond.code yX8_child cX8_child 3 (some .int) ∈ lw_tbl := List.mem_of_getElem? (i := 1169) rfl
theorem wl_871 : Cond.methodLink RL 114 yX8_child ∈ lw_tbl := List.mem_of_getElem? (i := 1166) (by decide +kernel)
theorem wl_872 : Cond.instanceMethod yX8_child ∈ lw_tbl := List.mem_of_getElem? (i := 1167) (by decide +kernel)
theorem wl_873 : Cond.selects RX8 yX8_child yX8_child ∈ lw_tbl := List.mem_of_getElem? (i := 1168) (by decide +kernel)
set_option maxRecDepth 20000 in
theorem wl_874 : Cond.code yX7_touts cX7_touts 7 (some .int) ∈ lw_tbl := List.mem_of_getElem? (i := 742) rfl
theorem wl_875 : Cond.fieldLink RX2 178 "PrisonWeddings$Roll" "persons" "I" ∈ lw_tbl := List.mem_of_getElem? (i := 115) (by decide +kernel)
set_option maxRecDepth 20000 in
theorem wl_876 : Cond.code yX2_singles cX2_singles 4 (some .int) ∈ lw_tbl := List.mem_of_getElem? (i := 746) rfl
theorem wl_877 : Cond.selects RX2 yX2_singles yX2_singles ∈ lw_tbl := List.mem_of_getElem? (i := 745) (by decide +kernel)
theorem wl_878 : Cond.instanceMethod yX2_singles ∈ lw_tbl := List.mem_of_getElem? (i := 744) (by decide +kernel)
theorem wl_879 : Cond.methodLink RX7 266 yX2_singles ∈ lw_tbl := List.mem_of_getElem? (i := 743) (by decide +kernel)
set_option maxRecDepth 20000 in
theorem wl_880 : Cond.code yX2_waysToWed cX2_waysToWed 8 (some .int) ∈ lw_tbl := List.mem_of_getElem? (i := 750) rfl
theorem wl_881 : Cond.selects RX2 yX2_waysToWed yX2_waysToWed ∈ lw_tbl := List.mem_of_getElem? (i := 749) (by decide +kernel)
theorem wl_882 : Cond.instanceMethod yX2_waysToWed ∈ lw_tbl := List.mem_of_getElem? (i := 748) (by decide +kernel)
theorem wl_883 : Cond.methodLink RX7 270 yX2_waysToWed ∈ lw_tbl := List.mem_of_getElem? (i := 747) (by decide +kernel)
set_option maxRecDepth 20000 in
theorem wl_884 : Cond.code yX2_lowestFor cX2_lowestFor 4 (some .int) ∈ lw_tbl := List.mem_of_getElem? (i := 760) rfl
theorem wl_885 : Cond.selects RX2 yX2_lowestFor yX2_lowestFor ∈ lw_tbl := by decide +kernel
theorem wl_886 : Cond.instanceMethod yX2_lowestFor ∈ lw_tbl := List.mem_of_getElem? (i := 759) (by decide +kernel)
theorem wl_887 : Cond.methodLink RX2 198 yX2_lowestFor ∈ lw_tbl := List.mem_of_getElem? (i := 757) (by decide +kernel)
theorem wl_888 : Cond.fieldLink RX2 195 "PrisonWeddings$Books" "lines" "[I" ∈ lw_tbl := List.mem_of_getElem? (i := 186) (by decide +kernel)
set_option maxRecDepth 20000 in
theorem wl_889 : Cond.code yX2_countTouted cX2_countTouted 8 (some .int) ∈ lw_tbl := List.mem_of_getElem? (i := 756) rfl
theorem wl_890 : Cond.selects RX2 yX2_countTouted yX2_countTouted ∈ lw_tbl := by decide +kernel
theorem wl_891 : Cond.instanceMethod yX2_countTouted ∈ lw_tbl := List.mem_of_getElem? (i := 755) (by decide +kernel)
theorem wl_892 : Cond.methodLink RX2 189 yX2_countTouted ∈ lw_tbl := List.mem_of_getElem? (i := 753) (by decide +kernel)
theorem wl_893 : Cond.methodLink RX2 185 yX2_countHeld ∈ lw_tbl := List.mem_of_getElem? (i := 752) (by decide +kernel)
theorem wl_894 : Cond.methodLink RX2 181 yX2_singles ∈ lw_tbl := List.mem_of_getElem? (i := 751) (by decide +kernel)
set_option maxRecDepth 20000 in
theorem wl_895 : Cond.code yX7_commonDivisor cX7_commonDivisor 6 (some .int) ∈ lw_tbl := List.mem_of_getElem? (i := 766) rfl
theorem wl_896 : Cond.static yX7_commonDivisor ∈ lw_tbl := List.mem_of_getElem? (i := 765) (by decide +kernel)
theorem wl_897 : Cond.methodLink RX7 273 yX7_commonDivisor ∈ lw_tbl := List.mem_of_getElem? (i := 764) (by decide +kernel)
set_option maxRecDepth 20000 in
theorem wl_898 : Cond.code yX2_waysToBring cX2_waysToBring 5 (some .int) ∈ lw_tbl := List.mem_of_getElem? (i := 763) rfl
theorem wl_899 : Cond.static yX2_waysToBring ∈ lw_tbl := List.mem_of_getElem? (i := 762) (by decide +kernel)
theorem wl_900 : Cond.methodLink RX2 192 yX2_waysToBring ∈ lw_tbl := List.mem_of_getElem? (i := 761) (by decide +kernel)
theorem wl_901 : Cond.methodLink RL 115 yX7_touts ∈ lw_tbl := List.mem_of_getElem? (i := 739) (by decide +kernel)
theorem wl_902 : Cond.instanceMethod yX7_touts ∈ lw_tbl := List.mem_of_getElem? (i := 740) (by decide +kernel)
theorem wl_903 : Cond.selects RX7 yX7_touts yX7_touts ∈ lw_tbl := List.mem_of_getElem? (i := 741) (by decide +kernel)
set_option maxRecDepth 20000 in
theorem wl_904 : Cond.code yX8_touts cX8_touts 10 (some .int) ∈ lw_tbl := List.mem_of_getElem? (i := 1173) rfl
set_option maxRecDepth 20000 in
theorem wl_905 : Cond.code yX8_singles cX8_singles 3 (some .int) ∈ lw_tbl := List.mem_of_getElem? (i := 1177) rfl
theorem wl_906 : Cond.selects RX8 yX8_singles yX8_singles ∈ lw_tbl := by decide +kernel
theorem wl_907 : Cond.instanceMethod yX8_singles ∈ lw_tbl := List.mem_of_getElem? (i := 1176) (by decide +kernel)
theorem wl_908 : Cond.methodLink RX8 261 yX8_singles ∈ lw_tbl := List.mem_of_getElem? (i := 1174) (by decide +kernel)
theorem wl_909 : Cond.fieldLink RX8 248 "PrisonWeddingsModel" "weight" "I" ∈ lw_tbl := List.mem_of_getElem? (i := 851) (by decide +kernel)
theorem wl_910 : Cond.selects RX8 yX8_isBrought yX8_isBrought ∈ lw_tbl := by decide +kernel
theorem wl_911 : Cond.instanceMethod yX8_isBrought ∈ lw_tbl := List.mem_of_getElem? (i := 1191) (by decide +kernel)
theorem wl_912 : Cond.methodLink RX8 254 yX8_isBrought ∈ lw_tbl := List.mem_of_getElem? (i := 1189) (by decide +kernel)
set_option maxRecDepth 20000 in
theorem wl_913 : Cond.code yX8_matedBy cX8_matedBy 5 (some .int) ∈ lw_tbl := List.mem_of_getElem? (i := 1188) rfl
theorem wl_914 : Cond.selects RX8 yX8_matedBy yX8_matedBy ∈ lw_tbl := by decide +kernel
theorem wl_915 : Cond.instanceMethod yX8_matedBy ∈ lw_tbl := List.mem_of_getElem? (i := 1187) (by decide +kernel)
theorem wl_916 : Cond.methodLink RX8 264 yX8_matedBy ∈ lw_tbl := List.mem_of_getElem? (i := 1185) (by decide +kernel)
set_option maxRecDepth 20000 in
theorem wl_917 : Cond.code yX8_has cX8_has 2 (some .boolean) ∈ lw_tbl := List.mem_of_getElem? (i := 1184) rfl
theorem wl_918 : Cond.static yX8_has ∈ lw_tbl := List.mem_of_getElem? (i := 1183) (by decide +kernel)
theorem wl_919 : Cond.methodLink RX8 251 yX8_has ∈ lw_tbl := List.mem_of_getElem? (i := 1182) (by decide +kernel)
set_option maxRecDepth 20000 in
theorem wl_920 : Cond.code yX8_isMated cX8_isMated 2 (some .boolean) ∈ lw_tbl := List.mem_of_getElem? (i := 1181) rfl
theorem wl_921 : Cond.selects RX8 yX8_isMated yX8_isMated ∈ lw_tbl := by decide +kernel
theorem wl_922 : Cond.instanceMethod yX8_isMated ∈ lw_tbl := List.mem_of_getElem? (i := 1180) (by decide +kernel)
theorem wl_923 : Cond.methodLink RX8 245 yX8_isMated ∈ lw_tbl := List.mem_of_getElem? (i := 1178) (by decide +kernel)
set_option maxRecDepth 20000 in
theorem wl_924 : Cond.code yX8_isBrought cX8_isBrought 4 none ∈ lw_tbl := List.mem_of_getElem? (i := 1192) rfl
theorem wl_925 : Cond.methodLink RX8 258 yX8_mated ∈ lw_tbl := List.mem_of_getElem? (i := 1193) (by decide +kernel)
set_option maxRecDepth 20000 in
theorem wl_926 : Cond.code yX8_mated cX8_mated 3 (some .int) ∈ lw_tbl := List.mem_of_getElem? (i := 1196) rfl
theorem wl_927 : Cond.selects RX8 yX8_mated yX8_mated ∈ lw_tbl := by decide +kernel
theorem wl_928 : Cond.instanceMethod yX8_mated ∈ lw_tbl := List.mem_of_getElem? (i := 1195) (by decide +kernel)
theorem wl_929 : Cond.methodLink RL 118 yX8_touts ∈ lw_tbl := List.mem_of_getElem? (i := 1170) (by decide +kernel)
theorem wl_930 : Cond.instanceMethod yX8_touts ∈ lw_tbl := List.mem_of_getElem? (i := 1171) (by decide +kernel)
theorem wl_931 : Cond.selects RX8 yX8_touts yX8_touts ∈ lw_tbl := List.mem_of_getElem? (i := 1172) (by decide +kernel)
set_option maxRecDepth 20000 in
theorem wl_932 : Cond.code yX7_gaol cX7_gaol 6 (some .int) ∈ lw_tbl := List.mem_of_getElem? (i := 770) rfl
theorem wl_933 : Cond.methodLink RX7 276 yX0_copyFrom ∈ lw_tbl := List.mem_of_getElem? (i := 771) (by decide +kernel)
set_option maxRecDepth 20000 in
theorem wl_934 : Cond.code yX2_liveDay cX2_liveDay 7 none ∈ lw_tbl := List.mem_of_getElem? (i := 785) rfl
theorem wl_935 : Cond.selects RX2 yX2_liveDay yX2_liveDay ∈ lw_tbl := List.mem_of_getElem? (i := 784) (by decide +kernel)
theorem wl_936 : Cond.instanceMethod yX2_liveDay ∈ lw_tbl := List.mem_of_getElem? (i := 783) (by decide +kernel)
theorem wl_937 : Cond.methodLink RX7 285 yX2_liveDay ∈ lw_tbl := List.mem_of_getElem? (i := 782) (by decide +kernel)
theorem wl_938 : Cond.constantLong RX7 295 (65521) ∈ lw_tbl := List.mem_of_getElem? (i := 781) (by decide +kernel)
theorem wl_939 : Cond.constantLong RX7 293 (6151) ∈ lw_tbl := List.mem_of_getElem? (i := 780) (by decide +kernel)
theorem wl_940 : Cond.constantLong RX7 291 (7919) ∈ lw_tbl := List.mem_of_getElem? (i := 779) (by decide +kernel)
set_option maxRecDepth 20000 in
theorem wl_941 : Cond.code yX7_draw cX7_draw 4 (some .int) ∈ lw_tbl := List.mem_of_getElem? (i := 778) rfl
theorem wl_942 : Cond.static yX7_draw ∈ lw_tbl := List.mem_of_getElem? (i := 777) (by decide +kernel)
theorem wl_943 : Cond.methodLink RX7 282 yX7_draw ∈ lw_tbl := List.mem_of_getElem? (i := 776) (by decide +kernel)
set_option maxRecDepth 20000 in
theorem wl_944 : Cond.code yX0_paidInAll cX0_paidInAll 3 (some .int) ∈ lw_tbl := List.mem_of_getElem? (i := 775) rfl
theorem wl_945 : Cond.selects RX0 yX0_paidInAll yX0_paidInAll ∈ lw_tbl := List.mem_of_getElem? (i := 774) (by decide +kernel)
theorem wl_946 : Cond.instanceMethod yX0_paidInAll ∈ lw_tbl := List.mem_of_getElem? (i := 773) (by decide +kernel)
theorem wl_947 : Cond.methodLink RX7 279 yX0_paidInAll ∈ lw_tbl := List.mem_of_getElem? (i := 772) (by decide +kernel)
theorem wl_948 : Cond.methodLink RX2 201 yX2_writeWedding ∈ lw_tbl := List.mem_of_getElem? (i := 786) (by decide +kernel)
theorem wl_949 : Cond.methodLink RX2 204 yX2_refuseBlank ∈ lw_tbl := List.mem_of_getElem? (i := 787) (by decide +kernel)
theorem wl_950 : Cond.methodLink RL 119 yX7_gaol ∈ lw_tbl := List.mem_of_getElem? (i := 767) (by decide +kernel)
theorem wl_951 : Cond.instanceMethod yX7_gaol ∈ lw_tbl := List.mem_of_getElem? (i := 768) (by decide +kernel)
theorem wl_952 : Cond.selects RX7 yX7_gaol yX7_gaol ∈ lw_tbl := List.mem_of_getElem? (i := 769) (by decide +kernel)
set_option maxRecDepth 20000 in
theorem wl_953 : Cond.code yX8_gaol cX8_gaol 14 (some .int) ∈ lw_tbl := List.mem_of_getElem? (i := 1200) rfl
theorem wl_954 : Cond.constantLong RX8 272 (65521) ∈ lw_tbl := List.mem_of_getElem? (i := 1203) (by decide +kernel)
theorem wl_955 : Cond.constantLong RX8 270 (6151) ∈ lw_tbl := List.mem_of_getElem? (i := 1202) (by decide +kernel)
theorem wl_956 : Cond.constantLong RX8 268 (7919) ∈ lw_tbl := List.mem_of_getElem? (i := 1201) (by decide +kernel)
theorem wl_957 : Cond.methodLink RL 122 yX8_gaol ∈ lw_tbl := List.mem_of_getElem? (i := 1197) (by decide +kernel)
theorem wl_958 : Cond.instanceMethod yX8_gaol ∈ lw_tbl := List.mem_of_getElem? (i := 1198) (by decide +kernel)
theorem wl_959 : Cond.selects RX8 yX8_gaol yX8_gaol ∈ lw_tbl := List.mem_of_getElem? (i := 1199) (by decide +kernel)
set_option maxRecDepth 20000 in
theorem wl_960 : Cond.code yX7_keep cX7_keep 1 (some .int) ∈ lw_tbl := List.mem_of_getElem? (i := 791) rfl
theorem wl_961 : Cond.methodLink RL 123 yX7_keep ∈ lw_tbl := List.mem_of_getElem? (i := 788) (by decide +kernel)
theorem wl_962 : Cond.instanceMethod yX7_keep ∈ lw_tbl := List.mem_of_getElem? (i := 789) (by decide +kernel)
theorem wl_963 : Cond.selects RX7 yX7_keep yX7_keep ∈ lw_tbl := List.mem_of_getElem? (i := 790) (by decide +kernel)
set_option maxRecDepth 20000 in
theorem wl_964 : Cond.code yX8_keep cX8_keep 1 (some .int) ∈ lw_tbl := List.mem_of_getElem? (i := 1207) rfl
theorem wl_965 : Cond.methodLink RL 126 yX8_keep ∈ lw_tbl := List.mem_of_getElem? (i := 1204) (by decide +kernel)
theorem wl_966 : Cond.instanceMethod yX8_keep ∈ lw_tbl := List.mem_of_getElem? (i := 1205) (by decide +kernel)
theorem wl_967 : Cond.selects RX8 yX8_keep yX8_keep ∈ lw_tbl := List.mem_of_getElem? (i := 1206) (by decide +kernel)
set_option maxRecDepth 20000 in
theorem wl_968 : Cond.code yX7_back cX7_back 1 (some .int) ∈ lw_tbl := List.mem_of_getElem? (i := 795) rfl
theorem wl_969 : Cond.methodLink RL 127 yX7_back ∈ lw_tbl := List.mem_of_getElem? (i := 792) (by decide +kernel)
theorem wl_970 : Cond.instanceMethod yX7_back ∈ lw_tbl := List.mem_of_getElem? (i := 793) (by decide +kernel)
theorem wl_971 : Cond.selects RX7 yX7_back yX7_back ∈ lw_tbl := List.mem_of_getElem? (i := 794) (by decide +kernel)
set_option maxRecDepth 20000 in
theorem wl_972 : Cond.code yX8_back cX8_back 1 (some .int) ∈ lw_tbl := List.mem_of_getElem? (i := 1211) rfl
theorem wl_973 : Cond.methodLink RL 130 yX8_back ∈ lw_tbl := List.mem_of_getElem? (i := 1208) (by decide +kernel)
theorem wl_974 : Cond.instanceMethod yX8_back ∈ lw_tbl := List.mem_of_getElem? (i := 1209) (by decide +kernel)
theorem wl_975 : Cond.selects RX8 yX8_back yX8_back ∈ lw_tbl := List.mem_of_getElem? (i := 1210) (by decide +kernel)
set_option maxRecDepth 20000 in
theorem wl_976 : Cond.code yX7_count cX7_count 2 (some .int) ∈ lw_tbl := List.mem_of_getElem? (i := 799) rfl
theorem wl_977 : Cond.fieldLink RX7 288 "PrisonWeddings$Roll" "law" "I" ∈ lw_tbl := List.mem_of_getElem? (i := 121) (by decide +kernel)
theorem wl_978 : Cond.methodLink RL 131 yX7_count ∈ lw_tbl := List.mem_of_getElem? (i := 796) (by decide +kernel)
theorem wl_979 : Cond.instanceMethod yX7_count ∈ lw_tbl := List.mem_of_getElem? (i := 797) (by decide +kernel)
theorem wl_980 : Cond.selects RX7 yX7_count yX7_count ∈ lw_tbl := List.mem_of_getElem? (i := 798) (by decide +kernel)
set_option maxRecDepth 20000 in
theorem wl_981 : Cond.code yX8_count cX8_count 2 (some .int) ∈ lw_tbl := List.mem_of_getElem? (i := 1215) rfl
theorem wl_982 : Cond.methodLink RX8 274 yX8_linesSuch ∈ lw_tbl := List.mem_of_getElem? (i := 1216) (by decide +kernel)
set_option maxRecDepth 20000 in
theorem wl_983 : Cond.code yX8_linesSuch cX8_linesSuch 4 (some .int) ∈ lw_tbl := List.mem_of_getElem? (i := 1219) rfl
theorem wl_984 : Cond.selects RX8 yX8_linesSuch yX8_linesSuch ∈ lw_tbl := by decide +kernel
theorem wl_985 : Cond.instanceMethod yX8_linesSuch ∈ lw_tbl := List.mem_of_getElem? (i := 1218) (by decide +kernel)
theorem wl_986 : Cond.methodLink RL 134 yX8_count ∈ lw_tbl := List.mem_of_getElem? (i := 1212) (by decide +kernel)
theorem wl_987 : Cond.instanceMethod yX8_count ∈ lw_tbl := List.mem_of_getElem? (i := 1213) (by decide +kernel)
theorem wl_988 : Cond.selects RX8 yX8_count yX8_count ∈ lw_tbl := List.mem_of_getElem? (i := 1214) (by decide +kernel)
theorem wl_989 : Cond.instantiable RX7 8 ∈ lw_tbl := List.mem_of_getElem? (i := 84) (by decide +kernel)
theorem wl_990 : Cond.instantiable RX8 27 ∈ lw_tbl := List.mem_of_getElem? (i := 801) (by decide +kernel)
theorem wl_991 : Cond.arrayOver (.object "PrisonWeddings$Books") ∈ lw_tbl := List.mem_of_getElem? (i := 285) (by decide +kernel)
theorem wl_992 : Cond.classLink RL 7 RX7 ∈ lw_tbl := List.mem_of_getElem? (i := 83) (by decide +kernel)
theorem wl_993 : Cond.classLink RL 10 RX8 ∈ lw_tbl := List.mem_of_getElem? (i := 800) (by decide +kernel)
theorem wl_994 : Cond.stringRef RX7 57 "m0,12,5;m1,40,2;m2,0,50;w0,3,8;w1,30,12;w2,0,60;w0,9,20;p0,2;p1,3;p2,5;l30;" ∈ lw_tbl := List.mem_of_getElem? (i := 295) (by decide +kernel)
theorem wl_995 : Cond.methodLinkNest RX7 11 yX4_init "PrisonWeddings" ∈ lw_tbl := List.mem_of_getElem? (i := 93) (by decide +kernel)
theorem wl_996 : Cond.methodLinkNest RX7 18 yX3_init "PrisonWeddings" ∈ lw_tbl := List.mem_of_getElem? (i := 109) (by decide +kernel)
theorem wl_997 : Cond.methodLinkNest RX7 40 yX6_init "PrisonWeddings" ∈ lw_tbl := List.mem_of_getElem? (i := 257) (by decide +kernel)
theorem wl_998 : Cond.methodLinkNest RX2 11 yX0_init "PrisonWeddings" ∈ lw_tbl := List.mem_of_getElem? (i := 171) (by decide +kernel)
theorem wl_999 : Cond.methodLinkNest RX5 15 yX0_init "PrisonWeddings" ∈ lw_tbl := List.mem_of_getElem? (i := 286) (by decide +kernel)
theorem wl_1000 : Cond.laysStatic "java/lang/String" "COMPACT_STRINGS" "Z" ∈ lw_tbl := List.mem_of_getElem? (i := 305) (by decide +kernel)
theorem wl_1001 : Cond.initialized "java/lang/String" ∈ lw_tbl := List.mem_of_getElem? (i := 75) (by decide +kernel)
theorem wl_1002 : Cond.laysStatic "jdk/internal/util/Preconditions" "SIOOBE_FORMATTER" "Ljava/util/function/BiFunction;" ∈ lw_tbl := List.mem_of_getElem? (i := 321) (by decide +kernel)
theorem wl_1003 : Cond.initialized "jdk/internal/util/Preconditions" ∈ lw_tbl := List.mem_of_getElem? (i := 77) (by decide +kernel)
