theorem gt_0 {w : Cond} (h : w ∈ k2_sels lw_privs) (g : goodWord w = true) : w ∈ gT := gT_of (List.mem_append_left _ h) g
theorem gt_1 {w : Cond} (h : w ∈ tables_1_1) (g : goodWord w = true) : w ∈ gT := gT_of (List.mem_append_right _ (List.mem_append_left _ h)) g
theorem gt_2 {w : Cond} (h : w ∈ tables_1_2) (g : goodWord w = true) : w ∈ gT := gT_of (List.mem_append_right _ (List.mem_append_right _ (List.mem_append_left _ h))) g
theorem gt_3 {w : Cond} (h : w ∈ tables_1_3) (g : goodWord w = true) : w ∈ gT := gT_of (List.mem_append_right _ (List.mem_append_right _ (List.mem_append_right _ (List.mem_append_left _ h)))) g
theorem gt_4 {w : Cond} (h : w ∈ tables_1_4) (g : goodWord w = true) : w ∈ gT := gT_of (List.mem_append_right _ (List.mem_append_right _ (List.mem_append_right _ (List.mem_append_right _ (List.mem_append_left _ h))))) g
theorem gt_5 {w : Cond} (h : w ∈ tables_1_5) (g : goodWord w = true) : w ∈ gT := gT_of (List.mem_append_right _ (List.mem_append_right _ (List.mem_append_right _ (List.mem_append_right _ (List.mem_append_right _ (List.mem_append_left _ h)))))) g
theorem gt_6 {w : Cond} (h : w ∈ tables_1_6) (g : goodWord w = true) : w ∈ gT := gT_of (List.mem_append_right _ (List.mem_append_right _ (List.mem_append_right _ (List.mem_append_right _ (List.mem_append_right _ (List.mem_append_right _ h)))))) g
theorem kw_0 : Cond.methodLink RX5 3 objectInit ∈ gT := gt_1 (List.mem_of_getElem? (i := 32) rfl) rfl
theorem kw_1 : Cond.instanceMethod objectInit ∈ gT := gt_1 (List.mem_of_getElem? (i := 25) rfl) rfl
theorem kw_2 : Cond.code objectInit ⟨#[0xb1]⟩ 1 none ∈ gT := gt_1 (List.mem_of_getElem? (i := 26) rfl) rfl
theorem kw_3 : Cond.arrayClass .int ∈ gT := gt_1 (List.mem_of_getElem? (i := 45) rfl) rfl
theorem kw_4 : Cond.fieldLink RX5 9 "UrlGate$Row" "bytes" "[I" ∈ gT := gt_1 (List.mem_of_getElem? (i := 33) rfl) rfl
theorem kw_5 : Cond.fieldLink RX5 15 "UrlGate$Row" "length" "I" ∈ gT := gt_1 (List.mem_of_getElem? (i := 34) rfl) rfl
theorem kw_6 : Cond.methodLink RX0 1 objectInit ∈ gT := gt_1 (List.mem_of_getElem? (i := 59) rfl) rfl
theorem kw_7 : Cond.fieldLink RX0 7 "UrlGate$Address" "kind" "I" ∈ gT := gt_1 (List.mem_of_getElem? (i := 60) rfl) rfl
theorem kw_8 : Cond.fieldLink RX0 13 "UrlGate$Address" "words" "[I" ∈ gT := gt_1 (List.mem_of_getElem? (i := 63) rfl) rfl
theorem kw_9 : Cond.methodLink RX3 1 objectInit ∈ gT := gt_1 (List.mem_of_getElem? (i := 53) rfl) rfl
theorem kw_10 : Cond.classLink RX3 7 RX0 ∈ gT := gt_1 (List.mem_of_getElem? (i := 54) rfl) rfl
theorem kw_11 : Cond.code yX0_init cX0_init 1 none ∈ gT := gt_1 (List.mem_of_getElem? (i := 58) rfl) rfl
theorem kw_12 : Cond.initialized RX0 ∈ gT := gt_1 (List.mem_of_getElem? (i := 4) rfl) rfl
theorem kw_13 : Cond.instanceMethod yX0_init ∈ gT := gt_1 (List.mem_of_getElem? (i := 57) rfl) rfl
theorem kw_14 : Cond.fieldLink RX3 10 "UrlGate$Host" "address" "LUrlGate$Address;" ∈ gT := gt_1 (List.mem_of_getElem? (i := 71) rfl) rfl
theorem kw_15 : Cond.classLink RX3 16 RX5 ∈ gT := gt_1 (List.mem_of_getElem? (i := 69) rfl) rfl
theorem kw_16 : Cond.code yX5_init cX5_init 1 none ∈ gT := gt_1 (List.mem_of_getElem? (i := 31) rfl) rfl
theorem kw_17 : Cond.initialized RX5 ∈ gT := gt_1 (List.mem_of_getElem? (i := 2) rfl) rfl
theorem kw_18 : Cond.instanceMethod yX5_init ∈ gT := gt_1 (List.mem_of_getElem? (i := 30) rfl) rfl
theorem kw_19 : Cond.fieldLink RX3 19 "UrlGate$Host" "written" "LUrlGate$Row;" ∈ gT := gt_1 (List.mem_of_getElem? (i := 74) rfl) rfl
theorem kw_20 : Cond.methodLink RX4 3 objectInit ∈ gT := gt_1 (List.mem_of_getElem? (i := 88) rfl) rfl
theorem kw_21 : Cond.classLink RX4 9 RX5 ∈ gT := gt_1 (List.mem_of_getElem? (i := 89) rfl) rfl
theorem kw_22 : Cond.fieldLink RX4 12 "UrlGate$HostReader" "name" "LUrlGate$Row;" ∈ gT := gt_1 (List.mem_of_getElem? (i := 91) rfl) rfl
theorem kw_23 : Cond.fieldLink RX4 18 "UrlGate$HostReader" "pieces" "[I" ∈ gT := gt_1 (List.mem_of_getElem? (i := 92) rfl) rfl
theorem kw_24 : Cond.fieldLink RX4 22 "UrlGate$HostReader" "pieceCount" "I" ∈ gT := gt_1 (List.mem_of_getElem? (i := 93) rfl) rfl
theorem kw_25 : Cond.methodLink RX7 3 objectInit ∈ gT := gt_1 (List.mem_of_getElem? (i := 106) rfl) rfl
theorem kw_26 : Cond.classLink RX7 9 RX5 ∈ gT := gt_1 (List.mem_of_getElem? (i := 107) rfl) rfl
theorem kw_27 : Cond.fieldLink RX7 12 "UrlGate$UrlReader" "source" "LUrlGate$Row;" ∈ gT := gt_1 (List.mem_of_getElem? (i := 109) rfl) rfl
theorem kw_28 : Cond.fieldLink RX7 18 "UrlGate$UrlReader" "here" "I" ∈ gT := gt_1 (List.mem_of_getElem? (i := 110) rfl) rfl
theorem kw_29 : Cond.fieldLink RX7 22 "UrlGate$UrlReader" "hostStart" "I" ∈ gT := gt_1 (List.mem_of_getElem? (i := 111) rfl) rfl
theorem kw_30 : Cond.fieldLink RX7 25 "UrlGate$UrlReader" "hostEnd" "I" ∈ gT := gt_1 (List.mem_of_getElem? (i := 112) rfl) rfl
theorem kw_31 : Cond.methodLink RX2 3 objectInit ∈ gT := gt_1 (List.mem_of_getElem? (i := 127) rfl) rfl
theorem kw_32 : Cond.classLink RX2 11 RX3 ∈ gT := gt_1 (List.mem_of_getElem? (i := 128) rfl) rfl
theorem kw_33 : Cond.fieldLink RX2 13 "UrlGate$Gate" "hosts" "[LUrlGate$Host;" ∈ gT := gt_1 (List.mem_of_getElem? (i := 134) rfl) rfl
theorem kw_34 : Cond.arrayClass .boolean ∈ gT := gt_1 (List.mem_of_getElem? (i := 162) rfl) rfl
theorem kw_35 : Cond.fieldLink RX2 17 "UrlGate$Gate" "open" "[Z" ∈ gT := gt_1 (List.mem_of_getElem? (i := 135) rfl) rfl
theorem kw_36 : Cond.fieldLink RX2 21 "UrlGate$Gate" "hostCount" "I" ∈ gT := gt_1 (List.mem_of_getElem? (i := 136) rfl) rfl
theorem kw_37 : Cond.classLink RX2 25 RX5 ∈ gT := gt_1 (List.mem_of_getElem? (i := 130) rfl) rfl
theorem kw_38 : Cond.fieldLink RX2 27 "UrlGate$Gate" "names" "[LUrlGate$Row;" ∈ gT := gt_1 (List.mem_of_getElem? (i := 137) rfl) rfl
theorem kw_39 : Cond.classLink RX2 31 RX0 ∈ gT := gt_1 (List.mem_of_getElem? (i := 132) rfl) rfl
theorem kw_40 : Cond.fieldLink RX2 33 "UrlGate$Gate" "answers" "[LUrlGate$Address;" ∈ gT := gt_1 (List.mem_of_getElem? (i := 138) rfl) rfl
theorem kw_41 : Cond.fieldLink RX2 37 "UrlGate$Gate" "answerCount" "I" ∈ gT := gt_1 (List.mem_of_getElem? (i := 139) rfl) rfl
theorem kw_42 : Cond.fieldLink RX2 40 "UrlGate$Gate" "ranges" "[LUrlGate$Address;" ∈ gT := gt_1 (List.mem_of_getElem? (i := 140) rfl) rfl
theorem kw_43 : Cond.fieldLink RX2 43 "UrlGate$Gate" "rangeBits" "[I" ∈ gT := gt_1 (List.mem_of_getElem? (i := 141) rfl) rfl
theorem kw_44 : Cond.fieldLink RX2 47 "UrlGate$Gate" "rangeCount" "I" ∈ gT := gt_1 (List.mem_of_getElem? (i := 142) rfl) rfl
theorem kw_45 : Cond.methodLink RX6 3 objectInit ∈ gT := gt_1 (List.mem_of_getElem? (i := 167) rfl) rfl
theorem kw_46 : Cond.fieldLink RX6 11 "UrlGate$Url" "scheme" "I" ∈ gT := gt_1 (List.mem_of_getElem? (i := 172) rfl) rfl
theorem kw_47 : Cond.classLink RX6 15 RX5 ∈ gT := gt_1 (List.mem_of_getElem? (i := 168) rfl) rfl
theorem kw_48 : Cond.fieldLink RX6 18 "UrlGate$Url" "schemeName" "LUrlGate$Row;" ∈ gT := gt_1 (List.mem_of_getElem? (i := 175) rfl) rfl
theorem kw_49 : Cond.fieldLink RX6 22 "UrlGate$Url" "user" "LUrlGate$Row;" ∈ gT := gt_1 (List.mem_of_getElem? (i := 176) rfl) rfl
theorem kw_50 : Cond.fieldLink RX6 25 "UrlGate$Url" "password" "LUrlGate$Row;" ∈ gT := gt_1 (List.mem_of_getElem? (i := 178) rfl) rfl
theorem kw_51 : Cond.classLink RX6 28 RX3 ∈ gT := gt_1 (List.mem_of_getElem? (i := 170) rfl) rfl
theorem kw_52 : Cond.code yX3_init cX3_init 1 none ∈ gT := gt_1 (List.mem_of_getElem? (i := 52) rfl) rfl
theorem kw_53 : Cond.initialized RX3 ∈ gT := gt_1 (List.mem_of_getElem? (i := 3) rfl) rfl
theorem kw_54 : Cond.instanceMethod yX3_init ∈ gT := gt_1 (List.mem_of_getElem? (i := 51) rfl) rfl
theorem kw_55 : Cond.fieldLink RX6 31 "UrlGate$Url" "host" "LUrlGate$Host;" ∈ gT := gt_1 (List.mem_of_getElem? (i := 180) rfl) rfl
theorem kw_56 : Cond.fieldLink RX6 35 "UrlGate$Url" "port" "I" ∈ gT := gt_1 (List.mem_of_getElem? (i := 184) rfl) rfl
theorem kw_57 : Cond.fieldLink RX6 38 "UrlGate$Url" "path" "LUrlGate$Row;" ∈ gT := gt_1 (List.mem_of_getElem? (i := 187) rfl) rfl
theorem kw_58 : Cond.fieldLink RX6 41 "UrlGate$Url" "segments" "I" ∈ gT := gt_1 (List.mem_of_getElem? (i := 189) rfl) rfl
theorem kw_59 : Cond.fieldLink RX6 44 "UrlGate$Url" "query" "LUrlGate$Row;" ∈ gT := gt_1 (List.mem_of_getElem? (i := 191) rfl) rfl
theorem kw_60 : Cond.fieldLink RX6 47 "UrlGate$Url" "hasQuery" "Z" ∈ gT := gt_1 (List.mem_of_getElem? (i := 193) rfl) rfl
theorem kw_61 : Cond.fieldLink RX6 51 "UrlGate$Url" "fragment" "LUrlGate$Row;" ∈ gT := gt_1 (List.mem_of_getElem? (i := 195) rfl) rfl
theorem kw_62 : Cond.fieldLink RX6 54 "UrlGate$Url" "hasFragment" "Z" ∈ gT := gt_1 (List.mem_of_getElem? (i := 197) rfl) rfl
theorem kw_63 : Cond.methodLink RX8 1 objectInit ∈ gT := gt_1 (List.mem_of_getElem? (i := 24) rfl) rfl
theorem kw_64 : Cond.classLink RX8 7 RX5 ∈ gT := gt_1 (List.mem_of_getElem? (i := 27) rfl) rfl
theorem kw_65 : Cond.fieldLink RX8 10 "UrlGate" "text" "LUrlGate$Row;" ∈ gT := gt_1 (List.mem_of_getElem? (i := 224) rfl) rfl
theorem kw_66 : Cond.fieldLink RX8 16 "UrlGate" "draft" "LUrlGate$Row;" ∈ gT := gt_1 (List.mem_of_getElem? (i := 225) rfl) rfl
theorem kw_67 : Cond.classLink RX8 19 RX6 ∈ gT := gt_1 (List.mem_of_getElem? (i := 46) rfl) rfl
theorem kw_68 : Cond.fieldLink RX8 21 "UrlGate" "places" "[LUrlGate$Url;" ∈ gT := gt_1 (List.mem_of_getElem? (i := 226) rfl) rfl
theorem kw_69 : Cond.classLink RX8 25 RX3 ∈ gT := gt_1 (List.mem_of_getElem? (i := 48) rfl) rfl
theorem kw_70 : Cond.fieldLink RX8 28 "UrlGate" "heard" "LUrlGate$Host;" ∈ gT := gt_1 (List.mem_of_getElem? (i := 227) rfl) rfl
theorem kw_71 : Cond.classLink RX8 32 RX4 ∈ gT := gt_1 (List.mem_of_getElem? (i := 83) rfl) rfl
theorem kw_72 : Cond.code yX4_init cX4_init 1 none ∈ gT := gt_1 (List.mem_of_getElem? (i := 87) rfl) rfl
theorem kw_73 : Cond.initialized RX4 ∈ gT := gt_1 (List.mem_of_getElem? (i := 5) rfl) rfl
theorem kw_74 : Cond.instanceMethod yX4_init ∈ gT := gt_1 (List.mem_of_getElem? (i := 86) rfl) rfl
theorem kw_75 : Cond.fieldLink RX8 35 "UrlGate" "hostReader" "LUrlGate$HostReader;" ∈ gT := gt_1 (List.mem_of_getElem? (i := 228) rfl) rfl
theorem kw_76 : Cond.classLink RX8 39 RX7 ∈ gT := gt_1 (List.mem_of_getElem? (i := 101) rfl) rfl
theorem kw_77 : Cond.code yX7_init cX7_init 1 none ∈ gT := gt_1 (List.mem_of_getElem? (i := 105) rfl) rfl
theorem kw_78 : Cond.initialized RX7 ∈ gT := gt_1 (List.mem_of_getElem? (i := 6) rfl) rfl
theorem kw_79 : Cond.instanceMethod yX7_init ∈ gT := gt_1 (List.mem_of_getElem? (i := 104) rfl) rfl
theorem kw_80 : Cond.fieldLink RX8 42 "UrlGate" "urlReader" "LUrlGate$UrlReader;" ∈ gT := gt_1 (List.mem_of_getElem? (i := 229) rfl) rfl
theorem kw_81 : Cond.classLink RX8 46 RX2 ∈ gT := gt_1 (List.mem_of_getElem? (i := 122) rfl) rfl
theorem kw_82 : Cond.code yX2_init cX2_init 1 none ∈ gT := gt_1 (List.mem_of_getElem? (i := 126) rfl) rfl
theorem kw_83 : Cond.initialized RX2 ∈ gT := gt_1 (List.mem_of_getElem? (i := 7) rfl) rfl
theorem kw_84 : Cond.instanceMethod yX2_init ∈ gT := gt_1 (List.mem_of_getElem? (i := 125) rfl) rfl
theorem kw_85 : Cond.fieldLink RX8 49 "UrlGate" "gate" "LUrlGate$Gate;" ∈ gT := gt_1 (List.mem_of_getElem? (i := 230) rfl) rfl
theorem kw_86 : Cond.code yX6_init cX6_init 1 none ∈ gT := gt_1 (List.mem_of_getElem? (i := 166) rfl) rfl
theorem kw_87 : Cond.initialized RX6 ∈ gT := gt_1 (List.mem_of_getElem? (i := 8) rfl) rfl
theorem kw_88 : Cond.instanceMethod yX6_init ∈ gT := gt_1 (List.mem_of_getElem? (i := 165) rfl) rfl
theorem kw_89 : Cond.fieldLink RX8 54 "UrlGate" "spare" "LUrlGate$Url;" ∈ gT := gt_1 (List.mem_of_getElem? (i := 231) rfl) rfl
theorem kw_90 : Cond.methodLink RJ7 304 Lib.Math.min.name ∈ gT := gt_2 (List.mem_of_getElem? (i := 27) rfl) rfl
theorem kw_91 : Cond.static Lib.Math.min.name ∈ gT := gt_2 (List.mem_of_getElem? (i := 28) rfl) rfl
theorem kw_92 : Cond.initialized "java/lang/Math" ∈ gT := gt_1 (List.mem_of_getElem? (i := 11) rfl) rfl
theorem kw_93 : Cond.code Lib.Math.min.name Lib.Math.min.code 2 (some .int) ∈ gT := gt_2 (List.mem_of_getElem? (i := 29) rfl) rfl
theorem kw_94 : Cond.methodLink RJ7 150 arraycopyName ∈ gT := gt_2 (List.mem_of_getElem? (i := 30) rfl) rfl
theorem kw_95 : Cond.native arraycopyName ∈ gT := gt_2 (List.mem_of_getElem? (i := 32) rfl) rfl
theorem kw_96 : Cond.static arraycopyName ∈ gT := gt_2 (List.mem_of_getElem? (i := 31) rfl) rfl
theorem kw_97 : Cond.initialized "java/lang/System" ∈ gT := gt_1 (List.mem_of_getElem? (i := 12) rfl) rfl
theorem kw_98 : Cond.static yJ7_copyOf_59c91 ∈ gT := gt_2 (List.mem_of_getElem? (i := 18) rfl) rfl
theorem kw_99 : Cond.fieldLink RX8 58 "UrlGate$Row" "length" "I" ∈ gT := gt_1 (List.mem_of_getElem? (i := 35) rfl) rfl
theorem kw_100 : Cond.fieldLink RX7 81 "UrlGate$Row" "length" "I" ∈ gT := gt_1 (List.mem_of_getElem? (i := 37) rfl) rfl
theorem kw_101 : Cond.static yX1_isLetter ∈ gT := gt_2 (List.mem_of_getElem? (i := 77) rfl) rfl
theorem kw_102 : Cond.static yX1_isDigit ∈ gT := gt_2 (List.mem_of_getElem? (i := 83) rfl) rfl
theorem kw_103 : Cond.static yX7_mayBeInScheme ∈ gT := gt_2 (List.mem_of_getElem? (i := 80) rfl) rfl
theorem kw_104 : Cond.fieldLink RJ0 38 "java/lang/String" "COMPACT_STRINGS" "Z" ∈ gT := gt_2 (List.mem_of_getElem? (i := 109) rfl) rfl
theorem kw_105 : Cond.fieldLink RJ0 15 "java/lang/String" "coder" "B" ∈ gT := gt_6 (List.mem_of_getElem? (i := 42) rfl) rfl
theorem kw_106 : Cond.fieldLink RJ0 9 "java/lang/String" "value" "[B" ∈ gT := gt_6 (List.mem_of_getElem? (i := 41) rfl) rfl
theorem kw_107 : Cond.fieldLink RJ0 1053 "jdk/internal/util/Preconditions" "SIOOBE_FORMATTER" "Ljava/util/function/BiFunction;" ∈ gT := gt_2 (List.mem_of_getElem? (i := 125) rfl) rfl
theorem kw_108 : Cond.static yJ3_checkIndex_8e157 ∈ gT := gt_2 (List.mem_of_getElem? (i := 128) rfl) rfl
theorem kw_109 : Cond.static yJ0_checkIndex_df160 ∈ gT := gt_2 (List.mem_of_getElem? (i := 123) rfl) rfl
theorem kw_110 : Cond.static yJ1_charAt_3b067 ∈ gT := gt_2 (List.mem_of_getElem? (i := 120) rfl) rfl
theorem kw_111 : Cond.static yX6_nameOf ∈ gT := gt_2 (List.mem_of_getElem? (i := 90) rfl) rfl
theorem kw_112 : Cond.static yX1_low ∈ gT := gt_2 (List.mem_of_getElem? (i := 161) rfl) rfl
theorem kw_113 : Cond.fieldLink RX7 95 "UrlGate$Url" "scheme" "I" ∈ gT := gt_1 (List.mem_of_getElem? (i := 173) rfl) rfl
theorem kw_114 : Cond.fieldLink RX6 89 "UrlGate$Row" "length" "I" ∈ gT := gt_1 (List.mem_of_getElem? (i := 39) rfl) rfl
theorem kw_115 : Cond.static yX1_isSlash ∈ gT := gt_2 (List.mem_of_getElem? (i := 175) rfl) rfl
theorem kw_116 : Cond.static yJ1_canEncode_9a6ad ∈ gT := gt_3 (List.mem_of_getElem? (i := 3) rfl) rfl
theorem kw_117 : Cond.methodLink RJ1 92 Lib.Math.max.name ∈ gT := gt_3 (List.mem_of_getElem? (i := 5) rfl) rfl
theorem kw_118 : Cond.static Lib.Math.max.name ∈ gT := gt_3 (List.mem_of_getElem? (i := 6) rfl) rfl
theorem kw_119 : Cond.code Lib.Math.max.name Lib.Math.max.code 2 (some .int) ∈ gT := gt_3 (List.mem_of_getElem? (i := 7) rfl) rfl
theorem kw_120 : Cond.methodLink RJ1 38 Lib.Math.min.name ∈ gT := gt_3 (List.mem_of_getElem? (i := 8) rfl) rfl
theorem kw_121 : Cond.static yJ1_indexOfChar_4cfef ∈ gT := gt_3 (List.mem_of_getElem? (i := 10) rfl) rfl
theorem kw_122 : Cond.static yJ1_indexOf_4cfef ∈ gT := gt_3 (List.mem_of_getElem? (i := 0) rfl) rfl
theorem kw_123 : Cond.static yX1_isToEscape ∈ gT := gt_2 (List.mem_of_getElem? (i := 228) rfl) rfl
theorem kw_124 : Cond.fieldLink RX7 163 "UrlGate$Url" "user" "LUrlGate$Row;" ∈ gT := gt_1 (List.mem_of_getElem? (i := 177) rfl) rfl
theorem kw_125 : Cond.fieldLink RX7 160 "UrlGate$Url" "password" "LUrlGate$Row;" ∈ gT := gt_1 (List.mem_of_getElem? (i := 179) rfl) rfl
theorem kw_126 : Cond.static yX1_isDivider ∈ gT := gt_2 (List.mem_of_getElem? (i := 216) rfl) rfl
theorem kw_127 : Cond.constant RX4 149 (65535) ∈ gT := gt_3 (List.mem_of_getElem? (i := 78) rfl) rfl
theorem kw_128 : Cond.static yX1_hexValue ∈ gT := gt_3 (List.mem_of_getElem? (i := 84) rfl) rfl
theorem kw_129 : Cond.constant RX0 21 (65535) ∈ gT := gt_3 (List.mem_of_getElem? (i := 107) rfl) rfl
theorem kw_130 : Cond.fieldLink RX4 38 "UrlGate$Row" "length" "I" ∈ gT := gt_1 (List.mem_of_getElem? (i := 36) rfl) rfl
theorem kw_131 : Cond.static yX1_isWrongInName ∈ gT := gt_3 (List.mem_of_getElem? (i := 133) rfl) rfl
theorem kw_132 : Cond.constantLong RX4 111 (-1) ∈ gT := gt_3 (List.mem_of_getElem? (i := 167) rfl) rfl
theorem kw_133 : Cond.constantLong RX4 113 (4294967296) ∈ gT := gt_3 (List.mem_of_getElem? (i := 168) rfl) rfl
theorem kw_134 : Cond.methodLink RX4 115 Lib.MathLoose.min_long.x ∈ gT := gt_3 (List.mem_of_getElem? (i := 169) rfl) rfl
theorem kw_135 : Cond.static Lib.MathLoose.min_long.x ∈ gT := gt_3 (List.mem_of_getElem? (i := 170) rfl) rfl
theorem kw_136 : Cond.code Lib.MathLoose.min_long.x Lib.MathLoose.min_long.code 4 (some .long) ∈ gT := gt_3 (List.mem_of_getElem? (i := 171) rfl) rfl
theorem kw_137 : Cond.constantLong RX4 109 (255) ∈ gT := gt_3 (List.mem_of_getElem? (i := 180) rfl) rfl
theorem kw_138 : Cond.static yX6_portOf ∈ gT := gt_3 (List.mem_of_getElem? (i := 192) rfl) rfl
theorem kw_139 : Cond.methodLink RX7 172 Lib.Math.max.name ∈ gT := gt_3 (List.mem_of_getElem? (i := 189) rfl) rfl
theorem kw_140 : Cond.constant RX7 177 (65535) ∈ gT := gt_3 (List.mem_of_getElem? (i := 190) rfl) rfl
theorem kw_141 : Cond.fieldLink RX7 181 "UrlGate$Url" "port" "I" ∈ gT := gt_1 (List.mem_of_getElem? (i := 186) rfl) rfl
theorem kw_142 : Cond.fieldLink RX7 194 "UrlGate$Url" "path" "LUrlGate$Row;" ∈ gT := gt_1 (List.mem_of_getElem? (i := 188) rfl) rfl
theorem kw_143 : Cond.fieldLink RX7 203 "UrlGate$Url" "hasQuery" "Z" ∈ gT := gt_1 (List.mem_of_getElem? (i := 194) rfl) rfl
theorem kw_144 : Cond.fieldLink RX7 207 "UrlGate$Url" "query" "LUrlGate$Row;" ∈ gT := gt_1 (List.mem_of_getElem? (i := 192) rfl) rfl
theorem kw_145 : Cond.fieldLink RX7 212 "UrlGate$Url" "hasFragment" "Z" ∈ gT := gt_1 (List.mem_of_getElem? (i := 198) rfl) rfl
theorem kw_146 : Cond.fieldLink RX7 215 "UrlGate$Url" "fragment" "LUrlGate$Row;" ∈ gT := gt_1 (List.mem_of_getElem? (i := 196) rfl) rfl
theorem kw_147 : Cond.fieldLink RX7 48 "UrlGate$Url" "host" "LUrlGate$Host;" ∈ gT := gt_1 (List.mem_of_getElem? (i := 181) rfl) rfl
theorem kw_148 : Cond.fieldLink RX6 107 "UrlGate$Host" "written" "LUrlGate$Row;" ∈ gT := gt_1 (List.mem_of_getElem? (i := 77) rfl) rfl
theorem kw_149 : Cond.fieldLink RX8 92 "UrlGate$Url" "port" "I" ∈ gT := gt_1 (List.mem_of_getElem? (i := 185) rfl) rfl
theorem kw_150 : Cond.fieldLink RX8 99 "UrlGate$Url" "host" "LUrlGate$Host;" ∈ gT := gt_1 (List.mem_of_getElem? (i := 183) rfl) rfl
theorem kw_151 : Cond.fieldLink RX8 102 "UrlGate$Host" "address" "LUrlGate$Address;" ∈ gT := gt_1 (List.mem_of_getElem? (i := 73) rfl) rfl
theorem kw_152 : Cond.fieldLink RX8 106 "UrlGate$Address" "kind" "I" ∈ gT := gt_1 (List.mem_of_getElem? (i := 62) rfl) rfl
theorem kw_153 : Cond.fieldLink RX8 111 "UrlGate$Url" "segments" "I" ∈ gT := gt_1 (List.mem_of_getElem? (i := 190) rfl) rfl
theorem kw_154 : Cond.fieldLink RX3 23 "UrlGate$Address" "kind" "I" ∈ gT := gt_1 (List.mem_of_getElem? (i := 61) rfl) rfl
theorem kw_155 : Cond.fieldLink RX8 132 "UrlGate$Host" "written" "LUrlGate$Row;" ∈ gT := gt_1 (List.mem_of_getElem? (i := 76) rfl) rfl
theorem kw_156 : Cond.fieldLink RX2 84 "UrlGate$Host" "written" "LUrlGate$Row;" ∈ gT := gt_1 (List.mem_of_getElem? (i := 75) rfl) rfl
theorem kw_157 : Cond.fieldLink RX2 111 "UrlGate$Row" "length" "I" ∈ gT := gt_1 (List.mem_of_getElem? (i := 38) rfl) rfl
theorem kw_158 : Cond.static yX2_isBelow ∈ gT := gt_4 (List.mem_of_getElem? (i := 118) rfl) rfl
theorem kw_159 : Cond.static yX0_agree ∈ gT := gt_4 (List.mem_of_getElem? (i := 141) rfl) rfl
theorem kw_160 : Cond.fieldLink RX2 64 "UrlGate$Url" "scheme" "I" ∈ gT := gt_1 (List.mem_of_getElem? (i := 174) rfl) rfl
theorem kw_161 : Cond.fieldLink RX2 73 "UrlGate$Url" "host" "LUrlGate$Host;" ∈ gT := gt_1 (List.mem_of_getElem? (i := 182) rfl) rfl
theorem kw_162 : Cond.fieldLink RX2 92 "UrlGate$Host" "address" "LUrlGate$Address;" ∈ gT := gt_1 (List.mem_of_getElem? (i := 72) rfl) rfl
theorem kw_163 : Cond.methodLink RX9 1 objectInit ∈ gT := gt_4 (List.mem_of_getElem? (i := 148) rfl) rfl
theorem kw_164 : Cond.arrayClass .byte ∈ gT := gt_3 (List.mem_of_getElem? (i := 238) rfl) rfl
theorem kw_165 : Cond.fieldLink RX9 7 "UrlGateModel" "text" "[B" ∈ gT := gt_4 (List.mem_of_getElem? (i := 150) rfl) rfl
theorem kw_166 : Cond.fieldLink RX9 13 "UrlGateModel" "there" "[Z" ∈ gT := gt_4 (List.mem_of_getElem? (i := 152) rfl) rfl
theorem kw_167 : Cond.fieldLink RX9 17 "UrlGateModel" "schemes" "[I" ∈ gT := gt_4 (List.mem_of_getElem? (i := 153) rfl) rfl
theorem kw_168 : Cond.fieldLink RX9 21 "UrlGateModel" "ports" "[I" ∈ gT := gt_4 (List.mem_of_getElem? (i := 154) rfl) rfl
theorem kw_169 : Cond.fieldLink RX9 24 "UrlGateModel" "kinds" "[I" ∈ gT := gt_4 (List.mem_of_getElem? (i := 155) rfl) rfl
theorem kw_170 : Cond.fieldLink RX9 27 "UrlGateModel" "numbers" "[I" ∈ gT := gt_4 (List.mem_of_getElem? (i := 156) rfl) rfl
theorem kw_171 : Cond.fieldLink RX9 30 "UrlGateModel" "hasQuery" "[Z" ∈ gT := gt_4 (List.mem_of_getElem? (i := 157) rfl) rfl
theorem kw_172 : Cond.fieldLink RX9 33 "UrlGateModel" "hasFragment" "[Z" ∈ gT := gt_4 (List.mem_of_getElem? (i := 158) rfl) rfl
theorem kw_173 : Cond.constant RX9 36 (72000) ∈ gT := gt_4 (List.mem_of_getElem? (i := 149) rfl) rfl
theorem kw_174 : Cond.fieldLink RX9 37 "UrlGateModel" "bytes" "[B" ∈ gT := gt_4 (List.mem_of_getElem? (i := 159) rfl) rfl
theorem kw_175 : Cond.fieldLink RX9 40 "UrlGateModel" "sizes" "[I" ∈ gT := gt_4 (List.mem_of_getElem? (i := 160) rfl) rfl
theorem kw_176 : Cond.fieldLink RX9 43 "UrlGateModel" "in" "[B" ∈ gT := gt_4 (List.mem_of_getElem? (i := 161) rfl) rfl
theorem kw_177 : Cond.fieldLink RX9 46 "UrlGateModel" "host" "[B" ∈ gT := gt_4 (List.mem_of_getElem? (i := 164) rfl) rfl
theorem kw_178 : Cond.fieldLink RX9 49 "UrlGateModel" "hostNumbers" "[I" ∈ gT := gt_4 (List.mem_of_getElem? (i := 167) rfl) rfl
theorem kw_179 : Cond.fieldLink RX9 52 "UrlGateModel" "written" "[B" ∈ gT := gt_4 (List.mem_of_getElem? (i := 168) rfl) rfl
theorem kw_180 : Cond.fieldLink RX9 55 "UrlGateModel" "listedName" "[B" ∈ gT := gt_4 (List.mem_of_getElem? (i := 170) rfl) rfl
theorem kw_181 : Cond.fieldLink RX9 58 "UrlGateModel" "listedSize" "[I" ∈ gT := gt_4 (List.mem_of_getElem? (i := 171) rfl) rfl
theorem kw_182 : Cond.fieldLink RX9 61 "UrlGateModel" "listedKind" "[I" ∈ gT := gt_4 (List.mem_of_getElem? (i := 172) rfl) rfl
theorem kw_183 : Cond.fieldLink RX9 64 "UrlGateModel" "listedNumbers" "[I" ∈ gT := gt_4 (List.mem_of_getElem? (i := 173) rfl) rfl
theorem kw_184 : Cond.fieldLink RX9 67 "UrlGateModel" "listedOpen" "[Z" ∈ gT := gt_4 (List.mem_of_getElem? (i := 174) rfl) rfl
theorem kw_185 : Cond.fieldLink RX9 70 "UrlGateModel" "resolvedName" "[B" ∈ gT := gt_4 (List.mem_of_getElem? (i := 176) rfl) rfl
theorem kw_186 : Cond.fieldLink RX9 73 "UrlGateModel" "resolvedSize" "[I" ∈ gT := gt_4 (List.mem_of_getElem? (i := 177) rfl) rfl
theorem kw_187 : Cond.fieldLink RX9 76 "UrlGateModel" "resolvedKind" "[I" ∈ gT := gt_4 (List.mem_of_getElem? (i := 178) rfl) rfl
theorem kw_188 : Cond.fieldLink RX9 79 "UrlGateModel" "resolvedBits" "[I" ∈ gT := gt_4 (List.mem_of_getElem? (i := 179) rfl) rfl
theorem kw_189 : Cond.fieldLink RX9 82 "UrlGateModel" "rangeKind" "[I" ∈ gT := gt_4 (List.mem_of_getElem? (i := 181) rfl) rfl
theorem kw_190 : Cond.fieldLink RX9 85 "UrlGateModel" "rangeBits" "[I" ∈ gT := gt_4 (List.mem_of_getElem? (i := 182) rfl) rfl
theorem kw_191 : Cond.fieldLink RX9 88 "UrlGateModel" "rangeMany" "[I" ∈ gT := gt_4 (List.mem_of_getElem? (i := 183) rfl) rfl
theorem kw_192 : Cond.static yX9_isIn ∈ gT := gt_5 (List.mem_of_getElem? (i := 21) rfl) rfl
theorem kw_193 : Cond.static yX9_isDigit ∈ gT := gt_5 (List.mem_of_getElem? (i := 58) rfl) rfl
theorem kw_194 : Cond.static yX9_low ∈ gT := gt_5 (List.mem_of_getElem? (i := 55) rfl) rfl
theorem kw_195 : Cond.fieldLink RX9 103 "UrlGateModel" "textSize" "I" ∈ gT := gt_4 (List.mem_of_getElem? (i := 151) rfl) rfl
theorem kw_196 : Cond.static yX9_isEscaped ∈ gT := gt_5 (List.mem_of_getElem? (i := 80) rfl) rfl
theorem kw_197 : Cond.static yX9_digitOf ∈ gT := gt_5 (List.mem_of_getElem? (i := 87) rfl) rfl
theorem kw_198 : Cond.fieldLink RX9 129 "UrlGateModel" "size" "I" ∈ gT := gt_4 (List.mem_of_getElem? (i := 162) rfl) rfl
theorem kw_199 : Cond.static yX9_schemeSize ∈ gT := gt_5 (List.mem_of_getElem? (i := 168) rfl) rfl
theorem kw_200 : Cond.static yX9_schemeByte ∈ gT := gt_5 (List.mem_of_getElem? (i := 171) rfl) rfl
theorem kw_201 : Cond.static yX9_isSlash ∈ gT := gt_5 (List.mem_of_getElem? (i := 65) rfl) rfl
theorem kw_202 : Cond.constantLong RX9 264 (65535) ∈ gT := gt_5 (List.mem_of_getElem? (i := 105) rfl) rfl
theorem kw_203 : Cond.methodLink RX9 224 Lib.Math.min.name ∈ gT := gt_5 (List.mem_of_getElem? (i := 104) rfl) rfl
theorem kw_204 : Cond.static yX9_hex ∈ gT := gt_5 (List.mem_of_getElem? (i := 98) rfl) rfl
theorem kw_205 : Cond.constantLong RX9 253 (-1) ∈ gT := gt_5 (List.mem_of_getElem? (i := 117) rfl) rfl
theorem kw_206 : Cond.constantLong RX9 255 (1099511627776) ∈ gT := gt_5 (List.mem_of_getElem? (i := 118) rfl) rfl
theorem kw_207 : Cond.methodLink RX9 257 Lib.MathLoose.min_long.x ∈ gT := gt_5 (List.mem_of_getElem? (i := 119) rfl) rfl
theorem kw_208 : Cond.fieldLink RX9 217 "UrlGateModel" "hostSize" "I" ∈ gT := gt_4 (List.mem_of_getElem? (i := 165) rfl) rfl
theorem kw_209 : Cond.fieldLink RX9 214 "UrlGateModel" "hostKind" "I" ∈ gT := gt_4 (List.mem_of_getElem? (i := 166) rfl) rfl
theorem kw_210 : Cond.constantLong RX9 251 (256) ∈ gT := gt_5 (List.mem_of_getElem? (i := 120) rfl) rfl
theorem kw_211 : Cond.static yX9_isWrongByte ∈ gT := gt_5 (List.mem_of_getElem? (i := 107) rfl) rfl
theorem kw_212 : Cond.constant RX9 227 (65535) ∈ gT := gt_5 (List.mem_of_getElem? (i := 126) rfl) rfl
theorem kw_213 : Cond.static yX9_portOf ∈ gT := gt_5 (List.mem_of_getElem? (i := 128) rfl) rfl
theorem kw_214 : Cond.fieldLink RX9 163 "UrlGateModel" "fault" "I" ∈ gT := gt_4 (List.mem_of_getElem? (i := 163) rfl) rfl
theorem kw_215 : Cond.constant RX9 223 (100000) ∈ gT := gt_5 (List.mem_of_getElem? (i := 125) rfl) rfl
theorem kw_216 : Cond.methodLink RX9 200 Lib.Math.max.name ∈ gT := gt_5 (List.mem_of_getElem? (i := 146) rfl) rfl
theorem kw_217 : Cond.static yX9_isLetter ∈ gT := gt_5 (List.mem_of_getElem? (i := 52) rfl) rfl
theorem kw_218 : Cond.fieldLink RX9 266 "UrlGateModel" "writtenSize" "I" ∈ gT := gt_4 (List.mem_of_getElem? (i := 169) rfl) rfl
theorem kw_219 : Cond.static yX9_digitsOf ∈ gT := gt_5 (List.mem_of_getElem? (i := 204) rfl) rfl
theorem kw_220 : Cond.fieldLink RX9 304 "UrlGateModel" "listed" "I" ∈ gT := gt_4 (List.mem_of_getElem? (i := 175) rfl) rfl
theorem kw_221 : Cond.fieldLink RX9 307 "UrlGateModel" "resolved" "I" ∈ gT := gt_4 (List.mem_of_getElem? (i := 180) rfl) rfl
theorem kw_222 : Cond.fieldLink RX9 310 "UrlGateModel" "ranges" "I" ∈ gT := gt_4 (List.mem_of_getElem? (i := 184) rfl) rfl
theorem kw_223 : Cond.methodLink RJ0 335 yJ0_coder_7d493 ∈ gT := gt_2 (List.mem_of_getElem? (i := 105) rfl) rfl
theorem kw_224 : Cond.code yJ0_coder_7d493 cJ0_coder_7d493 1 (some .byte) ∈ gT := gt_2 (List.mem_of_getElem? (i := 108) rfl) rfl
theorem kw_225 : Cond.initialized RJ0 ∈ gT := gt_1 (List.mem_of_getElem? (i := 14) rfl) rfl
theorem kw_226 : Cond.methodLink RJ0 492 yJ0_isLatin1_aae02 ∈ gT := gt_2 (List.mem_of_getElem? (i := 115) rfl) rfl
theorem kw_227 : Cond.code yJ0_isLatin1_aae02 cJ0_isLatin1_aae02 1 (some .boolean) ∈ gT := gt_2 (List.mem_of_getElem? (i := 118) rfl) rfl
theorem kw_228 : Cond.methodLink RJ0 495 yJ1_charAt_3b067 ∈ gT := gt_2 (List.mem_of_getElem? (i := 119) rfl) rfl
theorem kw_229 : Cond.code yJ1_charAt_3b067 cJ1_charAt_3b067 2 (some .char) ∈ gT := gt_2 (List.mem_of_getElem? (i := 121) rfl) rfl
theorem kw_230 : Cond.initialized RJ1 ∈ gT := gt_1 (List.mem_of_getElem? (i := 15) rfl) rfl
theorem kw_231 : Cond.methodLink RJ0 505 yJ0_length_8abf5 ∈ gT := gt_2 (List.mem_of_getElem? (i := 238) rfl) rfl
theorem kw_232 : Cond.code yJ0_length_8abf5 cJ0_length_8abf5 1 (some .int) ∈ gT := gt_2 (List.mem_of_getElem? (i := 104) rfl) rfl
theorem kw_233 : Cond.methodLink RJ0 633 yJ0_indexOf_7cf53 ∈ gT := gt_2 (List.mem_of_getElem? (i := 234) rfl) rfl
theorem kw_234 : Cond.code yJ0_indexOf_7cf53 cJ0_indexOf_7cf53 3 (some .int) ∈ gT := gt_2 (List.mem_of_getElem? (i := 237) rfl) rfl
theorem kw_235 : Cond.methodLink RJ0 637 yJ1_indexOf_4cfef ∈ gT := gt_2 (List.mem_of_getElem? (i := 239) rfl) rfl
theorem kw_236 : Cond.code yJ1_indexOf_4cfef cJ1_indexOf_4cfef 4 (some .int) ∈ gT := gt_3 (List.mem_of_getElem? (i := 1) rfl) rfl
theorem kw_237 : Cond.methodLink RJ0 1059 yJ3_checkIndex_8e157 ∈ gT := gt_2 (List.mem_of_getElem? (i := 127) rfl) rfl
theorem kw_238 : Cond.code yJ3_checkIndex_8e157 cJ3_checkIndex_8e157 3 (some .int) ∈ gT := gt_2 (List.mem_of_getElem? (i := 129) rfl) rfl
theorem kw_239 : Cond.initialized RJ3 ∈ gT := gt_1 (List.mem_of_getElem? (i := 16) rfl) rfl
theorem kw_240 : Cond.methodLink RJ1 9 yJ0_checkIndex_df160 ∈ gT := gt_2 (List.mem_of_getElem? (i := 122) rfl) rfl
theorem kw_241 : Cond.code yJ0_checkIndex_df160 cJ0_checkIndex_df160 2 none ∈ gT := gt_2 (List.mem_of_getElem? (i := 124) rfl) rfl
theorem kw_242 : Cond.methodLink RJ1 88 yJ1_canEncode_9a6ad ∈ gT := gt_3 (List.mem_of_getElem? (i := 2) rfl) rfl
theorem kw_243 : Cond.code yJ1_canEncode_9a6ad cJ1_canEncode_9a6ad 1 (some .boolean) ∈ gT := gt_3 (List.mem_of_getElem? (i := 4) rfl) rfl
theorem kw_244 : Cond.methodLink RJ1 95 yJ1_indexOfChar_4cfef ∈ gT := gt_3 (List.mem_of_getElem? (i := 9) rfl) rfl
theorem kw_245 : Cond.code yJ1_indexOfChar_4cfef cJ1_indexOfChar_4cfef 6 (some .int) ∈ gT := gt_3 (List.mem_of_getElem? (i := 11) rfl) rfl
theorem kw_246 : Cond.methodLink RX0 17 yX0_setTo ∈ gT := gt_2 (List.mem_of_getElem? (i := 193) rfl) rfl
theorem kw_247 : Cond.code yX0_setTo cX0_setTo 6 none ∈ gT := gt_2 (List.mem_of_getElem? (i := 196) rfl) rfl
theorem kw_248 : Cond.methodLink RX0 22 yX0_isFourInSix ∈ gT := gt_4 (List.mem_of_getElem? (i := 136) rfl) rfl
theorem kw_249 : Cond.code yX0_isFourInSix cX0_isFourInSix 1 (some .boolean) ∈ gT := gt_4 (List.mem_of_getElem? (i := 139) rfl) rfl
theorem kw_250 : Cond.methodLink RX0 26 yX0_agree ∈ gT := gt_4 (List.mem_of_getElem? (i := 140) rfl) rfl
theorem kw_251 : Cond.code yX0_agree cX0_agree 3 (some .boolean) ∈ gT := gt_4 (List.mem_of_getElem? (i := 142) rfl) rfl
theorem kw_252 : Cond.methodLink RX1 9 yJ0_indexOf_0f7a4 ∈ gT := gt_2 (List.mem_of_getElem? (i := 230) rfl) rfl
theorem kw_253 : Cond.code yJ0_indexOf_0f7a4 cJ0_indexOf_0f7a4 2 (some .int) ∈ gT := gt_2 (List.mem_of_getElem? (i := 233) rfl) rfl
theorem kw_254 : Cond.methodLink RX2 51 yX3_take ∈ gT := gt_4 (List.mem_of_getElem? (i := 74) rfl) rfl
theorem kw_255 : Cond.code yX3_take cX3_take 2 none ∈ gT := gt_2 (List.mem_of_getElem? (i := 188) rfl) rfl
theorem kw_256 : Cond.methodLink RX2 56 yX5_take ∈ gT := gt_4 (List.mem_of_getElem? (i := 84) rfl) rfl
theorem kw_257 : Cond.code yX5_take cX5_take 4 none ∈ gT := gt_2 (List.mem_of_getElem? (i := 184) rfl) rfl
theorem kw_258 : Cond.methodLink RX2 60 yX0_setTo ∈ gT := gt_4 (List.mem_of_getElem? (i := 86) rfl) rfl
theorem kw_259 : Cond.methodLink RX2 69 yX6_hasUser ∈ gT := gt_4 (List.mem_of_getElem? (i := 111) rfl) rfl
theorem kw_260 : Cond.code yX6_hasUser cX6_hasUser 1 (some .boolean) ∈ gT := gt_3 (List.mem_of_getElem? (i := 232) rfl) rfl
theorem kw_261 : Cond.methodLink RX2 77 yX2_isListed ∈ gT := gt_4 (List.mem_of_getElem? (i := 112) rfl) rfl
theorem kw_262 : Cond.code yX2_isListed cX2_isListed 4 (some .boolean) ∈ gT := gt_4 (List.mem_of_getElem? (i := 115) rfl) rfl
theorem kw_263 : Cond.methodLink RX2 81 yX3_isName ∈ gT := gt_4 (List.mem_of_getElem? (i := 120) rfl) rfl
theorem kw_264 : Cond.code yX3_isName cX3_isName 1 (some .boolean) ∈ gT := gt_4 (List.mem_of_getElem? (i := 68) rfl) rfl
theorem kw_265 : Cond.methodLink RX2 88 yX2_judgeAnswers ∈ gT := gt_4 (List.mem_of_getElem? (i := 123) rfl) rfl
theorem kw_266 : Cond.code yX2_judgeAnswers cX2_judgeAnswers 6 (some .int) ∈ gT := gt_4 (List.mem_of_getElem? (i := 126) rfl) rfl
theorem kw_267 : Cond.methodLink RX2 96 yX2_isInSomeRange ∈ gT := gt_4 (List.mem_of_getElem? (i := 128) rfl) rfl
theorem kw_268 : Cond.code yX2_isInSomeRange cX2_isInSomeRange 4 (some .boolean) ∈ gT := gt_4 (List.mem_of_getElem? (i := 131) rfl) rfl
theorem kw_269 : Cond.methodLink RX2 100 yX3_equalsHost ∈ gT := gt_4 (List.mem_of_getElem? (i := 116) rfl) rfl
theorem kw_270 : Cond.code yX3_equalsHost cX3_equalsHost 2 (some .boolean) ∈ gT := gt_4 (List.mem_of_getElem? (i := 46) rfl) rfl
theorem kw_271 : Cond.methodLink RX2 103 yX2_isBelow ∈ gT := gt_4 (List.mem_of_getElem? (i := 117) rfl) rfl
theorem kw_272 : Cond.code yX2_isBelow cX2_isBelow 2 (some .boolean) ∈ gT := gt_4 (List.mem_of_getElem? (i := 119) rfl) rfl
theorem kw_273 : Cond.methodLink RX2 107 yX5_endsWith ∈ gT := gt_4 (List.mem_of_getElem? (i := 121) rfl) rfl
theorem kw_274 : Cond.code yX5_endsWith cX5_endsWith 4 (some .boolean) ∈ gT := gt_4 (List.mem_of_getElem? (i := 54) rfl) rfl
theorem kw_275 : Cond.methodLink RX2 114 yX5_byteAt ∈ gT := gt_4 (List.mem_of_getElem? (i := 122) rfl) rfl
theorem kw_276 : Cond.code yX5_byteAt cX5_byteAt 2 (some .int) ∈ gT := gt_2 (List.mem_of_getElem? (i := 60) rfl) rfl
theorem kw_277 : Cond.methodLink RX2 118 yX5_equalsRow ∈ gT := gt_4 (List.mem_of_getElem? (i := 127) rfl) rfl
theorem kw_278 : Cond.code yX5_equalsRow cX5_equalsRow 2 (some .boolean) ∈ gT := gt_4 (List.mem_of_getElem? (i := 50) rfl) rfl
theorem kw_279 : Cond.methodLink RX2 121 yX0_isIn ∈ gT := gt_4 (List.mem_of_getElem? (i := 132) rfl) rfl
theorem kw_280 : Cond.code yX0_isIn cX0_isIn 4 (some .boolean) ∈ gT := gt_4 (List.mem_of_getElem? (i := 135) rfl) rfl
theorem kw_281 : Cond.methodLink RX3 27 yX0_take ∈ gT := gt_2 (List.mem_of_getElem? (i := 189) rfl) rfl
theorem kw_282 : Cond.code yX0_take cX0_take 2 none ∈ gT := gt_2 (List.mem_of_getElem? (i := 192) rfl) rfl
theorem kw_283 : Cond.methodLink RX3 31 yX5_take ∈ gT := gt_2 (List.mem_of_getElem? (i := 197) rfl) rfl
theorem kw_284 : Cond.methodLink RX3 34 yX5_equalsRow ∈ gT := gt_4 (List.mem_of_getElem? (i := 47) rfl) rfl
theorem kw_285 : Cond.methodLink RX3 38 yX0_setTo ∈ gT := gt_3 (List.mem_of_getElem? (i := 98) rfl) rfl
theorem kw_286 : Cond.methodLink RX3 42 yX5_cutTo ∈ gT := gt_3 (List.mem_of_getElem? (i := 112) rfl) rfl
theorem kw_287 : Cond.code yX5_cutTo cX5_cutTo 2 none ∈ gT := gt_2 (List.mem_of_getElem? (i := 40) rfl) rfl
theorem kw_288 : Cond.methodLink RX3 46 yX5_addDecimal ∈ gT := gt_3 (List.mem_of_getElem? (i := 176) rfl) rfl
theorem kw_289 : Cond.code yX5_addDecimal cX5_addDecimal 3 none ∈ gT := gt_3 (List.mem_of_getElem? (i := 179) rfl) rfl
theorem kw_290 : Cond.methodLink RX3 49 yX5_add ∈ gT := gt_3 (List.mem_of_getElem? (i := 113) rfl) rfl
theorem kw_291 : Cond.code yX5_add cX5_add 2 none ∈ gT := gt_2 (List.mem_of_getElem? (i := 16) rfl) rfl
theorem kw_292 : Cond.methodLink RX3 52 yX3_firstLongestGap ∈ gT := gt_3 (List.mem_of_getElem? (i := 99) rfl) rfl
theorem kw_293 : Cond.code yX3_firstLongestGap cX3_firstLongestGap 5 (some .int) ∈ gT := gt_3 (List.mem_of_getElem? (i := 102) rfl) rfl
theorem kw_294 : Cond.methodLink RX3 56 yX3_zerosFrom ∈ gT := gt_3 (List.mem_of_getElem? (i := 108) rfl) rfl
theorem kw_295 : Cond.code yX3_zerosFrom cX3_zerosFrom 3 (some .int) ∈ gT := gt_3 (List.mem_of_getElem? (i := 111) rfl) rfl
theorem kw_296 : Cond.methodLink RX3 62 yX5_addText ∈ gT := gt_3 (List.mem_of_getElem? (i := 115) rfl) rfl
theorem kw_297 : Cond.code yX5_addText cX5_addText 3 none ∈ gT := gt_2 (List.mem_of_getElem? (i := 100) rfl) rfl
theorem kw_298 : Cond.methodLink RX3 66 yX0_numberAt ∈ gT := gt_3 (List.mem_of_getElem? (i := 103) rfl) rfl
theorem kw_299 : Cond.code yX0_numberAt cX0_numberAt 2 (some .int) ∈ gT := gt_3 (List.mem_of_getElem? (i := 106) rfl) rfl
theorem kw_300 : Cond.methodLink RX3 69 yX5_addHex ∈ gT := gt_3 (List.mem_of_getElem? (i := 116) rfl) rfl
theorem kw_301 : Cond.code yX5_addHex cX5_addHex 3 none ∈ gT := gt_3 (List.mem_of_getElem? (i := 119) rfl) rfl
theorem kw_302 : Cond.methodLink RX4 26 yX5_byteAt ∈ gT := gt_3 (List.mem_of_getElem? (i := 56) rfl) rfl
theorem kw_303 : Cond.methodLink RX4 30 yX4_readSix ∈ gT := gt_3 (List.mem_of_getElem? (i := 57) rfl) rfl
theorem kw_304 : Cond.code yX4_readSix cX4_readSix 8 (some .int) ∈ gT := gt_3 (List.mem_of_getElem? (i := 60) rfl) rfl
theorem kw_305 : Cond.methodLink RX4 34 yX4_decode ∈ gT := gt_3 (List.mem_of_getElem? (i := 121) rfl) rfl
theorem kw_306 : Cond.code yX4_decode cX4_decode 7 none ∈ gT := gt_3 (List.mem_of_getElem? (i := 124) rfl) rfl
theorem kw_307 : Cond.methodLink RX4 41 yX4_hasWrongByte ∈ gT := gt_3 (List.mem_of_getElem? (i := 128) rfl) rfl
theorem kw_308 : Cond.code yX4_hasWrongByte cX4_hasWrongByte 2 (some .boolean) ∈ gT := gt_3 (List.mem_of_getElem? (i := 131) rfl) rfl
theorem kw_309 : Cond.methodLink RX4 45 yX4_hasForeignPart ∈ gT := gt_3 (List.mem_of_getElem? (i := 136) rfl) rfl
theorem kw_310 : Cond.code yX4_hasForeignPart cX4_hasForeignPart 2 (some .boolean) ∈ gT := gt_3 (List.mem_of_getElem? (i := 139) rfl) rfl
theorem kw_311 : Cond.methodLink RX4 48 yX4_lastPartStart ∈ gT := gt_3 (List.mem_of_getElem? (i := 142) rfl) rfl
theorem kw_312 : Cond.code yX4_lastPartStart cX4_lastPartStart 3 (some .int) ∈ gT := gt_3 (List.mem_of_getElem? (i := 145) rfl) rfl
theorem kw_313 : Cond.methodLink RX4 51 yX4_isNumeral ∈ gT := gt_3 (List.mem_of_getElem? (i := 146) rfl) rfl
theorem kw_314 : Cond.code yX4_isNumeral cX4_isNumeral 6 (some .boolean) ∈ gT := gt_3 (List.mem_of_getElem? (i := 149) rfl) rfl
theorem kw_315 : Cond.methodLink RX4 55 yX4_readFour ∈ gT := gt_3 (List.mem_of_getElem? (i := 155) rfl) rfl
theorem kw_316 : Cond.code yX4_readFour cX4_readFour 10 (some .int) ∈ gT := gt_3 (List.mem_of_getElem? (i := 158) rfl) rfl
theorem kw_317 : Cond.methodLink RX4 59 yX3_setName ∈ gT := gt_3 (List.mem_of_getElem? (i := 181) rfl) rfl
theorem kw_318 : Cond.code yX3_setName cX3_setName 2 none ∈ gT := gt_3 (List.mem_of_getElem? (i := 184) rfl) rfl
theorem kw_319 : Cond.methodLink RX4 65 yX5_cutTo ∈ gT := gt_3 (List.mem_of_getElem? (i := 125) rfl) rfl
theorem kw_320 : Cond.methodLink RX4 69 yX1_hexValue ∈ gT := gt_3 (List.mem_of_getElem? (i := 83) rfl) rfl
theorem kw_321 : Cond.code yX1_hexValue cX1_hexValue 1 (some .int) ∈ gT := gt_3 (List.mem_of_getElem? (i := 85) rfl) rfl
theorem kw_322 : Cond.initialized RX1 ∈ gT := gt_1 (List.mem_of_getElem? (i := 13) rfl) rfl
theorem kw_323 : Cond.methodLink RX4 74 yX1_low ∈ gT := gt_3 (List.mem_of_getElem? (i := 126) rfl) rfl
theorem kw_324 : Cond.code yX1_low cX1_low 1 (some .int) ∈ gT := gt_2 (List.mem_of_getElem? (i := 162) rfl) rfl
theorem kw_325 : Cond.methodLink RX4 77 yX5_add ∈ gT := gt_3 (List.mem_of_getElem? (i := 127) rfl) rfl
theorem kw_326 : Cond.methodLink RX4 80 yX1_isWrongInName ∈ gT := gt_3 (List.mem_of_getElem? (i := 132) rfl) rfl
theorem kw_327 : Cond.code yX1_isWrongInName cX1_isWrongInName 1 (some .boolean) ∈ gT := gt_3 (List.mem_of_getElem? (i := 134) rfl) rfl
theorem kw_328 : Cond.methodLink RX4 86 yX5_hasAt ∈ gT := gt_3 (List.mem_of_getElem? (i := 141) rfl) rfl
theorem kw_329 : Cond.code yX5_hasAt cX5_hasAt 4 (some .boolean) ∈ gT := gt_2 (List.mem_of_getElem? (i := 168) rfl) rfl
theorem kw_330 : Cond.methodLink RX4 90 yX4_isHex ∈ gT := gt_3 (List.mem_of_getElem? (i := 150) rfl) rfl
theorem kw_331 : Cond.code yX4_isHex cX4_isHex 3 (some .boolean) ∈ gT := gt_3 (List.mem_of_getElem? (i := 153) rfl) rfl
theorem kw_332 : Cond.methodLink RX4 93 yX1_isDigit ∈ gT := gt_3 (List.mem_of_getElem? (i := 73) rfl) rfl
theorem kw_333 : Cond.code yX1_isDigit cX1_isDigit 1 (some .boolean) ∈ gT := gt_2 (List.mem_of_getElem? (i := 84) rfl) rfl
theorem kw_334 : Cond.methodLink RX4 98 yX4_partEnd ∈ gT := gt_3 (List.mem_of_getElem? (i := 159) rfl) rfl
theorem kw_335 : Cond.code yX4_partEnd cX4_partEnd 4 (some .int) ∈ gT := gt_3 (List.mem_of_getElem? (i := 162) rfl) rfl
theorem kw_336 : Cond.methodLink RX4 102 yX4_numeralValue ∈ gT := gt_3 (List.mem_of_getElem? (i := 163) rfl) rfl
theorem kw_337 : Cond.code yX4_numeralValue cX4_numeralValue 9 (some .long) ∈ gT := gt_3 (List.mem_of_getElem? (i := 166) rfl) rfl
theorem kw_338 : Cond.methodLink RX4 106 yX3_setFour ∈ gT := gt_3 (List.mem_of_getElem? (i := 172) rfl) rfl
theorem kw_339 : Cond.code yX3_setFour cX3_setFour 3 none ∈ gT := gt_3 (List.mem_of_getElem? (i := 175) rfl) rfl
theorem kw_340 : Cond.methodLink RX4 121 yX4_findGap ∈ gT := gt_3 (List.mem_of_getElem? (i := 61) rfl) rfl
theorem kw_341 : Cond.code yX4_findGap cX4_findGap 5 (some .int) ∈ gT := gt_3 (List.mem_of_getElem? (i := 64) rfl) rfl
theorem kw_342 : Cond.methodLink RX4 125 yX4_readPieces ∈ gT := gt_3 (List.mem_of_getElem? (i := 65) rfl) rfl
theorem kw_343 : Cond.code yX4_readPieces cX4_readPieces 10 (some .boolean) ∈ gT := gt_3 (List.mem_of_getElem? (i := 68) rfl) rfl
theorem kw_344 : Cond.methodLink RX4 129 yX4_spread ∈ gT := gt_3 (List.mem_of_getElem? (i := 86) rfl) rfl
theorem kw_345 : Cond.code yX4_spread cX4_spread 5 none ∈ gT := gt_3 (List.mem_of_getElem? (i := 89) rfl) rfl
theorem kw_346 : Cond.methodLink RX4 132 yX4_wordAt ∈ gT := gt_3 (List.mem_of_getElem? (i := 90) rfl) rfl
theorem kw_347 : Cond.code yX4_wordAt cX4_wordAt 2 (some .int) ∈ gT := gt_3 (List.mem_of_getElem? (i := 93) rfl) rfl
theorem kw_348 : Cond.methodLink RX4 135 yX3_setSix ∈ gT := gt_3 (List.mem_of_getElem? (i := 94) rfl) rfl
theorem kw_349 : Cond.code yX3_setSix cX3_setSix 8 none ∈ gT := gt_3 (List.mem_of_getElem? (i := 97) rfl) rfl
theorem kw_350 : Cond.methodLink RX4 139 yX4_readPoints ∈ gT := gt_3 (List.mem_of_getElem? (i := 69) rfl) rfl
theorem kw_351 : Cond.code yX4_readPoints cX4_readPoints 9 (some .boolean) ∈ gT := gt_3 (List.mem_of_getElem? (i := 72) rfl) rfl
theorem kw_352 : Cond.methodLink RX4 143 yX4_readPiece ∈ gT := gt_3 (List.mem_of_getElem? (i := 79) rfl) rfl
theorem kw_353 : Cond.code yX4_readPiece cX4_readPiece 7 (some .boolean) ∈ gT := gt_3 (List.mem_of_getElem? (i := 82) rfl) rfl
theorem kw_354 : Cond.methodLink RX4 146 yX4_addPiece ∈ gT := gt_3 (List.mem_of_getElem? (i := 74) rfl) rfl
theorem kw_355 : Cond.code yX4_addPiece cX4_addPiece 2 (some .boolean) ∈ gT := gt_3 (List.mem_of_getElem? (i := 77) rfl) rfl
theorem kw_356 : Cond.methodLink RX5 19 yJ7_copyOf_59c91 ∈ gT := gt_2 (List.mem_of_getElem? (i := 17) rfl) rfl
theorem kw_357 : Cond.code yJ7_copyOf_59c91 cJ7_copyOf_59c91 3 (some (.array .int)) ∈ gT := gt_2 (List.mem_of_getElem? (i := 19) rfl) rfl
theorem kw_358 : Cond.initialized RJ7 ∈ gT := gt_1 (List.mem_of_getElem? (i := 10) rfl) rfl
theorem kw_359 : Cond.methodLink RX5 25 yX5_byteAt ∈ gT := gt_2 (List.mem_of_getElem? (i := 169) rfl) rfl
theorem kw_360 : Cond.methodLink RX5 29 yX5_add ∈ gT := gt_2 (List.mem_of_getElem? (i := 149) rfl) rfl
theorem kw_361 : Cond.methodLink RX5 33 yJ0_length_8abf5 ∈ gT := gt_2 (List.mem_of_getElem? (i := 101) rfl) rfl
theorem kw_362 : Cond.methodLink RX5 38 yJ0_charAt_5068e ∈ gT := gt_2 (List.mem_of_getElem? (i := 111) rfl) rfl
theorem kw_363 : Cond.code yJ0_charAt_5068e cJ0_charAt_5068e 2 (some .char) ∈ gT := gt_2 (List.mem_of_getElem? (i := 114) rfl) rfl
theorem kw_364 : Cond.methodLink RX5 42 yX1_isToEscape ∈ gT := gt_2 (List.mem_of_getElem? (i := 227) rfl) rfl
theorem kw_365 : Cond.code yX1_isToEscape cX1_isToEscape 2 (some .boolean) ∈ gT := gt_2 (List.mem_of_getElem? (i := 229) rfl) rfl
theorem kw_366 : Cond.methodLink RX5 52 yX5_endsWith ∈ gT := gt_4 (List.mem_of_getElem? (i := 51) rfl) rfl
theorem kw_367 : Cond.methodLink RX6 67 yX5_cutTo ∈ gT := gt_2 (List.mem_of_getElem? (i := 67) rfl) rfl
theorem kw_368 : Cond.methodLink RX6 71 yX6_nameOf ∈ gT := gt_2 (List.mem_of_getElem? (i := 89) rfl) rfl
theorem kw_369 : Cond.code yX6_nameOf cX6_nameOf 1 (some (.object "java/lang/String")) ∈ gT := gt_2 (List.mem_of_getElem? (i := 91) rfl) rfl
theorem kw_370 : Cond.methodLink RX6 75 yX5_addText ∈ gT := gt_2 (List.mem_of_getElem? (i := 97) rfl) rfl
theorem kw_371 : Cond.methodLink RX6 79 yX5_take ∈ gT := gt_2 (List.mem_of_getElem? (i := 181) rfl) rfl
theorem kw_372 : Cond.methodLink RX6 83 yX3_take ∈ gT := gt_2 (List.mem_of_getElem? (i := 185) rfl) rfl
theorem kw_373 : Cond.methodLink RX6 86 yX5_add ∈ gT := gt_3 (List.mem_of_getElem? (i := 212) rfl) rfl
theorem kw_374 : Cond.methodLink RX6 92 yX5_byteAt ∈ gT := gt_2 (List.mem_of_getElem? (i := 210) rfl) rfl
theorem kw_375 : Cond.methodLink RX6 96 yX6_portOf ∈ gT := gt_4 (List.mem_of_getElem? (i := 29) rfl) rfl
theorem kw_376 : Cond.code yX6_portOf cX6_portOf 1 (some .int) ∈ gT := gt_3 (List.mem_of_getElem? (i := 193) rfl) rfl
theorem kw_377 : Cond.methodLink RX6 99 yX3_equalsHost ∈ gT := gt_4 (List.mem_of_getElem? (i := 43) rfl) rfl
theorem kw_378 : Cond.methodLink RX6 103 yX6_portThatCounts ∈ gT := gt_4 (List.mem_of_getElem? (i := 55) rfl) rfl
theorem kw_379 : Cond.code yX6_portThatCounts cX6_portThatCounts 1 (some .int) ∈ gT := gt_4 (List.mem_of_getElem? (i := 28) rfl) rfl
theorem kw_380 : Cond.methodLink RX6 112 yX6_hasUser ∈ gT := gt_3 (List.mem_of_getElem? (i := 229) rfl) rfl
theorem kw_381 : Cond.methodLink RX6 116 yX5_addRow ∈ gT := gt_3 (List.mem_of_getElem? (i := 233) rfl) rfl
theorem kw_382 : Cond.code yX5_addRow cX5_addRow 4 none ∈ gT := gt_3 (List.mem_of_getElem? (i := 236) rfl) rfl
theorem kw_383 : Cond.methodLink RX6 119 yX5_addDecimal ∈ gT := gt_3 (List.mem_of_getElem? (i := 237) rfl) rfl
theorem kw_384 : Cond.methodLink RX7 28 yX7_tidy ∈ gT := gt_2 (List.mem_of_getElem? (i := 53) rfl) rfl
theorem kw_385 : Cond.code yX7_tidy cX7_tidy 6 none ∈ gT := gt_2 (List.mem_of_getElem? (i := 56) rfl) rfl
theorem kw_386 : Cond.methodLink RX7 32 yX6_empty ∈ gT := gt_2 (List.mem_of_getElem? (i := 63) rfl) rfl
theorem kw_387 : Cond.code yX6_empty cX6_empty 1 none ∈ gT := gt_2 (List.mem_of_getElem? (i := 66) rfl) rfl
theorem kw_388 : Cond.methodLink RX7 37 yX7_readScheme ∈ gT := gt_2 (List.mem_of_getElem? (i := 68) rfl) rfl
theorem kw_389 : Cond.code yX7_readScheme cX7_readScheme 6 (some .int) ∈ gT := gt_2 (List.mem_of_getElem? (i := 71) rfl) rfl
theorem kw_390 : Cond.methodLink RX7 41 yX7_readRelative ∈ gT := gt_2 (List.mem_of_getElem? (i := 170) rfl) rfl
theorem kw_391 : Cond.code yX7_readRelative cX7_readRelative 4 (some .int) ∈ gT := gt_2 (List.mem_of_getElem? (i := 173) rfl) rfl
theorem kw_392 : Cond.methodLink RX7 44 yX7_readAuthority ∈ gT := gt_2 (List.mem_of_getElem? (i := 211) rfl) rfl
theorem kw_393 : Cond.code yX7_readAuthority cX7_readAuthority 5 (some .int) ∈ gT := gt_2 (List.mem_of_getElem? (i := 214) rfl) rfl
theorem kw_394 : Cond.methodLink RX7 52 yX4_readHost ∈ gT := gt_3 (List.mem_of_getElem? (i := 52) rfl) rfl
theorem kw_395 : Cond.code yX4_readHost cX4_readHost 6 (some .int) ∈ gT := gt_3 (List.mem_of_getElem? (i := 55) rfl) rfl
theorem kw_396 : Cond.methodLink RX7 58 yX7_readPort ∈ gT := gt_3 (List.mem_of_getElem? (i := 185) rfl) rfl
theorem kw_397 : Cond.code yX7_readPort cX7_readPort 5 (some .int) ∈ gT := gt_3 (List.mem_of_getElem? (i := 188) rfl) rfl
theorem kw_398 : Cond.methodLink RX7 61 yX5_byteAt ∈ gT := gt_2 (List.mem_of_getElem? (i := 57) rfl) rfl
theorem kw_399 : Cond.methodLink RX7 65 yX1_isSlash ∈ gT := gt_2 (List.mem_of_getElem? (i := 174) rfl) rfl
theorem kw_400 : Cond.code yX1_isSlash cX1_isSlash 1 (some .boolean) ∈ gT := gt_2 (List.mem_of_getElem? (i := 176) rfl) rfl
theorem kw_401 : Cond.methodLink RX7 71 yX7_readSegments ∈ gT := gt_3 (List.mem_of_getElem? (i := 194) rfl) rfl
theorem kw_402 : Cond.code yX7_readSegments cX7_readSegments 5 none ∈ gT := gt_3 (List.mem_of_getElem? (i := 197) rfl) rfl
theorem kw_403 : Cond.methodLink RX7 75 yX7_readQuery ∈ gT := gt_3 (List.mem_of_getElem? (i := 214) rfl) rfl
theorem kw_404 : Cond.code yX7_readQuery cX7_readQuery 2 none ∈ gT := gt_3 (List.mem_of_getElem? (i := 217) rfl) rfl
theorem kw_405 : Cond.methodLink RX7 78 yX7_readFragment ∈ gT := gt_3 (List.mem_of_getElem? (i := 219) rfl) rfl
theorem kw_406 : Cond.code yX7_readFragment cX7_readFragment 3 none ∈ gT := gt_3 (List.mem_of_getElem? (i := 222) rfl) rfl
theorem kw_407 : Cond.methodLink RX7 84 yX5_cutTo ∈ gT := gt_2 (List.mem_of_getElem? (i := 61) rfl) rfl
theorem kw_408 : Cond.methodLink RX7 88 yX5_add ∈ gT := gt_2 (List.mem_of_getElem? (i := 62) rfl) rfl
theorem kw_409 : Cond.methodLink RX7 91 yX7_schemeEnd ∈ gT := gt_2 (List.mem_of_getElem? (i := 72) rfl) rfl
theorem kw_410 : Cond.code yX7_schemeEnd cX7_schemeEnd 2 (some .int) ∈ gT := gt_2 (List.mem_of_getElem? (i := 75) rfl) rfl
theorem kw_411 : Cond.methodLink RX7 98 yX6_setScheme ∈ gT := gt_2 (List.mem_of_getElem? (i := 85) rfl) rfl
theorem kw_412 : Cond.code yX6_setScheme cX6_setScheme 2 none ∈ gT := gt_2 (List.mem_of_getElem? (i := 88) rfl) rfl
theorem kw_413 : Cond.methodLink RX7 101 yX7_schemeUpTo ∈ gT := gt_2 (List.mem_of_getElem? (i := 150) rfl) rfl
theorem kw_414 : Cond.code yX7_schemeUpTo cX7_schemeUpTo 3 (some .int) ∈ gT := gt_2 (List.mem_of_getElem? (i := 153) rfl) rfl
theorem kw_415 : Cond.methodLink RX7 106 yX5_hasAt ∈ gT := gt_2 (List.mem_of_getElem? (i := 165) rfl) rfl
theorem kw_416 : Cond.methodLink RX7 110 yX1_isLetter ∈ gT := gt_2 (List.mem_of_getElem? (i := 76) rfl) rfl
theorem kw_417 : Cond.code yX1_isLetter cX1_isLetter 1 (some .boolean) ∈ gT := gt_2 (List.mem_of_getElem? (i := 78) rfl) rfl
theorem kw_418 : Cond.methodLink RX7 113 yX7_mayBeInScheme ∈ gT := gt_2 (List.mem_of_getElem? (i := 79) rfl) rfl
theorem kw_419 : Cond.code yX7_mayBeInScheme cX7_mayBeInScheme 1 (some .boolean) ∈ gT := gt_2 (List.mem_of_getElem? (i := 81) rfl) rfl
theorem kw_420 : Cond.methodLink RX7 116 yX1_isDigit ∈ gT := gt_2 (List.mem_of_getElem? (i := 82) rfl) rfl
theorem kw_421 : Cond.methodLink RX7 119 yX6_nameOf ∈ gT := gt_2 (List.mem_of_getElem? (i := 154) rfl) rfl
theorem kw_422 : Cond.methodLink RX7 123 yX7_isWord ∈ gT := gt_2 (List.mem_of_getElem? (i := 155) rfl) rfl
theorem kw_423 : Cond.code yX7_isWord cX7_isWord 4 (some .boolean) ∈ gT := gt_2 (List.mem_of_getElem? (i := 158) rfl) rfl
theorem kw_424 : Cond.methodLink RX7 126 yJ0_length_8abf5 ∈ gT := gt_2 (List.mem_of_getElem? (i := 159) rfl) rfl
theorem kw_425 : Cond.methodLink RX7 130 yX1_low ∈ gT := gt_2 (List.mem_of_getElem? (i := 160) rfl) rfl
theorem kw_426 : Cond.methodLink RX7 133 yJ0_charAt_5068e ∈ gT := gt_2 (List.mem_of_getElem? (i := 163) rfl) rfl
theorem kw_427 : Cond.methodLink RX7 137 yX6_takeAuthority ∈ gT := gt_2 (List.mem_of_getElem? (i := 177) rfl) rfl
theorem kw_428 : Cond.code yX6_takeAuthority cX6_takeAuthority 2 none ∈ gT := gt_2 (List.mem_of_getElem? (i := 180) rfl) rfl
theorem kw_429 : Cond.methodLink RX7 140 yX6_takePath ∈ gT := gt_2 (List.mem_of_getElem? (i := 198) rfl) rfl
theorem kw_430 : Cond.code yX6_takePath cX6_takePath 2 none ∈ gT := gt_2 (List.mem_of_getElem? (i := 201) rfl) rfl
theorem kw_431 : Cond.methodLink RX7 143 yX6_takeQuery ∈ gT := gt_2 (List.mem_of_getElem? (i := 202) rfl) rfl
theorem kw_432 : Cond.code yX6_takeQuery cX6_takeQuery 2 none ∈ gT := gt_2 (List.mem_of_getElem? (i := 205) rfl) rfl
theorem kw_433 : Cond.methodLink RX7 146 yX6_dropSegment ∈ gT := gt_2 (List.mem_of_getElem? (i := 206) rfl) rfl
theorem kw_434 : Cond.code yX6_dropSegment cX6_dropSegment 2 none ∈ gT := gt_2 (List.mem_of_getElem? (i := 209) rfl) rfl
theorem kw_435 : Cond.methodLink RX7 149 yX1_isDivider ∈ gT := gt_2 (List.mem_of_getElem? (i := 215) rfl) rfl
theorem kw_436 : Cond.code yX1_isDivider cX1_isDivider 1 (some .boolean) ∈ gT := gt_2 (List.mem_of_getElem? (i := 217) rfl) rfl
theorem kw_437 : Cond.methodLink RX7 152 yX7_readUser ∈ gT := gt_2 (List.mem_of_getElem? (i := 218) rfl) rfl
theorem kw_438 : Cond.code yX7_readUser cX7_readUser 8 none ∈ gT := gt_2 (List.mem_of_getElem? (i := 221) rfl) rfl
theorem kw_439 : Cond.methodLink RX7 156 yX7_hostEndFrom ∈ gT := gt_3 (List.mem_of_getElem? (i := 48) rfl) rfl
theorem kw_440 : Cond.code yX7_hostEndFrom cX7_hostEndFrom 6 (some .int) ∈ gT := gt_3 (List.mem_of_getElem? (i := 51) rfl) rfl
theorem kw_441 : Cond.methodLink RX7 168 yX5_addEscaped ∈ gT := gt_2 (List.mem_of_getElem? (i := 223) rfl) rfl
theorem kw_442 : Cond.code yX5_addEscaped cX5_addEscaped 3 none ∈ gT := gt_2 (List.mem_of_getElem? (i := 226) rfl) rfl
theorem kw_443 : Cond.methodLink RX7 178 yX6_portOf ∈ gT := gt_3 (List.mem_of_getElem? (i := 191) rfl) rfl
theorem kw_444 : Cond.methodLink RX7 184 yX7_takeSegment ∈ gT := gt_3 (List.mem_of_getElem? (i := 198) rfl) rfl
theorem kw_445 : Cond.code yX7_takeSegment cX7_takeSegment 7 none ∈ gT := gt_3 (List.mem_of_getElem? (i := 201) rfl) rfl
theorem kw_446 : Cond.methodLink RX7 188 yX7_pointsIn ∈ gT := gt_3 (List.mem_of_getElem? (i := 202) rfl) rfl
theorem kw_447 : Cond.code yX7_pointsIn cX7_pointsIn 5 (some .int) ∈ gT := gt_3 (List.mem_of_getElem? (i := 205) rfl) rfl
theorem kw_448 : Cond.methodLink RX7 191 yX6_beginSegment ∈ gT := gt_3 (List.mem_of_getElem? (i := 208) rfl) rfl
theorem kw_449 : Cond.code yX6_beginSegment cX6_beginSegment 1 none ∈ gT := gt_3 (List.mem_of_getElem? (i := 211) rfl) rfl
theorem kw_450 : Cond.methodLink RX8 62 yX5_add ∈ gT := gt_2 (List.mem_of_getElem? (i := 13) rfl) rfl
theorem kw_451 : Cond.methodLink RX8 66 yX5_cutTo ∈ gT := gt_2 (List.mem_of_getElem? (i := 37) rfl) rfl
theorem kw_452 : Cond.methodLink RX8 69 yX8_recordAt ∈ gT := gt_2 (List.mem_of_getElem? (i := 45) rfl) rfl
theorem kw_453 : Cond.code yX8_recordAt cX8_recordAt 2 (some (.object "UrlGate$Url")) ∈ gT := gt_2 (List.mem_of_getElem? (i := 48) rfl) rfl
theorem kw_454 : Cond.initialized RX8 ∈ gT := gt_1 (List.mem_of_getElem? (i := 1) rfl) rfl
theorem kw_455 : Cond.methodLink RX8 73 yX7_readUrl ∈ gT := gt_2 (List.mem_of_getElem? (i := 49) rfl) rfl
theorem kw_456 : Cond.code yX7_readUrl cX7_readUrl 7 (some .int) ∈ gT := gt_2 (List.mem_of_getElem? (i := 52) rfl) rfl
theorem kw_457 : Cond.methodLink RX8 77 yX6_writeTo ∈ gT := gt_3 (List.mem_of_getElem? (i := 224) rfl) rfl
theorem kw_458 : Cond.code yX6_writeTo cX6_writeTo 2 none ∈ gT := gt_3 (List.mem_of_getElem? (i := 227) rfl) rfl
theorem kw_459 : Cond.methodLink RX8 81 yX5_take ∈ gT := gt_4 (List.mem_of_getElem? (i := 3) rfl) rfl
theorem kw_460 : Cond.methodLink RX8 84 yX5_byteAt ∈ gT := gt_4 (List.mem_of_getElem? (i := 8) rfl) rfl
theorem kw_461 : Cond.methodLink RX8 88 yX6_rowOf ∈ gT := gt_4 (List.mem_of_getElem? (i := 13) rfl) rfl
theorem kw_462 : Cond.code yX6_rowOf cX6_rowOf 2 (some (.object "UrlGate$Row")) ∈ gT := gt_4 (List.mem_of_getElem? (i := 16) rfl) rfl
theorem kw_463 : Cond.methodLink RX8 95 yX6_portThatCounts ∈ gT := gt_4 (List.mem_of_getElem? (i := 25) rfl) rfl
theorem kw_464 : Cond.methodLink RX8 114 yX0_numberAt ∈ gT := gt_4 (List.mem_of_getElem? (i := 34) rfl) rfl
theorem kw_465 : Cond.methodLink RX8 117 yX6_hasOriginOf ∈ gT := gt_4 (List.mem_of_getElem? (i := 39) rfl) rfl
theorem kw_466 : Cond.code yX6_hasOriginOf cX6_hasOriginOf 2 (some .boolean) ∈ gT := gt_4 (List.mem_of_getElem? (i := 42) rfl) rfl
theorem kw_467 : Cond.methodLink RX8 121 yX8_hearHost ∈ gT := gt_4 (List.mem_of_getElem? (i := 60) rfl) rfl
theorem kw_468 : Cond.code yX8_hearHost cX8_hearHost 2 (some .int) ∈ gT := gt_4 (List.mem_of_getElem? (i := 63) rfl) rfl
theorem kw_469 : Cond.methodLink RX8 124 yX3_isName ∈ gT := gt_4 (List.mem_of_getElem? (i := 65) rfl) rfl
theorem kw_470 : Cond.methodLink RX8 128 yX2_addHost ∈ gT := gt_4 (List.mem_of_getElem? (i := 69) rfl) rfl
theorem kw_471 : Cond.code yX2_addHost cX2_addHost 4 (some .int) ∈ gT := gt_4 (List.mem_of_getElem? (i := 72) rfl) rfl
theorem kw_472 : Cond.methodLink RX8 135 yX2_addAnswer ∈ gT := gt_4 (List.mem_of_getElem? (i := 79) rfl) rfl
theorem kw_473 : Cond.code yX2_addAnswer cX2_addAnswer 9 (some .int) ∈ gT := gt_4 (List.mem_of_getElem? (i := 82) rfl) rfl
theorem kw_474 : Cond.methodLink RX8 139 yX2_addRange ∈ gT := gt_4 (List.mem_of_getElem? (i := 91) rfl) rfl
theorem kw_475 : Cond.code yX2_addRange cX2_addRange 8 (some .int) ∈ gT := gt_4 (List.mem_of_getElem? (i := 94) rfl) rfl
theorem kw_476 : Cond.methodLink RX8 143 yX2_forget ∈ gT := gt_4 (List.mem_of_getElem? (i := 99) rfl) rfl
theorem kw_477 : Cond.code yX2_forget cX2_forget 2 (some .int) ∈ gT := gt_4 (List.mem_of_getElem? (i := 102) rfl) rfl
theorem kw_478 : Cond.methodLink RX8 146 yX2_judge ∈ gT := gt_4 (List.mem_of_getElem? (i := 107) rfl) rfl
theorem kw_479 : Cond.code yX2_judge cX2_judge 2 (some .int) ∈ gT := gt_4 (List.mem_of_getElem? (i := 110) rfl) rfl
theorem kw_480 : Cond.methodLink RX8 150 yX4_readHost ∈ gT := gt_4 (List.mem_of_getElem? (i := 64) rfl) rfl
theorem kw_481 : Cond.methodLink RX9 91 yX9_isIn ∈ gT := gt_5 (List.mem_of_getElem? (i := 20) rfl) rfl
theorem kw_482 : Cond.code yX9_isIn cX9_isIn 3 (some .boolean) ∈ gT := gt_5 (List.mem_of_getElem? (i := 22) rfl) rfl
theorem kw_483 : Cond.initialized RX9 ∈ gT := gt_1 (List.mem_of_getElem? (i := 9) rfl) rfl
theorem kw_484 : Cond.methodLink RX9 95 yX9_isDigit ∈ gT := gt_5 (List.mem_of_getElem? (i := 57) rfl) rfl
theorem kw_485 : Cond.code yX9_isDigit cX9_isDigit 1 (some .boolean) ∈ gT := gt_5 (List.mem_of_getElem? (i := 59) rfl) rfl
theorem kw_486 : Cond.methodLink RX9 99 yX9_low ∈ gT := gt_5 (List.mem_of_getElem? (i := 54) rfl) rfl
theorem kw_487 : Cond.code yX9_low cX9_low 1 (some .int) ∈ gT := gt_5 (List.mem_of_getElem? (i := 56) rfl) rfl
theorem kw_488 : Cond.methodLink RX9 107 yX9_sizeOf ∈ gT := gt_5 (List.mem_of_getElem? (i := 159) rfl) rfl
theorem kw_489 : Cond.code yX9_sizeOf cX9_sizeOf 3 (some .int) ∈ gT := gt_5 (List.mem_of_getElem? (i := 162) rfl) rfl
theorem kw_490 : Cond.methodLink RX9 111 yX9_row ∈ gT := gt_5 (List.mem_of_getElem? (i := 142) rfl) rfl
theorem kw_491 : Cond.code yX9_row cX9_row 3 (some .int) ∈ gT := gt_5 (List.mem_of_getElem? (i := 145) rfl) rfl
theorem kw_492 : Cond.methodLink RX9 114 yX9_copyPart ∈ gT := gt_5 (List.mem_of_getElem? (i := 155) rfl) rfl
theorem kw_493 : Cond.code yX9_copyPart cX9_copyPart 6 none ∈ gT := gt_5 (List.mem_of_getElem? (i := 158) rfl) rfl
theorem kw_494 : Cond.methodLink RX9 118 yX9_isEscaped ∈ gT := gt_5 (List.mem_of_getElem? (i := 79) rfl) rfl
theorem kw_495 : Cond.code yX9_isEscaped cX9_isEscaped 4 (some .boolean) ∈ gT := gt_5 (List.mem_of_getElem? (i := 81) rfl) rfl
theorem kw_496 : Cond.methodLink RX9 122 yX9_add ∈ gT := gt_5 (List.mem_of_getElem? (i := 82) rfl) rfl
theorem kw_497 : Cond.code yX9_add cX9_add 4 none ∈ gT := gt_5 (List.mem_of_getElem? (i := 85) rfl) rfl
theorem kw_498 : Cond.methodLink RX9 126 yX9_digitOf ∈ gT := gt_5 (List.mem_of_getElem? (i := 86) rfl) rfl
theorem kw_499 : Cond.code yX9_digitOf cX9_digitOf 1 (some .int) ∈ gT := gt_5 (List.mem_of_getElem? (i := 88) rfl) rfl
theorem kw_500 : Cond.methodLink RX9 142 yJ0_charAt_5068e ∈ gT := gt_5 (List.mem_of_getElem? (i := 178) rfl) rfl
theorem kw_501 : Cond.methodLink RX9 148 yX9_schemeSize ∈ gT := gt_5 (List.mem_of_getElem? (i := 167) rfl) rfl
theorem kw_502 : Cond.code yX9_schemeSize cX9_schemeSize 1 (some .int) ∈ gT := gt_5 (List.mem_of_getElem? (i := 169) rfl) rfl
theorem kw_503 : Cond.methodLink RX9 151 yX9_byteAt ∈ gT := gt_5 (List.mem_of_getElem? (i := 47) rfl) rfl
theorem kw_504 : Cond.code yX9_byteAt cX9_byteAt 2 (some .int) ∈ gT := gt_5 (List.mem_of_getElem? (i := 50) rfl) rfl
theorem kw_505 : Cond.methodLink RX9 154 yX9_schemeByte ∈ gT := gt_5 (List.mem_of_getElem? (i := 170) rfl) rfl
theorem kw_506 : Cond.code yX9_schemeByte cX9_schemeByte 3 (some .int) ∈ gT := gt_5 (List.mem_of_getElem? (i := 172) rfl) rfl
theorem kw_507 : Cond.methodLink RX9 157 yX9_has ∈ gT := gt_5 (List.mem_of_getElem? (i := 35) rfl) rfl
theorem kw_508 : Cond.code yX9_has cX9_has 2 (some .boolean) ∈ gT := gt_5 (List.mem_of_getElem? (i := 38) rfl) rfl
theorem kw_509 : Cond.methodLink RX9 160 yX9_takeText ∈ gT := gt_5 (List.mem_of_getElem? (i := 39) rfl) rfl
theorem kw_510 : Cond.code yX9_takeText cX9_takeText 5 none ∈ gT := gt_5 (List.mem_of_getElem? (i := 42) rfl) rfl
theorem kw_511 : Cond.methodLink RX9 166 yX9_readScheme ∈ gT := gt_5 (List.mem_of_getElem? (i := 43) rfl) rfl
theorem kw_512 : Cond.code yX9_readScheme cX9_readScheme 5 none ∈ gT := gt_5 (List.mem_of_getElem? (i := 46) rfl) rfl
theorem kw_513 : Cond.methodLink RX9 170 yX9_writtenLength ∈ gT := gt_5 (List.mem_of_getElem? (i := 179) rfl) rfl
theorem kw_514 : Cond.code yX9_writtenLength cX9_writtenLength 5 (some .int) ∈ gT := gt_5 (List.mem_of_getElem? (i := 182) rfl) rfl
theorem kw_515 : Cond.methodLink RX9 173 yX9_copyHost ∈ gT := gt_5 (List.mem_of_getElem? (i := 151) rfl) rfl
theorem kw_516 : Cond.code yX9_copyHost cX9_copyHost 4 none ∈ gT := gt_5 (List.mem_of_getElem? (i := 154) rfl) rfl
theorem kw_517 : Cond.methodLink RX9 176 yX9_isLetter ∈ gT := gt_5 (List.mem_of_getElem? (i := 51) rfl) rfl
theorem kw_518 : Cond.code yX9_isLetter cX9_isLetter 1 (some .boolean) ∈ gT := gt_5 (List.mem_of_getElem? (i := 53) rfl) rfl
theorem kw_519 : Cond.methodLink RX9 179 yX9_readRelative ∈ gT := gt_5 (List.mem_of_getElem? (i := 60) rfl) rfl
theorem kw_520 : Cond.code yX9_readRelative cX9_readRelative 4 none ∈ gT := gt_5 (List.mem_of_getElem? (i := 63) rfl) rfl
theorem kw_521 : Cond.methodLink RX9 182 yX9_isWord ∈ gT := gt_5 (List.mem_of_getElem? (i := 163) rfl) rfl
theorem kw_522 : Cond.code yX9_isWord cX9_isWord 5 (some .boolean) ∈ gT := gt_5 (List.mem_of_getElem? (i := 166) rfl) rfl
theorem kw_523 : Cond.methodLink RX9 185 yX9_readSlashes ∈ gT := gt_5 (List.mem_of_getElem? (i := 67) rfl) rfl
theorem kw_524 : Cond.code yX9_readSlashes cX9_readSlashes 8 none ∈ gT := gt_5 (List.mem_of_getElem? (i := 70) rfl) rfl
theorem kw_525 : Cond.methodLink RX9 188 yX9_isSlash ∈ gT := gt_5 (List.mem_of_getElem? (i := 64) rfl) rfl
theorem kw_526 : Cond.code yX9_isSlash cX9_isSlash 1 (some .boolean) ∈ gT := gt_5 (List.mem_of_getElem? (i := 66) rfl) rfl
theorem kw_527 : Cond.methodLink RX9 191 yX9_readPath ∈ gT := gt_5 (List.mem_of_getElem? (i := 130) rfl) rfl
theorem kw_528 : Cond.code yX9_readPath cX9_readPath 7 none ∈ gT := gt_5 (List.mem_of_getElem? (i := 133) rfl) rfl
theorem kw_529 : Cond.methodLink RX9 194 yX9_readTail ∈ gT := gt_5 (List.mem_of_getElem? (i := 147) rfl) rfl
theorem kw_530 : Cond.code yX9_readTail cX9_readTail 3 none ∈ gT := gt_5 (List.mem_of_getElem? (i := 150) rfl) rfl
theorem kw_531 : Cond.methodLink RX9 197 yX9_dropSegment ∈ gT := gt_5 (List.mem_of_getElem? (i := 138) rfl) rfl
theorem kw_532 : Cond.code yX9_dropSegment cX9_dropSegment 3 none ∈ gT := gt_5 (List.mem_of_getElem? (i := 141) rfl) rfl
theorem kw_533 : Cond.methodLink RX9 205 yX9_isOver ∈ gT := gt_5 (List.mem_of_getElem? (i := 71) rfl) rfl
theorem kw_534 : Cond.code yX9_isOver cX9_isOver 3 (some .boolean) ∈ gT := gt_5 (List.mem_of_getElem? (i := 74) rfl) rfl
theorem kw_535 : Cond.methodLink RX9 208 yX9_addEscaped ∈ gT := gt_5 (List.mem_of_getElem? (i := 75) rfl) rfl
theorem kw_536 : Cond.code yX9_addEscaped cX9_addEscaped 4 none ∈ gT := gt_5 (List.mem_of_getElem? (i := 78) rfl) rfl
theorem kw_537 : Cond.methodLink RX9 211 yX9_readHost ∈ gT := gt_5 (List.mem_of_getElem? (i := 89) rfl) rfl
theorem kw_538 : Cond.code yX9_readHost cX9_readHost 6 (some .int) ∈ gT := gt_5 (List.mem_of_getElem? (i := 92) rfl) rfl
theorem kw_539 : Cond.methodLink RX9 220 yX9_readPort ∈ gT := gt_5 (List.mem_of_getElem? (i := 121) rfl) rfl
theorem kw_540 : Cond.code yX9_readPort cX9_readPort 5 none ∈ gT := gt_5 (List.mem_of_getElem? (i := 124) rfl) rfl
theorem kw_541 : Cond.methodLink RX9 228 yX9_portOf ∈ gT := gt_5 (List.mem_of_getElem? (i := 127) rfl) rfl
theorem kw_542 : Cond.code yX9_portOf cX9_portOf 1 (some .int) ∈ gT := gt_5 (List.mem_of_getElem? (i := 129) rfl) rfl
theorem kw_543 : Cond.methodLink RX9 231 yX9_points ∈ gT := gt_5 (List.mem_of_getElem? (i := 134) rfl) rfl
theorem kw_544 : Cond.code yX9_points cX9_points 5 (some .int) ∈ gT := gt_5 (List.mem_of_getElem? (i := 137) rfl) rfl
theorem kw_545 : Cond.methodLink RX9 234 yX9_readSix ∈ gT := gt_5 (List.mem_of_getElem? (i := 93) rfl) rfl
theorem kw_546 : Cond.code yX9_readSix cX9_readSix 9 (some .int) ∈ gT := gt_5 (List.mem_of_getElem? (i := 96) rfl) rfl
theorem kw_547 : Cond.methodLink RX9 237 yX9_hex ∈ gT := gt_5 (List.mem_of_getElem? (i := 97) rfl) rfl
theorem kw_548 : Cond.code yX9_hex cX9_hex 1 (some .int) ∈ gT := gt_5 (List.mem_of_getElem? (i := 99) rfl) rfl
theorem kw_549 : Cond.methodLink RX9 240 yX9_isWrongByte ∈ gT := gt_5 (List.mem_of_getElem? (i := 106) rfl) rfl
theorem kw_550 : Cond.code yX9_isWrongByte cX9_isWrongByte 1 (some .boolean) ∈ gT := gt_5 (List.mem_of_getElem? (i := 108) rfl) rfl
theorem kw_551 : Cond.methodLink RX9 243 yX9_readFour ∈ gT := gt_5 (List.mem_of_getElem? (i := 109) rfl) rfl
theorem kw_552 : Cond.code yX9_readFour cX9_readFour 15 (some .int) ∈ gT := gt_5 (List.mem_of_getElem? (i := 112) rfl) rfl
theorem kw_553 : Cond.methodLink RX9 247 yX9_numberOf ∈ gT := gt_5 (List.mem_of_getElem? (i := 113) rfl) rfl
theorem kw_554 : Cond.code yX9_numberOf cX9_numberOf 8 (some .long) ∈ gT := gt_5 (List.mem_of_getElem? (i := 116) rfl) rfl
theorem kw_555 : Cond.methodLink RX9 260 yX9_readNumbers ∈ gT := gt_5 (List.mem_of_getElem? (i := 100) rfl) rfl
theorem kw_556 : Cond.code yX9_readNumbers cX9_readNumbers 10 (some .int) ∈ gT := gt_5 (List.mem_of_getElem? (i := 103) rfl) rfl
theorem kw_557 : Cond.methodLink RX9 269 yX9_put ∈ gT := gt_5 (List.mem_of_getElem? (i := 187) rfl) rfl
theorem kw_558 : Cond.code yX9_put cX9_put 2 none ∈ gT := gt_5 (List.mem_of_getElem? (i := 190) rfl) rfl
theorem kw_559 : Cond.methodLink RX9 272 yX9_putDecimal ∈ gT := gt_5 (List.mem_of_getElem? (i := 191) rfl) rfl
theorem kw_560 : Cond.code yX9_putDecimal cX9_putDecimal 3 none ∈ gT := gt_5 (List.mem_of_getElem? (i := 194) rfl) rfl
theorem kw_561 : Cond.methodLink RX9 275 yX9_writeSix ∈ gT := gt_5 (List.mem_of_getElem? (i := 195) rfl) rfl
theorem kw_562 : Cond.code yX9_writeSix cX9_writeSix 6 none ∈ gT := gt_5 (List.mem_of_getElem? (i := 198) rfl) rfl
theorem kw_563 : Cond.methodLink RX9 278 yX9_putHex ∈ gT := gt_5 (List.mem_of_getElem? (i := 199) rfl) rfl
theorem kw_564 : Cond.code yX9_putHex cX9_putHex 5 none ∈ gT := gt_5 (List.mem_of_getElem? (i := 202) rfl) rfl
theorem kw_565 : Cond.methodLink RX9 281 yX9_writeHost ∈ gT := gt_5 (List.mem_of_getElem? (i := 183) rfl) rfl
theorem kw_566 : Cond.code yX9_writeHost cX9_writeHost 3 none ∈ gT := gt_5 (List.mem_of_getElem? (i := 186) rfl) rfl
theorem kw_567 : Cond.methodLink RX9 284 yX9_digitsOf ∈ gT := gt_5 (List.mem_of_getElem? (i := 203) rfl) rfl
theorem kw_568 : Cond.code yX9_digitsOf cX9_digitsOf 1 (some .int) ∈ gT := gt_5 (List.mem_of_getElem? (i := 205) rfl) rfl
theorem kw_569 : Cond.methodLink RX9 287 yX9_say ∈ gT := gt_5 (List.mem_of_getElem? (i := 210) rfl) rfl
theorem kw_570 : Cond.code yX9_say cX9_say 2 none ∈ gT := gt_5 (List.mem_of_getElem? (i := 213) rfl) rfl
theorem kw_571 : Cond.methodLink RX9 290 yX9_sayPart ∈ gT := gt_5 (List.mem_of_getElem? (i := 214) rfl) rfl
theorem kw_572 : Cond.code yX9_sayPart cX9_sayPart 4 none ∈ gT := gt_5 (List.mem_of_getElem? (i := 217) rfl) rfl
theorem kw_573 : Cond.methodLink RX9 293 yX9_sayWritten ∈ gT := gt_5 (List.mem_of_getElem? (i := 218) rfl) rfl
theorem kw_574 : Cond.code yX9_sayWritten cX9_sayWritten 2 none ∈ gT := gt_5 (List.mem_of_getElem? (i := 221) rfl) rfl
theorem kw_575 : Cond.methodLink RX9 296 yX9_size ∈ gT := gt_5 (List.mem_of_getElem? (i := 230) rfl) rfl
theorem kw_576 : Cond.code yX9_size cX9_size 3 (some .int) ∈ gT := gt_5 (List.mem_of_getElem? (i := 225) rfl) rfl
theorem kw_577 : Cond.methodLink RX9 298 yX9_told ∈ gT := gt_6 (List.mem_of_getElem? (i := 3) rfl) rfl
theorem kw_578 : Cond.code yX9_told cX9_told 5 (some .int) ∈ gT := gt_5 (List.mem_of_getElem? (i := 234) rfl) rfl
theorem kw_579 : Cond.methodLink RX9 301 yX9_readTextHost ∈ gT := gt_6 (List.mem_of_getElem? (i := 8) rfl) rfl
theorem kw_580 : Cond.code yX9_readTextHost cX9_readTextHost 2 (some .int) ∈ gT := gt_6 (List.mem_of_getElem? (i := 11) rfl) rfl
theorem kw_581 : Cond.methodLink RX9 313 yX9_isListed ∈ gT := gt_6 (List.mem_of_getElem? (i := 28) rfl) rfl
theorem kw_582 : Cond.code yX9_isListed cX9_isListed 7 (some .boolean) ∈ gT := gt_6 (List.mem_of_getElem? (i := 31) rfl) rfl
theorem kw_583 : Cond.methodLink RX9 316 yX9_isInRange ∈ gT := gt_6 (List.mem_of_getElem? (i := 32) rfl) rfl
theorem kw_584 : Cond.code yX9_isInRange cX9_isInRange 14 (some .boolean) ∈ gT := gt_6 (List.mem_of_getElem? (i := 35) rfl) rfl
theorem kw_585 : Cond.methodLink RX9 320 yX9_pair ∈ gT := gt_6 (List.mem_of_getElem? (i := 36) rfl) rfl
theorem kw_586 : Cond.code yX9_pair cX9_pair 3 (some .int) ∈ gT := gt_6 (List.mem_of_getElem? (i := 39) rfl) rfl
theorem kw_587 : Cond.instanceMethod yJ0_charAt_5068e ∈ gT := gt_2 (List.mem_of_getElem? (i := 112) rfl) rfl
theorem kw_588 : Cond.selects "java/lang/String" yJ0_charAt_5068e yJ0_charAt_5068e ∈ gT := gt_2 (List.mem_of_getElem? (i := 113) rfl) rfl
theorem kw_589 : Cond.instanceMethod yJ0_coder_7d493 ∈ gT := gt_2 (List.mem_of_getElem? (i := 106) rfl) rfl
theorem kw_590 : Cond.selects "java/lang/String" yJ0_coder_7d493 yJ0_coder_7d493 ∈ gT := gt_2 (List.mem_of_getElem? (i := 107) rfl) rfl
theorem kw_591 : Cond.instanceMethod yJ0_indexOf_0f7a4 ∈ gT := gt_2 (List.mem_of_getElem? (i := 231) rfl) rfl
theorem kw_592 : Cond.selects "java/lang/String" yJ0_indexOf_0f7a4 yJ0_indexOf_0f7a4 ∈ gT := gt_2 (List.mem_of_getElem? (i := 232) rfl) rfl
theorem kw_593 : Cond.instanceMethod yJ0_indexOf_7cf53 ∈ gT := gt_2 (List.mem_of_getElem? (i := 235) rfl) rfl
theorem kw_594 : Cond.selects "java/lang/String" yJ0_indexOf_7cf53 yJ0_indexOf_7cf53 ∈ gT := gt_2 (List.mem_of_getElem? (i := 236) rfl) rfl
theorem kw_595 : Cond.instanceMethod yJ0_isLatin1_aae02 ∈ gT := gt_2 (List.mem_of_getElem? (i := 116) rfl) rfl
theorem kw_596 : Cond.selects "java/lang/String" yJ0_isLatin1_aae02 yJ0_isLatin1_aae02 ∈ gT := gt_2 (List.mem_of_getElem? (i := 117) rfl) rfl
theorem kw_597 : Cond.instanceMethod yJ0_length_8abf5 ∈ gT := gt_2 (List.mem_of_getElem? (i := 102) rfl) rfl
theorem kw_598 : Cond.selects "java/lang/String" yJ0_length_8abf5 yJ0_length_8abf5 ∈ gT := gt_2 (List.mem_of_getElem? (i := 103) rfl) rfl
theorem kw_599 : Cond.instanceMethod yX0_isFourInSix ∈ gT := gt_4 (List.mem_of_getElem? (i := 138) rfl) rfl
theorem kw_600 : Cond.selects RX0 yX0_isFourInSix yX0_isFourInSix ∈ gT := gt_0 (List.mem_of_getElem? (i := 39) rfl) rfl
theorem kw_601 : Cond.instanceMethod yX0_isIn ∈ gT := gt_4 (List.mem_of_getElem? (i := 133) rfl) rfl
theorem kw_602 : Cond.selects RX0 yX0_isIn yX0_isIn ∈ gT := gt_4 (List.mem_of_getElem? (i := 134) rfl) rfl
theorem kw_603 : Cond.instanceMethod yX0_numberAt ∈ gT := gt_3 (List.mem_of_getElem? (i := 104) rfl) rfl
theorem kw_604 : Cond.selects RX0 yX0_numberAt yX0_numberAt ∈ gT := gt_3 (List.mem_of_getElem? (i := 105) rfl) rfl
theorem kw_605 : Cond.instanceMethod yX0_setTo ∈ gT := gt_2 (List.mem_of_getElem? (i := 194) rfl) rfl
theorem kw_606 : Cond.selects RX0 yX0_setTo yX0_setTo ∈ gT := gt_2 (List.mem_of_getElem? (i := 195) rfl) rfl
theorem kw_607 : Cond.instanceMethod yX0_take ∈ gT := gt_2 (List.mem_of_getElem? (i := 190) rfl) rfl
theorem kw_608 : Cond.selects RX0 yX0_take yX0_take ∈ gT := gt_2 (List.mem_of_getElem? (i := 191) rfl) rfl
theorem kw_609 : Cond.instanceMethod yX2_addAnswer ∈ gT := gt_4 (List.mem_of_getElem? (i := 80) rfl) rfl
theorem kw_610 : Cond.selects RX2 yX2_addAnswer yX2_addAnswer ∈ gT := gt_4 (List.mem_of_getElem? (i := 81) rfl) rfl
theorem kw_611 : Cond.instanceMethod yX2_addHost ∈ gT := gt_4 (List.mem_of_getElem? (i := 70) rfl) rfl
theorem kw_612 : Cond.selects RX2 yX2_addHost yX2_addHost ∈ gT := gt_4 (List.mem_of_getElem? (i := 71) rfl) rfl
theorem kw_613 : Cond.instanceMethod yX2_addRange ∈ gT := gt_4 (List.mem_of_getElem? (i := 92) rfl) rfl
theorem kw_614 : Cond.selects RX2 yX2_addRange yX2_addRange ∈ gT := gt_4 (List.mem_of_getElem? (i := 93) rfl) rfl
theorem kw_615 : Cond.instanceMethod yX2_forget ∈ gT := gt_4 (List.mem_of_getElem? (i := 100) rfl) rfl
theorem kw_616 : Cond.selects RX2 yX2_forget yX2_forget ∈ gT := gt_4 (List.mem_of_getElem? (i := 101) rfl) rfl
theorem kw_617 : Cond.instanceMethod yX2_isInSomeRange ∈ gT := gt_4 (List.mem_of_getElem? (i := 130) rfl) rfl
theorem kw_618 : Cond.selects RX2 yX2_isInSomeRange yX2_isInSomeRange ∈ gT := gt_0 (List.mem_of_getElem? (i := 38) rfl) rfl
theorem kw_619 : Cond.instanceMethod yX2_isListed ∈ gT := gt_4 (List.mem_of_getElem? (i := 114) rfl) rfl
theorem kw_620 : Cond.selects RX2 yX2_isListed yX2_isListed ∈ gT := gt_0 (List.mem_of_getElem? (i := 36) rfl) rfl
theorem kw_621 : Cond.instanceMethod yX2_judge ∈ gT := gt_4 (List.mem_of_getElem? (i := 108) rfl) rfl
theorem kw_622 : Cond.selects RX2 yX2_judge yX2_judge ∈ gT := gt_4 (List.mem_of_getElem? (i := 109) rfl) rfl
theorem kw_623 : Cond.instanceMethod yX2_judgeAnswers ∈ gT := gt_4 (List.mem_of_getElem? (i := 125) rfl) rfl
theorem kw_624 : Cond.selects RX2 yX2_judgeAnswers yX2_judgeAnswers ∈ gT := gt_0 (List.mem_of_getElem? (i := 37) rfl) rfl
theorem kw_625 : Cond.instanceMethod yX3_equalsHost ∈ gT := gt_4 (List.mem_of_getElem? (i := 44) rfl) rfl
theorem kw_626 : Cond.selects RX3 yX3_equalsHost yX3_equalsHost ∈ gT := gt_4 (List.mem_of_getElem? (i := 45) rfl) rfl
theorem kw_627 : Cond.instanceMethod yX3_firstLongestGap ∈ gT := gt_3 (List.mem_of_getElem? (i := 101) rfl) rfl
theorem kw_628 : Cond.selects RX3 yX3_firstLongestGap yX3_firstLongestGap ∈ gT := gt_0 (List.mem_of_getElem? (i := 18) rfl) rfl
theorem kw_629 : Cond.instanceMethod yX3_isName ∈ gT := gt_4 (List.mem_of_getElem? (i := 66) rfl) rfl
theorem kw_630 : Cond.selects RX3 yX3_isName yX3_isName ∈ gT := gt_4 (List.mem_of_getElem? (i := 67) rfl) rfl
theorem kw_631 : Cond.instanceMethod yX3_setFour ∈ gT := gt_3 (List.mem_of_getElem? (i := 173) rfl) rfl
theorem kw_632 : Cond.selects RX3 yX3_setFour yX3_setFour ∈ gT := gt_3 (List.mem_of_getElem? (i := 174) rfl) rfl
theorem kw_633 : Cond.instanceMethod yX3_setName ∈ gT := gt_3 (List.mem_of_getElem? (i := 182) rfl) rfl
theorem kw_634 : Cond.selects RX3 yX3_setName yX3_setName ∈ gT := gt_3 (List.mem_of_getElem? (i := 183) rfl) rfl
theorem kw_635 : Cond.instanceMethod yX3_setSix ∈ gT := gt_3 (List.mem_of_getElem? (i := 95) rfl) rfl
theorem kw_636 : Cond.selects RX3 yX3_setSix yX3_setSix ∈ gT := gt_3 (List.mem_of_getElem? (i := 96) rfl) rfl
theorem kw_637 : Cond.instanceMethod yX3_take ∈ gT := gt_2 (List.mem_of_getElem? (i := 186) rfl) rfl
theorem kw_638 : Cond.selects RX3 yX3_take yX3_take ∈ gT := gt_2 (List.mem_of_getElem? (i := 187) rfl) rfl
theorem kw_639 : Cond.instanceMethod yX3_zerosFrom ∈ gT := gt_3 (List.mem_of_getElem? (i := 110) rfl) rfl
theorem kw_640 : Cond.selects RX3 yX3_zerosFrom yX3_zerosFrom ∈ gT := gt_0 (List.mem_of_getElem? (i := 19) rfl) rfl
theorem kw_641 : Cond.instanceMethod yX4_addPiece ∈ gT := gt_3 (List.mem_of_getElem? (i := 76) rfl) rfl
theorem kw_642 : Cond.selects RX4 yX4_addPiece yX4_addPiece ∈ gT := gt_0 (List.mem_of_getElem? (i := 14) rfl) rfl
theorem kw_643 : Cond.instanceMethod yX4_decode ∈ gT := gt_3 (List.mem_of_getElem? (i := 123) rfl) rfl
theorem kw_644 : Cond.selects RX4 yX4_decode yX4_decode ∈ gT := gt_0 (List.mem_of_getElem? (i := 20) rfl) rfl
theorem kw_645 : Cond.instanceMethod yX4_findGap ∈ gT := gt_3 (List.mem_of_getElem? (i := 63) rfl) rfl
theorem kw_646 : Cond.selects RX4 yX4_findGap yX4_findGap ∈ gT := gt_0 (List.mem_of_getElem? (i := 11) rfl) rfl
theorem kw_647 : Cond.instanceMethod yX4_hasForeignPart ∈ gT := gt_3 (List.mem_of_getElem? (i := 138) rfl) rfl
theorem kw_648 : Cond.selects RX4 yX4_hasForeignPart yX4_hasForeignPart ∈ gT := gt_0 (List.mem_of_getElem? (i := 22) rfl) rfl
theorem kw_649 : Cond.instanceMethod yX4_hasWrongByte ∈ gT := gt_3 (List.mem_of_getElem? (i := 130) rfl) rfl
theorem kw_650 : Cond.selects RX4 yX4_hasWrongByte yX4_hasWrongByte ∈ gT := gt_0 (List.mem_of_getElem? (i := 21) rfl) rfl
theorem kw_651 : Cond.instanceMethod yX4_isHex ∈ gT := gt_3 (List.mem_of_getElem? (i := 152) rfl) rfl
theorem kw_652 : Cond.selects RX4 yX4_isHex yX4_isHex ∈ gT := gt_0 (List.mem_of_getElem? (i := 25) rfl) rfl
theorem kw_653 : Cond.instanceMethod yX4_isNumeral ∈ gT := gt_3 (List.mem_of_getElem? (i := 148) rfl) rfl
theorem kw_654 : Cond.selects RX4 yX4_isNumeral yX4_isNumeral ∈ gT := gt_0 (List.mem_of_getElem? (i := 24) rfl) rfl
theorem kw_655 : Cond.instanceMethod yX4_lastPartStart ∈ gT := gt_3 (List.mem_of_getElem? (i := 144) rfl) rfl
theorem kw_656 : Cond.selects RX4 yX4_lastPartStart yX4_lastPartStart ∈ gT := gt_0 (List.mem_of_getElem? (i := 23) rfl) rfl
theorem kw_657 : Cond.instanceMethod yX4_numeralValue ∈ gT := gt_3 (List.mem_of_getElem? (i := 165) rfl) rfl
theorem kw_658 : Cond.selects RX4 yX4_numeralValue yX4_numeralValue ∈ gT := gt_0 (List.mem_of_getElem? (i := 28) rfl) rfl
theorem kw_659 : Cond.instanceMethod yX4_partEnd ∈ gT := gt_3 (List.mem_of_getElem? (i := 161) rfl) rfl
theorem kw_660 : Cond.selects RX4 yX4_partEnd yX4_partEnd ∈ gT := gt_0 (List.mem_of_getElem? (i := 27) rfl) rfl
theorem kw_661 : Cond.instanceMethod yX4_readFour ∈ gT := gt_3 (List.mem_of_getElem? (i := 157) rfl) rfl
theorem kw_662 : Cond.selects RX4 yX4_readFour yX4_readFour ∈ gT := gt_0 (List.mem_of_getElem? (i := 26) rfl) rfl
theorem kw_663 : Cond.instanceMethod yX4_readHost ∈ gT := gt_3 (List.mem_of_getElem? (i := 53) rfl) rfl
theorem kw_664 : Cond.selects RX4 yX4_readHost yX4_readHost ∈ gT := gt_3 (List.mem_of_getElem? (i := 54) rfl) rfl
theorem kw_665 : Cond.instanceMethod yX4_readPiece ∈ gT := gt_3 (List.mem_of_getElem? (i := 81) rfl) rfl
theorem kw_666 : Cond.selects RX4 yX4_readPiece yX4_readPiece ∈ gT := gt_0 (List.mem_of_getElem? (i := 15) rfl) rfl
theorem kw_667 : Cond.instanceMethod yX4_readPieces ∈ gT := gt_3 (List.mem_of_getElem? (i := 67) rfl) rfl
theorem kw_668 : Cond.selects RX4 yX4_readPieces yX4_readPieces ∈ gT := gt_0 (List.mem_of_getElem? (i := 12) rfl) rfl
theorem kw_669 : Cond.instanceMethod yX4_readPoints ∈ gT := gt_3 (List.mem_of_getElem? (i := 71) rfl) rfl
theorem kw_670 : Cond.selects RX4 yX4_readPoints yX4_readPoints ∈ gT := gt_0 (List.mem_of_getElem? (i := 13) rfl) rfl
theorem kw_671 : Cond.instanceMethod yX4_readSix ∈ gT := gt_3 (List.mem_of_getElem? (i := 59) rfl) rfl
theorem kw_672 : Cond.selects RX4 yX4_readSix yX4_readSix ∈ gT := gt_0 (List.mem_of_getElem? (i := 10) rfl) rfl
theorem kw_673 : Cond.instanceMethod yX4_spread ∈ gT := gt_3 (List.mem_of_getElem? (i := 88) rfl) rfl
theorem kw_674 : Cond.selects RX4 yX4_spread yX4_spread ∈ gT := gt_0 (List.mem_of_getElem? (i := 16) rfl) rfl
theorem kw_675 : Cond.instanceMethod yX4_wordAt ∈ gT := gt_3 (List.mem_of_getElem? (i := 92) rfl) rfl
theorem kw_676 : Cond.selects RX4 yX4_wordAt yX4_wordAt ∈ gT := gt_0 (List.mem_of_getElem? (i := 17) rfl) rfl
theorem kw_677 : Cond.instanceMethod yX5_add ∈ gT := gt_2 (List.mem_of_getElem? (i := 14) rfl) rfl
theorem kw_678 : Cond.selects RX5 yX5_add yX5_add ∈ gT := gt_2 (List.mem_of_getElem? (i := 15) rfl) rfl
theorem kw_679 : Cond.instanceMethod yX5_addDecimal ∈ gT := gt_3 (List.mem_of_getElem? (i := 177) rfl) rfl
theorem kw_680 : Cond.selects RX5 yX5_addDecimal yX5_addDecimal ∈ gT := gt_3 (List.mem_of_getElem? (i := 178) rfl) rfl
theorem kw_681 : Cond.instanceMethod yX5_addEscaped ∈ gT := gt_2 (List.mem_of_getElem? (i := 224) rfl) rfl
theorem kw_682 : Cond.selects RX5 yX5_addEscaped yX5_addEscaped ∈ gT := gt_2 (List.mem_of_getElem? (i := 225) rfl) rfl
theorem kw_683 : Cond.instanceMethod yX5_addHex ∈ gT := gt_3 (List.mem_of_getElem? (i := 117) rfl) rfl
theorem kw_684 : Cond.selects RX5 yX5_addHex yX5_addHex ∈ gT := gt_3 (List.mem_of_getElem? (i := 118) rfl) rfl
theorem kw_685 : Cond.instanceMethod yX5_addRow ∈ gT := gt_3 (List.mem_of_getElem? (i := 234) rfl) rfl
theorem kw_686 : Cond.selects RX5 yX5_addRow yX5_addRow ∈ gT := gt_3 (List.mem_of_getElem? (i := 235) rfl) rfl
theorem kw_687 : Cond.instanceMethod yX5_addText ∈ gT := gt_2 (List.mem_of_getElem? (i := 98) rfl) rfl
theorem kw_688 : Cond.selects RX5 yX5_addText yX5_addText ∈ gT := gt_2 (List.mem_of_getElem? (i := 99) rfl) rfl
theorem kw_689 : Cond.instanceMethod yX5_byteAt ∈ gT := gt_2 (List.mem_of_getElem? (i := 58) rfl) rfl
theorem kw_690 : Cond.selects RX5 yX5_byteAt yX5_byteAt ∈ gT := gt_2 (List.mem_of_getElem? (i := 59) rfl) rfl
theorem kw_691 : Cond.instanceMethod yX5_cutTo ∈ gT := gt_2 (List.mem_of_getElem? (i := 38) rfl) rfl
theorem kw_692 : Cond.selects RX5 yX5_cutTo yX5_cutTo ∈ gT := gt_2 (List.mem_of_getElem? (i := 39) rfl) rfl
theorem kw_693 : Cond.instanceMethod yX5_endsWith ∈ gT := gt_4 (List.mem_of_getElem? (i := 52) rfl) rfl
theorem kw_694 : Cond.selects RX5 yX5_endsWith yX5_endsWith ∈ gT := gt_4 (List.mem_of_getElem? (i := 53) rfl) rfl
theorem kw_695 : Cond.instanceMethod yX5_equalsRow ∈ gT := gt_4 (List.mem_of_getElem? (i := 48) rfl) rfl
theorem kw_696 : Cond.selects RX5 yX5_equalsRow yX5_equalsRow ∈ gT := gt_4 (List.mem_of_getElem? (i := 49) rfl) rfl
theorem kw_697 : Cond.instanceMethod yX5_hasAt ∈ gT := gt_2 (List.mem_of_getElem? (i := 166) rfl) rfl
theorem kw_698 : Cond.selects RX5 yX5_hasAt yX5_hasAt ∈ gT := gt_2 (List.mem_of_getElem? (i := 167) rfl) rfl
theorem kw_699 : Cond.instanceMethod yX5_take ∈ gT := gt_2 (List.mem_of_getElem? (i := 182) rfl) rfl
theorem kw_700 : Cond.selects RX5 yX5_take yX5_take ∈ gT := gt_2 (List.mem_of_getElem? (i := 183) rfl) rfl
theorem kw_701 : Cond.instanceMethod yX6_beginSegment ∈ gT := gt_3 (List.mem_of_getElem? (i := 209) rfl) rfl
theorem kw_702 : Cond.selects RX6 yX6_beginSegment yX6_beginSegment ∈ gT := gt_3 (List.mem_of_getElem? (i := 210) rfl) rfl
theorem kw_703 : Cond.instanceMethod yX6_dropSegment ∈ gT := gt_2 (List.mem_of_getElem? (i := 207) rfl) rfl
theorem kw_704 : Cond.selects RX6 yX6_dropSegment yX6_dropSegment ∈ gT := gt_2 (List.mem_of_getElem? (i := 208) rfl) rfl
theorem kw_705 : Cond.instanceMethod yX6_empty ∈ gT := gt_2 (List.mem_of_getElem? (i := 64) rfl) rfl
theorem kw_706 : Cond.selects RX6 yX6_empty yX6_empty ∈ gT := gt_2 (List.mem_of_getElem? (i := 65) rfl) rfl
theorem kw_707 : Cond.instanceMethod yX6_hasOriginOf ∈ gT := gt_4 (List.mem_of_getElem? (i := 40) rfl) rfl
theorem kw_708 : Cond.selects RX6 yX6_hasOriginOf yX6_hasOriginOf ∈ gT := gt_4 (List.mem_of_getElem? (i := 41) rfl) rfl
theorem kw_709 : Cond.instanceMethod yX6_hasUser ∈ gT := gt_3 (List.mem_of_getElem? (i := 230) rfl) rfl
theorem kw_710 : Cond.selects RX6 yX6_hasUser yX6_hasUser ∈ gT := gt_3 (List.mem_of_getElem? (i := 231) rfl) rfl
theorem kw_711 : Cond.instanceMethod yX6_portThatCounts ∈ gT := gt_4 (List.mem_of_getElem? (i := 26) rfl) rfl
theorem kw_712 : Cond.selects RX6 yX6_portThatCounts yX6_portThatCounts ∈ gT := gt_4 (List.mem_of_getElem? (i := 27) rfl) rfl
theorem kw_713 : Cond.instanceMethod yX6_rowOf ∈ gT := gt_4 (List.mem_of_getElem? (i := 14) rfl) rfl
theorem kw_714 : Cond.selects RX6 yX6_rowOf yX6_rowOf ∈ gT := gt_4 (List.mem_of_getElem? (i := 15) rfl) rfl
theorem kw_715 : Cond.instanceMethod yX6_setScheme ∈ gT := gt_2 (List.mem_of_getElem? (i := 86) rfl) rfl
theorem kw_716 : Cond.selects RX6 yX6_setScheme yX6_setScheme ∈ gT := gt_2 (List.mem_of_getElem? (i := 87) rfl) rfl
theorem kw_717 : Cond.instanceMethod yX6_takeAuthority ∈ gT := gt_2 (List.mem_of_getElem? (i := 178) rfl) rfl
theorem kw_718 : Cond.selects RX6 yX6_takeAuthority yX6_takeAuthority ∈ gT := gt_2 (List.mem_of_getElem? (i := 179) rfl) rfl
theorem kw_719 : Cond.instanceMethod yX6_takePath ∈ gT := gt_2 (List.mem_of_getElem? (i := 199) rfl) rfl
theorem kw_720 : Cond.selects RX6 yX6_takePath yX6_takePath ∈ gT := gt_2 (List.mem_of_getElem? (i := 200) rfl) rfl
theorem kw_721 : Cond.instanceMethod yX6_takeQuery ∈ gT := gt_2 (List.mem_of_getElem? (i := 203) rfl) rfl
theorem kw_722 : Cond.selects RX6 yX6_takeQuery yX6_takeQuery ∈ gT := gt_2 (List.mem_of_getElem? (i := 204) rfl) rfl
theorem kw_723 : Cond.instanceMethod yX6_writeTo ∈ gT := gt_3 (List.mem_of_getElem? (i := 225) rfl) rfl
theorem kw_724 : Cond.selects RX6 yX6_writeTo yX6_writeTo ∈ gT := gt_3 (List.mem_of_getElem? (i := 226) rfl) rfl
theorem kw_725 : Cond.instanceMethod yX7_hostEndFrom ∈ gT := gt_3 (List.mem_of_getElem? (i := 50) rfl) rfl
theorem kw_726 : Cond.selects RX7 yX7_hostEndFrom yX7_hostEndFrom ∈ gT := gt_0 (List.mem_of_getElem? (i := 9) rfl) rfl
theorem kw_727 : Cond.instanceMethod yX7_isWord ∈ gT := gt_2 (List.mem_of_getElem? (i := 157) rfl) rfl
theorem kw_728 : Cond.selects RX7 yX7_isWord yX7_isWord ∈ gT := gt_0 (List.mem_of_getElem? (i := 5) rfl) rfl
theorem kw_729 : Cond.instanceMethod yX7_pointsIn ∈ gT := gt_3 (List.mem_of_getElem? (i := 204) rfl) rfl
theorem kw_730 : Cond.selects RX7 yX7_pointsIn yX7_pointsIn ∈ gT := gt_0 (List.mem_of_getElem? (i := 32) rfl) rfl
theorem kw_731 : Cond.instanceMethod yX7_readAuthority ∈ gT := gt_2 (List.mem_of_getElem? (i := 213) rfl) rfl
theorem kw_732 : Cond.selects RX7 yX7_readAuthority yX7_readAuthority ∈ gT := gt_0 (List.mem_of_getElem? (i := 7) rfl) rfl
theorem kw_733 : Cond.instanceMethod yX7_readFragment ∈ gT := gt_3 (List.mem_of_getElem? (i := 221) rfl) rfl
theorem kw_734 : Cond.selects RX7 yX7_readFragment yX7_readFragment ∈ gT := gt_0 (List.mem_of_getElem? (i := 34) rfl) rfl
theorem kw_735 : Cond.instanceMethod yX7_readPort ∈ gT := gt_3 (List.mem_of_getElem? (i := 187) rfl) rfl
theorem kw_736 : Cond.selects RX7 yX7_readPort yX7_readPort ∈ gT := gt_0 (List.mem_of_getElem? (i := 29) rfl) rfl
theorem kw_737 : Cond.instanceMethod yX7_readQuery ∈ gT := gt_3 (List.mem_of_getElem? (i := 216) rfl) rfl
theorem kw_738 : Cond.selects RX7 yX7_readQuery yX7_readQuery ∈ gT := gt_0 (List.mem_of_getElem? (i := 33) rfl) rfl
theorem kw_739 : Cond.instanceMethod yX7_readRelative ∈ gT := gt_2 (List.mem_of_getElem? (i := 172) rfl) rfl
theorem kw_740 : Cond.selects RX7 yX7_readRelative yX7_readRelative ∈ gT := gt_0 (List.mem_of_getElem? (i := 6) rfl) rfl
theorem kw_741 : Cond.instanceMethod yX7_readScheme ∈ gT := gt_2 (List.mem_of_getElem? (i := 70) rfl) rfl
theorem kw_742 : Cond.selects RX7 yX7_readScheme yX7_readScheme ∈ gT := gt_0 (List.mem_of_getElem? (i := 2) rfl) rfl
theorem kw_743 : Cond.instanceMethod yX7_readSegments ∈ gT := gt_3 (List.mem_of_getElem? (i := 196) rfl) rfl
theorem kw_744 : Cond.selects RX7 yX7_readSegments yX7_readSegments ∈ gT := gt_0 (List.mem_of_getElem? (i := 30) rfl) rfl
theorem kw_745 : Cond.instanceMethod yX7_readUrl ∈ gT := gt_2 (List.mem_of_getElem? (i := 50) rfl) rfl
theorem kw_746 : Cond.selects RX7 yX7_readUrl yX7_readUrl ∈ gT := gt_2 (List.mem_of_getElem? (i := 51) rfl) rfl
theorem kw_747 : Cond.instanceMethod yX7_readUser ∈ gT := gt_2 (List.mem_of_getElem? (i := 220) rfl) rfl
theorem kw_748 : Cond.selects RX7 yX7_readUser yX7_readUser ∈ gT := gt_0 (List.mem_of_getElem? (i := 8) rfl) rfl
theorem kw_749 : Cond.instanceMethod yX7_schemeEnd ∈ gT := gt_2 (List.mem_of_getElem? (i := 74) rfl) rfl
theorem kw_750 : Cond.selects RX7 yX7_schemeEnd yX7_schemeEnd ∈ gT := gt_0 (List.mem_of_getElem? (i := 3) rfl) rfl
theorem kw_751 : Cond.instanceMethod yX7_schemeUpTo ∈ gT := gt_2 (List.mem_of_getElem? (i := 152) rfl) rfl
theorem kw_752 : Cond.selects RX7 yX7_schemeUpTo yX7_schemeUpTo ∈ gT := gt_0 (List.mem_of_getElem? (i := 4) rfl) rfl
theorem kw_753 : Cond.instanceMethod yX7_takeSegment ∈ gT := gt_3 (List.mem_of_getElem? (i := 200) rfl) rfl
theorem kw_754 : Cond.selects RX7 yX7_takeSegment yX7_takeSegment ∈ gT := gt_0 (List.mem_of_getElem? (i := 31) rfl) rfl
theorem kw_755 : Cond.instanceMethod yX7_tidy ∈ gT := gt_2 (List.mem_of_getElem? (i := 55) rfl) rfl
theorem kw_756 : Cond.selects RX7 yX7_tidy yX7_tidy ∈ gT := gt_0 (List.mem_of_getElem? (i := 1) rfl) rfl
theorem kw_757 : Cond.instanceMethod yX8_hearHost ∈ gT := gt_4 (List.mem_of_getElem? (i := 62) rfl) rfl
theorem kw_758 : Cond.selects RX8 yX8_hearHost yX8_hearHost ∈ gT := gt_0 (List.mem_of_getElem? (i := 35) rfl) rfl
theorem kw_759 : Cond.instanceMethod yX8_recordAt ∈ gT := gt_2 (List.mem_of_getElem? (i := 47) rfl) rfl
theorem kw_760 : Cond.selects RX8 yX8_recordAt yX8_recordAt ∈ gT := gt_0 (List.mem_of_getElem? (i := 0) rfl) rfl
theorem kw_761 : Cond.instanceMethod yX9_add ∈ gT := gt_5 (List.mem_of_getElem? (i := 84) rfl) rfl
theorem kw_762 : Cond.selects RX9 yX9_add yX9_add ∈ gT := gt_0 (List.mem_of_getElem? (i := 48) rfl) rfl
theorem kw_763 : Cond.instanceMethod yX9_addEscaped ∈ gT := gt_5 (List.mem_of_getElem? (i := 77) rfl) rfl
theorem kw_764 : Cond.selects RX9 yX9_addEscaped yX9_addEscaped ∈ gT := gt_0 (List.mem_of_getElem? (i := 47) rfl) rfl
theorem kw_765 : Cond.instanceMethod yX9_byteAt ∈ gT := gt_5 (List.mem_of_getElem? (i := 49) rfl) rfl
theorem kw_766 : Cond.selects RX9 yX9_byteAt yX9_byteAt ∈ gT := gt_0 (List.mem_of_getElem? (i := 43) rfl) rfl
theorem kw_767 : Cond.instanceMethod yX9_copyHost ∈ gT := gt_5 (List.mem_of_getElem? (i := 153) rfl) rfl
theorem kw_768 : Cond.selects RX9 yX9_copyHost yX9_copyHost ∈ gT := gt_0 (List.mem_of_getElem? (i := 60) rfl) rfl
theorem kw_769 : Cond.instanceMethod yX9_copyPart ∈ gT := gt_5 (List.mem_of_getElem? (i := 157) rfl) rfl
theorem kw_770 : Cond.selects RX9 yX9_copyPart yX9_copyPart ∈ gT := gt_0 (List.mem_of_getElem? (i := 61) rfl) rfl
theorem kw_771 : Cond.instanceMethod yX9_dropSegment ∈ gT := gt_5 (List.mem_of_getElem? (i := 140) rfl) rfl
theorem kw_772 : Cond.selects RX9 yX9_dropSegment yX9_dropSegment ∈ gT := gt_0 (List.mem_of_getElem? (i := 57) rfl) rfl
theorem kw_773 : Cond.instanceMethod yX9_has ∈ gT := gt_5 (List.mem_of_getElem? (i := 37) rfl) rfl
theorem kw_774 : Cond.selects RX9 yX9_has yX9_has ∈ gT := gt_0 (List.mem_of_getElem? (i := 40) rfl) rfl
theorem kw_775 : Cond.instanceMethod yX9_isInRange ∈ gT := gt_6 (List.mem_of_getElem? (i := 34) rfl) rfl
theorem kw_776 : Cond.selects RX9 yX9_isInRange yX9_isInRange ∈ gT := gt_0 (List.mem_of_getElem? (i := 75) rfl) rfl
theorem kw_777 : Cond.instanceMethod yX9_isListed ∈ gT := gt_6 (List.mem_of_getElem? (i := 30) rfl) rfl
theorem kw_778 : Cond.selects RX9 yX9_isListed yX9_isListed ∈ gT := gt_0 (List.mem_of_getElem? (i := 74) rfl) rfl
theorem kw_779 : Cond.instanceMethod yX9_isOver ∈ gT := gt_5 (List.mem_of_getElem? (i := 73) rfl) rfl
theorem kw_780 : Cond.selects RX9 yX9_isOver yX9_isOver ∈ gT := gt_0 (List.mem_of_getElem? (i := 46) rfl) rfl
theorem kw_781 : Cond.instanceMethod yX9_isWord ∈ gT := gt_5 (List.mem_of_getElem? (i := 165) rfl) rfl
theorem kw_782 : Cond.selects RX9 yX9_isWord yX9_isWord ∈ gT := gt_0 (List.mem_of_getElem? (i := 63) rfl) rfl
theorem kw_783 : Cond.instanceMethod yX9_numberOf ∈ gT := gt_5 (List.mem_of_getElem? (i := 115) rfl) rfl
theorem kw_784 : Cond.selects RX9 yX9_numberOf yX9_numberOf ∈ gT := gt_0 (List.mem_of_getElem? (i := 53) rfl) rfl
theorem kw_785 : Cond.instanceMethod yX9_pair ∈ gT := gt_6 (List.mem_of_getElem? (i := 38) rfl) rfl
theorem kw_786 : Cond.selects RX9 yX9_pair yX9_pair ∈ gT := gt_0 (List.mem_of_getElem? (i := 76) rfl) rfl
theorem kw_787 : Cond.instanceMethod yX9_points ∈ gT := gt_5 (List.mem_of_getElem? (i := 136) rfl) rfl
theorem kw_788 : Cond.selects RX9 yX9_points yX9_points ∈ gT := gt_0 (List.mem_of_getElem? (i := 56) rfl) rfl
theorem kw_789 : Cond.instanceMethod yX9_put ∈ gT := gt_5 (List.mem_of_getElem? (i := 189) rfl) rfl
theorem kw_790 : Cond.selects RX9 yX9_put yX9_put ∈ gT := gt_0 (List.mem_of_getElem? (i := 66) rfl) rfl
theorem kw_791 : Cond.instanceMethod yX9_putDecimal ∈ gT := gt_5 (List.mem_of_getElem? (i := 193) rfl) rfl
theorem kw_792 : Cond.selects RX9 yX9_putDecimal yX9_putDecimal ∈ gT := gt_0 (List.mem_of_getElem? (i := 67) rfl) rfl
theorem kw_793 : Cond.instanceMethod yX9_putHex ∈ gT := gt_5 (List.mem_of_getElem? (i := 201) rfl) rfl
theorem kw_794 : Cond.selects RX9 yX9_putHex yX9_putHex ∈ gT := gt_0 (List.mem_of_getElem? (i := 69) rfl) rfl
theorem kw_795 : Cond.instanceMethod yX9_readFour ∈ gT := gt_5 (List.mem_of_getElem? (i := 111) rfl) rfl
theorem kw_796 : Cond.selects RX9 yX9_readFour yX9_readFour ∈ gT := gt_0 (List.mem_of_getElem? (i := 52) rfl) rfl
theorem kw_797 : Cond.instanceMethod yX9_readHost ∈ gT := gt_5 (List.mem_of_getElem? (i := 91) rfl) rfl
theorem kw_798 : Cond.selects RX9 yX9_readHost yX9_readHost ∈ gT := gt_0 (List.mem_of_getElem? (i := 49) rfl) rfl
theorem kw_799 : Cond.instanceMethod yX9_readNumbers ∈ gT := gt_5 (List.mem_of_getElem? (i := 102) rfl) rfl
theorem kw_800 : Cond.selects RX9 yX9_readNumbers yX9_readNumbers ∈ gT := gt_0 (List.mem_of_getElem? (i := 51) rfl) rfl
theorem kw_801 : Cond.instanceMethod yX9_readPath ∈ gT := gt_5 (List.mem_of_getElem? (i := 132) rfl) rfl
theorem kw_802 : Cond.selects RX9 yX9_readPath yX9_readPath ∈ gT := gt_0 (List.mem_of_getElem? (i := 55) rfl) rfl
theorem kw_803 : Cond.instanceMethod yX9_readPort ∈ gT := gt_5 (List.mem_of_getElem? (i := 123) rfl) rfl
theorem kw_804 : Cond.selects RX9 yX9_readPort yX9_readPort ∈ gT := gt_0 (List.mem_of_getElem? (i := 54) rfl) rfl
theorem kw_805 : Cond.instanceMethod yX9_readRelative ∈ gT := gt_5 (List.mem_of_getElem? (i := 62) rfl) rfl
theorem kw_806 : Cond.selects RX9 yX9_readRelative yX9_readRelative ∈ gT := gt_0 (List.mem_of_getElem? (i := 44) rfl) rfl
theorem kw_807 : Cond.instanceMethod yX9_readScheme ∈ gT := gt_5 (List.mem_of_getElem? (i := 45) rfl) rfl
theorem kw_808 : Cond.selects RX9 yX9_readScheme yX9_readScheme ∈ gT := gt_0 (List.mem_of_getElem? (i := 42) rfl) rfl
theorem kw_809 : Cond.instanceMethod yX9_readSix ∈ gT := gt_5 (List.mem_of_getElem? (i := 95) rfl) rfl
theorem kw_810 : Cond.selects RX9 yX9_readSix yX9_readSix ∈ gT := gt_0 (List.mem_of_getElem? (i := 50) rfl) rfl
theorem kw_811 : Cond.instanceMethod yX9_readSlashes ∈ gT := gt_5 (List.mem_of_getElem? (i := 69) rfl) rfl
theorem kw_812 : Cond.selects RX9 yX9_readSlashes yX9_readSlashes ∈ gT := gt_0 (List.mem_of_getElem? (i := 45) rfl) rfl
theorem kw_813 : Cond.instanceMethod yX9_readTail ∈ gT := gt_5 (List.mem_of_getElem? (i := 149) rfl) rfl
theorem kw_814 : Cond.selects RX9 yX9_readTail yX9_readTail ∈ gT := gt_0 (List.mem_of_getElem? (i := 59) rfl) rfl
theorem kw_815 : Cond.instanceMethod yX9_readTextHost ∈ gT := gt_6 (List.mem_of_getElem? (i := 10) rfl) rfl
theorem kw_816 : Cond.selects RX9 yX9_readTextHost yX9_readTextHost ∈ gT := gt_0 (List.mem_of_getElem? (i := 73) rfl) rfl
theorem kw_817 : Cond.instanceMethod yX9_row ∈ gT := gt_5 (List.mem_of_getElem? (i := 144) rfl) rfl
theorem kw_818 : Cond.selects RX9 yX9_row yX9_row ∈ gT := gt_0 (List.mem_of_getElem? (i := 58) rfl) rfl
theorem kw_819 : Cond.instanceMethod yX9_say ∈ gT := gt_5 (List.mem_of_getElem? (i := 212) rfl) rfl
theorem kw_820 : Cond.selects RX9 yX9_say yX9_say ∈ gT := gt_0 (List.mem_of_getElem? (i := 70) rfl) rfl
theorem kw_821 : Cond.instanceMethod yX9_sayPart ∈ gT := gt_5 (List.mem_of_getElem? (i := 216) rfl) rfl
theorem kw_822 : Cond.selects RX9 yX9_sayPart yX9_sayPart ∈ gT := gt_0 (List.mem_of_getElem? (i := 71) rfl) rfl
theorem kw_823 : Cond.instanceMethod yX9_sayWritten ∈ gT := gt_5 (List.mem_of_getElem? (i := 220) rfl) rfl
theorem kw_824 : Cond.selects RX9 yX9_sayWritten yX9_sayWritten ∈ gT := gt_0 (List.mem_of_getElem? (i := 72) rfl) rfl
theorem kw_825 : Cond.instanceMethod yX9_size ∈ gT := gt_5 (List.mem_of_getElem? (i := 223) rfl) rfl
theorem kw_826 : Cond.selects RX9 yX9_size yX9_size ∈ gT := gt_5 (List.mem_of_getElem? (i := 224) rfl) rfl
theorem kw_827 : Cond.instanceMethod yX9_sizeOf ∈ gT := gt_5 (List.mem_of_getElem? (i := 161) rfl) rfl
theorem kw_828 : Cond.selects RX9 yX9_sizeOf yX9_sizeOf ∈ gT := gt_0 (List.mem_of_getElem? (i := 62) rfl) rfl
theorem kw_829 : Cond.instanceMethod yX9_takeText ∈ gT := gt_5 (List.mem_of_getElem? (i := 41) rfl) rfl
theorem kw_830 : Cond.selects RX9 yX9_takeText yX9_takeText ∈ gT := gt_0 (List.mem_of_getElem? (i := 41) rfl) rfl
theorem kw_831 : Cond.instanceMethod yX9_told ∈ gT := gt_5 (List.mem_of_getElem? (i := 232) rfl) rfl
theorem kw_832 : Cond.selects RX9 yX9_told yX9_told ∈ gT := gt_5 (List.mem_of_getElem? (i := 233) rfl) rfl
theorem kw_833 : Cond.instanceMethod yX9_writeHost ∈ gT := gt_5 (List.mem_of_getElem? (i := 185) rfl) rfl
theorem kw_834 : Cond.selects RX9 yX9_writeHost yX9_writeHost ∈ gT := gt_0 (List.mem_of_getElem? (i := 65) rfl) rfl
theorem kw_835 : Cond.instanceMethod yX9_writeSix ∈ gT := gt_5 (List.mem_of_getElem? (i := 197) rfl) rfl
theorem kw_836 : Cond.selects RX9 yX9_writeSix yX9_writeSix ∈ gT := gt_0 (List.mem_of_getElem? (i := 68) rfl) rfl
theorem kw_837 : Cond.instanceMethod yX9_writtenLength ∈ gT := gt_5 (List.mem_of_getElem? (i := 181) rfl) rfl
theorem kw_838 : Cond.selects RX9 yX9_writtenLength yX9_writtenLength ∈ gT := gt_0 (List.mem_of_getElem? (i := 64) rfl) rfl
theorem gl_RJ0_335 : gLink RJ0 335 yJ0_coder_7d493 cJ0_coder_7d493 1 0 (some .byte) := ⟨kw_223, kw_224, kw_225, by decide, by decide, rfl⟩
theorem gl_RJ0_492 : gLink RJ0 492 yJ0_isLatin1_aae02 cJ0_isLatin1_aae02 1 0 (some .boolean) := ⟨kw_226, kw_227, kw_225, by decide, by decide, rfl⟩
theorem gl_RJ0_495 : gLink RJ0 495 yJ1_charAt_3b067 cJ1_charAt_3b067 2 2 (some .char) := ⟨kw_228, kw_229, kw_230, by decide, by decide, rfl⟩
theorem gl_RJ0_505 : gLink RJ0 505 yJ0_length_8abf5 cJ0_length_8abf5 1 0 (some .int) := ⟨kw_231, kw_232, kw_225, by decide, by decide, rfl⟩
theorem gl_RJ0_633 : gLink RJ0 633 yJ0_indexOf_7cf53 cJ0_indexOf_7cf53 3 2 (some .int) := ⟨kw_233, kw_234, kw_225, by decide, by decide, rfl⟩
theorem gl_RJ0_637 : gLink RJ0 637 yJ1_indexOf_4cfef cJ1_indexOf_4cfef 4 4 (some .int) := ⟨kw_235, kw_236, kw_230, by decide, by decide, rfl⟩
theorem gl_RJ0_1059 : gLink RJ0 1059 yJ3_checkIndex_8e157 cJ3_checkIndex_8e157 3 3 (some .int) := ⟨kw_237, kw_238, kw_239, by decide, by decide, rfl⟩
theorem gl_RJ1_9 : gLink RJ1 9 yJ0_checkIndex_df160 cJ0_checkIndex_df160 2 2 none := ⟨kw_240, kw_241, kw_225, by decide, by decide, rfl⟩
theorem gl_RJ1_88 : gLink RJ1 88 yJ1_canEncode_9a6ad cJ1_canEncode_9a6ad 1 1 (some .boolean) := ⟨kw_242, kw_243, kw_230, by decide, by decide, rfl⟩
theorem gl_RJ1_95 : gLink RJ1 95 yJ1_indexOfChar_4cfef cJ1_indexOfChar_4cfef 6 4 (some .int) := ⟨kw_244, kw_245, kw_230, by decide, by decide, rfl⟩
theorem gl_RX0_17 : gLink RX0 17 yX0_setTo cX0_setTo 6 5 none := ⟨kw_246, kw_247, kw_12, by decide, by decide, rfl⟩
theorem gl_RX0_22 : gLink RX0 22 yX0_isFourInSix cX0_isFourInSix 1 0 (some .boolean) := ⟨kw_248, kw_249, kw_12, by decide, by decide, rfl⟩
theorem gl_RX0_26 : gLink RX0 26 yX0_agree cX0_agree 3 3 (some .boolean) := ⟨kw_250, kw_251, kw_12, by decide, by decide, rfl⟩
theorem gl_RX1_9 : gLink RX1 9 yJ0_indexOf_0f7a4 cJ0_indexOf_0f7a4 2 1 (some .int) := ⟨kw_252, kw_253, kw_225, by decide, by decide, rfl⟩
theorem gl_RX2_51 : gLink RX2 51 yX3_take cX3_take 2 1 none := ⟨kw_254, kw_255, kw_53, by decide, by decide, rfl⟩
theorem gl_RX2_56 : gLink RX2 56 yX5_take cX5_take 4 1 none := ⟨kw_256, kw_257, kw_17, by decide, by decide, rfl⟩
theorem gl_RX2_60 : gLink RX2 60 yX0_setTo cX0_setTo 6 5 none := ⟨kw_258, kw_247, kw_12, by decide, by decide, rfl⟩
theorem gl_RX2_69 : gLink RX2 69 yX6_hasUser cX6_hasUser 1 0 (some .boolean) := ⟨kw_259, kw_260, kw_87, by decide, by decide, rfl⟩
theorem gl_RX2_77 : gLink RX2 77 yX2_isListed cX2_isListed 4 1 (some .boolean) := ⟨kw_261, kw_262, kw_83, by decide, by decide, rfl⟩
theorem gl_RX2_81 : gLink RX2 81 yX3_isName cX3_isName 1 0 (some .boolean) := ⟨kw_263, kw_264, kw_53, by decide, by decide, rfl⟩
theorem gl_RX2_88 : gLink RX2 88 yX2_judgeAnswers cX2_judgeAnswers 6 1 (some .int) := ⟨kw_265, kw_266, kw_83, by decide, by decide, rfl⟩
theorem gl_RX2_96 : gLink RX2 96 yX2_isInSomeRange cX2_isInSomeRange 4 1 (some .boolean) := ⟨kw_267, kw_268, kw_83, by decide, by decide, rfl⟩
theorem gl_RX2_100 : gLink RX2 100 yX3_equalsHost cX3_equalsHost 2 1 (some .boolean) := ⟨kw_269, kw_270, kw_53, by decide, by decide, rfl⟩
theorem gl_RX2_103 : gLink RX2 103 yX2_isBelow cX2_isBelow 2 2 (some .boolean) := ⟨kw_271, kw_272, kw_83, by decide, by decide, rfl⟩
theorem gl_RX2_107 : gLink RX2 107 yX5_endsWith cX5_endsWith 4 1 (some .boolean) := ⟨kw_273, kw_274, kw_17, by decide, by decide, rfl⟩
theorem gl_RX2_114 : gLink RX2 114 yX5_byteAt cX5_byteAt 2 1 (some .int) := ⟨kw_275, kw_276, kw_17, by decide, by decide, rfl⟩
theorem gl_RX2_118 : gLink RX2 118 yX5_equalsRow cX5_equalsRow 2 1 (some .boolean) := ⟨kw_277, kw_278, kw_17, by decide, by decide, rfl⟩
theorem gl_RX2_121 : gLink RX2 121 yX0_isIn cX0_isIn 4 2 (some .boolean) := ⟨kw_279, kw_280, kw_12, by decide, by decide, rfl⟩
theorem gl_RX3_27 : gLink RX3 27 yX0_take cX0_take 2 1 none := ⟨kw_281, kw_282, kw_12, by decide, by decide, rfl⟩
theorem gl_RX3_31 : gLink RX3 31 yX5_take cX5_take 4 1 none := ⟨kw_283, kw_257, kw_17, by decide, by decide, rfl⟩
theorem gl_RX3_34 : gLink RX3 34 yX5_equalsRow cX5_equalsRow 2 1 (some .boolean) := ⟨kw_284, kw_278, kw_17, by decide, by decide, rfl⟩
theorem gl_RX3_38 : gLink RX3 38 yX0_setTo cX0_setTo 6 5 none := ⟨kw_285, kw_247, kw_12, by decide, by decide, rfl⟩
theorem gl_RX3_42 : gLink RX3 42 yX5_cutTo cX5_cutTo 2 1 none := ⟨kw_286, kw_287, kw_17, by decide, by decide, rfl⟩
theorem gl_RX3_46 : gLink RX3 46 yX5_addDecimal cX5_addDecimal 3 1 none := ⟨kw_288, kw_289, kw_17, by decide, by decide, rfl⟩
theorem gl_RX3_49 : gLink RX3 49 yX5_add cX5_add 2 1 none := ⟨kw_290, kw_291, kw_17, by decide, by decide, rfl⟩
theorem gl_RX3_52 : gLink RX3 52 yX3_firstLongestGap cX3_firstLongestGap 5 0 (some .int) := ⟨kw_292, kw_293, kw_53, by decide, by decide, rfl⟩
theorem gl_RX3_56 : gLink RX3 56 yX3_zerosFrom cX3_zerosFrom 3 1 (some .int) := ⟨kw_294, kw_295, kw_53, by decide, by decide, rfl⟩
theorem gl_RX3_62 : gLink RX3 62 yX5_addText cX5_addText 3 1 none := ⟨kw_296, kw_297, kw_17, by decide, by decide, rfl⟩
theorem gl_RX3_66 : gLink RX3 66 yX0_numberAt cX0_numberAt 2 1 (some .int) := ⟨kw_298, kw_299, kw_12, by decide, by decide, rfl⟩
theorem gl_RX3_69 : gLink RX3 69 yX5_addHex cX5_addHex 3 1 none := ⟨kw_300, kw_301, kw_17, by decide, by decide, rfl⟩
theorem gl_RX4_26 : gLink RX4 26 yX5_byteAt cX5_byteAt 2 1 (some .int) := ⟨kw_302, kw_276, kw_17, by decide, by decide, rfl⟩
theorem gl_RX4_30 : gLink RX4 30 yX4_readSix cX4_readSix 8 4 (some .int) := ⟨kw_303, kw_304, kw_73, by decide, by decide, rfl⟩
theorem gl_RX4_34 : gLink RX4 34 yX4_decode cX4_decode 7 3 none := ⟨kw_305, kw_306, kw_73, by decide, by decide, rfl⟩
theorem gl_RX4_41 : gLink RX4 41 yX4_hasWrongByte cX4_hasWrongByte 2 0 (some .boolean) := ⟨kw_307, kw_308, kw_73, by decide, by decide, rfl⟩
theorem gl_RX4_45 : gLink RX4 45 yX4_hasForeignPart cX4_hasForeignPart 2 0 (some .boolean) := ⟨kw_309, kw_310, kw_73, by decide, by decide, rfl⟩
theorem gl_RX4_48 : gLink RX4 48 yX4_lastPartStart cX4_lastPartStart 3 1 (some .int) := ⟨kw_311, kw_312, kw_73, by decide, by decide, rfl⟩
theorem gl_RX4_51 : gLink RX4 51 yX4_isNumeral cX4_isNumeral 6 2 (some .boolean) := ⟨kw_313, kw_314, kw_73, by decide, by decide, rfl⟩
theorem gl_RX4_55 : gLink RX4 55 yX4_readFour cX4_readFour 10 2 (some .int) := ⟨kw_315, kw_316, kw_73, by decide, by decide, rfl⟩
theorem gl_RX4_59 : gLink RX4 59 yX3_setName cX3_setName 2 1 none := ⟨kw_317, kw_318, kw_53, by decide, by decide, rfl⟩
theorem gl_RX4_65 : gLink RX4 65 yX5_cutTo cX5_cutTo 2 1 none := ⟨kw_319, kw_287, kw_17, by decide, by decide, rfl⟩
theorem gl_RX4_69 : gLink RX4 69 yX1_hexValue cX1_hexValue 1 1 (some .int) := ⟨kw_320, kw_321, kw_322, by decide, by decide, rfl⟩
theorem gl_RX4_74 : gLink RX4 74 yX1_low cX1_low 1 1 (some .int) := ⟨kw_323, kw_324, kw_322, by decide, by decide, rfl⟩
theorem gl_RX4_77 : gLink RX4 77 yX5_add cX5_add 2 1 none := ⟨kw_325, kw_291, kw_17, by decide, by decide, rfl⟩
theorem gl_RX4_80 : gLink RX4 80 yX1_isWrongInName cX1_isWrongInName 1 1 (some .boolean) := ⟨kw_326, kw_327, kw_322, by decide, by decide, rfl⟩
theorem gl_RX4_86 : gLink RX4 86 yX5_hasAt cX5_hasAt 4 2 (some .boolean) := ⟨kw_328, kw_329, kw_17, by decide, by decide, rfl⟩
theorem gl_RX4_90 : gLink RX4 90 yX4_isHex cX4_isHex 3 2 (some .boolean) := ⟨kw_330, kw_331, kw_73, by decide, by decide, rfl⟩
theorem gl_RX4_93 : gLink RX4 93 yX1_isDigit cX1_isDigit 1 1 (some .boolean) := ⟨kw_332, kw_333, kw_322, by decide, by decide, rfl⟩
theorem gl_RX4_98 : gLink RX4 98 yX4_partEnd cX4_partEnd 4 2 (some .int) := ⟨kw_334, kw_335, kw_73, by decide, by decide, rfl⟩
theorem gl_RX4_102 : gLink RX4 102 yX4_numeralValue cX4_numeralValue 9 2 (some .long) := ⟨kw_336, kw_337, kw_73, by decide, by decide, rfl⟩
theorem gl_RX4_106 : gLink RX4 106 yX3_setFour cX3_setFour 3 1 none := ⟨kw_338, kw_339, kw_53, by decide, by decide, rfl⟩
theorem gl_RX4_121 : gLink RX4 121 yX4_findGap cX4_findGap 5 3 (some .int) := ⟨kw_340, kw_341, kw_73, by decide, by decide, rfl⟩
theorem gl_RX4_125 : gLink RX4 125 yX4_readPieces cX4_readPieces 10 4 (some .boolean) := ⟨kw_342, kw_343, kw_73, by decide, by decide, rfl⟩
theorem gl_RX4_129 : gLink RX4 129 yX4_spread cX4_spread 5 1 none := ⟨kw_344, kw_345, kw_73, by decide, by decide, rfl⟩
theorem gl_RX4_132 : gLink RX4 132 yX4_wordAt cX4_wordAt 2 1 (some .int) := ⟨kw_346, kw_347, kw_73, by decide, by decide, rfl⟩
theorem gl_RX4_135 : gLink RX4 135 yX3_setSix cX3_setSix 8 4 none := ⟨kw_348, kw_349, kw_53, by decide, by decide, rfl⟩
theorem gl_RX4_139 : gLink RX4 139 yX4_readPoints cX4_readPoints 9 3 (some .boolean) := ⟨kw_350, kw_351, kw_73, by decide, by decide, rfl⟩
theorem gl_RX4_143 : gLink RX4 143 yX4_readPiece cX4_readPiece 7 3 (some .boolean) := ⟨kw_352, kw_353, kw_73, by decide, by decide, rfl⟩
theorem gl_RX4_146 : gLink RX4 146 yX4_addPiece cX4_addPiece 2 1 (some .boolean) := ⟨kw_354, kw_355, kw_73, by decide, by decide, rfl⟩
theorem gl_RX5_19 : gLink RX5 19 yJ7_copyOf_59c91 cJ7_copyOf_59c91 3 2 (some (.array .int)) := ⟨kw_356, kw_357, kw_358, by decide, by decide, rfl⟩
theorem gl_RX5_25 : gLink RX5 25 yX5_byteAt cX5_byteAt 2 1 (some .int) := ⟨kw_359, kw_276, kw_17, by decide, by decide, rfl⟩
theorem gl_RX5_29 : gLink RX5 29 yX5_add cX5_add 2 1 none := ⟨kw_360, kw_291, kw_17, by decide, by decide, rfl⟩
theorem gl_RX5_33 : gLink RX5 33 yJ0_length_8abf5 cJ0_length_8abf5 1 0 (some .int) := ⟨kw_361, kw_232, kw_225, by decide, by decide, rfl⟩
theorem gl_RX5_38 : gLink RX5 38 yJ0_charAt_5068e cJ0_charAt_5068e 2 1 (some .char) := ⟨kw_362, kw_363, kw_225, by decide, by decide, rfl⟩
theorem gl_RX5_42 : gLink RX5 42 yX1_isToEscape cX1_isToEscape 2 2 (some .boolean) := ⟨kw_364, kw_365, kw_322, by decide, by decide, rfl⟩
theorem gl_RX5_52 : gLink RX5 52 yX5_endsWith cX5_endsWith 4 1 (some .boolean) := ⟨kw_366, kw_274, kw_17, by decide, by decide, rfl⟩
theorem gl_RX6_67 : gLink RX6 67 yX5_cutTo cX5_cutTo 2 1 none := ⟨kw_367, kw_287, kw_17, by decide, by decide, rfl⟩
theorem gl_RX6_71 : gLink RX6 71 yX6_nameOf cX6_nameOf 1 1 (some (.object "java/lang/String")) := ⟨kw_368, kw_369, kw_87, by decide, by decide, rfl⟩
theorem gl_RX6_75 : gLink RX6 75 yX5_addText cX5_addText 3 1 none := ⟨kw_370, kw_297, kw_17, by decide, by decide, rfl⟩
theorem gl_RX6_79 : gLink RX6 79 yX5_take cX5_take 4 1 none := ⟨kw_371, kw_257, kw_17, by decide, by decide, rfl⟩
theorem gl_RX6_83 : gLink RX6 83 yX3_take cX3_take 2 1 none := ⟨kw_372, kw_255, kw_53, by decide, by decide, rfl⟩
theorem gl_RX6_86 : gLink RX6 86 yX5_add cX5_add 2 1 none := ⟨kw_373, kw_291, kw_17, by decide, by decide, rfl⟩
theorem gl_RX6_92 : gLink RX6 92 yX5_byteAt cX5_byteAt 2 1 (some .int) := ⟨kw_374, kw_276, kw_17, by decide, by decide, rfl⟩
theorem gl_RX6_96 : gLink RX6 96 yX6_portOf cX6_portOf 1 1 (some .int) := ⟨kw_375, kw_376, kw_87, by decide, by decide, rfl⟩
theorem gl_RX6_99 : gLink RX6 99 yX3_equalsHost cX3_equalsHost 2 1 (some .boolean) := ⟨kw_377, kw_270, kw_53, by decide, by decide, rfl⟩
theorem gl_RX6_103 : gLink RX6 103 yX6_portThatCounts cX6_portThatCounts 1 0 (some .int) := ⟨kw_378, kw_379, kw_87, by decide, by decide, rfl⟩
theorem gl_RX6_112 : gLink RX6 112 yX6_hasUser cX6_hasUser 1 0 (some .boolean) := ⟨kw_380, kw_260, kw_87, by decide, by decide, rfl⟩
theorem gl_RX6_116 : gLink RX6 116 yX5_addRow cX5_addRow 4 1 none := ⟨kw_381, kw_382, kw_17, by decide, by decide, rfl⟩
theorem gl_RX6_119 : gLink RX6 119 yX5_addDecimal cX5_addDecimal 3 1 none := ⟨kw_383, kw_289, kw_17, by decide, by decide, rfl⟩
theorem gl_RX7_28 : gLink RX7 28 yX7_tidy cX7_tidy 6 1 none := ⟨kw_384, kw_385, kw_78, by decide, by decide, rfl⟩
theorem gl_RX7_32 : gLink RX7 32 yX6_empty cX6_empty 1 0 none := ⟨kw_386, kw_387, kw_87, by decide, by decide, rfl⟩
theorem gl_RX7_37 : gLink RX7 37 yX7_readScheme cX7_readScheme 6 2 (some .int) := ⟨kw_388, kw_389, kw_78, by decide, by decide, rfl⟩
theorem gl_RX7_41 : gLink RX7 41 yX7_readRelative cX7_readRelative 4 2 (some .int) := ⟨kw_390, kw_391, kw_78, by decide, by decide, rfl⟩
theorem gl_RX7_44 : gLink RX7 44 yX7_readAuthority cX7_readAuthority 5 1 (some .int) := ⟨kw_392, kw_393, kw_78, by decide, by decide, rfl⟩
theorem gl_RX7_52 : gLink RX7 52 yX4_readHost cX4_readHost 6 4 (some .int) := ⟨kw_394, kw_395, kw_73, by decide, by decide, rfl⟩
theorem gl_RX7_58 : gLink RX7 58 yX7_readPort cX7_readPort 5 1 (some .int) := ⟨kw_396, kw_397, kw_78, by decide, by decide, rfl⟩
theorem gl_RX7_61 : gLink RX7 61 yX5_byteAt cX5_byteAt 2 1 (some .int) := ⟨kw_398, kw_276, kw_17, by decide, by decide, rfl⟩
theorem gl_RX7_65 : gLink RX7 65 yX1_isSlash cX1_isSlash 1 1 (some .boolean) := ⟨kw_399, kw_400, kw_322, by decide, by decide, rfl⟩
theorem gl_RX7_71 : gLink RX7 71 yX7_readSegments cX7_readSegments 5 1 none := ⟨kw_401, kw_402, kw_78, by decide, by decide, rfl⟩
theorem gl_RX7_75 : gLink RX7 75 yX7_readQuery cX7_readQuery 2 1 none := ⟨kw_403, kw_404, kw_78, by decide, by decide, rfl⟩
theorem gl_RX7_78 : gLink RX7 78 yX7_readFragment cX7_readFragment 3 1 none := ⟨kw_405, kw_406, kw_78, by decide, by decide, rfl⟩
theorem gl_RX7_84 : gLink RX7 84 yX5_cutTo cX5_cutTo 2 1 none := ⟨kw_407, kw_287, kw_17, by decide, by decide, rfl⟩
theorem gl_RX7_88 : gLink RX7 88 yX5_add cX5_add 2 1 none := ⟨kw_408, kw_291, kw_17, by decide, by decide, rfl⟩
theorem gl_RX7_91 : gLink RX7 91 yX7_schemeEnd cX7_schemeEnd 2 0 (some .int) := ⟨kw_409, kw_410, kw_78, by decide, by decide, rfl⟩
theorem gl_RX7_98 : gLink RX7 98 yX6_setScheme cX6_setScheme 2 1 none := ⟨kw_411, kw_412, kw_87, by decide, by decide, rfl⟩
theorem gl_RX7_101 : gLink RX7 101 yX7_schemeUpTo cX7_schemeUpTo 3 1 (some .int) := ⟨kw_413, kw_414, kw_78, by decide, by decide, rfl⟩
theorem gl_RX7_106 : gLink RX7 106 yX5_hasAt cX5_hasAt 4 2 (some .boolean) := ⟨kw_415, kw_329, kw_17, by decide, by decide, rfl⟩
theorem gl_RX7_110 : gLink RX7 110 yX1_isLetter cX1_isLetter 1 1 (some .boolean) := ⟨kw_416, kw_417, kw_322, by decide, by decide, rfl⟩
theorem gl_RX7_113 : gLink RX7 113 yX7_mayBeInScheme cX7_mayBeInScheme 1 1 (some .boolean) := ⟨kw_418, kw_419, kw_78, by decide, by decide, rfl⟩
theorem gl_RX7_116 : gLink RX7 116 yX1_isDigit cX1_isDigit 1 1 (some .boolean) := ⟨kw_420, kw_333, kw_322, by decide, by decide, rfl⟩
theorem gl_RX7_119 : gLink RX7 119 yX6_nameOf cX6_nameOf 1 1 (some (.object "java/lang/String")) := ⟨kw_421, kw_369, kw_87, by decide, by decide, rfl⟩
theorem gl_RX7_123 : gLink RX7 123 yX7_isWord cX7_isWord 4 2 (some .boolean) := ⟨kw_422, kw_423, kw_78, by decide, by decide, rfl⟩
theorem gl_RX7_126 : gLink RX7 126 yJ0_length_8abf5 cJ0_length_8abf5 1 0 (some .int) := ⟨kw_424, kw_232, kw_225, by decide, by decide, rfl⟩
theorem gl_RX7_130 : gLink RX7 130 yX1_low cX1_low 1 1 (some .int) := ⟨kw_425, kw_324, kw_322, by decide, by decide, rfl⟩
theorem gl_RX7_133 : gLink RX7 133 yJ0_charAt_5068e cJ0_charAt_5068e 2 1 (some .char) := ⟨kw_426, kw_363, kw_225, by decide, by decide, rfl⟩
theorem gl_RX7_137 : gLink RX7 137 yX6_takeAuthority cX6_takeAuthority 2 1 none := ⟨kw_427, kw_428, kw_87, by decide, by decide, rfl⟩
theorem gl_RX7_140 : gLink RX7 140 yX6_takePath cX6_takePath 2 1 none := ⟨kw_429, kw_430, kw_87, by decide, by decide, rfl⟩
theorem gl_RX7_143 : gLink RX7 143 yX6_takeQuery cX6_takeQuery 2 1 none := ⟨kw_431, kw_432, kw_87, by decide, by decide, rfl⟩
theorem gl_RX7_146 : gLink RX7 146 yX6_dropSegment cX6_dropSegment 2 0 none := ⟨kw_433, kw_434, kw_87, by decide, by decide, rfl⟩
theorem gl_RX7_149 : gLink RX7 149 yX1_isDivider cX1_isDivider 1 1 (some .boolean) := ⟨kw_435, kw_436, kw_322, by decide, by decide, rfl⟩
theorem gl_RX7_152 : gLink RX7 152 yX7_readUser cX7_readUser 8 3 none := ⟨kw_437, kw_438, kw_78, by decide, by decide, rfl⟩
theorem gl_RX7_156 : gLink RX7 156 yX7_hostEndFrom cX7_hostEndFrom 6 2 (some .int) := ⟨kw_439, kw_440, kw_78, by decide, by decide, rfl⟩
theorem gl_RX7_168 : gLink RX7 168 yX5_addEscaped cX5_addEscaped 3 2 none := ⟨kw_441, kw_442, kw_17, by decide, by decide, rfl⟩
theorem gl_RX7_178 : gLink RX7 178 yX6_portOf cX6_portOf 1 1 (some .int) := ⟨kw_443, kw_376, kw_87, by decide, by decide, rfl⟩
theorem gl_RX7_184 : gLink RX7 184 yX7_takeSegment cX7_takeSegment 7 4 none := ⟨kw_444, kw_445, kw_78, by decide, by decide, rfl⟩
theorem gl_RX7_188 : gLink RX7 188 yX7_pointsIn cX7_pointsIn 5 2 (some .int) := ⟨kw_446, kw_447, kw_78, by decide, by decide, rfl⟩
theorem gl_RX7_191 : gLink RX7 191 yX6_beginSegment cX6_beginSegment 1 0 none := ⟨kw_448, kw_449, kw_87, by decide, by decide, rfl⟩
theorem gl_RX8_62 : gLink RX8 62 yX5_add cX5_add 2 1 none := ⟨kw_450, kw_291, kw_17, by decide, by decide, rfl⟩
theorem gl_RX8_66 : gLink RX8 66 yX5_cutTo cX5_cutTo 2 1 none := ⟨kw_451, kw_287, kw_17, by decide, by decide, rfl⟩
theorem gl_RX8_69 : gLink RX8 69 yX8_recordAt cX8_recordAt 2 1 (some (.object "UrlGate$Url")) := ⟨kw_452, kw_453, kw_454, by decide, by decide, rfl⟩
theorem gl_RX8_73 : gLink RX8 73 yX7_readUrl cX7_readUrl 7 4 (some .int) := ⟨kw_455, kw_456, kw_78, by decide, by decide, rfl⟩
theorem gl_RX8_77 : gLink RX8 77 yX6_writeTo cX6_writeTo 2 1 none := ⟨kw_457, kw_458, kw_87, by decide, by decide, rfl⟩
theorem gl_RX8_81 : gLink RX8 81 yX5_take cX5_take 4 1 none := ⟨kw_459, kw_257, kw_17, by decide, by decide, rfl⟩
theorem gl_RX8_84 : gLink RX8 84 yX5_byteAt cX5_byteAt 2 1 (some .int) := ⟨kw_460, kw_276, kw_17, by decide, by decide, rfl⟩
theorem gl_RX8_88 : gLink RX8 88 yX6_rowOf cX6_rowOf 2 1 (some (.object "UrlGate$Row")) := ⟨kw_461, kw_462, kw_87, by decide, by decide, rfl⟩
theorem gl_RX8_95 : gLink RX8 95 yX6_portThatCounts cX6_portThatCounts 1 0 (some .int) := ⟨kw_463, kw_379, kw_87, by decide, by decide, rfl⟩
theorem gl_RX8_114 : gLink RX8 114 yX0_numberAt cX0_numberAt 2 1 (some .int) := ⟨kw_464, kw_299, kw_12, by decide, by decide, rfl⟩
theorem gl_RX8_117 : gLink RX8 117 yX6_hasOriginOf cX6_hasOriginOf 2 1 (some .boolean) := ⟨kw_465, kw_466, kw_87, by decide, by decide, rfl⟩
theorem gl_RX8_121 : gLink RX8 121 yX8_hearHost cX8_hearHost 2 0 (some .int) := ⟨kw_467, kw_468, kw_454, by decide, by decide, rfl⟩
theorem gl_RX8_124 : gLink RX8 124 yX3_isName cX3_isName 1 0 (some .boolean) := ⟨kw_469, kw_264, kw_53, by decide, by decide, rfl⟩
theorem gl_RX8_128 : gLink RX8 128 yX2_addHost cX2_addHost 4 2 (some .int) := ⟨kw_470, kw_471, kw_83, by decide, by decide, rfl⟩
theorem gl_RX8_135 : gLink RX8 135 yX2_addAnswer cX2_addAnswer 9 6 (some .int) := ⟨kw_472, kw_473, kw_83, by decide, by decide, rfl⟩
theorem gl_RX8_139 : gLink RX8 139 yX2_addRange cX2_addRange 8 6 (some .int) := ⟨kw_474, kw_475, kw_83, by decide, by decide, rfl⟩
theorem gl_RX8_143 : gLink RX8 143 yX2_forget cX2_forget 2 0 (some .int) := ⟨kw_476, kw_477, kw_83, by decide, by decide, rfl⟩
theorem gl_RX8_146 : gLink RX8 146 yX2_judge cX2_judge 2 1 (some .int) := ⟨kw_478, kw_479, kw_83, by decide, by decide, rfl⟩
theorem gl_RX8_150 : gLink RX8 150 yX4_readHost cX4_readHost 6 4 (some .int) := ⟨kw_480, kw_395, kw_73, by decide, by decide, rfl⟩
theorem gl_RX9_91 : gLink RX9 91 yX9_isIn cX9_isIn 3 3 (some .boolean) := ⟨kw_481, kw_482, kw_483, by decide, by decide, rfl⟩
theorem gl_RX9_95 : gLink RX9 95 yX9_isDigit cX9_isDigit 1 1 (some .boolean) := ⟨kw_484, kw_485, kw_483, by decide, by decide, rfl⟩
theorem gl_RX9_99 : gLink RX9 99 yX9_low cX9_low 1 1 (some .int) := ⟨kw_486, kw_487, kw_483, by decide, by decide, rfl⟩
theorem gl_RX9_107 : gLink RX9 107 yX9_sizeOf cX9_sizeOf 3 2 (some .int) := ⟨kw_488, kw_489, kw_483, by decide, by decide, rfl⟩
theorem gl_RX9_111 : gLink RX9 111 yX9_row cX9_row 3 2 (some .int) := ⟨kw_490, kw_491, kw_483, by decide, by decide, rfl⟩
theorem gl_RX9_114 : gLink RX9 114 yX9_copyPart cX9_copyPart 6 3 none := ⟨kw_492, kw_493, kw_483, by decide, by decide, rfl⟩
theorem gl_RX9_118 : gLink RX9 118 yX9_isEscaped cX9_isEscaped 4 2 (some .boolean) := ⟨kw_494, kw_495, kw_483, by decide, by decide, rfl⟩
theorem gl_RX9_122 : gLink RX9 122 yX9_add cX9_add 4 2 none := ⟨kw_496, kw_497, kw_483, by decide, by decide, rfl⟩
theorem gl_RX9_126 : gLink RX9 126 yX9_digitOf cX9_digitOf 1 1 (some .int) := ⟨kw_498, kw_499, kw_483, by decide, by decide, rfl⟩
theorem gl_RX9_142 : gLink RX9 142 yJ0_charAt_5068e cJ0_charAt_5068e 2 1 (some .char) := ⟨kw_500, kw_363, kw_225, by decide, by decide, rfl⟩
theorem gl_RX9_148 : gLink RX9 148 yX9_schemeSize cX9_schemeSize 1 1 (some .int) := ⟨kw_501, kw_502, kw_483, by decide, by decide, rfl⟩
theorem gl_RX9_151 : gLink RX9 151 yX9_byteAt cX9_byteAt 2 1 (some .int) := ⟨kw_503, kw_504, kw_483, by decide, by decide, rfl⟩
theorem gl_RX9_154 : gLink RX9 154 yX9_schemeByte cX9_schemeByte 3 2 (some .int) := ⟨kw_505, kw_506, kw_483, by decide, by decide, rfl⟩
theorem gl_RX9_157 : gLink RX9 157 yX9_has cX9_has 2 1 (some .boolean) := ⟨kw_507, kw_508, kw_483, by decide, by decide, rfl⟩
theorem gl_RX9_160 : gLink RX9 160 yX9_takeText cX9_takeText 5 0 none := ⟨kw_509, kw_510, kw_483, by decide, by decide, rfl⟩
theorem gl_RX9_166 : gLink RX9 166 yX9_readScheme cX9_readScheme 5 1 none := ⟨kw_511, kw_512, kw_483, by decide, by decide, rfl⟩
theorem gl_RX9_170 : gLink RX9 170 yX9_writtenLength cX9_writtenLength 5 1 (some .int) := ⟨kw_513, kw_514, kw_483, by decide, by decide, rfl⟩
theorem gl_RX9_173 : gLink RX9 173 yX9_copyHost cX9_copyHost 4 2 none := ⟨kw_515, kw_516, kw_483, by decide, by decide, rfl⟩
theorem gl_RX9_176 : gLink RX9 176 yX9_isLetter cX9_isLetter 1 1 (some .boolean) := ⟨kw_517, kw_518, kw_483, by decide, by decide, rfl⟩
theorem gl_RX9_179 : gLink RX9 179 yX9_readRelative cX9_readRelative 4 2 none := ⟨kw_519, kw_520, kw_483, by decide, by decide, rfl⟩
theorem gl_RX9_182 : gLink RX9 182 yX9_isWord cX9_isWord 5 2 (some .boolean) := ⟨kw_521, kw_522, kw_483, by decide, by decide, rfl⟩
theorem gl_RX9_185 : gLink RX9 185 yX9_readSlashes cX9_readSlashes 8 1 none := ⟨kw_523, kw_524, kw_483, by decide, by decide, rfl⟩
theorem gl_RX9_188 : gLink RX9 188 yX9_isSlash cX9_isSlash 1 1 (some .boolean) := ⟨kw_525, kw_526, kw_483, by decide, by decide, rfl⟩
theorem gl_RX9_191 : gLink RX9 191 yX9_readPath cX9_readPath 7 1 none := ⟨kw_527, kw_528, kw_483, by decide, by decide, rfl⟩
theorem gl_RX9_194 : gLink RX9 194 yX9_readTail cX9_readTail 3 1 none := ⟨kw_529, kw_530, kw_483, by decide, by decide, rfl⟩
theorem gl_RX9_197 : gLink RX9 197 yX9_dropSegment cX9_dropSegment 3 0 none := ⟨kw_531, kw_532, kw_483, by decide, by decide, rfl⟩
theorem gl_RX9_205 : gLink RX9 205 yX9_isOver cX9_isOver 3 1 (some .boolean) := ⟨kw_533, kw_534, kw_483, by decide, by decide, rfl⟩
theorem gl_RX9_208 : gLink RX9 208 yX9_addEscaped cX9_addEscaped 4 3 none := ⟨kw_535, kw_536, kw_483, by decide, by decide, rfl⟩
theorem gl_RX9_211 : gLink RX9 211 yX9_readHost cX9_readHost 6 2 (some .int) := ⟨kw_537, kw_538, kw_483, by decide, by decide, rfl⟩
theorem gl_RX9_220 : gLink RX9 220 yX9_readPort cX9_readPort 5 2 none := ⟨kw_539, kw_540, kw_483, by decide, by decide, rfl⟩
theorem gl_RX9_228 : gLink RX9 228 yX9_portOf cX9_portOf 1 1 (some .int) := ⟨kw_541, kw_542, kw_483, by decide, by decide, rfl⟩
theorem gl_RX9_231 : gLink RX9 231 yX9_points cX9_points 5 2 (some .int) := ⟨kw_543, kw_544, kw_483, by decide, by decide, rfl⟩
theorem gl_RX9_234 : gLink RX9 234 yX9_readSix cX9_readSix 9 2 (some .int) := ⟨kw_545, kw_546, kw_483, by decide, by decide, rfl⟩
theorem gl_RX9_237 : gLink RX9 237 yX9_hex cX9_hex 1 1 (some .int) := ⟨kw_547, kw_548, kw_483, by decide, by decide, rfl⟩
theorem gl_RX9_240 : gLink RX9 240 yX9_isWrongByte cX9_isWrongByte 1 1 (some .boolean) := ⟨kw_549, kw_550, kw_483, by decide, by decide, rfl⟩
theorem gl_RX9_243 : gLink RX9 243 yX9_readFour cX9_readFour 15 0 (some .int) := ⟨kw_551, kw_552, kw_483, by decide, by decide, rfl⟩
theorem gl_RX9_247 : gLink RX9 247 yX9_numberOf cX9_numberOf 8 2 (some .long) := ⟨kw_553, kw_554, kw_483, by decide, by decide, rfl⟩
theorem gl_RX9_260 : gLink RX9 260 yX9_readNumbers cX9_readNumbers 10 3 (some .int) := ⟨kw_555, kw_556, kw_483, by decide, by decide, rfl⟩
theorem gl_RX9_269 : gLink RX9 269 yX9_put cX9_put 2 1 none := ⟨kw_557, kw_558, kw_483, by decide, by decide, rfl⟩
theorem gl_RX9_272 : gLink RX9 272 yX9_putDecimal cX9_putDecimal 3 1 none := ⟨kw_559, kw_560, kw_483, by decide, by decide, rfl⟩
theorem gl_RX9_275 : gLink RX9 275 yX9_writeSix cX9_writeSix 6 1 none := ⟨kw_561, kw_562, kw_483, by decide, by decide, rfl⟩
theorem gl_RX9_278 : gLink RX9 278 yX9_putHex cX9_putHex 5 1 none := ⟨kw_563, kw_564, kw_483, by decide, by decide, rfl⟩
theorem gl_RX9_281 : gLink RX9 281 yX9_writeHost cX9_writeHost 3 1 none := ⟨kw_565, kw_566, kw_483, by decide, by decide, rfl⟩
theorem gl_RX9_284 : gLink RX9 284 yX9_digitsOf cX9_digitsOf 1 1 (some .int) := ⟨kw_567, kw_568, kw_483, by decide, by decide, rfl⟩
theorem gl_RX9_287 : gLink RX9 287 yX9_say cX9_say 2 1 none := ⟨kw_569, kw_570, kw_483, by decide, by decide, rfl⟩
theorem gl_RX9_290 : gLink RX9 290 yX9_sayPart cX9_sayPart 4 2 none := ⟨kw_571, kw_572, kw_483, by decide, by decide, rfl⟩
theorem gl_RX9_293 : gLink RX9 293 yX9_sayWritten cX9_sayWritten 2 0 none := ⟨kw_573, kw_574, kw_483, by decide, by decide, rfl⟩
theorem gl_RX9_296 : gLink RX9 296 yX9_size cX9_size 3 2 (some .int) := ⟨kw_575, kw_576, kw_483, by decide, by decide, rfl⟩
theorem gl_RX9_298 : gLink RX9 298 yX9_told cX9_told 5 2 (some .int) := ⟨kw_577, kw_578, kw_483, by decide, by decide, rfl⟩
theorem gl_RX9_301 : gLink RX9 301 yX9_readTextHost cX9_readTextHost 2 0 (some .int) := ⟨kw_579, kw_580, kw_483, by decide, by decide, rfl⟩
theorem gl_RX9_313 : gLink RX9 313 yX9_isListed cX9_isListed 7 1 (some .boolean) := ⟨kw_581, kw_582, kw_483, by decide, by decide, rfl⟩
theorem gl_RX9_316 : gLink RX9 316 yX9_isInRange cX9_isInRange 14 5 (some .boolean) := ⟨kw_583, kw_584, kw_483, by decide, by decide, rfl⟩
theorem gl_RX9_320 : gLink RX9 320 yX9_pair cX9_pair 3 2 (some .int) := ⟨kw_585, kw_586, kw_483, by decide, by decide, rfl⟩
theorem gn_J0_charAt_5068e : Cond.instanceMethod yJ0_charAt_5068e ∈ gT ∧ Cond.selects "java/lang/String" yJ0_charAt_5068e yJ0_charAt_5068e ∈ gT := ⟨kw_587, kw_588⟩
theorem gn_J0_coder_7d493 : Cond.instanceMethod yJ0_coder_7d493 ∈ gT ∧ Cond.selects "java/lang/String" yJ0_coder_7d493 yJ0_coder_7d493 ∈ gT := ⟨kw_589, kw_590⟩
theorem gn_J0_indexOf_0f7a4 : Cond.instanceMethod yJ0_indexOf_0f7a4 ∈ gT ∧ Cond.selects "java/lang/String" yJ0_indexOf_0f7a4 yJ0_indexOf_0f7a4 ∈ gT := ⟨kw_591, kw_592⟩
theorem gn_J0_indexOf_7cf53 : Cond.instanceMethod yJ0_indexOf_7cf53 ∈ gT ∧ Cond.selects "java/lang/String" yJ0_indexOf_7cf53 yJ0_indexOf_7cf53 ∈ gT := ⟨kw_593, kw_594⟩
theorem gn_J0_isLatin1_aae02 : Cond.instanceMethod yJ0_isLatin1_aae02 ∈ gT ∧ Cond.selects "java/lang/String" yJ0_isLatin1_aae02 yJ0_isLatin1_aae02 ∈ gT := ⟨kw_595, kw_596⟩
theorem gn_J0_length_8abf5 : Cond.instanceMethod yJ0_length_8abf5 ∈ gT ∧ Cond.selects "java/lang/String" yJ0_length_8abf5 yJ0_length_8abf5 ∈ gT := ⟨kw_597, kw_598⟩
theorem gn_X0_isFourInSix : Cond.instanceMethod yX0_isFourInSix ∈ gT ∧ Cond.selects RX0 yX0_isFourInSix yX0_isFourInSix ∈ gT := ⟨kw_599, kw_600⟩
theorem gn_X0_isIn : Cond.instanceMethod yX0_isIn ∈ gT ∧ Cond.selects RX0 yX0_isIn yX0_isIn ∈ gT := ⟨kw_601, kw_602⟩
theorem gn_X0_numberAt : Cond.instanceMethod yX0_numberAt ∈ gT ∧ Cond.selects RX0 yX0_numberAt yX0_numberAt ∈ gT := ⟨kw_603, kw_604⟩
theorem gn_X0_setTo : Cond.instanceMethod yX0_setTo ∈ gT ∧ Cond.selects RX0 yX0_setTo yX0_setTo ∈ gT := ⟨kw_605, kw_606⟩
theorem gn_X0_take : Cond.instanceMethod yX0_take ∈ gT ∧ Cond.selects RX0 yX0_take yX0_take ∈ gT := ⟨kw_607, kw_608⟩
theorem gn_X2_addAnswer : Cond.instanceMethod yX2_addAnswer ∈ gT ∧ Cond.selects RX2 yX2_addAnswer yX2_addAnswer ∈ gT := ⟨kw_609, kw_610⟩
theorem gn_X2_addHost : Cond.instanceMethod yX2_addHost ∈ gT ∧ Cond.selects RX2 yX2_addHost yX2_addHost ∈ gT := ⟨kw_611, kw_612⟩
theorem gn_X2_addRange : Cond.instanceMethod yX2_addRange ∈ gT ∧ Cond.selects RX2 yX2_addRange yX2_addRange ∈ gT := ⟨kw_613, kw_614⟩
theorem gn_X2_forget : Cond.instanceMethod yX2_forget ∈ gT ∧ Cond.selects RX2 yX2_forget yX2_forget ∈ gT := ⟨kw_615, kw_616⟩
theorem gn_X2_isInSomeRange : Cond.instanceMethod yX2_isInSomeRange ∈ gT ∧ Cond.selects RX2 yX2_isInSomeRange yX2_isInSomeRange ∈ gT := ⟨kw_617, kw_618⟩
theorem gn_X2_isListed : Cond.instanceMethod yX2_isListed ∈ gT ∧ Cond.selects RX2 yX2_isListed yX2_isListed ∈ gT := ⟨kw_619, kw_620⟩
theorem gn_X2_judge : Cond.instanceMethod yX2_judge ∈ gT ∧ Cond.selects RX2 yX2_judge yX2_judge ∈ gT := ⟨kw_621, kw_622⟩
theorem gn_X2_judgeAnswers : Cond.instanceMethod yX2_judgeAnswers ∈ gT ∧ Cond.selects RX2 yX2_judgeAnswers yX2_judgeAnswers ∈ gT := ⟨kw_623, kw_624⟩
theorem gn_X3_equalsHost : Cond.instanceMethod yX3_equalsHost ∈ gT ∧ Cond.selects RX3 yX3_equalsHost yX3_equalsHost ∈ gT := ⟨kw_625, kw_626⟩
theorem gn_X3_firstLongestGap : Cond.instanceMethod yX3_firstLongestGap ∈ gT ∧ Cond.selects RX3 yX3_firstLongestGap yX3_firstLongestGap ∈ gT := ⟨kw_627, kw_628⟩
theorem gn_X3_isName : Cond.instanceMethod yX3_isName ∈ gT ∧ Cond.selects RX3 yX3_isName yX3_isName ∈ gT := ⟨kw_629, kw_630⟩
theorem gn_X3_setFour : Cond.instanceMethod yX3_setFour ∈ gT ∧ Cond.selects RX3 yX3_setFour yX3_setFour ∈ gT := ⟨kw_631, kw_632⟩
theorem gn_X3_setName : Cond.instanceMethod yX3_setName ∈ gT ∧ Cond.selects RX3 yX3_setName yX3_setName ∈ gT := ⟨kw_633, kw_634⟩
theorem gn_X3_setSix : Cond.instanceMethod yX3_setSix ∈ gT ∧ Cond.selects RX3 yX3_setSix yX3_setSix ∈ gT := ⟨kw_635, kw_636⟩
theorem gn_X3_take : Cond.instanceMethod yX3_take ∈ gT ∧ Cond.selects RX3 yX3_take yX3_take ∈ gT := ⟨kw_637, kw_638⟩
theorem gn_X3_zerosFrom : Cond.instanceMethod yX3_zerosFrom ∈ gT ∧ Cond.selects RX3 yX3_zerosFrom yX3_zerosFrom ∈ gT := ⟨kw_639, kw_640⟩
theorem gn_X4_addPiece : Cond.instanceMethod yX4_addPiece ∈ gT ∧ Cond.selects RX4 yX4_addPiece yX4_addPiece ∈ gT := ⟨kw_641, kw_642⟩
theorem gn_X4_decode : Cond.instanceMethod yX4_decode ∈ gT ∧ Cond.selects RX4 yX4_decode yX4_decode ∈ gT := ⟨kw_643, kw_644⟩
theorem gn_X4_findGap : Cond.instanceMethod yX4_findGap ∈ gT ∧ Cond.selects RX4 yX4_findGap yX4_findGap ∈ gT := ⟨kw_645, kw_646⟩
theorem gn_X4_hasForeignPart : Cond.instanceMethod yX4_hasForeignPart ∈ gT ∧ Cond.selects RX4 yX4_hasForeignPart yX4_hasForeignPart ∈ gT := ⟨kw_647, kw_648⟩
theorem gn_X4_hasWrongByte : Cond.instanceMethod yX4_hasWrongByte ∈ gT ∧ Cond.selects RX4 yX4_hasWrongByte yX4_hasWrongByte ∈ gT := ⟨kw_649, kw_650⟩
theorem gn_X4_isHex : Cond.instanceMethod yX4_isHex ∈ gT ∧ Cond.selects RX4 yX4_isHex yX4_isHex ∈ gT := ⟨kw_651, kw_652⟩
theorem gn_X4_isNumeral : Cond.instanceMethod yX4_isNumeral ∈ gT ∧ Cond.selects RX4 yX4_isNumeral yX4_isNumeral ∈ gT := ⟨kw_653, kw_654⟩
theorem gn_X4_lastPartStart : Cond.instanceMethod yX4_lastPartStart ∈ gT ∧ Cond.selects RX4 yX4_lastPartStart yX4_lastPartStart ∈ gT := ⟨kw_655, kw_656⟩
theorem gn_X4_numeralValue : Cond.instanceMethod yX4_numeralValue ∈ gT ∧ Cond.selects RX4 yX4_numeralValue yX4_numeralValue ∈ gT := ⟨kw_657, kw_658⟩
theorem gn_X4_partEnd : Cond.instanceMethod yX4_partEnd ∈ gT ∧ Cond.selects RX4 yX4_partEnd yX4_partEnd ∈ gT := ⟨kw_659, kw_660⟩
theorem gn_X4_readFour : Cond.instanceMethod yX4_readFour ∈ gT ∧ Cond.selects RX4 yX4_readFour yX4_readFour ∈ gT := ⟨kw_661, kw_662⟩
theorem gn_X4_readHost : Cond.instanceMethod yX4_readHost ∈ gT ∧ Cond.selects RX4 yX4_readHost yX4_readHost ∈ gT := ⟨kw_663, kw_664⟩
theorem gn_X4_readPiece : Cond.instanceMethod yX4_readPiece ∈ gT ∧ Cond.selects RX4 yX4_readPiece yX4_readPiece ∈ gT := ⟨kw_665, kw_666⟩
theorem gn_X4_readPieces : Cond.instanceMethod yX4_readPieces ∈ gT ∧ Cond.selects RX4 yX4_readPieces yX4_readPieces ∈ gT := ⟨kw_667, kw_668⟩
theorem gn_X4_readPoints : Cond.instanceMethod yX4_readPoints ∈ gT ∧ Cond.selects RX4 yX4_readPoints yX4_readPoints ∈ gT := ⟨kw_669, kw_670⟩
theorem gn_X4_readSix : Cond.instanceMethod yX4_readSix ∈ gT ∧ Cond.selects RX4 yX4_readSix yX4_readSix ∈ gT := ⟨kw_671, kw_672⟩
theorem gn_X4_spread : Cond.instanceMethod yX4_spread ∈ gT ∧ Cond.selects RX4 yX4_spread yX4_spread ∈ gT := ⟨kw_673, kw_674⟩
theorem gn_X4_wordAt : Cond.instanceMethod yX4_wordAt ∈ gT ∧ Cond.selects RX4 yX4_wordAt yX4_wordAt ∈ gT := ⟨kw_675, kw_676⟩
theorem gn_X5_add : Cond.instanceMethod yX5_add ∈ gT ∧ Cond.selects RX5 yX5_add yX5_add ∈ gT := ⟨kw_677, kw_678⟩
theorem gn_X5_addDecimal : Cond.instanceMethod yX5_addDecimal ∈ gT ∧ Cond.selects RX5 yX5_addDecimal yX5_addDecimal ∈ gT := ⟨kw_679, kw_680⟩
theorem gn_X5_addEscaped : Cond.instanceMethod yX5_addEscaped ∈ gT ∧ Cond.selects RX5 yX5_addEscaped yX5_addEscaped ∈ gT := ⟨kw_681, kw_682⟩
theorem gn_X5_addHex : Cond.instanceMethod yX5_addHex ∈ gT ∧ Cond.selects RX5 yX5_addHex yX5_addHex ∈ gT := ⟨kw_683, kw_684⟩
theorem gn_X5_addRow : Cond.instanceMethod yX5_addRow ∈ gT ∧ Cond.selects RX5 yX5_addRow yX5_addRow ∈ gT := ⟨kw_685, kw_686⟩
theorem gn_X5_addText : Cond.instanceMethod yX5_addText ∈ gT ∧ Cond.selects RX5 yX5_addText yX5_addText ∈ gT := ⟨kw_687, kw_688⟩
theorem gn_X5_byteAt : Cond.instanceMethod yX5_byteAt ∈ gT ∧ Cond.selects RX5 yX5_byteAt yX5_byteAt ∈ gT := ⟨kw_689, kw_690⟩
theorem gn_X5_cutTo : Cond.instanceMethod yX5_cutTo ∈ gT ∧ Cond.selects RX5 yX5_cutTo yX5_cutTo ∈ gT := ⟨kw_691, kw_692⟩
theorem gn_X5_endsWith : Cond.instanceMethod yX5_endsWith ∈ gT ∧ Cond.selects RX5 yX5_endsWith yX5_endsWith ∈ gT := ⟨kw_693, kw_694⟩
theorem gn_X5_equalsRow : Cond.instanceMethod yX5_equalsRow ∈ gT ∧ Cond.selects RX5 yX5_equalsRow yX5_equalsRow ∈ gT := ⟨kw_695, kw_696⟩
theorem gn_X5_hasAt : Cond.instanceMethod yX5_hasAt ∈ gT ∧ Cond.selects RX5 yX5_hasAt yX5_hasAt ∈ gT := ⟨kw_697, kw_698⟩
theorem gn_X5_take : Cond.instanceMethod yX5_take ∈ gT ∧ Cond.selects RX5 yX5_take yX5_take ∈ gT := ⟨kw_699, kw_700⟩
theorem gn_X6_beginSegment : Cond.instanceMethod yX6_beginSegment ∈ gT ∧ Cond.selects RX6 yX6_beginSegment yX6_beginSegment ∈ gT := ⟨kw_701, kw_702⟩
theorem gn_X6_dropSegment : Cond.instanceMethod yX6_dropSegment ∈ gT ∧ Cond.selects RX6 yX6_dropSegment yX6_dropSegment ∈ gT := ⟨kw_703, kw_704⟩
theorem gn_X6_empty : Cond.instanceMethod yX6_empty ∈ gT ∧ Cond.selects RX6 yX6_empty yX6_empty ∈ gT := ⟨kw_705, kw_706⟩
theorem gn_X6_hasOriginOf : Cond.instanceMethod yX6_hasOriginOf ∈ gT ∧ Cond.selects RX6 yX6_hasOriginOf yX6_hasOriginOf ∈ gT := ⟨kw_707, kw_708⟩
theorem gn_X6_hasUser : Cond.instanceMethod yX6_hasUser ∈ gT ∧ Cond.selects RX6 yX6_hasUser yX6_hasUser ∈ gT := ⟨kw_709, kw_710⟩
theorem gn_X6_portThatCounts : Cond.instanceMethod yX6_portThatCounts ∈ gT ∧ Cond.selects RX6 yX6_portThatCounts yX6_portThatCounts ∈ gT := ⟨kw_711, kw_712⟩
theorem gn_X6_rowOf : Cond.instanceMethod yX6_rowOf ∈ gT ∧ Cond.selects RX6 yX6_rowOf yX6_rowOf ∈ gT := ⟨kw_713, kw_714⟩
theorem gn_X6_setScheme : Cond.instanceMethod yX6_setScheme ∈ gT ∧ Cond.selects RX6 yX6_setScheme yX6_setScheme ∈ gT := ⟨kw_715, kw_716⟩
theorem gn_X6_takeAuthority : Cond.instanceMethod yX6_takeAuthority ∈ gT ∧ Cond.selects RX6 yX6_takeAuthority yX6_takeAuthority ∈ gT := ⟨kw_717, kw_718⟩
theorem gn_X6_takePath : Cond.instanceMethod yX6_takePath ∈ gT ∧ Cond.selects RX6 yX6_takePath yX6_takePath ∈ gT := ⟨kw_719, kw_720⟩
theorem gn_X6_takeQuery : Cond.instanceMethod yX6_takeQuery ∈ gT ∧ Cond.selects RX6 yX6_takeQuery yX6_takeQuery ∈ gT := ⟨kw_721, kw_722⟩
theorem gn_X6_writeTo : Cond.instanceMethod yX6_writeTo ∈ gT ∧ Cond.selects RX6 yX6_writeTo yX6_writeTo ∈ gT := ⟨kw_723, kw_724⟩
theorem gn_X7_hostEndFrom : Cond.instanceMethod yX7_hostEndFrom ∈ gT ∧ Cond.selects RX7 yX7_hostEndFrom yX7_hostEndFrom ∈ gT := ⟨kw_725, kw_726⟩
theorem gn_X7_isWord : Cond.instanceMethod yX7_isWord ∈ gT ∧ Cond.selects RX7 yX7_isWord yX7_isWord ∈ gT := ⟨kw_727, kw_728⟩
theorem gn_X7_pointsIn : Cond.instanceMethod yX7_pointsIn ∈ gT ∧ Cond.selects RX7 yX7_pointsIn yX7_pointsIn ∈ gT := ⟨kw_729, kw_730⟩
theorem gn_X7_readAuthority : Cond.instanceMethod yX7_readAuthority ∈ gT ∧ Cond.selects RX7 yX7_readAuthority yX7_readAuthority ∈ gT := ⟨kw_731, kw_732⟩
theorem gn_X7_readFragment : Cond.instanceMethod yX7_readFragment ∈ gT ∧ Cond.selects RX7 yX7_readFragment yX7_readFragment ∈ gT := ⟨kw_733, kw_734⟩
theorem gn_X7_readPort : Cond.instanceMethod yX7_readPort ∈ gT ∧ Cond.selects RX7 yX7_readPort yX7_readPort ∈ gT := ⟨kw_735, kw_736⟩
theorem gn_X7_readQuery : Cond.instanceMethod yX7_readQuery ∈ gT ∧ Cond.selects RX7 yX7_readQuery yX7_readQuery ∈ gT := ⟨kw_737, kw_738⟩
theorem gn_X7_readRelative : Cond.instanceMethod yX7_readRelative ∈ gT ∧ Cond.selects RX7 yX7_readRelative yX7_readRelative ∈ gT := ⟨kw_739, kw_740⟩
theorem gn_X7_readScheme : Cond.instanceMethod yX7_readScheme ∈ gT ∧ Cond.selects RX7 yX7_readScheme yX7_readScheme ∈ gT := ⟨kw_741, kw_742⟩
theorem gn_X7_readSegments : Cond.instanceMethod yX7_readSegments ∈ gT ∧ Cond.selects RX7 yX7_readSegments yX7_readSegments ∈ gT := ⟨kw_743, kw_744⟩
theorem gn_X7_readUrl : Cond.instanceMethod yX7_readUrl ∈ gT ∧ Cond.selects RX7 yX7_readUrl yX7_readUrl ∈ gT := ⟨kw_745, kw_746⟩
theorem gn_X7_readUser : Cond.instanceMethod yX7_readUser ∈ gT ∧ Cond.selects RX7 yX7_readUser yX7_readUser ∈ gT := ⟨kw_747, kw_748⟩
theorem gn_X7_schemeEnd : Cond.instanceMethod yX7_schemeEnd ∈ gT ∧ Cond.selects RX7 yX7_schemeEnd yX7_schemeEnd ∈ gT := ⟨kw_749, kw_750⟩
theorem gn_X7_schemeUpTo : Cond.instanceMethod yX7_schemeUpTo ∈ gT ∧ Cond.selects RX7 yX7_schemeUpTo yX7_schemeUpTo ∈ gT := ⟨kw_751, kw_752⟩
theorem gn_X7_takeSegment : Cond.instanceMethod yX7_takeSegment ∈ gT ∧ Cond.selects RX7 yX7_takeSegment yX7_takeSegment ∈ gT := ⟨kw_753, kw_754⟩
theorem gn_X7_tidy : Cond.instanceMethod yX7_tidy ∈ gT ∧ Cond.selects RX7 yX7_tidy yX7_tidy ∈ gT := ⟨kw_755, kw_756⟩
theorem gn_X8_hearHost : Cond.instanceMethod yX8_hearHost ∈ gT ∧ Cond.selects RX8 yX8_hearHost yX8_hearHost ∈ gT := ⟨kw_757, kw_758⟩
theorem gn_X8_recordAt : Cond.instanceMethod yX8_recordAt ∈ gT ∧ Cond.selects RX8 yX8_recordAt yX8_recordAt ∈ gT := ⟨kw_759, kw_760⟩
theorem gn_X9_add : Cond.instanceMethod yX9_add ∈ gT ∧ Cond.selects RX9 yX9_add yX9_add ∈ gT := ⟨kw_761, kw_762⟩
theorem gn_X9_addEscaped : Cond.instanceMethod yX9_addEscaped ∈ gT ∧ Cond.selects RX9 yX9_addEscaped yX9_addEscaped ∈ gT := ⟨kw_763, kw_764⟩
theorem gn_X9_byteAt : Cond.instanceMethod yX9_byteAt ∈ gT ∧ Cond.selects RX9 yX9_byteAt yX9_byteAt ∈ gT := ⟨kw_765, kw_766⟩
theorem gn_X9_copyHost : Cond.instanceMethod yX9_copyHost ∈ gT ∧ Cond.selects RX9 yX9_copyHost yX9_copyHost ∈ gT := ⟨kw_767, kw_768⟩
theorem gn_X9_copyPart : Cond.instanceMethod yX9_copyPart ∈ gT ∧ Cond.selects RX9 yX9_copyPart yX9_copyPart ∈ gT := ⟨kw_769, kw_770⟩
theorem gn_X9_dropSegment : Cond.instanceMethod yX9_dropSegment ∈ gT ∧ Cond.selects RX9 yX9_dropSegment yX9_dropSegment ∈ gT := ⟨kw_771, kw_772⟩
theorem gn_X9_has : Cond.instanceMethod yX9_has ∈ gT ∧ Cond.selects RX9 yX9_has yX9_has ∈ gT := ⟨kw_773, kw_774⟩
theorem gn_X9_isInRange : Cond.instanceMethod yX9_isInRange ∈ gT ∧ Cond.selects RX9 yX9_isInRange yX9_isInRange ∈ gT := ⟨kw_775, kw_776⟩
theorem gn_X9_isListed : Cond.instanceMethod yX9_isListed ∈ gT ∧ Cond.selects RX9 yX9_isListed yX9_isListed ∈ gT := ⟨kw_777, kw_778⟩
theorem gn_X9_isOver : Cond.instanceMethod yX9_isOver ∈ gT ∧ Cond.selects RX9 yX9_isOver yX9_isOver ∈ gT := ⟨kw_779, kw_780⟩
theorem gn_X9_isWord : Cond.instanceMethod yX9_isWord ∈ gT ∧ Cond.selects RX9 yX9_isWord yX9_isWord ∈ gT := ⟨kw_781, kw_782⟩
theorem gn_X9_numberOf : Cond.instanceMethod yX9_numberOf ∈ gT ∧ Cond.selects RX9 yX9_numberOf yX9_numberOf ∈ gT := ⟨kw_783, kw_784⟩
theorem gn_X9_pair : Cond.instanceMethod yX9_pair ∈ gT ∧ Cond.selects RX9 yX9_pair yX9_pair ∈ gT := ⟨kw_785, kw_786⟩
theorem gn_X9_points : Cond.instanceMethod yX9_points ∈ gT ∧ Cond.selects RX9 yX9_points yX9_points ∈ gT := ⟨kw_787, kw_788⟩
theorem gn_X9_put : Cond.instanceMethod yX9_put ∈ gT ∧ Cond.selects RX9 yX9_put yX9_put ∈ gT := ⟨kw_789, kw_790⟩
theorem gn_X9_putDecimal : Cond.instanceMethod yX9_putDecimal ∈ gT ∧ Cond.selects RX9 yX9_putDecimal yX9_putDecimal ∈ gT := ⟨kw_791, kw_792⟩
theorem gn_X9_putHex : Cond.instanceMethod yX9_putHex ∈ gT ∧ Cond.selects RX9 yX9_putHex yX9_putHex ∈ gT := ⟨kw_793, kw_794⟩
theorem gn_X9_readFour : Cond.instanceMethod yX9_readFour ∈ gT ∧ Cond.selects RX9 yX9_readFour yX9_readFour ∈ gT := ⟨kw_795, kw_796⟩
theorem gn_X9_readHost : Cond.instanceMethod yX9_readHost ∈ gT ∧ Cond.selects RX9 yX9_readHost yX9_readHost ∈ gT := ⟨kw_797, kw_798⟩
theorem gn_X9_readNumbers : Cond.instanceMethod yX9_readNumbers ∈ gT ∧ Cond.selects RX9 yX9_readNumbers yX9_readNumbers ∈ gT := ⟨kw_799, kw_800⟩
theorem gn_X9_readPath : Cond.instanceMethod yX9_readPath ∈ gT ∧ Cond.selects RX9 yX9_readPath yX9_readPath ∈ gT := ⟨kw_801, kw_802⟩
theorem gn_X9_readPort : Cond.instanceMethod yX9_readPort ∈ gT ∧ Cond.selects RX9 yX9_readPort yX9_readPort ∈ gT := ⟨kw_803, kw_804⟩
theorem gn_X9_readRelative : Cond.instanceMethod yX9_readRelative ∈ gT ∧ Cond.selects RX9 yX9_readRelative yX9_readRelative ∈ gT := ⟨kw_805, kw_806⟩
theorem gn_X9_readScheme : Cond.instanceMethod yX9_readScheme ∈ gT ∧ Cond.selects RX9 yX9_readScheme yX9_readScheme ∈ gT := ⟨kw_807, kw_808⟩
theorem gn_X9_readSix : Cond.instanceMethod yX9_readSix ∈ gT ∧ Cond.selects RX9 yX9_readSix yX9_readSix ∈ gT := ⟨kw_809, kw_810⟩
theorem gn_X9_readSlashes : Cond.instanceMethod yX9_readSlashes ∈ gT ∧ Cond.selects RX9 yX9_readSlashes yX9_readSlashes ∈ gT := ⟨kw_811, kw_812⟩
theorem gn_X9_readTail : Cond.instanceMethod yX9_readTail ∈ gT ∧ Cond.selects RX9 yX9_readTail yX9_readTail ∈ gT := ⟨kw_813, kw_814⟩
theorem gn_X9_readTextHost : Cond.instanceMethod yX9_readTextHost ∈ gT ∧ Cond.selects RX9 yX9_readTextHost yX9_readTextHost ∈ gT := ⟨kw_815, kw_816⟩
theorem gn_X9_row : Cond.instanceMethod yX9_row ∈ gT ∧ Cond.selects RX9 yX9_row yX9_row ∈ gT := ⟨kw_817, kw_818⟩
theorem gn_X9_say : Cond.instanceMethod yX9_say ∈ gT ∧ Cond.selects RX9 yX9_say yX9_say ∈ gT := ⟨kw_819, kw_820⟩
theorem gn_X9_sayPart : Cond.instanceMethod yX9_sayPart ∈ gT ∧ Cond.selects RX9 yX9_sayPart yX9_sayPart ∈ gT := ⟨kw_821, kw_822⟩
theorem gn_X9_sayWritten : Cond.instanceMethod yX9_sayWritten ∈ gT ∧ Cond.selects RX9 yX9_sayWritten yX9_sayWritten ∈ gT := ⟨kw_823, kw_824⟩
theorem gn_X9_size : Cond.instanceMethod yX9_size ∈ gT ∧ Cond.selects RX9 yX9_size yX9_size ∈ gT := ⟨kw_825, kw_826⟩
theorem gn_X9_sizeOf : Cond.instanceMethod yX9_sizeOf ∈ gT ∧ Cond.selects RX9 yX9_sizeOf yX9_sizeOf ∈ gT := ⟨kw_827, kw_828⟩
theorem gn_X9_takeText : Cond.instanceMethod yX9_takeText ∈ gT ∧ Cond.selects RX9 yX9_takeText yX9_takeText ∈ gT := ⟨kw_829, kw_830⟩
theorem gn_X9_told : Cond.instanceMethod yX9_told ∈ gT ∧ Cond.selects RX9 yX9_told yX9_told ∈ gT := ⟨kw_831, kw_832⟩
theorem gn_X9_writeHost : Cond.instanceMethod yX9_writeHost ∈ gT ∧ Cond.selects RX9 yX9_writeHost yX9_writeHost ∈ gT := ⟨kw_833, kw_834⟩
theorem gn_X9_writeSix : Cond.instanceMethod yX9_writeSix ∈ gT ∧ Cond.selects RX9 yX9_writeSix yX9_writeSix ∈ gT := ⟨kw_835, kw_836⟩
theorem gn_X9_writtenLength : Cond.instanceMethod yX9_writtenLength ∈ gT ∧ Cond.selects RX9 yX9_writtenLength yX9_writtenLength ∈ gT := ⟨kw_837, kw_838⟩
