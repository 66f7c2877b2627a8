def lw_good : List Cond := lw_tbl.filter goodWord
theorem mt1 {w : Cond} (h : w ∈ tables_1_1) (hg : goodWord w = true) : w ∈ lw_good := List.mem_filter.mpr ⟨List.mem_append_right _ (List.mem_append_left _ h), hg⟩
theorem mn1 {w : Cond} (h : w ∈ tables_1_1) : w ∈ lw_tbl := List.mem_append_right _ (List.mem_append_left _ h)
theorem mt2 {w : Cond} (h : w ∈ tables_1_2) (hg : goodWord w = true) : w ∈ lw_good := List.mem_filter.mpr ⟨List.mem_append_right _ (List.mem_append_right _ (List.mem_append_left _ h)), hg⟩
theorem mn2 {w : Cond} (h : w ∈ tables_1_2) : w ∈ lw_tbl := List.mem_append_right _ (List.mem_append_right _ (List.mem_append_left _ h))
theorem mt3 {w : Cond} (h : w ∈ tables_1_3) (hg : goodWord w = true) : w ∈ lw_good := List.mem_filter.mpr ⟨List.mem_append_right _ (List.mem_append_right _ (List.mem_append_right _ (List.mem_append_left _ h))), hg⟩
theorem mn3 {w : Cond} (h : w ∈ tables_1_3) : w ∈ lw_tbl := List.mem_append_right _ (List.mem_append_right _ (List.mem_append_right _ (List.mem_append_left _ h)))
theorem mt4 {w : Cond} (h : w ∈ tables_1_4) (hg : goodWord w = true) : w ∈ lw_good := List.mem_filter.mpr ⟨List.mem_append_right _ (List.mem_append_right _ (List.mem_append_right _ (List.mem_append_right _ (List.mem_append_left _ h)))), hg⟩
theorem mn4 {w : Cond} (h : w ∈ tables_1_4) : w ∈ lw_tbl := List.mem_append_right _ (List.mem_append_right _ (List.mem_append_right _ (List.mem_append_right _ (List.mem_append_left _ h))))
theorem mt5 {w : Cond} (h : w ∈ tables_1_5) (hg : goodWord w = true) : w ∈ lw_good := List.mem_filter.mpr ⟨List.mem_append_right _ (List.mem_append_right _ (List.mem_append_right _ (List.mem_append_right _ (List.mem_append_right _ (h))))), hg⟩
theorem mn5 {w : Cond} (h : w ∈ tables_1_5) : w ∈ lw_tbl := List.mem_append_right _ (List.mem_append_right _ (List.mem_append_right _ (List.mem_append_right _ (List.mem_append_right _ (h)))))
theorem wd_1_0 : Cond.initialized RL ∈ lw_good := mt1 (List.mem_of_getElem? (i := 0) rfl) rfl
theorem wd_1_1 : Cond.initialized RX8 ∈ lw_good := mt1 (List.mem_of_getElem? (i := 1) rfl) rfl
theorem wd_1_2 : Cond.initialized RX3 ∈ lw_good := mt1 (List.mem_of_getElem? (i := 2) rfl) rfl
theorem wd_1_3 : Cond.initialized RJ7 ∈ lw_good := mt1 (List.mem_of_getElem? (i := 3) rfl) rfl
theorem wd_1_4 : Cond.initialized RX5 ∈ lw_good := mt1 (List.mem_of_getElem? (i := 4) rfl) rfl
theorem wd_1_5 : Cond.initialized RX4 ∈ lw_good := mt1 (List.mem_of_getElem? (i := 5) rfl) rfl
theorem wd_1_6 : Cond.initialized RX0 ∈ lw_good := mt1 (List.mem_of_getElem? (i := 6) rfl) rfl
theorem wd_1_7 : Cond.initialized RX7 ∈ lw_good := mt1 (List.mem_of_getElem? (i := 7) rfl) rfl
theorem wd_1_8 : Cond.initialized RX6 ∈ lw_good := mt1 (List.mem_of_getElem? (i := 8) rfl) rfl
theorem wd_1_9 : Cond.initialized RX1 ∈ lw_good := mt1 (List.mem_of_getElem? (i := 9) rfl) rfl
theorem wd_1_10 : Cond.initialized RX2 ∈ lw_good := mt1 (List.mem_of_getElem? (i := 10) rfl) rfl
theorem wd_1_11 : Cond.initialized RX9 ∈ lw_good := mt1 (List.mem_of_getElem? (i := 11) rfl) rfl
theorem wd_1_12 : Cond.initialized RJ10 ∈ lw_good := mt1 (List.mem_of_getElem? (i := 12) rfl) rfl
theorem wd_1_13 : Cond.initialized RJ9 ∈ lw_good := mt1 (List.mem_of_getElem? (i := 13) rfl) rfl
theorem wd_1_14 : Cond.classLink RL 7 RX8 ∈ lw_good := mt1 (List.mem_of_getElem? (i := 14) rfl) rfl
theorem wd_1_15 : Cond.instantiable RX8 7 ∈ lw_good := mt1 (List.mem_of_getElem? (i := 15) rfl) rfl
theorem wd_1_16 : Cond.methodLink RL 9 yX8_init ∈ lw_good := mt1 (List.mem_of_getElem? (i := 16) rfl) rfl
theorem wd_1_17 : Cond.instanceMethod yX8_init ∈ lw_good := mt1 (List.mem_of_getElem? (i := 17) rfl) rfl
theorem wd_1_18 : Cond.code yX8_init cX8_init 4 none ∈ lw_good := mt1 (List.mem_of_getElem? (i := 18) rfl) rfl
theorem wd_1_19 : Cond.methodLink RX8 1 objectInit ∈ lw_good := mt1 (List.mem_of_getElem? (i := 19) rfl) rfl
theorem wd_1_20 : Cond.instanceMethod objectInit ∈ lw_good := mt1 (List.mem_of_getElem? (i := 20) rfl) rfl
theorem wd_1_21 : Cond.code objectInit object_method_1_code 1 none ∈ lw_good := mt1 (List.mem_of_getElem? (i := 21) rfl) rfl
theorem wd_1_22 : Cond.classLink RX8 7 RX3 ∈ lw_good := mt1 (List.mem_of_getElem? (i := 22) rfl) rfl
theorem wd_1_23 : Cond.instantiable RX3 4 ∈ lw_good := mt1 (List.mem_of_getElem? (i := 23) rfl) rfl
theorem wd_1_24 : Cond.methodLink RX8 9 yX3_init ∈ lw_good := mt1 (List.mem_of_getElem? (i := 24) rfl) rfl
theorem wd_1_25 : Cond.instanceMethod yX3_init ∈ lw_good := mt1 (List.mem_of_getElem? (i := 25) rfl) rfl
theorem wd_1_26 : Cond.code yX3_init cX3_init 1 none ∈ lw_good := mt1 (List.mem_of_getElem? (i := 26) rfl) rfl
theorem wd_1_27 : Cond.methodLink RX3 3 objectInit ∈ lw_good := mt1 (List.mem_of_getElem? (i := 27) rfl) rfl
theorem wd_1_28 : Cond.methodLink RX3 25 yJ7_fill_53178 ∈ lw_good := mt1 (List.mem_of_getElem? (i := 28) rfl) rfl
theorem wd_1_29 : Cond.static yJ7_fill_53178 ∈ lw_good := mt1 (List.mem_of_getElem? (i := 29) rfl) rfl
theorem wd_1_30 : Cond.code yJ7_fill_53178 cJ7_fill_53178 4 none ∈ lw_good := mt1 (List.mem_of_getElem? (i := 30) rfl) rfl
theorem wd_1_31 : Cond.fieldLink RX3 9 "FieldTiles$Reels" "items" "[I" ∈ lw_good := mt1 (List.mem_of_getElem? (i := 31) rfl) rfl
theorem wd_1_32 : Cond.fieldLink RX3 15 "FieldTiles$Reels" "forms" "[I" ∈ lw_good := mt1 (List.mem_of_getElem? (i := 32) rfl) rfl
theorem wd_1_33 : Cond.fieldLink RX3 18 "FieldTiles$Reels" "sizes" "[I" ∈ lw_good := mt1 (List.mem_of_getElem? (i := 33) rfl) rfl
theorem wd_1_34 : Cond.fieldLink RX3 21 "FieldTiles$Reels" "latest" "I" ∈ lw_good := mt1 (List.mem_of_getElem? (i := 34) rfl) rfl
theorem wd_1_35 : Cond.laysFinal "FieldTiles$Reels" "FieldTiles$Reels" "items" "[I" ∈ lw_good := mt1 (List.mem_of_getElem? (i := 35) rfl) rfl
theorem wd_1_37 : Cond.laysFinal "FieldTiles$Reels" "FieldTiles$Reels" "forms" "[I" ∈ lw_good := mt1 (List.mem_of_getElem? (i := 37) rfl) rfl
theorem wd_1_39 : Cond.laysFinal "FieldTiles$Reels" "FieldTiles$Reels" "sizes" "[I" ∈ lw_good := mt1 (List.mem_of_getElem? (i := 39) rfl) rfl
theorem wd_1_41 : Cond.lays "FieldTiles$Reels" "FieldTiles$Reels" "latest" "I" ∈ lw_good := mt1 (List.mem_of_getElem? (i := 41) rfl) rfl
theorem wd_1_44 : Cond.arrayClass .int ∈ lw_good := mt1 (List.mem_of_getElem? (i := 44) rfl) rfl
theorem wd_1_45 : Cond.classLink RX8 10 RX5 ∈ lw_good := mt1 (List.mem_of_getElem? (i := 45) rfl) rfl
theorem wd_1_46 : Cond.instantiable RX5 5 ∈ lw_good := mt1 (List.mem_of_getElem? (i := 46) rfl) rfl
theorem wd_1_47 : Cond.methodLink RX8 12 yX5_init ∈ lw_good := mt1 (List.mem_of_getElem? (i := 47) rfl) rfl
theorem wd_1_48 : Cond.instanceMethod yX5_init ∈ lw_good := mt1 (List.mem_of_getElem? (i := 48) rfl) rfl
theorem wd_1_49 : Cond.code yX5_init cX5_init 2 none ∈ lw_good := mt1 (List.mem_of_getElem? (i := 49) rfl) rfl
theorem wd_1_50 : Cond.methodLink RX5 3 objectInit ∈ lw_good := mt1 (List.mem_of_getElem? (i := 50) rfl) rfl
theorem wd_1_51 : Cond.fieldLink RX5 25 "FieldTiles$Sky" "reels" "LFieldTiles$Reels;" ∈ lw_good := mt1 (List.mem_of_getElem? (i := 51) rfl) rfl
theorem wd_1_52 : Cond.fieldLink RX5 9 "FieldTiles$Sky" "stepX" "[I" ∈ lw_good := mt1 (List.mem_of_getElem? (i := 52) rfl) rfl
theorem wd_1_53 : Cond.fieldLink RX5 15 "FieldTiles$Sky" "stepY" "[I" ∈ lw_good := mt1 (List.mem_of_getElem? (i := 53) rfl) rfl
theorem wd_1_54 : Cond.fieldLink RX5 18 "FieldTiles$Sky" "bright" "I" ∈ lw_good := mt1 (List.mem_of_getElem? (i := 54) rfl) rfl
theorem wd_1_55 : Cond.fieldLink RX5 22 "FieldTiles$Sky" "high" "I" ∈ lw_good := mt1 (List.mem_of_getElem? (i := 55) rfl) rfl
theorem wd_1_56 : Cond.laysFinal "FieldTiles$Sky" "FieldTiles$Sky" "reels" "LFieldTiles$Reels;" ∈ lw_good := mt1 (List.mem_of_getElem? (i := 56) rfl) rfl
theorem wd_1_58 : Cond.laysFinal "FieldTiles$Sky" "FieldTiles$Sky" "stepX" "[I" ∈ lw_good := mt1 (List.mem_of_getElem? (i := 58) rfl) rfl
theorem wd_1_60 : Cond.laysFinal "FieldTiles$Sky" "FieldTiles$Sky" "stepY" "[I" ∈ lw_good := mt1 (List.mem_of_getElem? (i := 60) rfl) rfl
theorem wd_1_62 : Cond.lays "FieldTiles$Sky" "FieldTiles$Sky" "bright" "I" ∈ lw_good := mt1 (List.mem_of_getElem? (i := 62) rfl) rfl
theorem wd_1_64 : Cond.lays "FieldTiles$Sky" "FieldTiles$Sky" "high" "I" ∈ lw_good := mt1 (List.mem_of_getElem? (i := 64) rfl) rfl
theorem wd_1_67 : Cond.classLink RX8 15 RX4 ∈ lw_good := mt1 (List.mem_of_getElem? (i := 67) rfl) rfl
theorem wd_1_68 : Cond.instantiable RX4 7 ∈ lw_good := mt1 (List.mem_of_getElem? (i := 68) rfl) rfl
theorem wd_1_69 : Cond.methodLinkNest RX8 17 yX4_init RX8 ∈ lw_tbl := mn1 (List.mem_of_getElem? (i := 69) rfl)
theorem wd_1_70 : Cond.instanceMethod yX4_init ∈ lw_good := mt1 (List.mem_of_getElem? (i := 70) rfl) rfl
theorem wd_1_71 : Cond.code yX4_init cX4_init 1 none ∈ lw_good := mt1 (List.mem_of_getElem? (i := 71) rfl) rfl
theorem wd_1_72 : Cond.methodLink RX4 3 objectInit ∈ lw_good := mt1 (List.mem_of_getElem? (i := 72) rfl) rfl
theorem wd_1_73 : Cond.fieldLink RX4 9 "FieldTiles$Samples" "dates" "[I" ∈ lw_good := mt1 (List.mem_of_getElem? (i := 73) rfl) rfl
theorem wd_1_74 : Cond.fieldLink RX4 15 "FieldTiles$Samples" "cells" "[I" ∈ lw_good := mt1 (List.mem_of_getElem? (i := 74) rfl) rfl
theorem wd_1_75 : Cond.fieldLink RX4 18 "FieldTiles$Samples" "told" "[I" ∈ lw_good := mt1 (List.mem_of_getElem? (i := 75) rfl) rfl
theorem wd_1_76 : Cond.fieldLink RX4 21 "FieldTiles$Samples" "number" "I" ∈ lw_good := mt1 (List.mem_of_getElem? (i := 76) rfl) rfl
theorem wd_1_77 : Cond.fieldLink RX4 25 "FieldTiles$Samples" "classes" "[I" ∈ lw_good := mt1 (List.mem_of_getElem? (i := 77) rfl) rfl
theorem wd_1_78 : Cond.fieldLink RX4 28 "FieldTiles$Samples" "features" "[I" ∈ lw_good := mt1 (List.mem_of_getElem? (i := 78) rfl) rfl
theorem wd_1_79 : Cond.fieldLink RX4 31 "FieldTiles$Samples" "teachers" "I" ∈ lw_good := mt1 (List.mem_of_getElem? (i := 79) rfl) rfl
theorem wd_1_80 : Cond.laysFinal "FieldTiles$Samples" "FieldTiles$Samples" "dates" "[I" ∈ lw_good := mt1 (List.mem_of_getElem? (i := 80) rfl) rfl
theorem wd_1_82 : Cond.laysFinal "FieldTiles$Samples" "FieldTiles$Samples" "cells" "[I" ∈ lw_good := mt1 (List.mem_of_getElem? (i := 82) rfl) rfl
theorem wd_1_84 : Cond.laysFinal "FieldTiles$Samples" "FieldTiles$Samples" "told" "[I" ∈ lw_good := mt1 (List.mem_of_getElem? (i := 84) rfl) rfl
theorem wd_1_86 : Cond.lays "FieldTiles$Samples" "FieldTiles$Samples" "number" "I" ∈ lw_good := mt1 (List.mem_of_getElem? (i := 86) rfl) rfl
theorem wd_1_88 : Cond.laysFinal "FieldTiles$Samples" "FieldTiles$Samples" "classes" "[I" ∈ lw_good := mt1 (List.mem_of_getElem? (i := 88) rfl) rfl
theorem wd_1_90 : Cond.laysFinal "FieldTiles$Samples" "FieldTiles$Samples" "features" "[I" ∈ lw_good := mt1 (List.mem_of_getElem? (i := 90) rfl) rfl
theorem wd_1_92 : Cond.lays "FieldTiles$Samples" "FieldTiles$Samples" "teachers" "I" ∈ lw_good := mt1 (List.mem_of_getElem? (i := 92) rfl) rfl
theorem wd_1_95 : Cond.classLink RX8 32 RX0 ∈ lw_good := mt1 (List.mem_of_getElem? (i := 95) rfl) rfl
theorem wd_1_96 : Cond.instantiable RX0 7 ∈ lw_good := mt1 (List.mem_of_getElem? (i := 96) rfl) rfl
theorem wd_1_97 : Cond.methodLink RX8 34 yX0_init ∈ lw_good := mt1 (List.mem_of_getElem? (i := 97) rfl) rfl
theorem wd_1_98 : Cond.instanceMethod yX0_init ∈ lw_good := mt1 (List.mem_of_getElem? (i := 98) rfl) rfl
theorem wd_1_99 : Cond.code yX0_init cX0_init 3 none ∈ lw_good := mt1 (List.mem_of_getElem? (i := 99) rfl) rfl
theorem wd_1_100 : Cond.methodLink RX0 3 objectInit ∈ lw_good := mt1 (List.mem_of_getElem? (i := 100) rfl) rfl
theorem wd_1_101 : Cond.classLink RX0 9 RX7 ∈ lw_good := mt1 (List.mem_of_getElem? (i := 101) rfl) rfl
theorem wd_1_102 : Cond.instantiable RX7 11 ∈ lw_good := mt1 (List.mem_of_getElem? (i := 102) rfl) rfl
theorem wd_1_103 : Cond.methodLinkNest RX0 11 yX7_init RX8 ∈ lw_tbl := mn1 (List.mem_of_getElem? (i := 103) rfl)
theorem wd_1_104 : Cond.instanceMethod yX7_init ∈ lw_good := mt1 (List.mem_of_getElem? (i := 104) rfl) rfl
theorem wd_1_105 : Cond.code yX7_init cX7_init 1 none ∈ lw_good := mt1 (List.mem_of_getElem? (i := 105) rfl) rfl
theorem wd_1_106 : Cond.methodLink RX7 3 objectInit ∈ lw_good := mt1 (List.mem_of_getElem? (i := 106) rfl) rfl
theorem wd_1_107 : Cond.fieldLink RX7 9 "FieldTiles$Tree" "splits" "[I" ∈ lw_good := mt1 (List.mem_of_getElem? (i := 107) rfl) rfl
theorem wd_1_108 : Cond.fieldLink RX7 15 "FieldTiles$Tree" "numbers" "[I" ∈ lw_good := mt1 (List.mem_of_getElem? (i := 108) rfl) rfl
theorem wd_1_109 : Cond.fieldLink RX7 18 "FieldTiles$Tree" "starts" "[I" ∈ lw_good := mt1 (List.mem_of_getElem? (i := 109) rfl) rfl
theorem wd_1_110 : Cond.fieldLink RX7 21 "FieldTiles$Tree" "ends" "[I" ∈ lw_good := mt1 (List.mem_of_getElem? (i := 110) rfl) rfl
theorem wd_1_111 : Cond.fieldLink RX7 24 "FieldTiles$Tree" "order" "[I" ∈ lw_good := mt1 (List.mem_of_getElem? (i := 111) rfl) rfl
theorem wd_1_112 : Cond.fieldLink RX7 27 "FieldTiles$Tree" "first" "[I" ∈ lw_good := mt1 (List.mem_of_getElem? (i := 112) rfl) rfl
theorem wd_1_113 : Cond.fieldLink RX7 30 "FieldTiles$Tree" "second" "[I" ∈ lw_good := mt1 (List.mem_of_getElem? (i := 113) rfl) rfl
theorem wd_1_114 : Cond.fieldLink RX7 33 "FieldTiles$Tree" "bestFeature" "I" ∈ lw_good := mt1 (List.mem_of_getElem? (i := 114) rfl) rfl
theorem wd_1_115 : Cond.fieldLink RX7 37 "FieldTiles$Tree" "bestNumber" "I" ∈ lw_good := mt1 (List.mem_of_getElem? (i := 115) rfl) rfl
theorem wd_1_116 : Cond.fieldLink RX7 40 "FieldTiles$Tree" "bestTop" "J" ∈ lw_good := mt1 (List.mem_of_getElem? (i := 116) rfl) rfl
theorem wd_1_117 : Cond.fieldLink RX7 44 "FieldTiles$Tree" "bestBottom" "J" ∈ lw_good := mt1 (List.mem_of_getElem? (i := 117) rfl) rfl
theorem wd_1_118 : Cond.laysFinal "FieldTiles$Tree" "FieldTiles$Tree" "splits" "[I" ∈ lw_good := mt1 (List.mem_of_getElem? (i := 118) rfl) rfl
theorem wd_1_120 : Cond.laysFinal "FieldTiles$Tree" "FieldTiles$Tree" "numbers" "[I" ∈ lw_good := mt1 (List.mem_of_getElem? (i := 120) rfl) rfl
theorem wd_1_122 : Cond.laysFinal "FieldTiles$Tree" "FieldTiles$Tree" "starts" "[I" ∈ lw_good := mt1 (List.mem_of_getElem? (i := 122) rfl) rfl
theorem wd_1_124 : Cond.laysFinal "FieldTiles$Tree" "FieldTiles$Tree" "ends" "[I" ∈ lw_good := mt1 (List.mem_of_getElem? (i := 124) rfl) rfl
theorem wd_1_126 : Cond.laysFinal "FieldTiles$Tree" "FieldTiles$Tree" "order" "[I" ∈ lw_good := mt1 (List.mem_of_getElem? (i := 126) rfl) rfl
theorem wd_1_128 : Cond.laysFinal "FieldTiles$Tree" "FieldTiles$Tree" "first" "[I" ∈ lw_good := mt1 (List.mem_of_getElem? (i := 128) rfl) rfl
theorem wd_1_130 : Cond.laysFinal "FieldTiles$Tree" "FieldTiles$Tree" "second" "[I" ∈ lw_good := mt1 (List.mem_of_getElem? (i := 130) rfl) rfl
theorem wd_1_132 : Cond.lays "FieldTiles$Tree" "FieldTiles$Tree" "bestFeature" "I" ∈ lw_good := mt1 (List.mem_of_getElem? (i := 132) rfl) rfl
theorem wd_1_134 : Cond.lays "FieldTiles$Tree" "FieldTiles$Tree" "bestNumber" "I" ∈ lw_good := mt1 (List.mem_of_getElem? (i := 134) rfl) rfl
theorem wd_1_136 : Cond.lays "FieldTiles$Tree" "FieldTiles$Tree" "bestTop" "J" ∈ lw_good := mt1 (List.mem_of_getElem? (i := 136) rfl) rfl
theorem wd_1_138 : Cond.lays "FieldTiles$Tree" "FieldTiles$Tree" "bestBottom" "J" ∈ lw_good := mt1 (List.mem_of_getElem? (i := 138) rfl) rfl
theorem wd_1_141 : Cond.fieldLink RX0 33 "FieldTiles$Kinds" "sky" "LFieldTiles$Sky;" ∈ lw_good := mt1 (List.mem_of_getElem? (i := 141) rfl) rfl
theorem wd_1_142 : Cond.fieldLink RX0 37 "FieldTiles$Kinds" "samples" "LFieldTiles$Samples;" ∈ lw_good := mt1 (List.mem_of_getElem? (i := 142) rfl) rfl
theorem wd_1_143 : Cond.fieldLink RX0 12 "FieldTiles$Kinds" "grown" "LFieldTiles$Tree;" ∈ lw_good := mt1 (List.mem_of_getElem? (i := 143) rfl) rfl
theorem wd_1_144 : Cond.fieldLink RX0 18 "FieldTiles$Kinds" "known" "[I" ∈ lw_good := mt1 (List.mem_of_getElem? (i := 144) rfl) rfl
theorem wd_1_145 : Cond.fieldLink RX0 22 "FieldTiles$Kinds" "outdated" "Z" ∈ lw_good := mt1 (List.mem_of_getElem? (i := 145) rfl) rfl
theorem wd_1_146 : Cond.fieldLink RX0 26 "FieldTiles$Kinds" "depth" "I" ∈ lw_good := mt1 (List.mem_of_getElem? (i := 146) rfl) rfl
theorem wd_1_147 : Cond.fieldLink RX0 30 "FieldTiles$Kinds" "mode" "I" ∈ lw_good := mt1 (List.mem_of_getElem? (i := 147) rfl) rfl
theorem wd_1_148 : Cond.laysFinal "FieldTiles$Kinds" "FieldTiles$Kinds" "sky" "LFieldTiles$Sky;" ∈ lw_good := mt1 (List.mem_of_getElem? (i := 148) rfl) rfl
theorem wd_1_150 : Cond.laysFinal "FieldTiles$Kinds" "FieldTiles$Kinds" "samples" "LFieldTiles$Samples;" ∈ lw_good := mt1 (List.mem_of_getElem? (i := 150) rfl) rfl
theorem wd_1_152 : Cond.laysFinal "FieldTiles$Kinds" "FieldTiles$Kinds" "grown" "LFieldTiles$Tree;" ∈ lw_good := mt1 (List.mem_of_getElem? (i := 152) rfl) rfl
theorem wd_1_154 : Cond.laysFinal "FieldTiles$Kinds" "FieldTiles$Kinds" "known" "[I" ∈ lw_good := mt1 (List.mem_of_getElem? (i := 154) rfl) rfl
theorem wd_1_156 : Cond.lays "FieldTiles$Kinds" "FieldTiles$Kinds" "outdated" "Z" ∈ lw_good := mt1 (List.mem_of_getElem? (i := 156) rfl) rfl
theorem wd_1_158 : Cond.lays "FieldTiles$Kinds" "FieldTiles$Kinds" "depth" "I" ∈ lw_good := mt1 (List.mem_of_getElem? (i := 158) rfl) rfl
theorem wd_1_160 : Cond.lays "FieldTiles$Kinds" "FieldTiles$Kinds" "mode" "I" ∈ lw_good := mt1 (List.mem_of_getElem? (i := 160) rfl) rfl
theorem wd_1_163 : Cond.classLink RX8 41 RX6 ∈ lw_good := mt1 (List.mem_of_getElem? (i := 163) rfl) rfl
theorem wd_1_164 : Cond.instantiable RX6 5 ∈ lw_good := mt1 (List.mem_of_getElem? (i := 164) rfl) rfl
theorem wd_1_165 : Cond.methodLinkNest RX8 43 yX6_init RX8 ∈ lw_tbl := mn1 (List.mem_of_getElem? (i := 165) rfl)
theorem wd_1_166 : Cond.instanceMethod yX6_init ∈ lw_good := mt1 (List.mem_of_getElem? (i := 166) rfl) rfl
theorem wd_1_167 : Cond.code yX6_init cX6_init 1 none ∈ lw_good := mt1 (List.mem_of_getElem? (i := 167) rfl) rfl
theorem wd_1_168 : Cond.methodLink RX6 3 objectInit ∈ lw_good := mt1 (List.mem_of_getElem? (i := 168) rfl) rfl
theorem wd_1_169 : Cond.fieldLink RX6 11 "FieldTiles$Smoother" "costs" "[I" ∈ lw_good := mt1 (List.mem_of_getElem? (i := 169) rfl) rfl
theorem wd_1_170 : Cond.fieldLink RX6 15 "FieldTiles$Smoother" "ways" "[J" ∈ lw_good := mt1 (List.mem_of_getElem? (i := 170) rfl) rfl
theorem wd_1_171 : Cond.fieldLink RX6 19 "FieldTiles$Smoother" "own" "I" ∈ lw_good := mt1 (List.mem_of_getElem? (i := 171) rfl) rfl
theorem wd_1_172 : Cond.fieldLink RX6 23 "FieldTiles$Smoother" "edge" "I" ∈ lw_good := mt1 (List.mem_of_getElem? (i := 172) rfl) rfl
theorem wd_1_173 : Cond.fieldLink RX6 26 "FieldTiles$Smoother" "marks" "J" ∈ lw_good := mt1 (List.mem_of_getElem? (i := 173) rfl) rfl
theorem wd_1_174 : Cond.laysFinal "FieldTiles$Smoother" "FieldTiles$Smoother" "costs" "[I" ∈ lw_good := mt1 (List.mem_of_getElem? (i := 174) rfl) rfl
theorem wd_1_176 : Cond.laysFinal "FieldTiles$Smoother" "FieldTiles$Smoother" "ways" "[J" ∈ lw_good := mt1 (List.mem_of_getElem? (i := 176) rfl) rfl
theorem wd_1_178 : Cond.lays "FieldTiles$Smoother" "FieldTiles$Smoother" "own" "I" ∈ lw_good := mt1 (List.mem_of_getElem? (i := 178) rfl) rfl
theorem wd_1_180 : Cond.lays "FieldTiles$Smoother" "FieldTiles$Smoother" "edge" "I" ∈ lw_good := mt1 (List.mem_of_getElem? (i := 180) rfl) rfl
theorem wd_1_182 : Cond.lays "FieldTiles$Smoother" "FieldTiles$Smoother" "marks" "J" ∈ lw_good := mt1 (List.mem_of_getElem? (i := 182) rfl) rfl
theorem wd_1_185 : Cond.arrayClass .long ∈ lw_good := mt1 (List.mem_of_getElem? (i := 185) rfl) rfl
theorem wd_1_186 : Cond.classLink RX8 48 RX1 ∈ lw_good := mt1 (List.mem_of_getElem? (i := 186) rfl) rfl
theorem wd_1_187 : Cond.instantiable RX1 3 ∈ lw_good := mt1 (List.mem_of_getElem? (i := 187) rfl) rfl
theorem wd_1_188 : Cond.methodLinkNest RX8 50 yX1_init RX8 ∈ lw_tbl := mn1 (List.mem_of_getElem? (i := 188) rfl)
theorem wd_1_189 : Cond.instanceMethod yX1_init ∈ lw_good := mt1 (List.mem_of_getElem? (i := 189) rfl) rfl
theorem wd_1_190 : Cond.code yX1_init cX1_init 1 none ∈ lw_good := mt1 (List.mem_of_getElem? (i := 190) rfl) rfl
theorem wd_1_191 : Cond.methodLink RX1 3 objectInit ∈ lw_good := mt1 (List.mem_of_getElem? (i := 191) rfl) rfl
theorem wd_1_192 : Cond.fieldLink RX1 9 "FieldTiles$Paths" "barred" "[Z" ∈ lw_good := mt1 (List.mem_of_getElem? (i := 192) rfl) rfl
theorem wd_1_193 : Cond.fieldLink RX1 15 "FieldTiles$Paths" "costs" "[I" ∈ lw_good := mt1 (List.mem_of_getElem? (i := 193) rfl) rfl
theorem wd_1_194 : Cond.fieldLink RX1 19 "FieldTiles$Paths" "way" "[I" ∈ lw_good := mt1 (List.mem_of_getElem? (i := 194) rfl) rfl
theorem wd_1_195 : Cond.laysFinal "FieldTiles$Paths" "FieldTiles$Paths" "barred" "[Z" ∈ lw_good := mt1 (List.mem_of_getElem? (i := 195) rfl) rfl
theorem wd_1_197 : Cond.laysFinal "FieldTiles$Paths" "FieldTiles$Paths" "costs" "[I" ∈ lw_good := mt1 (List.mem_of_getElem? (i := 197) rfl) rfl
theorem wd_1_199 : Cond.laysFinal "FieldTiles$Paths" "FieldTiles$Paths" "way" "[I" ∈ lw_good := mt1 (List.mem_of_getElem? (i := 199) rfl) rfl
theorem wd_1_202 : Cond.arrayClass .boolean ∈ lw_good := mt1 (List.mem_of_getElem? (i := 202) rfl) rfl
theorem wd_1_203 : Cond.classLink RX8 55 RX2 ∈ lw_good := mt1 (List.mem_of_getElem? (i := 203) rfl) rfl
theorem wd_1_204 : Cond.instantiable RX2 1 ∈ lw_good := mt1 (List.mem_of_getElem? (i := 204) rfl) rfl
theorem wd_1_205 : Cond.methodLinkNest RX8 57 yX2_init RX8 ∈ lw_tbl := mn1 (List.mem_of_getElem? (i := 205) rfl)
theorem wd_1_206 : Cond.instanceMethod yX2_init ∈ lw_good := mt1 (List.mem_of_getElem? (i := 206) rfl) rfl
theorem wd_1_207 : Cond.code yX2_init cX2_init 1 none ∈ lw_good := mt1 (List.mem_of_getElem? (i := 207) rfl) rfl
theorem wd_1_208 : Cond.methodLink RX2 3 objectInit ∈ lw_good := mt1 (List.mem_of_getElem? (i := 208) rfl) rfl
theorem wd_1_209 : Cond.fieldLink RX2 9 "FieldTiles$Proofs" "table" "[I" ∈ lw_good := mt1 (List.mem_of_getElem? (i := 209) rfl) rfl
theorem wd_1_210 : Cond.laysFinal "FieldTiles$Proofs" "FieldTiles$Proofs" "table" "[I" ∈ lw_good := mt1 (List.mem_of_getElem? (i := 210) rfl) rfl
theorem wd_1_213 : Cond.fieldLink RX8 18 "FieldTiles" "reels" "LFieldTiles$Reels;" ∈ lw_good := mt1 (List.mem_of_getElem? (i := 213) rfl) rfl
theorem wd_1_214 : Cond.fieldLink RX8 24 "FieldTiles" "sky" "LFieldTiles$Sky;" ∈ lw_good := mt1 (List.mem_of_getElem? (i := 214) rfl) rfl
theorem wd_1_215 : Cond.fieldLink RX8 28 "FieldTiles" "samples" "LFieldTiles$Samples;" ∈ lw_good := mt1 (List.mem_of_getElem? (i := 215) rfl) rfl
theorem wd_1_216 : Cond.fieldLink RX8 37 "FieldTiles" "kinds" "LFieldTiles$Kinds;" ∈ lw_good := mt1 (List.mem_of_getElem? (i := 216) rfl) rfl
theorem wd_1_217 : Cond.fieldLink RX8 44 "FieldTiles" "smoother" "LFieldTiles$Smoother;" ∈ lw_good := mt1 (List.mem_of_getElem? (i := 217) rfl) rfl
theorem wd_1_218 : Cond.fieldLink RX8 51 "FieldTiles" "paths" "LFieldTiles$Paths;" ∈ lw_good := mt1 (List.mem_of_getElem? (i := 218) rfl) rfl
theorem wd_1_219 : Cond.fieldLink RX8 58 "FieldTiles" "proofs" "LFieldTiles$Proofs;" ∈ lw_good := mt1 (List.mem_of_getElem? (i := 219) rfl) rfl
theorem wd_1_220 : Cond.laysFinal "FieldTiles" "FieldTiles" "reels" "LFieldTiles$Reels;" ∈ lw_good := mt1 (List.mem_of_getElem? (i := 220) rfl) rfl
theorem wd_1_222 : Cond.laysFinal "FieldTiles" "FieldTiles" "sky" "LFieldTiles$Sky;" ∈ lw_good := mt1 (List.mem_of_getElem? (i := 222) rfl) rfl
theorem wd_1_224 : Cond.laysFinal "FieldTiles" "FieldTiles" "samples" "LFieldTiles$Samples;" ∈ lw_good := mt1 (List.mem_of_getElem? (i := 224) rfl) rfl
theorem wd_1_226 : Cond.laysFinal "FieldTiles" "FieldTiles" "kinds" "LFieldTiles$Kinds;" ∈ lw_good := mt1 (List.mem_of_getElem? (i := 226) rfl) rfl
theorem wd_1_228 : Cond.laysFinal "FieldTiles" "FieldTiles" "smoother" "LFieldTiles$Smoother;" ∈ lw_good := mt1 (List.mem_of_getElem? (i := 228) rfl) rfl
theorem wd_1_230 : Cond.laysFinal "FieldTiles" "FieldTiles" "paths" "LFieldTiles$Paths;" ∈ lw_good := mt1 (List.mem_of_getElem? (i := 230) rfl) rfl
theorem wd_1_232 : Cond.laysFinal "FieldTiles" "FieldTiles" "proofs" "LFieldTiles$Proofs;" ∈ lw_good := mt1 (List.mem_of_getElem? (i := 232) rfl) rfl
theorem wd_1_235 : Cond.methodLink RL 13 yX8_reel ∈ lw_good := mt1 (List.mem_of_getElem? (i := 235) rfl) rfl
theorem wd_1_236 : Cond.instanceMethod yX8_reel ∈ lw_good := mt1 (List.mem_of_getElem? (i := 236) rfl) rfl
theorem wd_1_237 : Cond.selects RX8 yX8_reel yX8_reel ∈ lw_good := mt1 (List.mem_of_getElem? (i := 237) rfl) rfl
theorem wd_1_238 : Cond.code yX8_reel cX8_reel 4 (some .int) ∈ lw_good := mt1 (List.mem_of_getElem? (i := 238) rfl) rfl
theorem wd_1_239 : Cond.methodLink RX8 62 yX8_isReel ∈ lw_good := mt1 (List.mem_of_getElem? (i := 239) rfl) rfl
theorem wd_2_0 : Cond.static yX8_isReel ∈ lw_good := mt2 (List.mem_of_getElem? (i := 0) rfl) rfl
theorem wd_2_1 : Cond.code yX8_isReel cX8_isReel 1 (some .boolean) ∈ lw_good := mt2 (List.mem_of_getElem? (i := 1) rfl) rfl
theorem wd_2_2 : Cond.methodLink RX8 111 yX8_within ∈ lw_good := mt2 (List.mem_of_getElem? (i := 2) rfl) rfl
theorem wd_2_3 : Cond.static yX8_within ∈ lw_good := mt2 (List.mem_of_getElem? (i := 3) rfl) rfl
theorem wd_2_4 : Cond.code yX8_within cX8_within 3 (some .boolean) ∈ lw_good := mt2 (List.mem_of_getElem? (i := 4) rfl) rfl
theorem wd_2_5 : Cond.methodLink RX8 66 yX8_isForm ∈ lw_good := mt2 (List.mem_of_getElem? (i := 5) rfl) rfl
theorem wd_2_6 : Cond.static yX8_isForm ∈ lw_good := mt2 (List.mem_of_getElem? (i := 6) rfl) rfl
theorem wd_2_7 : Cond.code yX8_isForm cX8_isForm 1 (some .boolean) ∈ lw_good := mt2 (List.mem_of_getElem? (i := 7) rfl) rfl
theorem wd_2_8 : Cond.methodLink RX8 69 yX3_find ∈ lw_good := mt2 (List.mem_of_getElem? (i := 8) rfl) rfl
theorem wd_2_9 : Cond.instanceMethod yX3_find ∈ lw_good := mt2 (List.mem_of_getElem? (i := 9) rfl) rfl
theorem wd_2_10 : Cond.selects RX3 yX3_find yX3_find ∈ lw_good := mt2 (List.mem_of_getElem? (i := 10) rfl) rfl
theorem wd_2_11 : Cond.code yX3_find cX3_find 2 (some .int) ∈ lw_good := mt2 (List.mem_of_getElem? (i := 11) rfl) rfl
theorem wd_2_12 : Cond.methodLink RX8 73 yX3_wind ∈ lw_good := mt2 (List.mem_of_getElem? (i := 12) rfl) rfl
theorem wd_2_13 : Cond.instanceMethod yX3_wind ∈ lw_good := mt2 (List.mem_of_getElem? (i := 13) rfl) rfl
theorem wd_2_14 : Cond.selects RX3 yX3_wind yX3_wind ∈ lw_good := mt2 (List.mem_of_getElem? (i := 14) rfl) rfl
theorem wd_2_15 : Cond.code yX3_wind cX3_wind 4 none ∈ lw_good := mt2 (List.mem_of_getElem? (i := 15) rfl) rfl
theorem wd_2_16 : Cond.methodLink RX3 35 yX3_fill ∈ lw_good := mt2 (List.mem_of_getElem? (i := 16) rfl) rfl
theorem wd_2_17 : Cond.instanceMethod yX3_fill ∈ lw_good := mt2 (List.mem_of_getElem? (i := 17) rfl) rfl
theorem wd_2_18 : Cond.selects RX3 yX3_fill yX3_fill ∈ lw_good := mt2 (List.mem_of_getElem? (i := 18) rfl) rfl
theorem wd_2_19 : Cond.code yX3_fill cX3_fill 7 none ∈ lw_good := mt2 (List.mem_of_getElem? (i := 19) rfl) rfl
theorem wd_2_20 : Cond.methodLink RX3 42 yX3_fitted ∈ lw_good := mt2 (List.mem_of_getElem? (i := 20) rfl) rfl
theorem wd_2_21 : Cond.static yX3_fitted ∈ lw_good := mt2 (List.mem_of_getElem? (i := 21) rfl) rfl
theorem wd_2_22 : Cond.code yX3_fitted cX3_fitted 2 (some .int) ∈ lw_good := mt2 (List.mem_of_getElem? (i := 22) rfl) rfl
theorem wd_2_23 : Cond.methodLink RX8 77 yX0_outdate ∈ lw_good := mt2 (List.mem_of_getElem? (i := 23) rfl) rfl
theorem wd_2_24 : Cond.instanceMethod yX0_outdate ∈ lw_good := mt2 (List.mem_of_getElem? (i := 24) rfl) rfl
theorem wd_2_25 : Cond.selects RX0 yX0_outdate yX0_outdate ∈ lw_good := mt2 (List.mem_of_getElem? (i := 25) rfl) rfl
theorem wd_2_26 : Cond.code yX0_outdate cX0_outdate 1 none ∈ lw_good := mt2 (List.mem_of_getElem? (i := 26) rfl) rfl
theorem wd_2_27 : Cond.methodLink RL 18 yX8_lose ∈ lw_good := mt2 (List.mem_of_getElem? (i := 27) rfl) rfl
theorem wd_2_28 : Cond.instanceMethod yX8_lose ∈ lw_good := mt2 (List.mem_of_getElem? (i := 28) rfl) rfl
theorem wd_2_29 : Cond.selects RX8 yX8_lose yX8_lose ∈ lw_good := mt2 (List.mem_of_getElem? (i := 29) rfl) rfl
theorem wd_2_30 : Cond.code yX8_lose cX8_lose 3 (some .int) ∈ lw_good := mt2 (List.mem_of_getElem? (i := 30) rfl) rfl
theorem wd_2_31 : Cond.methodLink RX8 80 yX3_isLost ∈ lw_good := mt2 (List.mem_of_getElem? (i := 31) rfl) rfl
theorem wd_2_32 : Cond.instanceMethod yX3_isLost ∈ lw_good := mt2 (List.mem_of_getElem? (i := 32) rfl) rfl
theorem wd_2_33 : Cond.selects RX3 yX3_isLost yX3_isLost ∈ lw_good := mt2 (List.mem_of_getElem? (i := 33) rfl) rfl
theorem wd_2_34 : Cond.code yX3_isLost cX3_isLost 2 (some .boolean) ∈ lw_good := mt2 (List.mem_of_getElem? (i := 34) rfl) rfl
theorem wd_2_35 : Cond.methodLink RX8 83 yX3_sizeOf ∈ lw_good := mt2 (List.mem_of_getElem? (i := 35) rfl) rfl
theorem wd_2_36 : Cond.instanceMethod yX3_sizeOf ∈ lw_good := mt2 (List.mem_of_getElem? (i := 36) rfl) rfl
theorem wd_2_37 : Cond.selects RX3 yX3_sizeOf yX3_sizeOf ∈ lw_good := mt2 (List.mem_of_getElem? (i := 37) rfl) rfl
theorem wd_2_38 : Cond.code yX3_sizeOf cX3_sizeOf 2 (some .int) ∈ lw_good := mt2 (List.mem_of_getElem? (i := 38) rfl) rfl
theorem wd_2_39 : Cond.methodLink RX8 86 yX3_drop ∈ lw_good := mt2 (List.mem_of_getElem? (i := 39) rfl) rfl
theorem wd_2_40 : Cond.instanceMethod yX3_drop ∈ lw_good := mt2 (List.mem_of_getElem? (i := 40) rfl) rfl
theorem wd_2_41 : Cond.selects RX3 yX3_drop yX3_drop ∈ lw_good := mt2 (List.mem_of_getElem? (i := 41) rfl) rfl
theorem wd_2_42 : Cond.code yX3_drop cX3_drop 2 none ∈ lw_good := mt2 (List.mem_of_getElem? (i := 42) rfl) rfl
theorem wd_2_43 : Cond.methodLink RL 23 yX8_put ∈ lw_good := mt2 (List.mem_of_getElem? (i := 43) rfl) rfl
theorem wd_2_44 : Cond.instanceMethod yX8_put ∈ lw_good := mt2 (List.mem_of_getElem? (i := 44) rfl) rfl
theorem wd_2_45 : Cond.selects RX8 yX8_put yX8_put ∈ lw_good := mt2 (List.mem_of_getElem? (i := 45) rfl) rfl
theorem wd_2_46 : Cond.code yX8_put cX8_put 6 (some .int) ∈ lw_good := mt2 (List.mem_of_getElem? (i := 46) rfl) rfl
theorem wd_2_47 : Cond.methodLink RX8 90 yX3_flawOfItem ∈ lw_good := mt2 (List.mem_of_getElem? (i := 47) rfl) rfl
theorem wd_2_48 : Cond.instanceMethod yX3_flawOfItem ∈ lw_good := mt2 (List.mem_of_getElem? (i := 48) rfl) rfl
theorem wd_2_49 : Cond.selects RX3 yX3_flawOfItem yX3_flawOfItem ∈ lw_good := mt2 (List.mem_of_getElem? (i := 49) rfl) rfl
theorem wd_2_50 : Cond.code yX3_flawOfItem cX3_flawOfItem 4 (some .int) ∈ lw_good := mt2 (List.mem_of_getElem? (i := 50) rfl) rfl
theorem wd_2_51 : Cond.methodLink RX3 31 yX3_isLost ∈ lw_good := mt2 (List.mem_of_getElem? (i := 51) rfl) rfl
theorem wd_2_52 : Cond.methodLink RX8 94 yX3_fill ∈ lw_good := mt2 (List.mem_of_getElem? (i := 52) rfl) rfl
theorem wd_2_53 : Cond.methodLink RL 28 yX8_get ∈ lw_good := mt2 (List.mem_of_getElem? (i := 53) rfl) rfl
theorem wd_2_54 : Cond.instanceMethod yX8_get ∈ lw_good := mt2 (List.mem_of_getElem? (i := 54) rfl) rfl
theorem wd_2_55 : Cond.selects RX8 yX8_get yX8_get ∈ lw_good := mt2 (List.mem_of_getElem? (i := 55) rfl) rfl
theorem wd_2_56 : Cond.code yX8_get cX8_get 5 (some .int) ∈ lw_good := mt2 (List.mem_of_getElem? (i := 56) rfl) rfl
theorem wd_2_57 : Cond.constant RX8 98 (-2147483648 : Int32) ∈ lw_good := mt2 (List.mem_of_getElem? (i := 57) rfl) rfl
theorem wd_2_58 : Cond.methodLink RX8 99 yX3_itemOf ∈ lw_good := mt2 (List.mem_of_getElem? (i := 58) rfl) rfl
theorem wd_2_59 : Cond.instanceMethod yX3_itemOf ∈ lw_good := mt2 (List.mem_of_getElem? (i := 59) rfl) rfl
theorem wd_2_60 : Cond.selects RX3 yX3_itemOf yX3_itemOf ∈ lw_good := mt2 (List.mem_of_getElem? (i := 60) rfl) rfl
theorem wd_2_61 : Cond.code yX3_itemOf cX3_itemOf 3 (some .int) ∈ lw_good := mt2 (List.mem_of_getElem? (i := 61) rfl) rfl
theorem wd_2_62 : Cond.methodLink RL 32 yX8_copy ∈ lw_good := mt2 (List.mem_of_getElem? (i := 62) rfl) rfl
theorem wd_2_63 : Cond.instanceMethod yX8_copy ∈ lw_good := mt2 (List.mem_of_getElem? (i := 63) rfl) rfl
theorem wd_2_64 : Cond.selects RX8 yX8_copy yX8_copy ∈ lw_good := mt2 (List.mem_of_getElem? (i := 64) rfl) rfl
theorem wd_2_65 : Cond.code yX8_copy cX8_copy 7 (some .int) ∈ lw_good := mt2 (List.mem_of_getElem? (i := 65) rfl) rfl
theorem wd_2_66 : Cond.methodLink RX8 103 yX3_flawOfMove ∈ lw_good := mt2 (List.mem_of_getElem? (i := 66) rfl) rfl
theorem wd_2_67 : Cond.instanceMethod yX3_flawOfMove ∈ lw_good := mt2 (List.mem_of_getElem? (i := 67) rfl) rfl
theorem wd_2_68 : Cond.selects RX3 yX3_flawOfMove yX3_flawOfMove ∈ lw_good := mt2 (List.mem_of_getElem? (i := 68) rfl) rfl
theorem wd_2_69 : Cond.code yX3_flawOfMove cX3_flawOfMove 6 (some .int) ∈ lw_good := mt2 (List.mem_of_getElem? (i := 69) rfl) rfl
theorem wd_2_70 : Cond.methodLink RX3 38 yX3_hasRun ∈ lw_good := mt2 (List.mem_of_getElem? (i := 70) rfl) rfl
theorem wd_2_72 : Cond.instanceMethod yX3_hasRun ∈ lw_good := mt2 (List.mem_of_getElem? (i := 72) rfl) rfl
theorem wd_2_73 : Cond.code yX3_hasRun cX3_hasRun 4 (some .boolean) ∈ lw_good := mt2 (List.mem_of_getElem? (i := 73) rfl) rfl
theorem wd_2_74 : Cond.methodLink RX8 107 yX3_move ∈ lw_good := mt2 (List.mem_of_getElem? (i := 74) rfl) rfl
theorem wd_2_75 : Cond.instanceMethod yX3_move ∈ lw_good := mt2 (List.mem_of_getElem? (i := 75) rfl) rfl
theorem wd_2_76 : Cond.selects RX3 yX3_move yX3_move ∈ lw_good := mt2 (List.mem_of_getElem? (i := 76) rfl) rfl
theorem wd_2_77 : Cond.code yX3_move cX3_move 6 none ∈ lw_good := mt2 (List.mem_of_getElem? (i := 77) rfl) rfl
theorem wd_2_78 : Cond.methodLink RX3 46 arraycopyName ∈ lw_good := mt2 (List.mem_of_getElem? (i := 78) rfl) rfl
theorem wd_2_79 : Cond.static arraycopyName ∈ lw_good := mt2 (List.mem_of_getElem? (i := 79) rfl) rfl
theorem wd_2_80 : Cond.native arraycopyName ∈ lw_good := mt2 (List.mem_of_getElem? (i := 80) rfl) rfl
theorem wd_2_81 : Cond.methodLink RL 37 yX8_paint ∈ lw_good := mt2 (List.mem_of_getElem? (i := 81) rfl) rfl
theorem wd_2_82 : Cond.instanceMethod yX8_paint ∈ lw_good := mt2 (List.mem_of_getElem? (i := 82) rfl) rfl
theorem wd_2_83 : Cond.selects RX8 yX8_paint yX8_paint ∈ lw_good := mt2 (List.mem_of_getElem? (i := 83) rfl) rfl
theorem wd_2_84 : Cond.code yX8_paint cX8_paint 5 (some .int) ∈ lw_good := mt2 (List.mem_of_getElem? (i := 84) rfl) rfl
theorem wd_2_85 : Cond.methodLink RL 41 yX8_clouds ∈ lw_good := mt2 (List.mem_of_getElem? (i := 85) rfl) rfl
theorem wd_2_86 : Cond.instanceMethod yX8_clouds ∈ lw_good := mt2 (List.mem_of_getElem? (i := 86) rfl) rfl
theorem wd_2_87 : Cond.selects RX8 yX8_clouds yX8_clouds ∈ lw_good := mt2 (List.mem_of_getElem? (i := 87) rfl) rfl
theorem wd_2_88 : Cond.code yX8_clouds cX8_clouds 3 (some .int) ∈ lw_good := mt2 (List.mem_of_getElem? (i := 88) rfl) rfl
theorem wd_2_89 : Cond.methodLink RX8 115 yX5_setClouds ∈ lw_good := mt2 (List.mem_of_getElem? (i := 89) rfl) rfl
theorem wd_2_90 : Cond.instanceMethod yX5_setClouds ∈ lw_good := mt2 (List.mem_of_getElem? (i := 90) rfl) rfl
theorem wd_2_91 : Cond.selects RX5 yX5_setClouds yX5_setClouds ∈ lw_good := mt2 (List.mem_of_getElem? (i := 91) rfl) rfl
theorem wd_2_92 : Cond.code yX5_setClouds cX5_setClouds 3 none ∈ lw_good := mt2 (List.mem_of_getElem? (i := 92) rfl) rfl
theorem wd_2_93 : Cond.methodLink RL 46 yX8_sun ∈ lw_good := mt2 (List.mem_of_getElem? (i := 93) rfl) rfl
theorem wd_2_94 : Cond.instanceMethod yX8_sun ∈ lw_good := mt2 (List.mem_of_getElem? (i := 94) rfl) rfl
theorem wd_2_95 : Cond.selects RX8 yX8_sun yX8_sun ∈ lw_good := mt2 (List.mem_of_getElem? (i := 95) rfl) rfl
theorem wd_2_96 : Cond.code yX8_sun cX8_sun 4 (some .int) ∈ lw_good := mt2 (List.mem_of_getElem? (i := 96) rfl) rfl
theorem wd_2_97 : Cond.methodLink RX8 119 yX8_isDate ∈ lw_good := mt2 (List.mem_of_getElem? (i := 97) rfl) rfl
theorem wd_2_98 : Cond.static yX8_isDate ∈ lw_good := mt2 (List.mem_of_getElem? (i := 98) rfl) rfl
theorem wd_2_99 : Cond.code yX8_isDate cX8_isDate 1 (some .boolean) ∈ lw_good := mt2 (List.mem_of_getElem? (i := 99) rfl) rfl
theorem wd_2_100 : Cond.methodLink RX8 122 yX5_setSun ∈ lw_good := mt2 (List.mem_of_getElem? (i := 100) rfl) rfl
theorem wd_2_101 : Cond.instanceMethod yX5_setSun ∈ lw_good := mt2 (List.mem_of_getElem? (i := 101) rfl) rfl
theorem wd_2_102 : Cond.selects RX5 yX5_setSun yX5_setSun ∈ lw_good := mt2 (List.mem_of_getElem? (i := 102) rfl) rfl
theorem wd_2_103 : Cond.code yX5_setSun cX5_setSun 4 none ∈ lw_good := mt2 (List.mem_of_getElem? (i := 103) rfl) rfl
theorem wd_2_104 : Cond.methodLink RL 50 yX8_sky ∈ lw_good := mt2 (List.mem_of_getElem? (i := 104) rfl) rfl
theorem wd_2_105 : Cond.instanceMethod yX8_sky ∈ lw_good := mt2 (List.mem_of_getElem? (i := 105) rfl) rfl
theorem wd_2_106 : Cond.selects RX8 yX8_sky yX8_sky ∈ lw_good := mt2 (List.mem_of_getElem? (i := 106) rfl) rfl
theorem wd_2_107 : Cond.code yX8_sky cX8_sky 3 (some .int) ∈ lw_good := mt2 (List.mem_of_getElem? (i := 107) rfl) rfl
theorem wd_2_108 : Cond.methodLink RX8 125 yX8_isCell ∈ lw_good := mt2 (List.mem_of_getElem? (i := 108) rfl) rfl
theorem wd_2_109 : Cond.static yX8_isCell ∈ lw_good := mt2 (List.mem_of_getElem? (i := 109) rfl) rfl
theorem wd_2_110 : Cond.code yX8_isCell cX8_isCell 1 (some .boolean) ∈ lw_good := mt2 (List.mem_of_getElem? (i := 110) rfl) rfl
theorem wd_2_111 : Cond.methodLink RX8 128 yX5_stateAt ∈ lw_good := mt2 (List.mem_of_getElem? (i := 111) rfl) rfl
theorem wd_2_112 : Cond.instanceMethod yX5_stateAt ∈ lw_good := mt2 (List.mem_of_getElem? (i := 112) rfl) rfl
theorem wd_2_113 : Cond.selects RX5 yX5_stateAt yX5_stateAt ∈ lw_good := mt2 (List.mem_of_getElem? (i := 113) rfl) rfl
theorem wd_2_114 : Cond.code yX5_stateAt cX5_stateAt 4 (some .int) ∈ lw_good := mt2 (List.mem_of_getElem? (i := 114) rfl) rfl
theorem wd_2_115 : Cond.methodLink RX5 29 yX3_reading ∈ lw_good := mt2 (List.mem_of_getElem? (i := 115) rfl) rfl
theorem wd_2_116 : Cond.instanceMethod yX3_reading ∈ lw_good := mt2 (List.mem_of_getElem? (i := 116) rfl) rfl
theorem wd_2_117 : Cond.selects RX3 yX3_reading yX3_reading ∈ lw_good := mt2 (List.mem_of_getElem? (i := 117) rfl) rfl
theorem wd_2_118 : Cond.code yX3_reading cX3_reading 6 (some .int) ∈ lw_good := mt2 (List.mem_of_getElem? (i := 118) rfl) rfl
theorem wd_2_119 : Cond.methodLink RX5 35 yX5_isShadowed ∈ lw_good := mt2 (List.mem_of_getElem? (i := 119) rfl) rfl
theorem wd_2_121 : Cond.instanceMethod yX5_isShadowed ∈ lw_good := mt2 (List.mem_of_getElem? (i := 121) rfl) rfl
theorem wd_2_122 : Cond.code yX5_isShadowed cX5_isShadowed 6 (some .boolean) ∈ lw_good := mt2 (List.mem_of_getElem? (i := 122) rfl) rfl
theorem wd_2_123 : Cond.methodLinkNest RX5 39 yX8_within RX8 ∈ lw_tbl := mn2 (List.mem_of_getElem? (i := 123) rfl)
theorem wd_2_124 : Cond.methodLink RL 54 yX8_feature ∈ lw_good := mt2 (List.mem_of_getElem? (i := 124) rfl) rfl
theorem wd_2_125 : Cond.instanceMethod yX8_feature ∈ lw_good := mt2 (List.mem_of_getElem? (i := 125) rfl) rfl
theorem wd_2_126 : Cond.selects RX8 yX8_feature yX8_feature ∈ lw_good := mt2 (List.mem_of_getElem? (i := 126) rfl) rfl
theorem wd_2_127 : Cond.code yX8_feature cX8_feature 4 (some .int) ∈ lw_good := mt2 (List.mem_of_getElem? (i := 127) rfl) rfl
theorem wd_2_128 : Cond.methodLink RX8 131 yX5_featureAt ∈ lw_good := mt2 (List.mem_of_getElem? (i := 128) rfl) rfl
theorem wd_2_129 : Cond.instanceMethod yX5_featureAt ∈ lw_good := mt2 (List.mem_of_getElem? (i := 129) rfl) rfl
theorem wd_2_130 : Cond.selects RX5 yX5_featureAt yX5_featureAt ∈ lw_good := mt2 (List.mem_of_getElem? (i := 130) rfl) rfl
theorem wd_2_131 : Cond.code yX5_featureAt cX5_featureAt 6 (some .int) ∈ lw_good := mt2 (List.mem_of_getElem? (i := 131) rfl) rfl
theorem wd_2_132 : Cond.methodLink RX5 43 yJ9_floorDiv_7cf53 ∈ lw_good := mt2 (List.mem_of_getElem? (i := 132) rfl) rfl
theorem wd_2_133 : Cond.static yJ9_floorDiv_7cf53 ∈ lw_good := mt2 (List.mem_of_getElem? (i := 133) rfl) rfl
theorem wd_2_134 : Cond.code yJ9_floorDiv_7cf53 cJ9_floorDiv_7cf53 3 (some .int) ∈ lw_good := mt2 (List.mem_of_getElem? (i := 134) rfl) rfl
theorem wd_2_135 : Cond.methodLink RL 58 yX8_sample ∈ lw_good := mt2 (List.mem_of_getElem? (i := 135) rfl) rfl
theorem wd_2_136 : Cond.instanceMethod yX8_sample ∈ lw_good := mt2 (List.mem_of_getElem? (i := 136) rfl) rfl
theorem wd_2_137 : Cond.selects RX8 yX8_sample yX8_sample ∈ lw_good := mt2 (List.mem_of_getElem? (i := 137) rfl) rfl
theorem wd_2_138 : Cond.code yX8_sample cX8_sample 4 (some .int) ∈ lw_good := mt2 (List.mem_of_getElem? (i := 138) rfl) rfl
theorem wd_2_139 : Cond.methodLink RX8 134 yX8_isClass ∈ lw_good := mt2 (List.mem_of_getElem? (i := 139) rfl) rfl
theorem wd_2_140 : Cond.static yX8_isClass ∈ lw_good := mt2 (List.mem_of_getElem? (i := 140) rfl) rfl
theorem wd_2_141 : Cond.code yX8_isClass cX8_isClass 1 (some .boolean) ∈ lw_good := mt2 (List.mem_of_getElem? (i := 141) rfl) rfl
theorem wd_2_142 : Cond.methodLink RX8 137 yX4_number ∈ lw_good := mt2 (List.mem_of_getElem? (i := 142) rfl) rfl
theorem wd_2_143 : Cond.instanceMethod yX4_number ∈ lw_good := mt2 (List.mem_of_getElem? (i := 143) rfl) rfl
theorem wd_2_144 : Cond.selects RX4 yX4_number yX4_number ∈ lw_good := mt2 (List.mem_of_getElem? (i := 144) rfl) rfl
theorem wd_2_145 : Cond.code yX4_number cX4_number 1 (some .int) ∈ lw_good := mt2 (List.mem_of_getElem? (i := 145) rfl) rfl
theorem wd_2_146 : Cond.methodLink RX8 141 yX4_add ∈ lw_good := mt2 (List.mem_of_getElem? (i := 146) rfl) rfl
theorem wd_2_147 : Cond.instanceMethod yX4_add ∈ lw_good := mt2 (List.mem_of_getElem? (i := 147) rfl) rfl
theorem wd_2_148 : Cond.selects RX4 yX4_add yX4_add ∈ lw_good := mt2 (List.mem_of_getElem? (i := 148) rfl) rfl
theorem wd_2_149 : Cond.code yX4_add cX4_add 4 none ∈ lw_good := mt2 (List.mem_of_getElem? (i := 149) rfl) rfl
theorem wd_2_150 : Cond.methodLink RL 62 yX8_forget ∈ lw_good := mt2 (List.mem_of_getElem? (i := 150) rfl) rfl
theorem wd_2_151 : Cond.instanceMethod yX8_forget ∈ lw_good := mt2 (List.mem_of_getElem? (i := 151) rfl) rfl
theorem wd_2_152 : Cond.selects RX8 yX8_forget yX8_forget ∈ lw_good := mt2 (List.mem_of_getElem? (i := 152) rfl) rfl
theorem wd_2_153 : Cond.code yX8_forget cX8_forget 2 (some .int) ∈ lw_good := mt2 (List.mem_of_getElem? (i := 153) rfl) rfl
theorem wd_2_154 : Cond.methodLink RX8 144 yX4_clear ∈ lw_good := mt2 (List.mem_of_getElem? (i := 154) rfl) rfl
theorem wd_2_155 : Cond.instanceMethod yX4_clear ∈ lw_good := mt2 (List.mem_of_getElem? (i := 155) rfl) rfl
theorem wd_2_156 : Cond.selects RX4 yX4_clear yX4_clear ∈ lw_good := mt2 (List.mem_of_getElem? (i := 156) rfl) rfl
theorem wd_2_157 : Cond.code yX4_clear cX4_clear 1 none ∈ lw_good := mt2 (List.mem_of_getElem? (i := 157) rfl) rfl
theorem wd_2_158 : Cond.methodLink RL 67 yX8_teaching ∈ lw_good := mt2 (List.mem_of_getElem? (i := 158) rfl) rfl
theorem wd_2_159 : Cond.instanceMethod yX8_teaching ∈ lw_good := mt2 (List.mem_of_getElem? (i := 159) rfl) rfl
theorem wd_2_160 : Cond.selects RX8 yX8_teaching yX8_teaching ∈ lw_good := mt2 (List.mem_of_getElem? (i := 160) rfl) rfl
theorem wd_2_161 : Cond.code yX8_teaching cX8_teaching 1 (some .int) ∈ lw_good := mt2 (List.mem_of_getElem? (i := 161) rfl) rfl
theorem wd_2_162 : Cond.methodLink RX8 147 yX0_renew ∈ lw_good := mt2 (List.mem_of_getElem? (i := 162) rfl) rfl
theorem wd_2_163 : Cond.instanceMethod yX0_renew ∈ lw_good := mt2 (List.mem_of_getElem? (i := 163) rfl) rfl
theorem wd_2_164 : Cond.selects RX0 yX0_renew yX0_renew ∈ lw_good := mt2 (List.mem_of_getElem? (i := 164) rfl) rfl
theorem wd_2_165 : Cond.code yX0_renew cX0_renew 1 none ∈ lw_good := mt2 (List.mem_of_getElem? (i := 165) rfl) rfl
theorem wd_2_166 : Cond.methodLink RX0 41 yX4_gather ∈ lw_good := mt2 (List.mem_of_getElem? (i := 166) rfl) rfl
theorem wd_2_167 : Cond.instanceMethod yX4_gather ∈ lw_good := mt2 (List.mem_of_getElem? (i := 167) rfl) rfl
theorem wd_2_168 : Cond.selects RX4 yX4_gather yX4_gather ∈ lw_good := mt2 (List.mem_of_getElem? (i := 168) rfl) rfl
theorem wd_2_169 : Cond.code yX4_gather cX4_gather 4 none ∈ lw_good := mt2 (List.mem_of_getElem? (i := 169) rfl) rfl
theorem wd_2_170 : Cond.methodLink RX4 34 yX5_stateAt ∈ lw_good := mt2 (List.mem_of_getElem? (i := 170) rfl) rfl
theorem wd_2_171 : Cond.methodLink RX4 40 yX5_featureAt ∈ lw_good := mt2 (List.mem_of_getElem? (i := 171) rfl) rfl
theorem wd_2_172 : Cond.methodLink RX0 47 yX7_growFrom ∈ lw_good := mt2 (List.mem_of_getElem? (i := 172) rfl) rfl
theorem wd_2_173 : Cond.instanceMethod yX7_growFrom ∈ lw_good := mt2 (List.mem_of_getElem? (i := 173) rfl) rfl
theorem wd_2_174 : Cond.selects RX7 yX7_growFrom yX7_growFrom ∈ lw_good := mt2 (List.mem_of_getElem? (i := 174) rfl) rfl
theorem wd_2_175 : Cond.code yX7_growFrom cX7_growFrom 4 none ∈ lw_good := mt2 (List.mem_of_getElem? (i := 175) rfl) rfl
theorem wd_2_176 : Cond.methodLink RX7 47 yJ7_fill_53178 ∈ lw_good := mt2 (List.mem_of_getElem? (i := 176) rfl) rfl
theorem wd_2_177 : Cond.methodLink RX7 53 yX4_teachers ∈ lw_good := mt2 (List.mem_of_getElem? (i := 177) rfl) rfl
theorem wd_2_178 : Cond.instanceMethod yX4_teachers ∈ lw_good := mt2 (List.mem_of_getElem? (i := 178) rfl) rfl
theorem wd_2_179 : Cond.selects RX4 yX4_teachers yX4_teachers ∈ lw_good := mt2 (List.mem_of_getElem? (i := 179) rfl) rfl
theorem wd_2_180 : Cond.code yX4_teachers cX4_teachers 1 (some .int) ∈ lw_good := mt2 (List.mem_of_getElem? (i := 180) rfl) rfl
theorem wd_2_181 : Cond.methodLink RX7 59 yX7_plant ∈ lw_good := mt2 (List.mem_of_getElem? (i := 181) rfl) rfl
theorem wd_2_183 : Cond.instanceMethod yX7_plant ∈ lw_good := mt2 (List.mem_of_getElem? (i := 183) rfl) rfl
theorem wd_2_184 : Cond.code yX7_plant cX7_plant 4 none ∈ lw_good := mt2 (List.mem_of_getElem? (i := 184) rfl) rfl
theorem wd_2_185 : Cond.fieldLink RX7 63 "FieldTiles$Tree" "LEVELS" "[I" ∈ lw_good := mt2 (List.mem_of_getElem? (i := 185) rfl) rfl
theorem wd_2_186 : Cond.laysStatic "FieldTiles$Tree" "LEVELS" "[I" ∈ lw_tbl := mn2 (List.mem_of_getElem? (i := 186) rfl)
theorem wd_2_187 : Cond.methodLink RX7 66 yX7_settle ∈ lw_good := mt2 (List.mem_of_getElem? (i := 187) rfl) rfl
theorem wd_2_189 : Cond.instanceMethod yX7_settle ∈ lw_good := mt2 (List.mem_of_getElem? (i := 189) rfl) rfl
theorem wd_2_190 : Cond.code yX7_settle cX7_settle 6 none ∈ lw_good := mt2 (List.mem_of_getElem? (i := 190) rfl) rfl
theorem wd_2_191 : Cond.methodLink RX7 70 yX7_countClasses ∈ lw_good := mt2 (List.mem_of_getElem? (i := 191) rfl) rfl
theorem wd_2_193 : Cond.instanceMethod yX7_countClasses ∈ lw_good := mt2 (List.mem_of_getElem? (i := 193) rfl) rfl
theorem wd_2_194 : Cond.code yX7_countClasses cX7_countClasses 5 none ∈ lw_good := mt2 (List.mem_of_getElem? (i := 194) rfl) rfl
theorem wd_2_195 : Cond.methodLink RX7 81 yX4_classOf ∈ lw_good := mt2 (List.mem_of_getElem? (i := 195) rfl) rfl
theorem wd_2_196 : Cond.instanceMethod yX4_classOf ∈ lw_good := mt2 (List.mem_of_getElem? (i := 196) rfl) rfl
theorem wd_2_197 : Cond.selects RX4 yX4_classOf yX4_classOf ∈ lw_good := mt2 (List.mem_of_getElem? (i := 197) rfl) rfl
theorem wd_2_198 : Cond.code yX4_classOf cX4_classOf 2 (some .int) ∈ lw_good := mt2 (List.mem_of_getElem? (i := 198) rfl) rfl
theorem wd_2_199 : Cond.methodLink RX7 74 yX7_seekSplit ∈ lw_good := mt2 (List.mem_of_getElem? (i := 199) rfl) rfl
theorem wd_2_201 : Cond.instanceMethod yX7_seekSplit ∈ lw_good := mt2 (List.mem_of_getElem? (i := 201) rfl) rfl
theorem wd_2_202 : Cond.code yX7_seekSplit cX7_seekSplit 5 none ∈ lw_good := mt2 (List.mem_of_getElem? (i := 202) rfl) rfl
theorem wd_2_203 : Cond.methodLink RX7 85 yX7_sort ∈ lw_good := mt2 (List.mem_of_getElem? (i := 203) rfl) rfl
theorem wd_2_205 : Cond.instanceMethod yX7_sort ∈ lw_good := mt2 (List.mem_of_getElem? (i := 205) rfl) rfl
theorem wd_2_206 : Cond.code yX7_sort cX7_sort 9 none ∈ lw_good := mt2 (List.mem_of_getElem? (i := 206) rfl) rfl
theorem wd_2_207 : Cond.methodLink RX7 92 yX4_featureOf ∈ lw_good := mt2 (List.mem_of_getElem? (i := 207) rfl) rfl
theorem wd_2_208 : Cond.instanceMethod yX4_featureOf ∈ lw_good := mt2 (List.mem_of_getElem? (i := 208) rfl) rfl
theorem wd_2_209 : Cond.selects RX4 yX4_featureOf yX4_featureOf ∈ lw_good := mt2 (List.mem_of_getElem? (i := 209) rfl) rfl
theorem wd_2_210 : Cond.code yX4_featureOf cX4_featureOf 3 (some .int) ∈ lw_good := mt2 (List.mem_of_getElem? (i := 210) rfl) rfl
theorem wd_2_211 : Cond.methodLink RX7 89 yX7_sweep ∈ lw_good := mt2 (List.mem_of_getElem? (i := 211) rfl) rfl
theorem wd_2_213 : Cond.instanceMethod yX7_sweep ∈ lw_good := mt2 (List.mem_of_getElem? (i := 213) rfl) rfl
theorem wd_2_214 : Cond.code yX7_sweep cX7_sweep 18 none ∈ lw_good := mt2 (List.mem_of_getElem? (i := 214) rfl) rfl
theorem wd_2_215 : Cond.methodLink RX7 96 yX7_keepBetter ∈ lw_good := mt2 (List.mem_of_getElem? (i := 215) rfl) rfl
theorem wd_2_217 : Cond.instanceMethod yX7_keepBetter ∈ lw_good := mt2 (List.mem_of_getElem? (i := 217) rfl) rfl
theorem wd_2_218 : Cond.code yX7_keepBetter cX7_keepBetter 7 none ∈ lw_good := mt2 (List.mem_of_getElem? (i := 218) rfl) rfl
theorem wd_2_219 : Cond.methodLink RX7 77 yX7_part ∈ lw_good := mt2 (List.mem_of_getElem? (i := 219) rfl) rfl
theorem wd_2_221 : Cond.instanceMethod yX7_part ∈ lw_good := mt2 (List.mem_of_getElem? (i := 221) rfl) rfl
theorem wd_2_222 : Cond.code yX7_part cX7_part 4 none ∈ lw_good := mt2 (List.mem_of_getElem? (i := 222) rfl) rfl
theorem wd_2_223 : Cond.methodLink RX0 51 yJ7_fill_53178 ∈ lw_good := mt2 (List.mem_of_getElem? (i := 223) rfl) rfl
theorem wd_2_224 : Cond.methodLink RX8 150 yX4_teachers ∈ lw_good := mt2 (List.mem_of_getElem? (i := 224) rfl) rfl
theorem wd_2_225 : Cond.methodLink RL 71 yX8_grow ∈ lw_good := mt2 (List.mem_of_getElem? (i := 225) rfl) rfl
theorem wd_2_226 : Cond.instanceMethod yX8_grow ∈ lw_good := mt2 (List.mem_of_getElem? (i := 226) rfl) rfl
theorem wd_2_227 : Cond.selects RX8 yX8_grow yX8_grow ∈ lw_good := mt2 (List.mem_of_getElem? (i := 227) rfl) rfl
theorem wd_2_228 : Cond.code yX8_grow cX8_grow 3 (some .int) ∈ lw_good := mt2 (List.mem_of_getElem? (i := 228) rfl) rfl
theorem wd_2_229 : Cond.methodLink RX8 153 yX0_setManner ∈ lw_good := mt2 (List.mem_of_getElem? (i := 229) rfl) rfl
theorem wd_2_230 : Cond.instanceMethod yX0_setManner ∈ lw_good := mt2 (List.mem_of_getElem? (i := 230) rfl) rfl
theorem wd_2_231 : Cond.selects RX0 yX0_setManner yX0_setManner ∈ lw_good := mt2 (List.mem_of_getElem? (i := 231) rfl) rfl
theorem wd_2_232 : Cond.code yX0_setManner cX0_setManner 3 none ∈ lw_good := mt2 (List.mem_of_getElem? (i := 232) rfl) rfl
theorem wd_2_233 : Cond.methodLink RL 75 yX8_tree ∈ lw_good := mt2 (List.mem_of_getElem? (i := 233) rfl) rfl
theorem wd_2_234 : Cond.instanceMethod yX8_tree ∈ lw_good := mt2 (List.mem_of_getElem? (i := 234) rfl) rfl
theorem wd_2_235 : Cond.selects RX8 yX8_tree yX8_tree ∈ lw_good := mt2 (List.mem_of_getElem? (i := 235) rfl) rfl
theorem wd_2_236 : Cond.code yX8_tree cX8_tree 3 (some .int) ∈ lw_good := mt2 (List.mem_of_getElem? (i := 236) rfl) rfl
theorem wd_2_237 : Cond.methodLink RX8 156 yX0_grown ∈ lw_good := mt2 (List.mem_of_getElem? (i := 237) rfl) rfl
theorem wd_2_238 : Cond.instanceMethod yX0_grown ∈ lw_good := mt2 (List.mem_of_getElem? (i := 238) rfl) rfl
theorem wd_2_239 : Cond.selects RX0 yX0_grown yX0_grown ∈ lw_good := mt2 (List.mem_of_getElem? (i := 239) rfl) rfl
theorem wd_3_0 : Cond.code yX0_grown cX0_grown 1 (some (.object RX7)) ∈ lw_good := mt3 (List.mem_of_getElem? (i := 0) rfl) rfl
theorem wd_3_1 : Cond.methodLink RX8 160 yX7_tell ∈ lw_good := mt3 (List.mem_of_getElem? (i := 1) rfl) rfl
theorem wd_3_2 : Cond.instanceMethod yX7_tell ∈ lw_good := mt3 (List.mem_of_getElem? (i := 2) rfl) rfl
theorem wd_3_3 : Cond.selects RX7 yX7_tell yX7_tell ∈ lw_good := mt3 (List.mem_of_getElem? (i := 3) rfl) rfl
theorem wd_3_4 : Cond.code yX7_tell cX7_tell 3 (some .int) ∈ lw_good := mt3 (List.mem_of_getElem? (i := 4) rfl) rfl
theorem wd_3_5 : Cond.methodLink RL 79 yX8_kind ∈ lw_good := mt3 (List.mem_of_getElem? (i := 5) rfl) rfl
theorem wd_3_6 : Cond.instanceMethod yX8_kind ∈ lw_good := mt3 (List.mem_of_getElem? (i := 6) rfl) rfl
theorem wd_3_7 : Cond.selects RX8 yX8_kind yX8_kind ∈ lw_good := mt3 (List.mem_of_getElem? (i := 7) rfl) rfl
theorem wd_3_8 : Cond.code yX8_kind cX8_kind 3 (some .int) ∈ lw_good := mt3 (List.mem_of_getElem? (i := 8) rfl) rfl
theorem wd_3_9 : Cond.methodLink RX8 165 yX0_classAt ∈ lw_good := mt3 (List.mem_of_getElem? (i := 9) rfl) rfl
theorem wd_3_10 : Cond.instanceMethod yX0_classAt ∈ lw_good := mt3 (List.mem_of_getElem? (i := 10) rfl) rfl
theorem wd_3_11 : Cond.selects RX0 yX0_classAt yX0_classAt ∈ lw_good := mt3 (List.mem_of_getElem? (i := 11) rfl) rfl
theorem wd_3_12 : Cond.code yX0_classAt cX0_classAt 4 (some .int) ∈ lw_good := mt3 (List.mem_of_getElem? (i := 12) rfl) rfl
theorem wd_3_13 : Cond.methodLink RX0 57 yX5_stateAt ∈ lw_good := mt3 (List.mem_of_getElem? (i := 13) rfl) rfl
theorem wd_3_14 : Cond.methodLink RX0 63 yX7_classAt ∈ lw_good := mt3 (List.mem_of_getElem? (i := 14) rfl) rfl
theorem wd_3_15 : Cond.instanceMethod yX7_classAt ∈ lw_good := mt3 (List.mem_of_getElem? (i := 15) rfl) rfl
theorem wd_3_16 : Cond.selects RX7 yX7_classAt yX7_classAt ∈ lw_good := mt3 (List.mem_of_getElem? (i := 16) rfl) rfl
theorem wd_3_17 : Cond.code yX7_classAt cX7_classAt 6 (some .int) ∈ lw_good := mt3 (List.mem_of_getElem? (i := 17) rfl) rfl
theorem wd_3_18 : Cond.methodLink RX7 100 yX5_featureAt ∈ lw_good := mt3 (List.mem_of_getElem? (i := 18) rfl) rfl
theorem wd_3_19 : Cond.methodLink RX0 67 yX4_nearestClass ∈ lw_good := mt3 (List.mem_of_getElem? (i := 19) rfl) rfl
theorem wd_3_20 : Cond.instanceMethod yX4_nearestClass ∈ lw_good := mt3 (List.mem_of_getElem? (i := 20) rfl) rfl
theorem wd_3_21 : Cond.selects RX4 yX4_nearestClass yX4_nearestClass ∈ lw_good := mt3 (List.mem_of_getElem? (i := 21) rfl) rfl
theorem wd_3_22 : Cond.code yX4_nearestClass cX4_nearestClass 11 (some .int) ∈ lw_good := mt3 (List.mem_of_getElem? (i := 22) rfl) rfl
theorem wd_3_23 : Cond.methodLink RX4 44 yJ9_abs_0f7a4 ∈ lw_good := mt3 (List.mem_of_getElem? (i := 23) rfl) rfl
theorem wd_3_24 : Cond.static yJ9_abs_0f7a4 ∈ lw_good := mt3 (List.mem_of_getElem? (i := 24) rfl) rfl
theorem wd_3_25 : Cond.code yJ9_abs_0f7a4 cJ9_abs_0f7a4 1 (some .int) ∈ lw_good := mt3 (List.mem_of_getElem? (i := 25) rfl) rfl
theorem wd_3_26 : Cond.methodLink RL 83 yX8_many ∈ lw_good := mt3 (List.mem_of_getElem? (i := 26) rfl) rfl
theorem wd_3_27 : Cond.instanceMethod yX8_many ∈ lw_good := mt3 (List.mem_of_getElem? (i := 27) rfl) rfl
theorem wd_3_28 : Cond.selects RX8 yX8_many yX8_many ∈ lw_good := mt3 (List.mem_of_getElem? (i := 28) rfl) rfl
theorem wd_3_29 : Cond.code yX8_many cX8_many 3 (some .int) ∈ lw_good := mt3 (List.mem_of_getElem? (i := 29) rfl) rfl
theorem wd_3_30 : Cond.methodLink RX8 168 yX0_tally ∈ lw_good := mt3 (List.mem_of_getElem? (i := 30) rfl) rfl
theorem wd_3_31 : Cond.instanceMethod yX0_tally ∈ lw_good := mt3 (List.mem_of_getElem? (i := 31) rfl) rfl
theorem wd_3_32 : Cond.selects RX0 yX0_tally yX0_tally ∈ lw_good := mt3 (List.mem_of_getElem? (i := 32) rfl) rfl
theorem wd_3_33 : Cond.code yX0_tally cX0_tally 5 (some .int) ∈ lw_good := mt3 (List.mem_of_getElem? (i := 33) rfl) rfl
theorem wd_3_34 : Cond.methodLink RX0 70 yX0_classAt ∈ lw_good := mt3 (List.mem_of_getElem? (i := 34) rfl) rfl
theorem wd_3_35 : Cond.methodLink RL 87 yX8_weigh ∈ lw_good := mt3 (List.mem_of_getElem? (i := 35) rfl) rfl
theorem wd_3_36 : Cond.instanceMethod yX8_weigh ∈ lw_good := mt3 (List.mem_of_getElem? (i := 36) rfl) rfl
theorem wd_3_37 : Cond.selects RX8 yX8_weigh yX8_weigh ∈ lw_good := mt3 (List.mem_of_getElem? (i := 37) rfl) rfl
theorem wd_3_38 : Cond.code yX8_weigh cX8_weigh 3 (some .int) ∈ lw_good := mt3 (List.mem_of_getElem? (i := 38) rfl) rfl
theorem wd_3_39 : Cond.methodLink RX8 171 yX6_setWeights ∈ lw_good := mt3 (List.mem_of_getElem? (i := 39) rfl) rfl
theorem wd_3_40 : Cond.instanceMethod yX6_setWeights ∈ lw_good := mt3 (List.mem_of_getElem? (i := 40) rfl) rfl
theorem wd_3_41 : Cond.selects RX6 yX6_setWeights yX6_setWeights ∈ lw_good := mt3 (List.mem_of_getElem? (i := 41) rfl) rfl
theorem wd_3_42 : Cond.code yX6_setWeights cX6_setWeights 3 none ∈ lw_good := mt3 (List.mem_of_getElem? (i := 42) rfl) rfl
theorem wd_3_43 : Cond.methodLink RL 91 yX8_smooth ∈ lw_good := mt3 (List.mem_of_getElem? (i := 43) rfl) rfl
theorem wd_3_44 : Cond.instanceMethod yX8_smooth ∈ lw_good := mt3 (List.mem_of_getElem? (i := 44) rfl) rfl
theorem wd_3_45 : Cond.selects RX8 yX8_smooth yX8_smooth ∈ lw_good := mt3 (List.mem_of_getElem? (i := 45) rfl) rfl
theorem wd_3_46 : Cond.code yX8_smooth cX8_smooth 3 (some .int) ∈ lw_good := mt3 (List.mem_of_getElem? (i := 46) rfl) rfl
theorem wd_3_47 : Cond.methodLink RX8 174 yX6_settle ∈ lw_good := mt3 (List.mem_of_getElem? (i := 47) rfl) rfl
theorem wd_3_48 : Cond.instanceMethod yX6_settle ∈ lw_good := mt3 (List.mem_of_getElem? (i := 48) rfl) rfl
theorem wd_3_49 : Cond.selects RX6 yX6_settle yX6_settle ∈ lw_good := mt3 (List.mem_of_getElem? (i := 49) rfl) rfl
theorem wd_3_50 : Cond.code yX6_settle cX6_settle 8 (some .int) ∈ lw_good := mt3 (List.mem_of_getElem? (i := 50) rfl) rfl
theorem wd_3_51 : Cond.methodLink RX6 30 yX0_tally ∈ lw_good := mt3 (List.mem_of_getElem? (i := 51) rfl) rfl
theorem wd_3_52 : Cond.constant RX6 36 (536870912 : Int32) ∈ lw_good := mt3 (List.mem_of_getElem? (i := 52) rfl) rfl
theorem wd_3_53 : Cond.methodLink RX6 37 yJ7_fill_53178 ∈ lw_good := mt3 (List.mem_of_getElem? (i := 53) rfl) rfl
theorem wd_3_54 : Cond.methodLink RX6 43 yX0_classAt ∈ lw_good := mt3 (List.mem_of_getElem? (i := 54) rfl) rfl
theorem wd_3_55 : Cond.methodLink RX6 46 yX6_addCell ∈ lw_good := mt3 (List.mem_of_getElem? (i := 55) rfl) rfl
theorem wd_3_57 : Cond.instanceMethod yX6_addCell ∈ lw_good := mt3 (List.mem_of_getElem? (i := 57) rfl) rfl
theorem wd_3_58 : Cond.code yX6_addCell cX6_addCell 10 none ∈ lw_good := mt3 (List.mem_of_getElem? (i := 58) rfl) rfl
theorem wd_3_59 : Cond.methodLink RX6 54 yX6_addMarks ∈ lw_good := mt3 (List.mem_of_getElem? (i := 59) rfl) rfl
theorem wd_3_61 : Cond.instanceMethod yX6_addMarks ∈ lw_good := mt3 (List.mem_of_getElem? (i := 61) rfl) rfl
theorem wd_3_62 : Cond.code yX6_addMarks cX6_addMarks 14 none ∈ lw_good := mt3 (List.mem_of_getElem? (i := 62) rfl) rfl
theorem wd_3_63 : Cond.methodLink RX6 50 yX6_takeBest ∈ lw_good := mt3 (List.mem_of_getElem? (i := 63) rfl) rfl
theorem wd_3_65 : Cond.instanceMethod yX6_takeBest ∈ lw_good := mt3 (List.mem_of_getElem? (i := 65) rfl) rfl
theorem wd_3_66 : Cond.code yX6_takeBest cX6_takeBest 3 (some .int) ∈ lw_good := mt3 (List.mem_of_getElem? (i := 66) rfl) rfl
theorem wd_3_67 : Cond.methodLink RL 95 yX8_mark ∈ lw_good := mt3 (List.mem_of_getElem? (i := 67) rfl) rfl
theorem wd_3_68 : Cond.instanceMethod yX8_mark ∈ lw_good := mt3 (List.mem_of_getElem? (i := 68) rfl) rfl
theorem wd_3_69 : Cond.selects RX8 yX8_mark yX8_mark ∈ lw_good := mt3 (List.mem_of_getElem? (i := 69) rfl) rfl
theorem wd_3_70 : Cond.code yX8_mark cX8_mark 2 (some .int) ∈ lw_good := mt3 (List.mem_of_getElem? (i := 70) rfl) rfl
theorem wd_3_71 : Cond.methodLink RX8 178 yX6_markOf ∈ lw_good := mt3 (List.mem_of_getElem? (i := 71) rfl) rfl
theorem wd_3_72 : Cond.instanceMethod yX6_markOf ∈ lw_good := mt3 (List.mem_of_getElem? (i := 72) rfl) rfl
theorem wd_3_73 : Cond.selects RX6 yX6_markOf yX6_markOf ∈ lw_good := mt3 (List.mem_of_getElem? (i := 73) rfl) rfl
theorem wd_3_74 : Cond.code yX6_markOf cX6_markOf 2 (some .int) ∈ lw_good := mt3 (List.mem_of_getElem? (i := 74) rfl) rfl
theorem wd_3_75 : Cond.methodLink RL 99 yX8_allow ∈ lw_good := mt3 (List.mem_of_getElem? (i := 75) rfl) rfl
theorem wd_3_76 : Cond.instanceMethod yX8_allow ∈ lw_good := mt3 (List.mem_of_getElem? (i := 76) rfl) rfl
theorem wd_3_77 : Cond.selects RX8 yX8_allow yX8_allow ∈ lw_good := mt3 (List.mem_of_getElem? (i := 77) rfl) rfl
theorem wd_3_78 : Cond.code yX8_allow cX8_allow 4 (some .int) ∈ lw_good := mt3 (List.mem_of_getElem? (i := 78) rfl) rfl
theorem wd_3_79 : Cond.methodLink RX8 181 yX1_setMove ∈ lw_good := mt3 (List.mem_of_getElem? (i := 79) rfl) rfl
theorem wd_3_80 : Cond.instanceMethod yX1_setMove ∈ lw_good := mt3 (List.mem_of_getElem? (i := 80) rfl) rfl
theorem wd_3_81 : Cond.selects RX1 yX1_setMove yX1_setMove ∈ lw_good := mt3 (List.mem_of_getElem? (i := 81) rfl) rfl
theorem wd_3_82 : Cond.code yX1_setMove cX1_setMove 4 none ∈ lw_good := mt3 (List.mem_of_getElem? (i := 82) rfl) rfl
theorem wd_3_83 : Cond.methodLink RL 104 yX8_path ∈ lw_good := mt3 (List.mem_of_getElem? (i := 83) rfl) rfl
theorem wd_3_84 : Cond.instanceMethod yX8_path ∈ lw_good := mt3 (List.mem_of_getElem? (i := 84) rfl) rfl
theorem wd_3_85 : Cond.selects RX8 yX8_path yX8_path ∈ lw_good := mt3 (List.mem_of_getElem? (i := 85) rfl) rfl
theorem wd_3_86 : Cond.code yX8_path cX8_path 2 (some .int) ∈ lw_good := mt3 (List.mem_of_getElem? (i := 86) rfl) rfl
theorem wd_3_87 : Cond.methodLink RX8 185 yX1_seek ∈ lw_good := mt3 (List.mem_of_getElem? (i := 87) rfl) rfl
theorem wd_3_88 : Cond.instanceMethod yX1_seek ∈ lw_good := mt3 (List.mem_of_getElem? (i := 88) rfl) rfl
theorem wd_3_89 : Cond.selects RX1 yX1_seek yX1_seek ∈ lw_good := mt3 (List.mem_of_getElem? (i := 89) rfl) rfl
theorem wd_3_90 : Cond.code yX1_seek cX1_seek 7 none ∈ lw_good := mt3 (List.mem_of_getElem? (i := 90) rfl) rfl
theorem wd_3_91 : Cond.methodLink RX1 22 yX0_classAt ∈ lw_good := mt3 (List.mem_of_getElem? (i := 91) rfl) rfl
theorem wd_3_92 : Cond.methodLink RX1 28 yX1_costAfter ∈ lw_good := mt3 (List.mem_of_getElem? (i := 92) rfl) rfl
theorem wd_3_94 : Cond.instanceMethod yX1_costAfter ∈ lw_good := mt3 (List.mem_of_getElem? (i := 94) rfl) rfl
theorem wd_3_95 : Cond.code yX1_costAfter cX1_costAfter 3 (some .int) ∈ lw_good := mt3 (List.mem_of_getElem? (i := 95) rfl) rfl
theorem wd_3_96 : Cond.methodLink RX1 31 yX1_bestClass ∈ lw_good := mt3 (List.mem_of_getElem? (i := 96) rfl) rfl
theorem wd_3_98 : Cond.instanceMethod yX1_bestClass ∈ lw_good := mt3 (List.mem_of_getElem? (i := 98) rfl) rfl
theorem wd_3_99 : Cond.code yX1_bestClass cX1_bestClass 7 (some .int) ∈ lw_good := mt3 (List.mem_of_getElem? (i := 99) rfl) rfl
theorem wd_3_100 : Cond.methodLink RX8 189 yX1_cost ∈ lw_good := mt3 (List.mem_of_getElem? (i := 100) rfl) rfl
theorem wd_3_101 : Cond.instanceMethod yX1_cost ∈ lw_good := mt3 (List.mem_of_getElem? (i := 101) rfl) rfl
theorem wd_3_102 : Cond.selects RX1 yX1_cost yX1_cost ∈ lw_good := mt3 (List.mem_of_getElem? (i := 102) rfl) rfl
theorem wd_3_103 : Cond.code yX1_cost cX1_cost 1 (some .int) ∈ lw_good := mt3 (List.mem_of_getElem? (i := 103) rfl) rfl
theorem wd_3_104 : Cond.methodLink RL 108 yX8_on ∈ lw_good := mt3 (List.mem_of_getElem? (i := 104) rfl) rfl
theorem wd_3_105 : Cond.instanceMethod yX8_on ∈ lw_good := mt3 (List.mem_of_getElem? (i := 105) rfl) rfl
theorem wd_3_106 : Cond.selects RX8 yX8_on yX8_on ∈ lw_good := mt3 (List.mem_of_getElem? (i := 106) rfl) rfl
theorem wd_3_107 : Cond.code yX8_on cX8_on 3 (some .int) ∈ lw_good := mt3 (List.mem_of_getElem? (i := 107) rfl) rfl
theorem wd_3_108 : Cond.methodLink RX8 192 yX1_classOn ∈ lw_good := mt3 (List.mem_of_getElem? (i := 108) rfl) rfl
theorem wd_3_109 : Cond.instanceMethod yX1_classOn ∈ lw_good := mt3 (List.mem_of_getElem? (i := 109) rfl) rfl
theorem wd_3_110 : Cond.selects RX1 yX1_classOn yX1_classOn ∈ lw_good := mt3 (List.mem_of_getElem? (i := 110) rfl) rfl
theorem wd_3_111 : Cond.code yX1_classOn cX1_classOn 2 (some .int) ∈ lw_good := mt3 (List.mem_of_getElem? (i := 111) rfl) rfl
theorem wd_3_112 : Cond.methodLink RL 112 yX8_changed ∈ lw_good := mt3 (List.mem_of_getElem? (i := 112) rfl) rfl
theorem wd_3_113 : Cond.instanceMethod yX8_changed ∈ lw_good := mt3 (List.mem_of_getElem? (i := 113) rfl) rfl
theorem wd_3_114 : Cond.selects RX8 yX8_changed yX8_changed ∈ lw_good := mt3 (List.mem_of_getElem? (i := 114) rfl) rfl
theorem wd_3_115 : Cond.code yX8_changed cX8_changed 5 (some .int) ∈ lw_good := mt3 (List.mem_of_getElem? (i := 115) rfl) rfl
theorem wd_3_116 : Cond.methodLink RX8 195 yX1_moves ∈ lw_good := mt3 (List.mem_of_getElem? (i := 116) rfl) rfl
theorem wd_3_117 : Cond.instanceMethod yX1_moves ∈ lw_good := mt3 (List.mem_of_getElem? (i := 117) rfl) rfl
theorem wd_3_118 : Cond.selects RX1 yX1_moves yX1_moves ∈ lw_good := mt3 (List.mem_of_getElem? (i := 118) rfl) rfl
theorem wd_3_119 : Cond.code yX1_moves cX1_moves 5 (some .int) ∈ lw_good := mt3 (List.mem_of_getElem? (i := 119) rfl) rfl
theorem wd_3_120 : Cond.methodLink RL 116 yX8_prove ∈ lw_good := mt3 (List.mem_of_getElem? (i := 120) rfl) rfl
theorem wd_3_121 : Cond.instanceMethod yX8_prove ∈ lw_good := mt3 (List.mem_of_getElem? (i := 121) rfl) rfl
theorem wd_3_122 : Cond.selects RX8 yX8_prove yX8_prove ∈ lw_good := mt3 (List.mem_of_getElem? (i := 122) rfl) rfl
theorem wd_3_123 : Cond.code yX8_prove cX8_prove 4 (some .int) ∈ lw_good := mt3 (List.mem_of_getElem? (i := 123) rfl) rfl
theorem wd_3_124 : Cond.methodLink RX8 198 yX2_add ∈ lw_good := mt3 (List.mem_of_getElem? (i := 124) rfl) rfl
theorem wd_3_125 : Cond.instanceMethod yX2_add ∈ lw_good := mt3 (List.mem_of_getElem? (i := 125) rfl) rfl
theorem wd_3_126 : Cond.selects RX2 yX2_add yX2_add ∈ lw_good := mt3 (List.mem_of_getElem? (i := 126) rfl) rfl
theorem wd_3_127 : Cond.code yX2_add cX2_add 5 (some .int) ∈ lw_good := mt3 (List.mem_of_getElem? (i := 127) rfl) rfl
theorem wd_3_128 : Cond.methodLink RX2 15 yJ9_min_7cf53 ∈ lw_good := mt3 (List.mem_of_getElem? (i := 128) rfl) rfl
theorem wd_3_129 : Cond.static yJ9_min_7cf53 ∈ lw_good := mt3 (List.mem_of_getElem? (i := 129) rfl) rfl
theorem wd_3_130 : Cond.code yJ9_min_7cf53 cJ9_min_7cf53 2 (some .int) ∈ lw_good := mt3 (List.mem_of_getElem? (i := 130) rfl) rfl
theorem wd_3_131 : Cond.methodLink RL 120 yX8_area ∈ lw_good := mt3 (List.mem_of_getElem? (i := 131) rfl) rfl
theorem wd_3_132 : Cond.instanceMethod yX8_area ∈ lw_good := mt3 (List.mem_of_getElem? (i := 132) rfl) rfl
theorem wd_3_133 : Cond.selects RX8 yX8_area yX8_area ∈ lw_good := mt3 (List.mem_of_getElem? (i := 133) rfl) rfl
theorem wd_3_134 : Cond.code yX8_area cX8_area 3 (some .long) ∈ lw_good := mt3 (List.mem_of_getElem? (i := 134) rfl) rfl
theorem wd_3_135 : Cond.constantLong RX8 200 (-2000 : Int64) ∈ lw_good := mt3 (List.mem_of_getElem? (i := 135) rfl) rfl
theorem wd_3_136 : Cond.methodLink RX8 202 yX2_areaOf ∈ lw_good := mt3 (List.mem_of_getElem? (i := 136) rfl) rfl
theorem wd_3_137 : Cond.instanceMethod yX2_areaOf ∈ lw_good := mt3 (List.mem_of_getElem? (i := 137) rfl) rfl
theorem wd_3_138 : Cond.selects RX2 yX2_areaOf yX2_areaOf ∈ lw_good := mt3 (List.mem_of_getElem? (i := 138) rfl) rfl
theorem wd_3_139 : Cond.code yX2_areaOf cX2_areaOf 13 (some .long) ∈ lw_good := mt3 (List.mem_of_getElem? (i := 139) rfl) rfl
theorem wd_3_140 : Cond.methodLink RX2 21 yX0_tally ∈ lw_good := mt3 (List.mem_of_getElem? (i := 140) rfl) rfl
theorem wd_3_141 : Cond.methodLink RX2 26 yX2_sumOf ∈ lw_good := mt3 (List.mem_of_getElem? (i := 141) rfl) rfl
theorem wd_3_143 : Cond.instanceMethod yX2_sumOf ∈ lw_good := mt3 (List.mem_of_getElem? (i := 143) rfl) rfl
theorem wd_3_144 : Cond.code yX2_sumOf cX2_sumOf 4 (some .int) ∈ lw_good := mt3 (List.mem_of_getElem? (i := 144) rfl) rfl
theorem wd_3_145 : Cond.constantLong RX2 30 (-2001 : Int64) ∈ lw_good := mt3 (List.mem_of_getElem? (i := 145) rfl) rfl
theorem wd_3_146 : Cond.constantLong RX2 32 (1000 : Int64) ∈ lw_good := mt3 (List.mem_of_getElem? (i := 146) rfl) rfl
theorem wd_3_147 : Cond.methodLink RL 125 yX8_count ∈ lw_good := mt3 (List.mem_of_getElem? (i := 147) rfl) rfl
theorem wd_3_148 : Cond.instanceMethod yX8_count ∈ lw_good := mt3 (List.mem_of_getElem? (i := 148) rfl) rfl
theorem wd_3_149 : Cond.selects RX8 yX8_count yX8_count ∈ lw_good := mt3 (List.mem_of_getElem? (i := 149) rfl) rfl
theorem wd_3_150 : Cond.code yX8_count cX8_count 2 (some .int) ∈ lw_good := mt3 (List.mem_of_getElem? (i := 150) rfl) rfl
theorem wd_3_151 : Cond.methodLink RX8 206 yX0_depth ∈ lw_good := mt3 (List.mem_of_getElem? (i := 151) rfl) rfl
theorem wd_3_152 : Cond.instanceMethod yX0_depth ∈ lw_good := mt3 (List.mem_of_getElem? (i := 152) rfl) rfl
theorem wd_3_153 : Cond.selects RX0 yX0_depth yX0_depth ∈ lw_good := mt3 (List.mem_of_getElem? (i := 153) rfl) rfl
theorem wd_3_154 : Cond.code yX0_depth cX0_depth 1 (some .int) ∈ lw_good := mt3 (List.mem_of_getElem? (i := 154) rfl) rfl
theorem wd_3_155 : Cond.methodLink RX8 209 yX0_mode ∈ lw_good := mt3 (List.mem_of_getElem? (i := 155) rfl) rfl
theorem wd_3_156 : Cond.instanceMethod yX0_mode ∈ lw_good := mt3 (List.mem_of_getElem? (i := 156) rfl) rfl
theorem wd_3_157 : Cond.selects RX0 yX0_mode yX0_mode ∈ lw_good := mt3 (List.mem_of_getElem? (i := 157) rfl) rfl
theorem wd_3_158 : Cond.code yX0_mode cX0_mode 1 (some .int) ∈ lw_good := mt3 (List.mem_of_getElem? (i := 158) rfl) rfl
theorem wd_3_159 : Cond.methodLink RX8 212 yX6_own ∈ lw_good := mt3 (List.mem_of_getElem? (i := 159) rfl) rfl
theorem wd_3_160 : Cond.instanceMethod yX6_own ∈ lw_good := mt3 (List.mem_of_getElem? (i := 160) rfl) rfl
theorem wd_3_161 : Cond.selects RX6 yX6_own yX6_own ∈ lw_good := mt3 (List.mem_of_getElem? (i := 161) rfl) rfl
theorem wd_3_162 : Cond.code yX6_own cX6_own 1 (some .int) ∈ lw_good := mt3 (List.mem_of_getElem? (i := 162) rfl) rfl
theorem wd_3_163 : Cond.methodLink RX8 215 yX6_edge ∈ lw_good := mt3 (List.mem_of_getElem? (i := 163) rfl) rfl
theorem wd_3_164 : Cond.instanceMethod yX6_edge ∈ lw_good := mt3 (List.mem_of_getElem? (i := 164) rfl) rfl
theorem wd_3_165 : Cond.selects RX6 yX6_edge yX6_edge ∈ lw_good := mt3 (List.mem_of_getElem? (i := 165) rfl) rfl
theorem wd_3_166 : Cond.code yX6_edge cX6_edge 1 (some .int) ∈ lw_good := mt3 (List.mem_of_getElem? (i := 166) rfl) rfl
theorem wd_3_167 : Cond.methodLink RX8 218 yX3_held ∈ lw_good := mt3 (List.mem_of_getElem? (i := 167) rfl) rfl
theorem wd_3_168 : Cond.instanceMethod yX3_held ∈ lw_good := mt3 (List.mem_of_getElem? (i := 168) rfl) rfl
theorem wd_3_169 : Cond.selects RX3 yX3_held yX3_held ∈ lw_good := mt3 (List.mem_of_getElem? (i := 169) rfl) rfl
theorem wd_3_170 : Cond.code yX3_held cX3_held 3 (some .int) ∈ lw_good := mt3 (List.mem_of_getElem? (i := 170) rfl) rfl
theorem wd_3_171 : Cond.methodLink RX8 221 yX3_latest ∈ lw_good := mt3 (List.mem_of_getElem? (i := 171) rfl) rfl
theorem wd_3_172 : Cond.instanceMethod yX3_latest ∈ lw_good := mt3 (List.mem_of_getElem? (i := 172) rfl) rfl
theorem wd_3_173 : Cond.selects RX3 yX3_latest yX3_latest ∈ lw_good := mt3 (List.mem_of_getElem? (i := 173) rfl) rfl
theorem wd_3_174 : Cond.code yX3_latest cX3_latest 1 (some .int) ∈ lw_good := mt3 (List.mem_of_getElem? (i := 174) rfl) rfl
theorem wd_3_175 : Cond.methodLink RX8 224 yX5_bright ∈ lw_good := mt3 (List.mem_of_getElem? (i := 175) rfl) rfl
theorem wd_3_176 : Cond.instanceMethod yX5_bright ∈ lw_good := mt3 (List.mem_of_getElem? (i := 176) rfl) rfl
theorem wd_3_177 : Cond.selects RX5 yX5_bright yX5_bright ∈ lw_good := mt3 (List.mem_of_getElem? (i := 177) rfl) rfl
theorem wd_3_178 : Cond.code yX5_bright cX5_bright 1 (some .int) ∈ lw_good := mt3 (List.mem_of_getElem? (i := 178) rfl) rfl
theorem wd_3_179 : Cond.methodLink RX8 227 yX5_high ∈ lw_good := mt3 (List.mem_of_getElem? (i := 179) rfl) rfl
theorem wd_3_180 : Cond.instanceMethod yX5_high ∈ lw_good := mt3 (List.mem_of_getElem? (i := 180) rfl) rfl
theorem wd_3_181 : Cond.selects RX5 yX5_high yX5_high ∈ lw_good := mt3 (List.mem_of_getElem? (i := 181) rfl) rfl
theorem wd_3_182 : Cond.code yX5_high cX5_high 1 (some .int) ∈ lw_good := mt3 (List.mem_of_getElem? (i := 182) rfl) rfl
theorem wd_3_183 : Cond.methodLink RL 129 yX8_digest ∈ lw_good := mt3 (List.mem_of_getElem? (i := 183) rfl) rfl
theorem wd_3_184 : Cond.instanceMethod yX8_digest ∈ lw_good := mt3 (List.mem_of_getElem? (i := 184) rfl) rfl
theorem wd_3_185 : Cond.selects RX8 yX8_digest yX8_digest ∈ lw_good := mt3 (List.mem_of_getElem? (i := 185) rfl) rfl
theorem wd_3_186 : Cond.code yX8_digest cX8_digest 5 (some .long) ∈ lw_good := mt3 (List.mem_of_getElem? (i := 186) rfl) rfl
theorem wd_3_187 : Cond.constantLong RX8 230 (17 : Int64) ∈ lw_good := mt3 (List.mem_of_getElem? (i := 187) rfl) rfl
theorem wd_3_188 : Cond.constantLong RX8 232 (31 : Int64) ∈ lw_good := mt3 (List.mem_of_getElem? (i := 188) rfl) rfl
theorem wd_3_189 : Cond.methodLink RX8 234 yX8_count ∈ lw_good := mt3 (List.mem_of_getElem? (i := 189) rfl) rfl
theorem wd_3_190 : Cond.classLink RL 10 RX9 ∈ lw_good := mt3 (List.mem_of_getElem? (i := 190) rfl) rfl
theorem wd_3_191 : Cond.instantiable RX9 38 ∈ lw_good := mt3 (List.mem_of_getElem? (i := 191) rfl) rfl
theorem wd_3_192 : Cond.methodLink RL 12 yX9_init ∈ lw_good := mt3 (List.mem_of_getElem? (i := 192) rfl) rfl
theorem wd_3_193 : Cond.instanceMethod yX9_init ∈ lw_good := mt3 (List.mem_of_getElem? (i := 193) rfl) rfl
theorem wd_3_194 : Cond.code yX9_init cX9_init 2 none ∈ lw_good := mt3 (List.mem_of_getElem? (i := 194) rfl) rfl
theorem wd_3_195 : Cond.methodLink RX9 1 objectInit ∈ lw_good := mt3 (List.mem_of_getElem? (i := 195) rfl) rfl
theorem wd_3_196 : Cond.fieldLink RX9 7 "FieldTilesModel" "forms" "[I" ∈ lw_good := mt3 (List.mem_of_getElem? (i := 196) rfl) rfl
theorem wd_3_197 : Cond.fieldLink RX9 13 "FieldTilesModel" "sizes" "[I" ∈ lw_good := mt3 (List.mem_of_getElem? (i := 197) rfl) rfl
theorem wd_3_198 : Cond.fieldLink RX9 16 "FieldTilesModel" "items" "[I" ∈ lw_good := mt3 (List.mem_of_getElem? (i := 198) rfl) rfl
theorem wd_3_199 : Cond.fieldLink RX9 19 "FieldTilesModel" "moved" "[I" ∈ lw_good := mt3 (List.mem_of_getElem? (i := 199) rfl) rfl
theorem wd_3_200 : Cond.fieldLink RX9 114 "FieldTilesModel" "latest" "I" ∈ lw_good := mt3 (List.mem_of_getElem? (i := 200) rfl) rfl
theorem wd_3_201 : Cond.fieldLink RX9 22 "FieldTilesModel" "bright" "I" ∈ lw_good := mt3 (List.mem_of_getElem? (i := 201) rfl) rfl
theorem wd_3_202 : Cond.fieldLink RX9 26 "FieldTilesModel" "high" "I" ∈ lw_good := mt3 (List.mem_of_getElem? (i := 202) rfl) rfl
theorem wd_3_203 : Cond.fieldLink RX9 29 "FieldTilesModel" "sunX" "[I" ∈ lw_good := mt3 (List.mem_of_getElem? (i := 203) rfl) rfl
theorem wd_3_204 : Cond.fieldLink RX9 32 "FieldTilesModel" "sunY" "[I" ∈ lw_good := mt3 (List.mem_of_getElem? (i := 204) rfl) rfl
theorem wd_3_205 : Cond.fieldLink RX9 178 "FieldTilesModel" "samples" "I" ∈ lw_good := mt3 (List.mem_of_getElem? (i := 205) rfl) rfl
theorem wd_3_206 : Cond.fieldLink RX9 35 "FieldTilesModel" "sampleDate" "[I" ∈ lw_good := mt3 (List.mem_of_getElem? (i := 206) rfl) rfl
theorem wd_3_207 : Cond.fieldLink RX9 38 "FieldTilesModel" "sampleCell" "[I" ∈ lw_good := mt3 (List.mem_of_getElem? (i := 207) rfl) rfl
theorem wd_3_208 : Cond.fieldLink RX9 41 "FieldTilesModel" "sampleClass" "[I" ∈ lw_good := mt3 (List.mem_of_getElem? (i := 208) rfl) rfl
theorem wd_3_209 : Cond.fieldLink RX9 44 "FieldTilesModel" "depth" "I" ∈ lw_good := mt3 (List.mem_of_getElem? (i := 209) rfl) rfl
theorem wd_3_210 : Cond.fieldLink RX9 187 "FieldTilesModel" "mode" "I" ∈ lw_good := mt3 (List.mem_of_getElem? (i := 210) rfl) rfl
theorem wd_3_211 : Cond.fieldLink RX9 181 "FieldTilesModel" "teach" "I" ∈ lw_good := mt3 (List.mem_of_getElem? (i := 211) rfl) rfl
theorem wd_3_212 : Cond.fieldLink RX9 47 "FieldTilesModel" "own" "[I" ∈ lw_good := mt3 (List.mem_of_getElem? (i := 212) rfl) rfl
theorem wd_3_213 : Cond.fieldLink RX9 50 "FieldTilesModel" "ownClass" "[I" ∈ lw_good := mt3 (List.mem_of_getElem? (i := 213) rfl) rfl
theorem wd_3_214 : Cond.fieldLink RX9 53 "FieldTilesModel" "number" "[I" ∈ lw_good := mt3 (List.mem_of_getElem? (i := 214) rfl) rfl
theorem wd_3_215 : Cond.fieldLink RX9 56 "FieldTilesModel" "at" "[I" ∈ lw_good := mt3 (List.mem_of_getElem? (i := 215) rfl) rfl
theorem wd_3_216 : Cond.fieldLink RX9 59 "FieldTilesModel" "isNode" "[Z" ∈ lw_good := mt3 (List.mem_of_getElem? (i := 216) rfl) rfl
theorem wd_3_217 : Cond.fieldLink RX9 63 "FieldTilesModel" "nodeFeature" "[I" ∈ lw_good := mt3 (List.mem_of_getElem? (i := 217) rfl) rfl
theorem wd_3_218 : Cond.fieldLink RX9 66 "FieldTilesModel" "nodeNumber" "[I" ∈ lw_good := mt3 (List.mem_of_getElem? (i := 218) rfl) rfl
theorem wd_3_219 : Cond.fieldLink RX9 69 "FieldTilesModel" "nodeMany" "[I" ∈ lw_good := mt3 (List.mem_of_getElem? (i := 219) rfl) rfl
theorem wd_3_220 : Cond.fieldLink RX9 72 "FieldTilesModel" "one" "[I" ∈ lw_good := mt3 (List.mem_of_getElem? (i := 220) rfl) rfl
theorem wd_3_221 : Cond.fieldLink RX9 75 "FieldTilesModel" "two" "[I" ∈ lw_good := mt3 (List.mem_of_getElem? (i := 221) rfl) rfl
theorem wd_3_222 : Cond.fieldLink RX9 78 "FieldTilesModel" "ownCost" "I" ∈ lw_good := mt3 (List.mem_of_getElem? (i := 222) rfl) rfl
theorem wd_3_223 : Cond.fieldLink RX9 81 "FieldTilesModel" "edgeCost" "I" ∈ lw_good := mt3 (List.mem_of_getElem? (i := 223) rfl) rfl
theorem wd_3_224 : Cond.fieldLink RX9 84 "FieldTilesModel" "fromSource" "[I" ∈ lw_good := mt3 (List.mem_of_getElem? (i := 224) rfl) rfl
theorem wd_3_225 : Cond.fieldLink RX9 87 "FieldTilesModel" "toSink" "[I" ∈ lw_good := mt3 (List.mem_of_getElem? (i := 225) rfl) rfl
theorem wd_3_226 : Cond.fieldLink RX9 90 "FieldTilesModel" "toNext" "[I" ∈ lw_good := mt3 (List.mem_of_getElem? (i := 226) rfl) rfl
theorem wd_3_227 : Cond.fieldLink RX9 93 "FieldTilesModel" "came" "[I" ∈ lw_good := mt3 (List.mem_of_getElem? (i := 227) rfl) rfl
theorem wd_3_228 : Cond.fieldLink RX9 96 "FieldTilesModel" "queue" "[I" ∈ lw_good := mt3 (List.mem_of_getElem? (i := 228) rfl) rfl
theorem wd_3_229 : Cond.fieldLink RX9 99 "FieldTilesModel" "mark" "[I" ∈ lw_good := mt3 (List.mem_of_getElem? (i := 229) rfl) rfl
theorem wd_3_230 : Cond.fieldLink RX9 102 "FieldTilesModel" "allowed" "[Z" ∈ lw_good := mt3 (List.mem_of_getElem? (i := 230) rfl) rfl
theorem wd_3_231 : Cond.fieldLink RX9 105 "FieldTilesModel" "rest" "[I" ∈ lw_good := mt3 (List.mem_of_getElem? (i := 231) rfl) rfl
theorem wd_3_232 : Cond.fieldLink RX9 108 "FieldTilesModel" "path" "[I" ∈ lw_good := mt3 (List.mem_of_getElem? (i := 232) rfl) rfl
theorem wd_3_233 : Cond.fieldLink RX9 111 "FieldTilesModel" "proofs" "[I" ∈ lw_good := mt3 (List.mem_of_getElem? (i := 233) rfl) rfl
theorem wd_3_234 : Cond.laysFinal "FieldTilesModel" "FieldTilesModel" "forms" "[I" ∈ lw_good := mt3 (List.mem_of_getElem? (i := 234) rfl) rfl
theorem wd_3_236 : Cond.laysFinal "FieldTilesModel" "FieldTilesModel" "sizes" "[I" ∈ lw_good := mt3 (List.mem_of_getElem? (i := 236) rfl) rfl
theorem wd_3_238 : Cond.laysFinal "FieldTilesModel" "FieldTilesModel" "items" "[I" ∈ lw_good := mt3 (List.mem_of_getElem? (i := 238) rfl) rfl
theorem wd_4_0 : Cond.laysFinal "FieldTilesModel" "FieldTilesModel" "moved" "[I" ∈ lw_good := mt4 (List.mem_of_getElem? (i := 0) rfl) rfl
theorem wd_4_2 : Cond.lays "FieldTilesModel" "FieldTilesModel" "latest" "I" ∈ lw_good := mt4 (List.mem_of_getElem? (i := 2) rfl) rfl
theorem wd_4_4 : Cond.lays "FieldTilesModel" "FieldTilesModel" "bright" "I" ∈ lw_good := mt4 (List.mem_of_getElem? (i := 4) rfl) rfl
theorem wd_4_6 : Cond.lays "FieldTilesModel" "FieldTilesModel" "high" "I" ∈ lw_good := mt4 (List.mem_of_getElem? (i := 6) rfl) rfl
theorem wd_4_8 : Cond.laysFinal "FieldTilesModel" "FieldTilesModel" "sunX" "[I" ∈ lw_good := mt4 (List.mem_of_getElem? (i := 8) rfl) rfl
theorem wd_4_10 : Cond.laysFinal "FieldTilesModel" "FieldTilesModel" "sunY" "[I" ∈ lw_good := mt4 (List.mem_of_getElem? (i := 10) rfl) rfl
theorem wd_4_12 : Cond.lays "FieldTilesModel" "FieldTilesModel" "samples" "I" ∈ lw_good := mt4 (List.mem_of_getElem? (i := 12) rfl) rfl
theorem wd_4_14 : Cond.laysFinal "FieldTilesModel" "FieldTilesModel" "sampleDate" "[I" ∈ lw_good := mt4 (List.mem_of_getElem? (i := 14) rfl) rfl
theorem wd_4_16 : Cond.laysFinal "FieldTilesModel" "FieldTilesModel" "sampleCell" "[I" ∈ lw_good := mt4 (List.mem_of_getElem? (i := 16) rfl) rfl
theorem wd_4_18 : Cond.laysFinal "FieldTilesModel" "FieldTilesModel" "sampleClass" "[I" ∈ lw_good := mt4 (List.mem_of_getElem? (i := 18) rfl) rfl
theorem wd_4_20 : Cond.lays "FieldTilesModel" "FieldTilesModel" "depth" "I" ∈ lw_good := mt4 (List.mem_of_getElem? (i := 20) rfl) rfl
theorem wd_4_22 : Cond.lays "FieldTilesModel" "FieldTilesModel" "mode" "I" ∈ lw_good := mt4 (List.mem_of_getElem? (i := 22) rfl) rfl
theorem wd_4_24 : Cond.lays "FieldTilesModel" "FieldTilesModel" "teach" "I" ∈ lw_good := mt4 (List.mem_of_getElem? (i := 24) rfl) rfl
theorem wd_4_26 : Cond.laysFinal "FieldTilesModel" "FieldTilesModel" "own" "[I" ∈ lw_good := mt4 (List.mem_of_getElem? (i := 26) rfl) rfl
theorem wd_4_28 : Cond.laysFinal "FieldTilesModel" "FieldTilesModel" "ownClass" "[I" ∈ lw_good := mt4 (List.mem_of_getElem? (i := 28) rfl) rfl
theorem wd_4_30 : Cond.laysFinal "FieldTilesModel" "FieldTilesModel" "number" "[I" ∈ lw_good := mt4 (List.mem_of_getElem? (i := 30) rfl) rfl
theorem wd_4_32 : Cond.laysFinal "FieldTilesModel" "FieldTilesModel" "at" "[I" ∈ lw_good := mt4 (List.mem_of_getElem? (i := 32) rfl) rfl
theorem wd_4_34 : Cond.laysFinal "FieldTilesModel" "FieldTilesModel" "isNode" "[Z" ∈ lw_good := mt4 (List.mem_of_getElem? (i := 34) rfl) rfl
theorem wd_4_36 : Cond.laysFinal "FieldTilesModel" "FieldTilesModel" "nodeFeature" "[I" ∈ lw_good := mt4 (List.mem_of_getElem? (i := 36) rfl) rfl
theorem wd_4_38 : Cond.laysFinal "FieldTilesModel" "FieldTilesModel" "nodeNumber" "[I" ∈ lw_good := mt4 (List.mem_of_getElem? (i := 38) rfl) rfl
theorem wd_4_40 : Cond.laysFinal "FieldTilesModel" "FieldTilesModel" "nodeMany" "[I" ∈ lw_good := mt4 (List.mem_of_getElem? (i := 40) rfl) rfl
theorem wd_4_42 : Cond.laysFinal "FieldTilesModel" "FieldTilesModel" "one" "[I" ∈ lw_good := mt4 (List.mem_of_getElem? (i := 42) rfl) rfl
theorem wd_4_44 : Cond.laysFinal "FieldTilesModel" "FieldTilesModel" "two" "[I" ∈ lw_good := mt4 (List.mem_of_getElem? (i := 44) rfl) rfl
theorem wd_4_46 : Cond.lays "FieldTilesModel" "FieldTilesModel" "ownCost" "I" ∈ lw_good := mt4 (List.mem_of_getElem? (i := 46) rfl) rfl
theorem wd_4_48 : Cond.lays "FieldTilesModel" "FieldTilesModel" "edgeCost" "I" ∈ lw_good := mt4 (List.mem_of_getElem? (i := 48) rfl) rfl
theorem wd_4_50 : Cond.laysFinal "FieldTilesModel" "FieldTilesModel" "fromSource" "[I" ∈ lw_good := mt4 (List.mem_of_getElem? (i := 50) rfl) rfl
theorem wd_4_52 : Cond.laysFinal "FieldTilesModel" "FieldTilesModel" "toSink" "[I" ∈ lw_good := mt4 (List.mem_of_getElem? (i := 52) rfl) rfl
theorem wd_4_54 : Cond.laysFinal "FieldTilesModel" "FieldTilesModel" "toNext" "[I" ∈ lw_good := mt4 (List.mem_of_getElem? (i := 54) rfl) rfl
theorem wd_4_56 : Cond.laysFinal "FieldTilesModel" "FieldTilesModel" "came" "[I" ∈ lw_good := mt4 (List.mem_of_getElem? (i := 56) rfl) rfl
theorem wd_4_58 : Cond.laysFinal "FieldTilesModel" "FieldTilesModel" "queue" "[I" ∈ lw_good := mt4 (List.mem_of_getElem? (i := 58) rfl) rfl
theorem wd_4_60 : Cond.laysFinal "FieldTilesModel" "FieldTilesModel" "mark" "[I" ∈ lw_good := mt4 (List.mem_of_getElem? (i := 60) rfl) rfl
theorem wd_4_62 : Cond.laysFinal "FieldTilesModel" "FieldTilesModel" "allowed" "[Z" ∈ lw_good := mt4 (List.mem_of_getElem? (i := 62) rfl) rfl
theorem wd_4_64 : Cond.laysFinal "FieldTilesModel" "FieldTilesModel" "rest" "[I" ∈ lw_good := mt4 (List.mem_of_getElem? (i := 64) rfl) rfl
theorem wd_4_66 : Cond.laysFinal "FieldTilesModel" "FieldTilesModel" "path" "[I" ∈ lw_good := mt4 (List.mem_of_getElem? (i := 66) rfl) rfl
theorem wd_4_68 : Cond.laysFinal "FieldTilesModel" "FieldTilesModel" "proofs" "[I" ∈ lw_good := mt4 (List.mem_of_getElem? (i := 68) rfl) rfl
theorem wd_4_71 : Cond.methodLink RL 17 yX9_reel ∈ lw_good := mt4 (List.mem_of_getElem? (i := 71) rfl) rfl
theorem wd_4_72 : Cond.instanceMethod yX9_reel ∈ lw_good := mt4 (List.mem_of_getElem? (i := 72) rfl) rfl
theorem wd_4_73 : Cond.selects RX9 yX9_reel yX9_reel ∈ lw_good := mt4 (List.mem_of_getElem? (i := 73) rfl) rfl
theorem wd_4_74 : Cond.code yX9_reel cX9_reel 5 (some .int) ∈ lw_good := mt4 (List.mem_of_getElem? (i := 74) rfl) rfl
theorem wd_4_75 : Cond.methodLink RX9 123 yX9_isReel ∈ lw_good := mt4 (List.mem_of_getElem? (i := 75) rfl) rfl
theorem wd_4_76 : Cond.static yX9_isReel ∈ lw_good := mt4 (List.mem_of_getElem? (i := 76) rfl) rfl
theorem wd_4_77 : Cond.code yX9_isReel cX9_isReel 1 (some .boolean) ∈ lw_good := mt4 (List.mem_of_getElem? (i := 77) rfl) rfl
theorem wd_4_78 : Cond.constantLong RX9 117 (17 : Int64) ∈ lw_good := mt4 (List.mem_of_getElem? (i := 78) rfl) rfl
theorem wd_4_79 : Cond.methodLink RX9 119 yX9_in ∈ lw_good := mt4 (List.mem_of_getElem? (i := 79) rfl) rfl
theorem wd_4_80 : Cond.static yX9_in ∈ lw_good := mt4 (List.mem_of_getElem? (i := 80) rfl) rfl
theorem wd_4_81 : Cond.code yX9_in cX9_in 6 (some .boolean) ∈ lw_good := mt4 (List.mem_of_getElem? (i := 81) rfl) rfl
theorem wd_4_82 : Cond.constantLong RX9 127 (2 : Int64) ∈ lw_good := mt4 (List.mem_of_getElem? (i := 82) rfl) rfl
theorem wd_4_83 : Cond.methodLink RX9 129 yX9_met ∈ lw_good := mt4 (List.mem_of_getElem? (i := 83) rfl) rfl
theorem wd_4_85 : Cond.instanceMethod yX9_met ∈ lw_good := mt4 (List.mem_of_getElem? (i := 85) rfl) rfl
theorem wd_4_86 : Cond.code yX9_met cX9_met 2 (some .int) ∈ lw_good := mt4 (List.mem_of_getElem? (i := 86) rfl) rfl
theorem wd_4_87 : Cond.methodLink RL 22 yX9_lose ∈ lw_good := mt4 (List.mem_of_getElem? (i := 87) rfl) rfl
theorem wd_4_88 : Cond.instanceMethod yX9_lose ∈ lw_good := mt4 (List.mem_of_getElem? (i := 88) rfl) rfl
theorem wd_4_89 : Cond.selects RX9 yX9_lose yX9_lose ∈ lw_good := mt4 (List.mem_of_getElem? (i := 89) rfl) rfl
theorem wd_4_90 : Cond.code yX9_lose cX9_lose 2 (some .int) ∈ lw_good := mt4 (List.mem_of_getElem? (i := 90) rfl) rfl
theorem wd_4_91 : Cond.methodLink RL 27 yX9_put ∈ lw_good := mt4 (List.mem_of_getElem? (i := 91) rfl) rfl
theorem wd_4_92 : Cond.instanceMethod yX9_put ∈ lw_good := mt4 (List.mem_of_getElem? (i := 92) rfl) rfl
theorem wd_4_93 : Cond.selects RX9 yX9_put yX9_put ∈ lw_good := mt4 (List.mem_of_getElem? (i := 93) rfl) rfl
theorem wd_4_94 : Cond.code yX9_put cX9_put 6 (some .int) ∈ lw_good := mt4 (List.mem_of_getElem? (i := 94) rfl) rfl
theorem wd_4_95 : Cond.methodLink RX9 133 yX9_lacks ∈ lw_good := mt4 (List.mem_of_getElem? (i := 95) rfl) rfl
theorem wd_4_97 : Cond.instanceMethod yX9_lacks ∈ lw_good := mt4 (List.mem_of_getElem? (i := 97) rfl) rfl
theorem wd_4_98 : Cond.code yX9_lacks cX9_lacks 4 (some .int) ∈ lw_good := mt4 (List.mem_of_getElem? (i := 98) rfl) rfl
theorem wd_4_99 : Cond.methodLink RX9 137 yX9_cut ∈ lw_good := mt4 (List.mem_of_getElem? (i := 99) rfl) rfl
theorem wd_4_100 : Cond.static yX9_cut ∈ lw_good := mt4 (List.mem_of_getElem? (i := 100) rfl) rfl
theorem wd_4_101 : Cond.code yX9_cut cX9_cut 2 (some .int) ∈ lw_good := mt4 (List.mem_of_getElem? (i := 101) rfl) rfl
theorem wd_4_102 : Cond.methodLink RL 31 yX9_get ∈ lw_good := mt4 (List.mem_of_getElem? (i := 102) rfl) rfl
theorem wd_4_103 : Cond.instanceMethod yX9_get ∈ lw_good := mt4 (List.mem_of_getElem? (i := 103) rfl) rfl
theorem wd_4_104 : Cond.selects RX9 yX9_get yX9_get ∈ lw_good := mt4 (List.mem_of_getElem? (i := 104) rfl) rfl
theorem wd_4_105 : Cond.code yX9_get cX9_get 4 (some .int) ∈ lw_good := mt4 (List.mem_of_getElem? (i := 105) rfl) rfl
theorem wd_4_106 : Cond.constant RX9 141 (-2147483648 : Int32) ∈ lw_good := mt4 (List.mem_of_getElem? (i := 106) rfl) rfl
theorem wd_4_107 : Cond.methodLink RL 36 yX9_copy ∈ lw_good := mt4 (List.mem_of_getElem? (i := 107) rfl) rfl
theorem wd_4_108 : Cond.instanceMethod yX9_copy ∈ lw_good := mt4 (List.mem_of_getElem? (i := 108) rfl) rfl
theorem wd_4_109 : Cond.selects RX9 yX9_copy yX9_copy ∈ lw_good := mt4 (List.mem_of_getElem? (i := 109) rfl) rfl
theorem wd_4_110 : Cond.code yX9_copy cX9_copy 7 (some .int) ∈ lw_good := mt4 (List.mem_of_getElem? (i := 110) rfl) rfl
theorem wd_4_111 : Cond.methodLink RL 40 yX9_paint ∈ lw_good := mt4 (List.mem_of_getElem? (i := 111) rfl) rfl
theorem wd_4_112 : Cond.instanceMethod yX9_paint ∈ lw_good := mt4 (List.mem_of_getElem? (i := 112) rfl) rfl
theorem wd_4_113 : Cond.selects RX9 yX9_paint yX9_paint ∈ lw_good := mt4 (List.mem_of_getElem? (i := 113) rfl) rfl
theorem wd_4_114 : Cond.code yX9_paint cX9_paint 6 (some .int) ∈ lw_good := mt4 (List.mem_of_getElem? (i := 114) rfl) rfl
theorem wd_4_115 : Cond.constantLong RX9 142 (63 : Int64) ∈ lw_good := mt4 (List.mem_of_getElem? (i := 115) rfl) rfl
theorem wd_4_116 : Cond.methodLink RL 45 yX9_clouds ∈ lw_good := mt4 (List.mem_of_getElem? (i := 116) rfl) rfl
theorem wd_4_117 : Cond.instanceMethod yX9_clouds ∈ lw_good := mt4 (List.mem_of_getElem? (i := 117) rfl) rfl
theorem wd_4_118 : Cond.selects RX9 yX9_clouds yX9_clouds ∈ lw_good := mt4 (List.mem_of_getElem? (i := 118) rfl) rfl
theorem wd_4_119 : Cond.code yX9_clouds cX9_clouds 3 (some .int) ∈ lw_good := mt4 (List.mem_of_getElem? (i := 119) rfl) rfl
theorem wd_4_120 : Cond.constantLong RX9 144 (1000 : Int64) ∈ lw_good := mt4 (List.mem_of_getElem? (i := 120) rfl) rfl
theorem wd_4_121 : Cond.constantLong RX9 148 (4 : Int64) ∈ lw_good := mt4 (List.mem_of_getElem? (i := 121) rfl) rfl
theorem wd_4_122 : Cond.methodLink RL 49 yX9_sun ∈ lw_good := mt4 (List.mem_of_getElem? (i := 122) rfl) rfl
theorem wd_4_123 : Cond.instanceMethod yX9_sun ∈ lw_good := mt4 (List.mem_of_getElem? (i := 123) rfl) rfl
theorem wd_4_124 : Cond.selects RX9 yX9_sun yX9_sun ∈ lw_good := mt4 (List.mem_of_getElem? (i := 124) rfl) rfl
theorem wd_4_125 : Cond.code yX9_sun cX9_sun 4 (some .int) ∈ lw_good := mt4 (List.mem_of_getElem? (i := 125) rfl) rfl
theorem wd_4_126 : Cond.methodLink RX9 150 yX9_isDate ∈ lw_good := mt4 (List.mem_of_getElem? (i := 126) rfl) rfl
theorem wd_4_127 : Cond.static yX9_isDate ∈ lw_good := mt4 (List.mem_of_getElem? (i := 127) rfl) rfl
theorem wd_4_128 : Cond.code yX9_isDate cX9_isDate 1 (some .boolean) ∈ lw_good := mt4 (List.mem_of_getElem? (i := 128) rfl) rfl
theorem wd_4_129 : Cond.constantLong RX9 146 (5 : Int64) ∈ lw_good := mt4 (List.mem_of_getElem? (i := 129) rfl) rfl
theorem wd_4_130 : Cond.constantLong RX9 153 (-2 : Int64) ∈ lw_good := mt4 (List.mem_of_getElem? (i := 130) rfl) rfl
theorem wd_4_131 : Cond.methodLink RL 53 yX9_sky ∈ lw_good := mt4 (List.mem_of_getElem? (i := 131) rfl) rfl
theorem wd_4_132 : Cond.instanceMethod yX9_sky ∈ lw_good := mt4 (List.mem_of_getElem? (i := 132) rfl) rfl
theorem wd_4_133 : Cond.selects RX9 yX9_sky yX9_sky ∈ lw_good := mt4 (List.mem_of_getElem? (i := 133) rfl) rfl
theorem wd_4_134 : Cond.code yX9_sky cX9_sky 3 (some .int) ∈ lw_good := mt4 (List.mem_of_getElem? (i := 134) rfl) rfl
theorem wd_4_135 : Cond.methodLink RX9 167 yX9_isCell ∈ lw_good := mt4 (List.mem_of_getElem? (i := 135) rfl) rfl
theorem wd_4_136 : Cond.static yX9_isCell ∈ lw_good := mt4 (List.mem_of_getElem? (i := 136) rfl) rfl
theorem wd_4_137 : Cond.code yX9_isCell cX9_isCell 1 (some .boolean) ∈ lw_good := mt4 (List.mem_of_getElem? (i := 137) rfl) rfl
theorem wd_4_138 : Cond.methodLink RX9 170 yX9_skyOf ∈ lw_good := mt4 (List.mem_of_getElem? (i := 138) rfl) rfl
theorem wd_4_140 : Cond.instanceMethod yX9_skyOf ∈ lw_good := mt4 (List.mem_of_getElem? (i := 140) rfl) rfl
theorem wd_4_141 : Cond.code yX9_skyOf cX9_skyOf 4 (some .int) ∈ lw_good := mt4 (List.mem_of_getElem? (i := 141) rfl) rfl
theorem wd_4_142 : Cond.methodLink RX9 155 yX9_reading ∈ lw_good := mt4 (List.mem_of_getElem? (i := 142) rfl) rfl
theorem wd_4_144 : Cond.instanceMethod yX9_reading ∈ lw_good := mt4 (List.mem_of_getElem? (i := 144) rfl) rfl
theorem wd_4_145 : Cond.code yX9_reading cX9_reading 6 (some .int) ∈ lw_good := mt4 (List.mem_of_getElem? (i := 145) rfl) rfl
theorem wd_4_146 : Cond.methodLink RX9 160 yX9_isCloud ∈ lw_good := mt4 (List.mem_of_getElem? (i := 146) rfl) rfl
theorem wd_4_148 : Cond.instanceMethod yX9_isCloud ∈ lw_good := mt4 (List.mem_of_getElem? (i := 148) rfl) rfl
theorem wd_4_149 : Cond.code yX9_isCloud cX9_isCloud 3 (some .boolean) ∈ lw_good := mt4 (List.mem_of_getElem? (i := 149) rfl) rfl
theorem wd_4_150 : Cond.methodLink RX9 164 yX9_isShadowed ∈ lw_good := mt4 (List.mem_of_getElem? (i := 150) rfl) rfl
theorem wd_4_152 : Cond.instanceMethod yX9_isShadowed ∈ lw_good := mt4 (List.mem_of_getElem? (i := 152) rfl) rfl
theorem wd_4_153 : Cond.code yX9_isShadowed cX9_isShadowed 7 (some .boolean) ∈ lw_good := mt4 (List.mem_of_getElem? (i := 153) rfl) rfl
theorem wd_4_154 : Cond.constantLong RX9 158 (7 : Int64) ∈ lw_good := mt4 (List.mem_of_getElem? (i := 154) rfl) rfl
theorem wd_4_155 : Cond.methodLink RL 57 yX9_feature ∈ lw_good := mt4 (List.mem_of_getElem? (i := 155) rfl) rfl
theorem wd_4_156 : Cond.instanceMethod yX9_feature ∈ lw_good := mt4 (List.mem_of_getElem? (i := 156) rfl) rfl
theorem wd_4_157 : Cond.selects RX9 yX9_feature yX9_feature ∈ lw_good := mt4 (List.mem_of_getElem? (i := 157) rfl) rfl
theorem wd_4_158 : Cond.code yX9_feature cX9_feature 4 (some .int) ∈ lw_good := mt4 (List.mem_of_getElem? (i := 158) rfl) rfl
theorem wd_4_159 : Cond.constantLong RX9 173 (3 : Int64) ∈ lw_good := mt4 (List.mem_of_getElem? (i := 159) rfl) rfl
theorem wd_4_160 : Cond.methodLink RX9 175 yX9_featureOf ∈ lw_good := mt4 (List.mem_of_getElem? (i := 160) rfl) rfl
theorem wd_4_162 : Cond.instanceMethod yX9_featureOf ∈ lw_good := mt4 (List.mem_of_getElem? (i := 162) rfl) rfl
theorem wd_4_163 : Cond.code yX9_featureOf cX9_featureOf 8 (some .int) ∈ lw_good := mt4 (List.mem_of_getElem? (i := 163) rfl) rfl
theorem wd_4_164 : Cond.methodLink RL 61 yX9_sample ∈ lw_good := mt4 (List.mem_of_getElem? (i := 164) rfl) rfl
theorem wd_4_165 : Cond.instanceMethod yX9_sample ∈ lw_good := mt4 (List.mem_of_getElem? (i := 165) rfl) rfl
theorem wd_4_166 : Cond.selects RX9 yX9_sample yX9_sample ∈ lw_good := mt4 (List.mem_of_getElem? (i := 166) rfl) rfl
theorem wd_4_167 : Cond.code yX9_sample cX9_sample 4 (some .int) ∈ lw_good := mt4 (List.mem_of_getElem? (i := 167) rfl) rfl
theorem wd_4_168 : Cond.methodLink RL 66 yX9_forget ∈ lw_good := mt4 (List.mem_of_getElem? (i := 168) rfl) rfl
theorem wd_4_169 : Cond.instanceMethod yX9_forget ∈ lw_good := mt4 (List.mem_of_getElem? (i := 169) rfl) rfl
theorem wd_4_170 : Cond.selects RX9 yX9_forget yX9_forget ∈ lw_good := mt4 (List.mem_of_getElem? (i := 170) rfl) rfl
theorem wd_4_171 : Cond.code yX9_forget cX9_forget 2 (some .int) ∈ lw_good := mt4 (List.mem_of_getElem? (i := 171) rfl) rfl
theorem wd_4_172 : Cond.methodLink RL 70 yX9_teaching ∈ lw_good := mt4 (List.mem_of_getElem? (i := 172) rfl) rfl
theorem wd_4_173 : Cond.instanceMethod yX9_teaching ∈ lw_good := mt4 (List.mem_of_getElem? (i := 173) rfl) rfl
theorem wd_4_174 : Cond.selects RX9 yX9_teaching yX9_teaching ∈ lw_good := mt4 (List.mem_of_getElem? (i := 174) rfl) rfl
theorem wd_4_175 : Cond.code yX9_teaching cX9_teaching 1 (some .int) ∈ lw_good := mt4 (List.mem_of_getElem? (i := 175) rfl) rfl
theorem wd_4_176 : Cond.methodLink RX9 184 yX9_findTeaching ∈ lw_good := mt4 (List.mem_of_getElem? (i := 176) rfl) rfl
theorem wd_4_178 : Cond.instanceMethod yX9_findTeaching ∈ lw_good := mt4 (List.mem_of_getElem? (i := 178) rfl) rfl
theorem wd_4_179 : Cond.code yX9_findTeaching cX9_findTeaching 3 none ∈ lw_good := mt4 (List.mem_of_getElem? (i := 179) rfl) rfl
theorem wd_4_180 : Cond.methodLink RL 74 yX9_grow ∈ lw_good := mt4 (List.mem_of_getElem? (i := 180) rfl) rfl
theorem wd_4_181 : Cond.instanceMethod yX9_grow ∈ lw_good := mt4 (List.mem_of_getElem? (i := 181) rfl) rfl
theorem wd_4_182 : Cond.selects RX9 yX9_grow yX9_grow ∈ lw_good := mt4 (List.mem_of_getElem? (i := 182) rfl) rfl
theorem wd_4_183 : Cond.code yX9_grow cX9_grow 3 (some .int) ∈ lw_good := mt4 (List.mem_of_getElem? (i := 183) rfl) rfl
theorem wd_4_184 : Cond.methodLink RL 78 yX9_tree ∈ lw_good := mt4 (List.mem_of_getElem? (i := 184) rfl) rfl
theorem wd_4_185 : Cond.instanceMethod yX9_tree ∈ lw_good := mt4 (List.mem_of_getElem? (i := 185) rfl) rfl
theorem wd_4_186 : Cond.selects RX9 yX9_tree yX9_tree ∈ lw_good := mt4 (List.mem_of_getElem? (i := 186) rfl) rfl
theorem wd_4_187 : Cond.code yX9_tree cX9_tree 3 (some .int) ∈ lw_good := mt4 (List.mem_of_getElem? (i := 187) rfl) rfl
theorem wd_4_188 : Cond.constantLong RX9 207 (14 : Int64) ∈ lw_good := mt4 (List.mem_of_getElem? (i := 188) rfl) rfl
theorem wd_4_189 : Cond.methodLink RX9 209 yX9_growTree ∈ lw_good := mt4 (List.mem_of_getElem? (i := 189) rfl) rfl
theorem wd_4_191 : Cond.instanceMethod yX9_growTree ∈ lw_good := mt4 (List.mem_of_getElem? (i := 191) rfl) rfl
theorem wd_4_192 : Cond.code yX9_growTree cX9_growTree 2 none ∈ lw_good := mt4 (List.mem_of_getElem? (i := 192) rfl) rfl
theorem wd_4_193 : Cond.methodLink RX9 203 yX9_growNode ∈ lw_good := mt4 (List.mem_of_getElem? (i := 193) rfl) rfl
theorem wd_4_195 : Cond.instanceMethod yX9_growNode ∈ lw_good := mt4 (List.mem_of_getElem? (i := 195) rfl) rfl
theorem wd_4_196 : Cond.code yX9_growNode cX9_growNode 21 none ∈ lw_good := mt4 (List.mem_of_getElem? (i := 196) rfl) rfl
theorem wd_4_197 : Cond.methodLink RX9 190 yX9_parts ∈ lw_good := mt4 (List.mem_of_getElem? (i := 197) rfl) rfl
theorem wd_4_199 : Cond.instanceMethod yX9_parts ∈ lw_good := mt4 (List.mem_of_getElem? (i := 199) rfl) rfl
theorem wd_4_200 : Cond.code yX9_parts cX9_parts 5 none ∈ lw_good := mt4 (List.mem_of_getElem? (i := 200) rfl) rfl
theorem wd_4_201 : Cond.methodLink RX9 194 yX9_levelOf ∈ lw_good := mt4 (List.mem_of_getElem? (i := 201) rfl) rfl
theorem wd_4_202 : Cond.static yX9_levelOf ∈ lw_good := mt4 (List.mem_of_getElem? (i := 202) rfl) rfl
theorem wd_4_203 : Cond.code yX9_levelOf cX9_levelOf 1 (some .int) ∈ lw_good := mt4 (List.mem_of_getElem? (i := 203) rfl) rfl
theorem wd_4_204 : Cond.constantLong RX9 197 (-1 : Int64) ∈ lw_good := mt4 (List.mem_of_getElem? (i := 204) rfl) rfl
theorem wd_4_205 : Cond.methodLink RX9 199 yX9_squares ∈ lw_good := mt4 (List.mem_of_getElem? (i := 205) rfl) rfl
theorem wd_4_206 : Cond.static yX9_squares ∈ lw_good := mt4 (List.mem_of_getElem? (i := 206) rfl) rfl
theorem wd_4_207 : Cond.code yX9_squares cX9_squares 4 (some .long) ∈ lw_good := mt4 (List.mem_of_getElem? (i := 207) rfl) rfl
theorem wd_4_208 : Cond.methodLink RL 82 yX9_kind ∈ lw_good := mt4 (List.mem_of_getElem? (i := 208) rfl) rfl
theorem wd_4_209 : Cond.instanceMethod yX9_kind ∈ lw_good := mt4 (List.mem_of_getElem? (i := 209) rfl) rfl
theorem wd_4_210 : Cond.selects RX9 yX9_kind yX9_kind ∈ lw_good := mt4 (List.mem_of_getElem? (i := 210) rfl) rfl
theorem wd_4_211 : Cond.code yX9_kind cX9_kind 3 (some .int) ∈ lw_good := mt4 (List.mem_of_getElem? (i := 211) rfl) rfl
theorem wd_4_212 : Cond.methodLink RX9 212 yX9_kindOf ∈ lw_good := mt4 (List.mem_of_getElem? (i := 212) rfl) rfl
theorem wd_4_214 : Cond.instanceMethod yX9_kindOf ∈ lw_good := mt4 (List.mem_of_getElem? (i := 214) rfl) rfl
theorem wd_4_215 : Cond.code yX9_kindOf cX9_kindOf 9 (some .int) ∈ lw_good := mt4 (List.mem_of_getElem? (i := 215) rfl) rfl
theorem wd_4_216 : Cond.methodLink RL 86 yX9_many ∈ lw_good := mt4 (List.mem_of_getElem? (i := 216) rfl) rfl
theorem wd_4_217 : Cond.instanceMethod yX9_many ∈ lw_good := mt4 (List.mem_of_getElem? (i := 217) rfl) rfl
theorem wd_4_218 : Cond.selects RX9 yX9_many yX9_many ∈ lw_good := mt4 (List.mem_of_getElem? (i := 218) rfl) rfl
theorem wd_4_219 : Cond.code yX9_many cX9_many 3 (some .int) ∈ lw_good := mt4 (List.mem_of_getElem? (i := 219) rfl) rfl
theorem wd_4_220 : Cond.methodLink RX9 215 yX9_countOf ∈ lw_good := mt4 (List.mem_of_getElem? (i := 220) rfl) rfl
theorem wd_4_222 : Cond.instanceMethod yX9_countOf ∈ lw_good := mt4 (List.mem_of_getElem? (i := 222) rfl) rfl
theorem wd_4_223 : Cond.code yX9_countOf cX9_countOf 5 (some .int) ∈ lw_good := mt4 (List.mem_of_getElem? (i := 223) rfl) rfl
theorem wd_4_224 : Cond.methodLink RL 90 yX9_weigh ∈ lw_good := mt4 (List.mem_of_getElem? (i := 224) rfl) rfl
theorem wd_4_225 : Cond.instanceMethod yX9_weigh ∈ lw_good := mt4 (List.mem_of_getElem? (i := 225) rfl) rfl
theorem wd_4_226 : Cond.selects RX9 yX9_weigh yX9_weigh ∈ lw_good := mt4 (List.mem_of_getElem? (i := 226) rfl) rfl
theorem wd_4_227 : Cond.code yX9_weigh cX9_weigh 3 (some .int) ∈ lw_good := mt4 (List.mem_of_getElem? (i := 227) rfl) rfl
theorem wd_4_228 : Cond.constantLong RX9 218 (100 : Int64) ∈ lw_good := mt4 (List.mem_of_getElem? (i := 228) rfl) rfl
theorem wd_4_229 : Cond.methodLink RL 94 yX9_smooth ∈ lw_good := mt4 (List.mem_of_getElem? (i := 229) rfl) rfl
theorem wd_4_230 : Cond.instanceMethod yX9_smooth ∈ lw_good := mt4 (List.mem_of_getElem? (i := 230) rfl) rfl
theorem wd_4_231 : Cond.selects RX9 yX9_smooth yX9_smooth ∈ lw_good := mt4 (List.mem_of_getElem? (i := 231) rfl) rfl
theorem wd_4_232 : Cond.code yX9_smooth cX9_smooth 6 (some .int) ∈ lw_good := mt4 (List.mem_of_getElem? (i := 232) rfl) rfl
theorem wd_4_233 : Cond.methodLink RX9 220 yX9_neighbour ∈ lw_good := mt4 (List.mem_of_getElem? (i := 233) rfl) rfl
theorem wd_4_234 : Cond.static yX9_neighbour ∈ lw_good := mt4 (List.mem_of_getElem? (i := 234) rfl) rfl
theorem wd_4_235 : Cond.code yX9_neighbour cX9_neighbour 4 (some .int) ∈ lw_good := mt4 (List.mem_of_getElem? (i := 235) rfl) rfl
theorem wd_4_236 : Cond.methodLink RX9 223 yX9_reach ∈ lw_good := mt4 (List.mem_of_getElem? (i := 236) rfl) rfl
theorem wd_4_238 : Cond.instanceMethod yX9_reach ∈ lw_good := mt4 (List.mem_of_getElem? (i := 238) rfl) rfl
theorem wd_4_239 : Cond.code yX9_reach cX9_reach 6 (some .int) ∈ lw_good := mt4 (List.mem_of_getElem? (i := 239) rfl) rfl
theorem wd_5_0 : Cond.methodLink RX9 227 yX9_fill ∈ lw_good := mt5 (List.mem_of_getElem? (i := 0) rfl) rfl
theorem wd_5_2 : Cond.instanceMethod yX9_fill ∈ lw_good := mt5 (List.mem_of_getElem? (i := 2) rfl) rfl
theorem wd_5_3 : Cond.code yX9_fill cX9_fill 5 (some .int) ∈ lw_good := mt5 (List.mem_of_getElem? (i := 3) rfl) rfl
theorem wd_5_4 : Cond.methodLink RL 98 yX9_mark ∈ lw_good := mt5 (List.mem_of_getElem? (i := 4) rfl) rfl
theorem wd_5_5 : Cond.instanceMethod yX9_mark ∈ lw_good := mt5 (List.mem_of_getElem? (i := 5) rfl) rfl
theorem wd_5_6 : Cond.selects RX9 yX9_mark yX9_mark ∈ lw_good := mt5 (List.mem_of_getElem? (i := 6) rfl) rfl
theorem wd_5_7 : Cond.code yX9_mark cX9_mark 2 (some .int) ∈ lw_good := mt5 (List.mem_of_getElem? (i := 7) rfl) rfl
theorem wd_5_8 : Cond.methodLink RL 103 yX9_allow ∈ lw_good := mt5 (List.mem_of_getElem? (i := 8) rfl) rfl
theorem wd_5_9 : Cond.instanceMethod yX9_allow ∈ lw_good := mt5 (List.mem_of_getElem? (i := 9) rfl) rfl
theorem wd_5_10 : Cond.selects RX9 yX9_allow yX9_allow ∈ lw_good := mt5 (List.mem_of_getElem? (i := 10) rfl) rfl
theorem wd_5_11 : Cond.code yX9_allow cX9_allow 4 (some .int) ∈ lw_good := mt5 (List.mem_of_getElem? (i := 11) rfl) rfl
theorem wd_5_12 : Cond.methodLink RL 107 yX9_path ∈ lw_good := mt5 (List.mem_of_getElem? (i := 12) rfl) rfl
theorem wd_5_13 : Cond.instanceMethod yX9_path ∈ lw_good := mt5 (List.mem_of_getElem? (i := 13) rfl) rfl
theorem wd_5_14 : Cond.selects RX9 yX9_path yX9_path ∈ lw_good := mt5 (List.mem_of_getElem? (i := 14) rfl) rfl
theorem wd_5_15 : Cond.code yX9_path cX9_path 2 (some .int) ∈ lw_good := mt5 (List.mem_of_getElem? (i := 15) rfl) rfl
theorem wd_5_16 : Cond.methodLink RX9 230 yX9_findPath ∈ lw_good := mt5 (List.mem_of_getElem? (i := 16) rfl) rfl
theorem wd_5_18 : Cond.instanceMethod yX9_findPath ∈ lw_good := mt5 (List.mem_of_getElem? (i := 18) rfl) rfl
theorem wd_5_19 : Cond.code yX9_findPath cX9_findPath 7 (some .int) ∈ lw_good := mt5 (List.mem_of_getElem? (i := 19) rfl) rfl
theorem wd_5_20 : Cond.methodLink RL 111 yX9_on ∈ lw_good := mt5 (List.mem_of_getElem? (i := 20) rfl) rfl
theorem wd_5_21 : Cond.instanceMethod yX9_on ∈ lw_good := mt5 (List.mem_of_getElem? (i := 21) rfl) rfl
theorem wd_5_22 : Cond.selects RX9 yX9_on yX9_on ∈ lw_good := mt5 (List.mem_of_getElem? (i := 22) rfl) rfl
theorem wd_5_23 : Cond.code yX9_on cX9_on 4 (some .int) ∈ lw_good := mt5 (List.mem_of_getElem? (i := 23) rfl) rfl
theorem wd_5_24 : Cond.methodLink RL 115 yX9_changed ∈ lw_good := mt5 (List.mem_of_getElem? (i := 24) rfl) rfl
theorem wd_5_25 : Cond.instanceMethod yX9_changed ∈ lw_good := mt5 (List.mem_of_getElem? (i := 25) rfl) rfl
theorem wd_5_26 : Cond.selects RX9 yX9_changed yX9_changed ∈ lw_good := mt5 (List.mem_of_getElem? (i := 26) rfl) rfl
theorem wd_5_27 : Cond.code yX9_changed cX9_changed 7 (some .int) ∈ lw_good := mt5 (List.mem_of_getElem? (i := 27) rfl) rfl
theorem wd_5_28 : Cond.methodLink RL 119 yX9_prove ∈ lw_good := mt5 (List.mem_of_getElem? (i := 28) rfl) rfl
theorem wd_5_29 : Cond.instanceMethod yX9_prove ∈ lw_good := mt5 (List.mem_of_getElem? (i := 29) rfl) rfl
theorem wd_5_30 : Cond.selects RX9 yX9_prove yX9_prove ∈ lw_good := mt5 (List.mem_of_getElem? (i := 30) rfl) rfl
theorem wd_5_31 : Cond.code yX9_prove cX9_prove 5 (some .int) ∈ lw_good := mt5 (List.mem_of_getElem? (i := 31) rfl) rfl
theorem wd_5_32 : Cond.methodLink RL 124 yX9_area ∈ lw_good := mt5 (List.mem_of_getElem? (i := 32) rfl) rfl
theorem wd_5_33 : Cond.instanceMethod yX9_area ∈ lw_good := mt5 (List.mem_of_getElem? (i := 33) rfl) rfl
theorem wd_5_34 : Cond.selects RX9 yX9_area yX9_area ∈ lw_good := mt5 (List.mem_of_getElem? (i := 34) rfl) rfl
theorem wd_5_35 : Cond.code yX9_area cX9_area 11 (some .long) ∈ lw_good := mt5 (List.mem_of_getElem? (i := 35) rfl) rfl
theorem wd_5_36 : Cond.constantLong RX9 233 (-2000 : Int64) ∈ lw_good := mt5 (List.mem_of_getElem? (i := 36) rfl) rfl
theorem wd_5_37 : Cond.constantLong RX9 235 (-2001 : Int64) ∈ lw_good := mt5 (List.mem_of_getElem? (i := 37) rfl) rfl
theorem wd_5_38 : Cond.methodLink RL 128 yX9_count ∈ lw_good := mt5 (List.mem_of_getElem? (i := 38) rfl) rfl
theorem wd_5_39 : Cond.instanceMethod yX9_count ∈ lw_good := mt5 (List.mem_of_getElem? (i := 39) rfl) rfl
theorem wd_5_40 : Cond.selects RX9 yX9_count yX9_count ∈ lw_good := mt5 (List.mem_of_getElem? (i := 40) rfl) rfl
theorem wd_5_41 : Cond.code yX9_count cX9_count 4 (some .int) ∈ lw_good := mt5 (List.mem_of_getElem? (i := 41) rfl) rfl
theorem wd_5_42 : Cond.methodLink RL 133 yX9_digest ∈ lw_good := mt5 (List.mem_of_getElem? (i := 42) rfl) rfl
theorem wd_5_43 : Cond.instanceMethod yX9_digest ∈ lw_good := mt5 (List.mem_of_getElem? (i := 43) rfl) rfl
theorem wd_5_44 : Cond.selects RX9 yX9_digest yX9_digest ∈ lw_good := mt5 (List.mem_of_getElem? (i := 44) rfl) rfl
theorem wd_5_45 : Cond.code yX9_digest cX9_digest 5 (some .long) ∈ lw_good := mt5 (List.mem_of_getElem? (i := 45) rfl) rfl
theorem wd_5_46 : Cond.constantLong RX9 237 (31 : Int64) ∈ lw_good := mt5 (List.mem_of_getElem? (i := 46) rfl) rfl
theorem wd_5_47 : Cond.methodLink RX9 239 yX9_count ∈ lw_good := mt5 (List.mem_of_getElem? (i := 47) rfl) rfl
theorem wd_0_0 : Cond.selects RX3 yX3_hasRun yX3_hasRun ∈ lw_good := List.mem_filter.mpr ⟨List.mem_append_left _ (List.mem_of_getElem? (i := 0) rfl), rfl⟩
theorem wd_0_1 : Cond.selects RX5 yX5_isShadowed yX5_isShadowed ∈ lw_good := List.mem_filter.mpr ⟨List.mem_append_left _ (List.mem_of_getElem? (i := 1) rfl), rfl⟩
theorem wd_0_2 : Cond.selects RX7 yX7_plant yX7_plant ∈ lw_good := List.mem_filter.mpr ⟨List.mem_append_left _ (List.mem_of_getElem? (i := 2) rfl), rfl⟩
theorem wd_0_3 : Cond.selects RX7 yX7_settle yX7_settle ∈ lw_good := List.mem_filter.mpr ⟨List.mem_append_left _ (List.mem_of_getElem? (i := 3) rfl), rfl⟩
theorem wd_0_4 : Cond.selects RX7 yX7_countClasses yX7_countClasses ∈ lw_good := List.mem_filter.mpr ⟨List.mem_append_left _ (List.mem_of_getElem? (i := 4) rfl), rfl⟩
theorem wd_0_5 : Cond.selects RX7 yX7_seekSplit yX7_seekSplit ∈ lw_good := List.mem_filter.mpr ⟨List.mem_append_left _ (List.mem_of_getElem? (i := 5) rfl), rfl⟩
theorem wd_0_6 : Cond.selects RX7 yX7_sort yX7_sort ∈ lw_good := List.mem_filter.mpr ⟨List.mem_append_left _ (List.mem_of_getElem? (i := 6) rfl), rfl⟩
theorem wd_0_7 : Cond.selects RX7 yX7_sweep yX7_sweep ∈ lw_good := List.mem_filter.mpr ⟨List.mem_append_left _ (List.mem_of_getElem? (i := 7) rfl), rfl⟩
theorem wd_0_8 : Cond.selects RX7 yX7_keepBetter yX7_keepBetter ∈ lw_good := List.mem_filter.mpr ⟨List.mem_append_left _ (List.mem_of_getElem? (i := 8) rfl), rfl⟩
theorem wd_0_9 : Cond.selects RX7 yX7_part yX7_part ∈ lw_good := List.mem_filter.mpr ⟨List.mem_append_left _ (List.mem_of_getElem? (i := 9) rfl), rfl⟩
theorem wd_0_10 : Cond.selects RX6 yX6_addCell yX6_addCell ∈ lw_good := List.mem_filter.mpr ⟨List.mem_append_left _ (List.mem_of_getElem? (i := 10) rfl), rfl⟩
theorem wd_0_11 : Cond.selects RX6 yX6_addMarks yX6_addMarks ∈ lw_good := List.mem_filter.mpr ⟨List.mem_append_left _ (List.mem_of_getElem? (i := 11) rfl), rfl⟩
theorem wd_0_12 : Cond.selects RX6 yX6_takeBest yX6_takeBest ∈ lw_good := List.mem_filter.mpr ⟨List.mem_append_left _ (List.mem_of_getElem? (i := 12) rfl), rfl⟩
theorem wd_0_13 : Cond.selects RX1 yX1_costAfter yX1_costAfter ∈ lw_good := List.mem_filter.mpr ⟨List.mem_append_left _ (List.mem_of_getElem? (i := 13) rfl), rfl⟩
theorem wd_0_14 : Cond.selects RX1 yX1_bestClass yX1_bestClass ∈ lw_good := List.mem_filter.mpr ⟨List.mem_append_left _ (List.mem_of_getElem? (i := 14) rfl), rfl⟩
theorem wd_0_15 : Cond.selects RX2 yX2_sumOf yX2_sumOf ∈ lw_good := List.mem_filter.mpr ⟨List.mem_append_left _ (List.mem_of_getElem? (i := 15) rfl), rfl⟩
theorem wd_0_16 : Cond.selects RX9 yX9_met yX9_met ∈ lw_good := List.mem_filter.mpr ⟨List.mem_append_left _ (List.mem_of_getElem? (i := 16) rfl), rfl⟩
theorem wd_0_17 : Cond.selects RX9 yX9_lacks yX9_lacks ∈ lw_good := List.mem_filter.mpr ⟨List.mem_append_left _ (List.mem_of_getElem? (i := 17) rfl), rfl⟩
theorem wd_0_18 : Cond.selects RX9 yX9_skyOf yX9_skyOf ∈ lw_good := List.mem_filter.mpr ⟨List.mem_append_left _ (List.mem_of_getElem? (i := 18) rfl), rfl⟩
theorem wd_0_19 : Cond.selects RX9 yX9_reading yX9_reading ∈ lw_good := List.mem_filter.mpr ⟨List.mem_append_left _ (List.mem_of_getElem? (i := 19) rfl), rfl⟩
theorem wd_0_20 : Cond.selects RX9 yX9_isCloud yX9_isCloud ∈ lw_good := List.mem_filter.mpr ⟨List.mem_append_left _ (List.mem_of_getElem? (i := 20) rfl), rfl⟩
theorem wd_0_21 : Cond.selects RX9 yX9_isShadowed yX9_isShadowed ∈ lw_good := List.mem_filter.mpr ⟨List.mem_append_left _ (List.mem_of_getElem? (i := 21) rfl), rfl⟩
theorem wd_0_22 : Cond.selects RX9 yX9_featureOf yX9_featureOf ∈ lw_good := List.mem_filter.mpr ⟨List.mem_append_left _ (List.mem_of_getElem? (i := 22) rfl), rfl⟩
theorem wd_0_23 : Cond.selects RX9 yX9_findTeaching yX9_findTeaching ∈ lw_good := List.mem_filter.mpr ⟨List.mem_append_left _ (List.mem_of_getElem? (i := 23) rfl), rfl⟩
theorem wd_0_24 : Cond.selects RX9 yX9_growTree yX9_growTree ∈ lw_good := List.mem_filter.mpr ⟨List.mem_append_left _ (List.mem_of_getElem? (i := 24) rfl), rfl⟩
theorem wd_0_25 : Cond.selects RX9 yX9_growNode yX9_growNode ∈ lw_good := List.mem_filter.mpr ⟨List.mem_append_left _ (List.mem_of_getElem? (i := 25) rfl), rfl⟩
theorem wd_0_26 : Cond.selects RX9 yX9_parts yX9_parts ∈ lw_good := List.mem_filter.mpr ⟨List.mem_append_left _ (List.mem_of_getElem? (i := 26) rfl), rfl⟩
theorem wd_0_27 : Cond.selects RX9 yX9_kindOf yX9_kindOf ∈ lw_good := List.mem_filter.mpr ⟨List.mem_append_left _ (List.mem_of_getElem? (i := 27) rfl), rfl⟩
theorem wd_0_28 : Cond.selects RX9 yX9_countOf yX9_countOf ∈ lw_good := List.mem_filter.mpr ⟨List.mem_append_left _ (List.mem_of_getElem? (i := 28) rfl), rfl⟩
theorem wd_0_29 : Cond.selects RX9 yX9_reach yX9_reach ∈ lw_good := List.mem_filter.mpr ⟨List.mem_append_left _ (List.mem_of_getElem? (i := 29) rfl), rfl⟩
theorem wd_0_30 : Cond.selects RX9 yX9_fill yX9_fill ∈ lw_good := List.mem_filter.mpr ⟨List.mem_append_left _ (List.mem_of_getElem? (i := 30) rfl), rfl⟩
theorem wd_0_31 : Cond.selects RX9 yX9_findPath yX9_findPath ∈ lw_good := List.mem_filter.mpr ⟨List.mem_append_left _ (List.mem_of_getElem? (i := 31) rfl), rfl⟩
theorem u_ws_in {C : String} {T : u_T} {N : Nat} {big : List Cond} (h : ∀ k, k < N → u_lay C T k ∈ big) : ∀ w ∈ u_ws C T N, w ∈ big := by
  intro w hw
  obtain ⟨k, hk, rfl⟩ := List.mem_map.mp hw
  exact h k (List.mem_range.mp hk)
theorem inX0 : ∀ w ∈ wsX00, w ∈ lw_good := u_ws_in (fun k hk => match k, hk with
  | 0, _ => wd_1_148
  | 1, _ => wd_1_150
  | 2, _ => wd_1_152
  | 3, _ => wd_1_154
  | 4, _ => wd_1_156
  | 5, _ => wd_1_158
  | 6, _ => wd_1_160
  | n + 7, h => absurd h (by omega))
theorem inX1 : ∀ w ∈ wsX10, w ∈ lw_good := u_ws_in (fun k hk => match k, hk with
  | 0, _ => wd_1_195
  | 1, _ => wd_1_197
  | 2, _ => wd_1_199
  | n + 3, h => absurd h (by omega))
theorem inX2 : ∀ w ∈ wsX20, w ∈ lw_good := u_ws_in (fun k hk => match k, hk with
  | 0, _ => wd_1_210
  | n + 1, h => absurd h (by omega))
theorem inX3 : ∀ w ∈ wsX30, w ∈ lw_good := u_ws_in (fun k hk => match k, hk with
  | 0, _ => wd_1_35
  | 1, _ => wd_1_37
  | 2, _ => wd_1_39
  | 3, _ => wd_1_41
  | n + 4, h => absurd h (by omega))
theorem inX4 : ∀ w ∈ wsX40, w ∈ lw_good := u_ws_in (fun k hk => match k, hk with
  | 0, _ => wd_1_80
  | 1, _ => wd_1_82
  | 2, _ => wd_1_84
  | 3, _ => wd_1_86
  | 4, _ => wd_1_88
  | 5, _ => wd_1_90
  | 6, _ => wd_1_92
  | n + 7, h => absurd h (by omega))
theorem inX5 : ∀ w ∈ wsX50, w ∈ lw_good := u_ws_in (fun k hk => match k, hk with
  | 0, _ => wd_1_56
  | 1, _ => wd_1_58
  | 2, _ => wd_1_60
  | 3, _ => wd_1_62
  | 4, _ => wd_1_64
  | n + 5, h => absurd h (by omega))
theorem inX6 : ∀ w ∈ wsX60, w ∈ lw_good := u_ws_in (fun k hk => match k, hk with
  | 0, _ => wd_1_174
  | 1, _ => wd_1_176
  | 2, _ => wd_1_178
  | 3, _ => wd_1_180
  | 4, _ => wd_1_182
  | n + 5, h => absurd h (by omega))
theorem inX7 : ∀ w ∈ wsX70, w ∈ lw_good := u_ws_in (fun k hk => match k, hk with
  | 0, _ => wd_1_118
  | 1, _ => wd_1_120
  | 2, _ => wd_1_122
  | 3, _ => wd_1_124
  | 4, _ => wd_1_126
  | 5, _ => wd_1_128
  | 6, _ => wd_1_130
  | 7, _ => wd_1_132
  | 8, _ => wd_1_134
  | 9, _ => wd_1_136
  | 10, _ => wd_1_138
  | n + 11, h => absurd h (by omega))
theorem inX8 : ∀ w ∈ wsX80, w ∈ lw_good := u_ws_in (fun k hk => match k, hk with
  | 0, _ => wd_1_220
  | 1, _ => wd_1_222
  | 2, _ => wd_1_224
  | 3, _ => wd_1_226
  | 4, _ => wd_1_228
  | 5, _ => wd_1_230
  | 6, _ => wd_1_232
  | n + 7, h => absurd h (by omega))
theorem inX9 : ∀ w ∈ wsX90, w ∈ lw_good := u_ws_in (fun k hk => match k, hk with
  | 0, _ => wd_3_234
  | 1, _ => wd_3_236
  | 2, _ => wd_3_238
  | 3, _ => wd_4_0
  | 4, _ => wd_4_2
  | 5, _ => wd_4_4
  | 6, _ => wd_4_6
  | 7, _ => wd_4_8
  | 8, _ => wd_4_10
  | 9, _ => wd_4_12
  | 10, _ => wd_4_14
  | 11, _ => wd_4_16
  | 12, _ => wd_4_18
  | 13, _ => wd_4_20
  | 14, _ => wd_4_22
  | 15, _ => wd_4_24
  | 16, _ => wd_4_26
  | 17, _ => wd_4_28
  | 18, _ => wd_4_30
  | 19, _ => wd_4_32
  | 20, _ => wd_4_34
  | 21, _ => wd_4_36
  | 22, _ => wd_4_38
  | 23, _ => wd_4_40
  | 24, _ => wd_4_42
  | 25, _ => wd_4_44
  | 26, _ => wd_4_46
  | 27, _ => wd_4_48
  | 28, _ => wd_4_50
  | 29, _ => wd_4_52
  | 30, _ => wd_4_54
  | 31, _ => wd_4_56
  | 32, _ => wd_4_58
  | 33, _ => wd_4_60
  | 34, _ => wd_4_62
  | 35, _ => wd_4_64
  | 36, _ => wd_4_66
  | 37, _ => wd_4_68
  | n + 38, h => absurd h (by omega))
theorem gAll {y : MethodName} {c : ByteArray} {n : Nat} {r : Option FieldType} (hc : Cond.code y c n r ∈ lw_good) : GoodIn lw_good (Cond.code y c n r :: lw_good) := by
  intro w hw
  have h : w ∈ lw_good := by
    rcases List.mem_cons.mp hw with rfl | h
    · exact hc
    · exact h
  exact ⟨h, good_of_word (List.mem_filter.mp h).2⟩
theorem gOne {w : Cond} (h : w ∈ lw_good) : GoodIn lw_good [w] := fun v hv => by
  have e := List.mem_singleton.mp hv
  subst e
  exact ⟨h, good_of_word (List.mem_filter.mp h).2⟩
theorem gApp {a b : List Cond} (ha : GoodIn lw_good a) (hb : GoodIn lw_good b) : GoodIn lw_good (a ++ b) := fun w h => (List.mem_append.mp h).elim (ha w) (hb w)
theorem gV {own C : String} {idx : Nat} {y : MethodName} {c : ByteArray} {n : Nat} {r : Option FieldType} (h1 : Cond.methodLink own idx y ∈ lw_good) (h2 : Cond.instanceMethod y ∈ lw_good) (h3 : Cond.selects C y y ∈ lw_good) (h4 : Cond.initialized C ∈ lw_good) (hc : Cond.code y c n r ∈ lw_good) : GoodIn lw_good (wsV own idx C y (Cond.code y c n r :: lw_good)) :=
  gApp (gApp (gOne h1) (gApp (gOne h2) (gApp (gOne h3) (gOne h4)))) (gAll hc)
theorem lw_good_of {args : Array Value} {s : State} (hts : ∀ w ∈ lw_tbl, w.before args s = true) : ∀ w ∈ lw_good, w.before args s = true := fun w h => hts w (List.mem_filter.mp h).1
