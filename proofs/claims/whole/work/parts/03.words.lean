theorem ml_X11_1 : Cond.methodLink RX11 1 ⟨"java/lang/Object", "<init>", "()V"⟩ ∈ Gw := gw_1 (List.mem_of_getElem? (i := 26) rfl) rfl
theorem cl_X11_7 : Cond.classLink RX11 7 "SecondSilence$Page" ∈ Gw := gw_1 (List.mem_of_getElem? (i := 29) rfl) rfl
theorem fl_X11_10 : Cond.fieldLink RX11 10 "SecondSilence" "page" "LSecondSilence$Page;" ∈ Gw := gw_1 (List.mem_of_getElem? (i := 214) rfl) rfl
theorem cl_X11_16 : Cond.classLink RX11 16 "SecondSilence$Course" ∈ Gw := gw_1 (List.mem_of_getElem? (i := 45) rfl) rfl
theorem fl_X11_19 : Cond.fieldLink RX11 19 "SecondSilence" "course" "LSecondSilence$Course;" ∈ Gw := gw_1 (List.mem_of_getElem? (i := 216) rfl) rfl
theorem fl_X11_23 : Cond.fieldLink RX11 23 "SecondSilence$Course" "hall" "LSecondSilence$Hall;" ∈ Gw := gw_1 (List.mem_of_getElem? (i := 116) rfl) rfl
theorem fl_X11_27 : Cond.fieldLink RX11 27 "SecondSilence" "hall" "LSecondSilence$Hall;" ∈ Gw := gw_1 (List.mem_of_getElem? (i := 215) rfl) rfl
theorem cl_X11_28 : Cond.classLink RX11 28 "SecondSilence$Hearing" ∈ Gw := gw_1 (List.mem_of_getElem? (i := 141) rfl) rfl
theorem fl_X11_31 : Cond.fieldLink RX11 31 "SecondSilence" "heard" "LSecondSilence$Hearing;" ∈ Gw := gw_1 (List.mem_of_getElem? (i := 217) rfl) rfl
theorem cl_X11_35 : Cond.classLink RX11 35 "SecondSilence$Image" ∈ Gw := gw_1 (List.mem_of_getElem? (i := 158) rfl) rfl
theorem fl_X11_38 : Cond.fieldLink RX11 38 "SecondSilence" "image" "LSecondSilence$Image;" ∈ Gw := gw_1 (List.mem_of_getElem? (i := 218) rfl) rfl
theorem cl_X11_42 : Cond.classLink RX11 42 "SecondSilence$Rests" ∈ Gw := gw_1 (List.mem_of_getElem? (i := 182) rfl) rfl
theorem fl_X11_45 : Cond.fieldLink RX11 45 "SecondSilence" "rests" "LSecondSilence$Rests;" ∈ Gw := gw_1 (List.mem_of_getElem? (i := 219) rfl) rfl
theorem ml_X11_49 : Cond.methodLink RX11 49 yX7_isFull ∈ Gw := gw_2 (List.mem_of_getElem? (i := 3) rfl) rfl
theorem ml_X11_53 : Cond.methodLink RX11 53 yX7_write ∈ Gw := gw_2 (List.mem_of_getElem? (i := 7) rfl) rfl
theorem fl_X11_57 : Cond.fieldLink RX11 57 "SecondSilence$Page" "length" "I" ∈ Gw := gw_1 (List.mem_of_getElem? (i := 38) rfl) rfl
theorem ml_X11_61 : Cond.methodLink RX11 61 yX7_faultPlace ∈ Gw := gw_2 (List.mem_of_getElem? (i := 19) rfl) rfl
theorem ml_X11_65 : Cond.methodLink RX11 65 yX7_isHall ∈ Gw := gw_2 (List.mem_of_getElem? (i := 127) rfl) rfl
theorem ml_X11_68 : Cond.methodLink RX11 68 yX7_readInto ∈ Gw := gw_2 (List.mem_of_getElem? (i := 132) rfl) rfl
theorem fl_X11_72 : Cond.fieldLink RX11 72 "SecondSilence$Hearing" "size" "I" ∈ Gw := gw_1 (List.mem_of_getElem? (i := 150) rfl) rfl
theorem fl_X11_75 : Cond.fieldLink RX11 75 "SecondSilence" "hallsRead" "I" ∈ Gw := gw_1 (List.mem_of_getElem? (i := 220) rfl) rfl
theorem fl_X11_78 : Cond.fieldLink RX11 78 "SecondSilence$Hall" "size" "I" ∈ Gw := gw_1 (List.mem_of_getElem? (i := 103) rfl) rfl
theorem ml_X11_81 : Cond.methodLink RX11 81 yX4_has ∈ Gw := gw_2 (List.mem_of_getElem? (i := 195) rfl) rfl
theorem ml_X11_85 : Cond.methodLink RX11 85 yX2_runAsItIs ∈ Gw := gw_2 (List.mem_of_getElem? (i := 199) rfl) rfl
theorem fl_X11_88 : Cond.fieldLink RX11 88 "SecondSilence$Hall" "seats" "[LSecondSilence$Bidder;" ∈ Gw := gw_1 (List.mem_of_getElem? (i := 98) rfl) rfl
theorem ml_X11_92 : Cond.methodLink RX11 92 yX0_kind ∈ Gw := gw_3 (List.mem_of_getElem? (i := 18) rfl) rfl
theorem fl_X11_97 : Cond.fieldLink RX11 97 "SecondSilence$Bidder" "wind" "I" ∈ Gw := gw_1 (List.mem_of_getElem? (i := 74) rfl) rfl
theorem fl_X11_100 : Cond.fieldLink RX11 100 "SecondSilence$Bidder" "sum" "I" ∈ Gw := gw_1 (List.mem_of_getElem? (i := 67) rfl) rfl
theorem fl_X11_103 : Cond.fieldLink RX11 103 "SecondSilence$Bidder" "wish" "I" ∈ Gw := gw_1 (List.mem_of_getElem? (i := 69) rfl) rfl
theorem fl_X11_106 : Cond.fieldLink RX11 106 "SecondSilence$Bidder" "choice" "I" ∈ Gw := gw_1 (List.mem_of_getElem? (i := 79) rfl) rfl
theorem fl_X11_109 : Cond.fieldLink RX11 109 "SecondSilence$Course" "stops" "[I" ∈ Gw := gw_1 (List.mem_of_getElem? (i := 121) rfl) rfl
theorem fl_X11_113 : Cond.fieldLink RX11 113 "SecondSilence$Course" "silences" "[I" ∈ Gw := gw_1 (List.mem_of_getElem? (i := 124) rfl) rfl
theorem ml_X11_116 : Cond.methodLink RX11 116 yX2_priceOf ∈ Gw := gw_3 (List.mem_of_getElem? (i := 35) rfl) rfl
theorem ml_X11_120 : Cond.methodLink RX11 120 yX2_gainOf ∈ Gw := gw_3 (List.mem_of_getElem? (i := 51) rfl) rfl
theorem fl_X11_123 : Cond.fieldLink RX11 123 "SecondSilence$Bidder" "touchers" "I" ∈ Gw := gw_1 (List.mem_of_getElem? (i := 83) rfl) rfl
theorem ml_X11_126 : Cond.methodLink RX11 126 yX11_isOfKind ∈ Gw := gw_3 (List.mem_of_getElem? (i := 60) rfl) rfl
theorem cl_X11_130 : Cond.classLink RX11 130 "SecondSilence$Tenor" ∈ Gw := gw_3 (List.mem_of_getElem? (i := 63) rfl) rfl
theorem cl_X11_132 : Cond.classLink RX11 132 "SecondSilence$Stammerer" ∈ Gw := gw_3 (List.mem_of_getElem? (i := 64) rfl) rfl
theorem cl_X11_134 : Cond.classLink RX11 134 "SecondSilence$Echoer" ∈ Gw := gw_3 (List.mem_of_getElem? (i := 65) rfl) rfl
theorem cl_X11_136 : Cond.classLink RX11 136 "SecondSilence$ChoirMan" ∈ Gw := gw_3 (List.mem_of_getElem? (i := 66) rfl) rfl
theorem fl_X11_138 : Cond.fieldLink RX11 138 "SecondSilence$Course" "getter" "I" ∈ Gw := gw_1 (List.mem_of_getElem? (i := 127) rfl) rfl
theorem ml_X11_141 : Cond.methodLink RX11 141 yX2_takeAsItIs ∈ Gw := gw_3 (List.mem_of_getElem? (i := 91) rfl) rfl
theorem ml_X11_144 : Cond.methodLink RX11 144 yX11_gainByChoice ∈ Gw := gw_3 (List.mem_of_getElem? (i := 92) rfl) rfl
theorem ml_X11_148 : Cond.methodLink RX11 148 yX2_supposeChoice ∈ Gw := gw_3 (List.mem_of_getElem? (i := 96) rfl) rfl
theorem ml_X11_152 : Cond.methodLink RX11 152 yX2_run ∈ Gw := gw_3 (List.mem_of_getElem? (i := 100) rfl) rfl
theorem fl_X11_155 : Cond.fieldLink RX11 155 "SecondSilence" "restsDone" "I" ∈ Gw := gw_1 (List.mem_of_getElem? (i := 221) rfl) rfl
theorem ml_X11_158 : Cond.methodLink RX11 158 yX8_find ∈ Gw := gw_3 (List.mem_of_getElem? (i := 105) rfl) rfl
theorem fl_X11_162 : Cond.fieldLink RX11 162 "SecondSilence$Rests" "howMany" "I" ∈ Gw := gw_1 (List.mem_of_getElem? (i := 196) rfl) rfl
theorem ml_X11_165 : Cond.methodLink RX11 165 yX8_choiceInFirst ∈ Gw := gw_3 (List.mem_of_getElem? (i := 146) rfl) rfl
theorem ml_X11_168 : Cond.methodLink RX11 168 yX5_isFull ∈ Gw := gw_3 (List.mem_of_getElem? (i := 154) rfl) rfl
theorem ml_X11_169 : Cond.methodLink RX11 169 yX5_add ∈ Gw := gw_3 (List.mem_of_getElem? (i := 158) rfl) rfl
theorem ml_X11_172 : Cond.methodLink RX11 172 yX2_supposeWind ∈ Gw := gw_3 (List.mem_of_getElem? (i := 170) rfl) rfl
theorem ml_X11_175 : Cond.methodLink RX11 175 yX5_agreesOn ∈ Gw := gw_3 (List.mem_of_getElem? (i := 174) rfl) rfl
theorem ml_X11_179 : Cond.methodLink RX11 179 yX5_agrees ∈ Gw := gw_3 (List.mem_of_getElem? (i := 182) rfl) rfl
theorem ml_X11_183 : Cond.methodLink RX11 183 yX11_explainsHeard ∈ Gw := gw_3 (List.mem_of_getElem? (i := 186) rfl) rfl
theorem ml_X11_187 : Cond.methodLink RX11 187 yX4_touches ∈ Gw := gw_3 (List.mem_of_getElem? (i := 190) rfl) rfl
theorem ml_X11_190 : Cond.methodLink RX11 190 yX2_supposeTouch ∈ Gw := gw_3 (List.mem_of_getElem? (i := 194) rfl) rfl
theorem ml_X11_193 : Cond.methodLink RX11 193 yX11_supposeDrawnChoices ∈ Gw := gw_3 (List.mem_of_getElem? (i := 202) rfl) rfl
theorem kc_X11_196 : Cond.constantLong RX11 196 1103515245 ∈ Gw := gw_3 (List.mem_of_getElem? (i := 206) rfl) rfl
theorem kc_X11_198 : Cond.constantLong RX11 198 12345 ∈ Gw := gw_3 (List.mem_of_getElem? (i := 207) rfl) rfl
theorem kc_X11_200 : Cond.constantLong RX11 200 2147483647 ∈ Gw := gw_3 (List.mem_of_getElem? (i := 208) rfl) rfl
theorem kc_X11_202 : Cond.constant RX11 202 65536 ∈ Gw := gw_3 (List.mem_of_getElem? (i := 209) rfl) rfl
theorem ml_X11_203 : Cond.methodLink RX11 203 yX6_keep ∈ Gw := gw_3 (List.mem_of_getElem? (i := 214) rfl) rfl
theorem ml_X11_207 : Cond.methodLink RX11 207 yX6_isOf ∈ Gw := gw_3 (List.mem_of_getElem? (i := 226) rfl) rfl
theorem ml_X11_210 : Cond.methodLink RX11 210 yX6_giveBack ∈ Gw := gw_3 (List.mem_of_getElem? (i := 230) rfl) rfl
theorem fl_X11_214 : Cond.fieldLink RX11 214 "SecondSilence$Hall" "fall" "I" ∈ Gw := gw_1 (List.mem_of_getElem? (i := 107) rfl) rfl
theorem ml_X11_217 : Cond.methodLink RX11 217 yX4_howManyHaveChosen ∈ Gw := gw_3 (List.mem_of_getElem? (i := 238) rfl) rfl
theorem ml_X11_220 : Cond.methodLink RX11 220 yX4_howManyTouches ∈ Gw := gw_4 (List.mem_of_getElem? (i := 2) rfl) rfl
theorem kc_X11_223 : Cond.constantLong RX11 223 911 ∈ Gw := gw_4 (List.mem_of_getElem? (i := 16) rfl) rfl
theorem kc_X11_225 : Cond.constantLong RX11 225 31 ∈ Gw := gw_4 (List.mem_of_getElem? (i := 17) rfl) rfl
theorem ml_X11_227 : Cond.methodLink RX11 227 yX11_lot ∈ Gw := gw_4 (List.mem_of_getElem? (i := 18) rfl) rfl
theorem ml_X11_230 : Cond.methodLink RX11 230 yX11_touched ∈ Gw := gw_4 (List.mem_of_getElem? (i := 19) rfl) rfl
theorem ml_X11_233 : Cond.methodLink RX11 233 yX11_digestWith ∈ Gw := gw_4 (List.mem_of_getElem? (i := 20) rfl) rfl
theorem fl_X11_237 : Cond.fieldLink RX11 237 "SecondSilence$Page" "codes" "[I" ∈ Gw := gw_1 (List.mem_of_getElem? (i := 36) rfl) rfl
theorem ml_X11_240 : Cond.methodLink RX11 240 yX11_count ∈ Gw := gw_4 (List.mem_of_getElem? (i := 27) rfl) rfl
theorem ml_X11_243 : Cond.methodLink RX11 243 yX11_about ∈ Gw := gw_4 (List.mem_of_getElem? (i := 24) rfl) rfl
theorem ml_X11_246 : Cond.methodLink RX11 246 yX11_best ∈ Gw := gw_4 (List.mem_of_getElem? (i := 25) rfl) rfl
theorem ml_X11_249 : Cond.methodLink RX11 249 yX11_winds ∈ Gw := gw_4 (List.mem_of_getElem? (i := 26) rfl) rfl
theorem ml_X0_3 : Cond.methodLink RX0 3 ⟨"java/lang/Object", "<init>", "()V"⟩ ∈ Gw := gw_1 (List.mem_of_getElem? (i := 63) rfl) rfl
theorem fl_X0_9 : Cond.fieldLink RX0 9 "SecondSilence$Bidder" "choice" "I" ∈ Gw := gw_1 (List.mem_of_getElem? (i := 75) rfl) rfl
theorem fl_X0_15 : Cond.fieldLink RX0 15 "SecondSilence$Bidder" "wind" "I" ∈ Gw := gw_1 (List.mem_of_getElem? (i := 71) rfl) rfl
theorem fl_X0_18 : Cond.fieldLink RX0 18 "SecondSilence$Bidder" "sum" "I" ∈ Gw := gw_1 (List.mem_of_getElem? (i := 64) rfl) rfl
theorem fl_X0_21 : Cond.fieldLink RX0 21 "SecondSilence$Bidder" "wish" "I" ∈ Gw := gw_1 (List.mem_of_getElem? (i := 68) rfl) rfl
theorem ml_X0_24 : Cond.methodLink RX0 24 yX0_breathsOf ∈ Gw := gw_2 (List.mem_of_getElem? (i := 216) rfl) rfl
theorem ml_X0_28 : Cond.methodLink RX0 28 ⟨"java/lang/Math", "min", "(II)I"⟩ ∈ Gw := gw_2 (List.mem_of_getElem? (i := 229) rfl) rfl
theorem ml_X0_34 : Cond.methodLink RX0 34 ⟨"java/lang/Math", "max", "(II)I"⟩ ∈ Gw := gw_3 (List.mem_of_getElem? (i := 50) rfl) rfl
theorem ml_X1_1 : Cond.methodLink RX1 1 yX10_init ∈ Gw := gw_2 (List.mem_of_getElem? (i := 184) rfl) rfl
theorem fl_X1_9 : Cond.fieldLink RX1 9 "SecondSilence$ChoirMan" "sum" "I" ∈ Gw := gw_1 (List.mem_of_getElem? (i := 65) rfl) rfl
theorem ml_X2_3 : Cond.methodLink RX2 3 ⟨"java/lang/Object", "<init>", "()V"⟩ ∈ Gw := gw_1 (List.mem_of_getElem? (i := 50) rfl) rfl
theorem cl_X2_9 : Cond.classLink RX2 9 "SecondSilence$Hall" ∈ Gw := gw_1 (List.mem_of_getElem? (i := 51) rfl) rfl
theorem ml_X2_11 : Cond.methodLink RX2 11 yX4_init ∈ Gw := gw_1 (List.mem_of_getElem? (i := 53) rfl) rfl
theorem fl_X2_12 : Cond.fieldLink RX2 12 "SecondSilence$Course" "hall" "LSecondSilence$Hall;" ∈ Gw := gw_1 (List.mem_of_getElem? (i := 115) rfl) rfl
theorem fl_X2_18 : Cond.fieldLink RX2 18 "SecondSilence$Course" "ends" "[I" ∈ Gw := gw_1 (List.mem_of_getElem? (i := 118) rfl) rfl
theorem fl_X2_22 : Cond.fieldLink RX2 22 "SecondSilence$Course" "touchers" "[I" ∈ Gw := gw_1 (List.mem_of_getElem? (i := 119) rfl) rfl
theorem fl_X2_25 : Cond.fieldLink RX2 25 "SecondSilence$Course" "stops" "[I" ∈ Gw := gw_1 (List.mem_of_getElem? (i := 120) rfl) rfl
theorem fl_X2_28 : Cond.fieldLink RX2 28 "SecondSilence$Course" "silences" "[I" ∈ Gw := gw_1 (List.mem_of_getElem? (i := 122) rfl) rfl
theorem fl_X2_31 : Cond.fieldLink RX2 31 "SecondSilence$Course" "getter" "I" ∈ Gw := gw_1 (List.mem_of_getElem? (i := 125) rfl) rfl
theorem fl_X2_35 : Cond.fieldLink RX2 35 "SecondSilence$Hall" "size" "I" ∈ Gw := gw_1 (List.mem_of_getElem? (i := 101) rfl) rfl
theorem fl_X2_38 : Cond.fieldLink RX2 38 "SecondSilence$Hall" "seats" "[LSecondSilence$Bidder;" ∈ Gw := gw_1 (List.mem_of_getElem? (i := 96) rfl) rfl
theorem fl_X2_42 : Cond.fieldLink RX2 42 "SecondSilence$Bidder" "choice" "I" ∈ Gw := gw_1 (List.mem_of_getElem? (i := 76) rfl) rfl
theorem fl_X2_47 : Cond.fieldLink RX2 47 "SecondSilence$Bidder" "wind" "I" ∈ Gw := gw_1 (List.mem_of_getElem? (i := 72) rfl) rfl
theorem ml_X2_50 : Cond.methodLink RX2 50 yX0_endBy ∈ Gw := gw_2 (List.mem_of_getElem? (i := 207) rfl) rfl
theorem fl_X2_54 : Cond.fieldLink RX2 54 "SecondSilence$Bidder" "touchers" "I" ∈ Gw := gw_1 (List.mem_of_getElem? (i := 80) rfl) rfl
theorem ml_X2_56 : Cond.methodLink RX2 56 yX2_takeAsItIs ∈ Gw := gw_2 (List.mem_of_getElem? (i := 203) rfl) rfl
theorem ml_X2_59 : Cond.methodLink RX2 59 yX2_run ∈ Gw := gw_2 (List.mem_of_getElem? (i := 230) rfl) rfl
theorem ml_X2_62 : Cond.methodLink RX2 62 yX2_findStops ∈ Gw := gw_2 (List.mem_of_getElem? (i := 234) rfl) rfl
theorem ml_X2_65 : Cond.methodLink RX2 65 yX0_echo ∈ Gw := gw_3 (List.mem_of_getElem? (i := 3) rfl) rfl
theorem ml_X2_69 : Cond.methodLink RX2 69 yX2_findGetter ∈ Gw := gw_3 (List.mem_of_getElem? (i := 14) rfl) rfl
theorem ml_X2_72 : Cond.methodLink RX2 72 yX2_stopByTouch ∈ Gw := gw_2 (List.mem_of_getElem? (i := 238) rfl) rfl
theorem ml_X2_76 : Cond.methodLink RX2 76 ⟨"java/lang/Math", "min", "(II)I"⟩ ∈ Gw := gw_3 (List.mem_of_getElem? (i := 2) rfl) rfl
theorem fl_X2_81 : Cond.fieldLink RX2 81 "SecondSilence$Hall" "fall" "I" ∈ Gw := gw_1 (List.mem_of_getElem? (i := 106) rfl) rfl
theorem ml_X2_84 : Cond.methodLink RX2 84 yX0_priceAt ∈ Gw := gw_3 (List.mem_of_getElem? (i := 39) rfl) rfl
theorem fl_X2_87 : Cond.fieldLink RX2 87 "SecondSilence$Bidder" "wish" "I" ∈ Gw := gw_1 (List.mem_of_getElem? (i := 70) rfl) rfl
theorem ml_X2_90 : Cond.methodLink RX2 90 yX2_priceOf ∈ Gw := gw_3 (List.mem_of_getElem? (i := 55) rfl) rfl
theorem ml_X3_1 : Cond.methodLink RX3 1 yX0_init ∈ Gw := gw_2 (List.mem_of_getElem? (i := 172) rfl) rfl
theorem ml_X4_3 : Cond.methodLink RX4 3 ⟨"java/lang/Object", "<init>", "()V"⟩ ∈ Gw := gw_1 (List.mem_of_getElem? (i := 56) rfl) rfl
theorem cl_X4_9 : Cond.classLink RX4 9 "SecondSilence$Bidder" ∈ Gw := gw_1 (List.mem_of_getElem? (i := 57) rfl) rfl
theorem fl_X4_11 : Cond.fieldLink RX4 11 "SecondSilence$Hall" "seats" "[LSecondSilence$Bidder;" ∈ Gw := gw_1 (List.mem_of_getElem? (i := 95) rfl) rfl
theorem ml_X4_17 : Cond.methodLink RX4 17 yX0_init ∈ Gw := gw_1 (List.mem_of_getElem? (i := 60) rfl) rfl
theorem fl_X4_20 : Cond.fieldLink RX4 20 "SecondSilence$Hall" "size" "I" ∈ Gw := gw_1 (List.mem_of_getElem? (i := 100) rfl) rfl
theorem ml_X4_24 : Cond.methodLink RX4 24 yX4_newBidder ∈ Gw := gw_2 (List.mem_of_getElem? (i := 140) rfl) rfl
theorem cl_X4_28 : Cond.classLink RX4 28 "SecondSilence$Tenor" ∈ Gw := gw_2 (List.mem_of_getElem? (i := 143) rfl) rfl
theorem ml_X4_30 : Cond.methodLink RX4 30 yX10_init ∈ Gw := gw_2 (List.mem_of_getElem? (i := 145) rfl) rfl
theorem cl_X4_31 : Cond.classLink RX4 31 "SecondSilence$Stammerer" ∈ Gw := gw_2 (List.mem_of_getElem? (i := 155) rfl) rfl
theorem ml_X4_33 : Cond.methodLink RX4 33 yX9_init ∈ Gw := gw_2 (List.mem_of_getElem? (i := 157) rfl) rfl
theorem cl_X4_34 : Cond.classLink RX4 34 "SecondSilence$Echoer" ∈ Gw := gw_2 (List.mem_of_getElem? (i := 167) rfl) rfl
theorem ml_X4_36 : Cond.methodLink RX4 36 yX3_init ∈ Gw := gw_2 (List.mem_of_getElem? (i := 169) rfl) rfl
theorem cl_X4_37 : Cond.classLink RX4 37 "SecondSilence$ChoirMan" ∈ Gw := gw_2 (List.mem_of_getElem? (i := 179) rfl) rfl
theorem ml_X4_39 : Cond.methodLink RX4 39 yX1_init ∈ Gw := gw_2 (List.mem_of_getElem? (i := 181) rfl) rfl
theorem fl_X4_40 : Cond.fieldLink RX4 40 "SecondSilence$Bidder" "touchers" "I" ∈ Gw := gw_1 (List.mem_of_getElem? (i := 82) rfl) rfl
theorem fl_X4_43 : Cond.fieldLink RX4 43 "SecondSilence$Bidder" "choice" "I" ∈ Gw := gw_1 (List.mem_of_getElem? (i := 78) rfl) rfl
theorem ml_X4_46 : Cond.methodLink RX4 46 ⟨"java/lang/Integer", "bitCount", "(I)I"⟩ ∈ Gw := gw_4 (List.mem_of_getElem? (i := 6) rfl) rfl
theorem ml_X5_1 : Cond.methodLink RX5 1 ⟨"java/lang/Object", "<init>", "()V"⟩ ∈ Gw := gw_1 (List.mem_of_getElem? (i := 146) rfl) rfl
theorem fl_X5_9 : Cond.fieldLink RX5 9 "SecondSilence$Hearing" "bidders" "[I" ∈ Gw := gw_1 (List.mem_of_getElem? (i := 147) rfl) rfl
theorem fl_X5_13 : Cond.fieldLink RX5 13 "SecondSilence$Hearing" "breaths" "[I" ∈ Gw := gw_1 (List.mem_of_getElem? (i := 148) rfl) rfl
theorem fl_X5_16 : Cond.fieldLink RX5 16 "SecondSilence$Hearing" "size" "I" ∈ Gw := gw_1 (List.mem_of_getElem? (i := 149) rfl) rfl
theorem fl_X5_20 : Cond.fieldLink RX5 20 "SecondSilence$Course" "silences" "[I" ∈ Gw := gw_1 (List.mem_of_getElem? (i := 123) rfl) rfl
theorem ml_X6_3 : Cond.methodLink RX6 3 ⟨"java/lang/Object", "<init>", "()V"⟩ ∈ Gw := gw_1 (List.mem_of_getElem? (i := 163) rfl) rfl
theorem fl_X6_9 : Cond.fieldLink RX6 9 "SecondSilence$Image" "winds" "[I" ∈ Gw := gw_1 (List.mem_of_getElem? (i := 166) rfl) rfl
theorem fl_X6_15 : Cond.fieldLink RX6 15 "SecondSilence$Image" "choices" "[I" ∈ Gw := gw_1 (List.mem_of_getElem? (i := 167) rfl) rfl
theorem fl_X6_18 : Cond.fieldLink RX6 18 "SecondSilence$Image" "touchers" "[I" ∈ Gw := gw_1 (List.mem_of_getElem? (i := 168) rfl) rfl
theorem cl_X6_21 : Cond.classLink RX6 21 "SecondSilence$Hearing" ∈ Gw := gw_1 (List.mem_of_getElem? (i := 164) rfl) rfl
theorem fl_X6_24 : Cond.fieldLink RX6 24 "SecondSilence$Image" "heard" "LSecondSilence$Hearing;" ∈ Gw := gw_1 (List.mem_of_getElem? (i := 169) rfl) rfl
theorem fl_X6_28 : Cond.fieldLink RX6 28 "SecondSilence$Image" "hallNumber" "I" ∈ Gw := gw_1 (List.mem_of_getElem? (i := 170) rfl) rfl
theorem fl_X6_32 : Cond.fieldLink RX6 32 "SecondSilence$Hall" "size" "I" ∈ Gw := gw_1 (List.mem_of_getElem? (i := 102) rfl) rfl
theorem fl_X6_37 : Cond.fieldLink RX6 37 "SecondSilence$Hall" "seats" "[LSecondSilence$Bidder;" ∈ Gw := gw_1 (List.mem_of_getElem? (i := 97) rfl) rfl
theorem fl_X6_41 : Cond.fieldLink RX6 41 "SecondSilence$Bidder" "wind" "I" ∈ Gw := gw_1 (List.mem_of_getElem? (i := 73) rfl) rfl
theorem fl_X6_46 : Cond.fieldLink RX6 46 "SecondSilence$Bidder" "choice" "I" ∈ Gw := gw_1 (List.mem_of_getElem? (i := 77) rfl) rfl
theorem fl_X6_49 : Cond.fieldLink RX6 49 "SecondSilence$Bidder" "touchers" "I" ∈ Gw := gw_1 (List.mem_of_getElem? (i := 81) rfl) rfl
theorem ml_X6_51 : Cond.methodLink RX6 51 yX5_copy ∈ Gw := gw_3 (List.mem_of_getElem? (i := 218) rfl) rfl
theorem ml_X7_3 : Cond.methodLink RX7 3 ⟨"java/lang/Object", "<init>", "()V"⟩ ∈ Gw := gw_1 (List.mem_of_getElem? (i := 34) rfl) rfl
theorem fl_X7_11 : Cond.fieldLink RX7 11 "SecondSilence$Page" "codes" "[I" ∈ Gw := gw_1 (List.mem_of_getElem? (i := 35) rfl) rfl
theorem fl_X7_15 : Cond.fieldLink RX7 15 "SecondSilence$Page" "length" "I" ∈ Gw := gw_1 (List.mem_of_getElem? (i := 37) rfl) rfl
theorem ml_X7_19 : Cond.methodLink RX7 19 yX7_fits ∈ Gw := gw_2 (List.mem_of_getElem? (i := 23) rfl) rfl
theorem ml_X7_23 : Cond.methodLink RX7 23 yX7_isDigit ∈ Gw := gw_2 (List.mem_of_getElem? (i := 26) rfl) rfl
theorem ml_X7_27 : Cond.methodLink RX7 27 yX7_kindOf ∈ Gw := gw_2 (List.mem_of_getElem? (i := 29) rfl) rfl
theorem ml_X7_31 : Cond.methodLink RX7 31 yX7_fitsBehindBidder ∈ Gw := gw_2 (List.mem_of_getElem? (i := 119) rfl) rfl
theorem ml_X7_37 : Cond.methodLink RX7 37 ⟨"java/lang/String", "indexOf", "(I)I"⟩ ∈ Gw := gw_2 (List.mem_of_getElem? (i := 33) rfl) rfl
theorem ml_X7_42 : Cond.methodLink RX7 42 yX7_faultPlace ∈ Gw := gw_2 (List.mem_of_getElem? (i := 131) rfl) rfl
theorem fl_X7_46 : Cond.fieldLink RX7 46 "SecondSilence$Hall" "size" "I" ∈ Gw := gw_1 (List.mem_of_getElem? (i := 104) rfl) rfl
theorem ml_X7_51 : Cond.methodLink RX7 51 yX4_seat ∈ Gw := gw_2 (List.mem_of_getElem? (i := 136) rfl) rfl
theorem fl_X7_55 : Cond.fieldLink RX7 55 "SecondSilence$Hall" "fall" "I" ∈ Gw := gw_1 (List.mem_of_getElem? (i := 105) rfl) rfl
theorem ml_X8_3 : Cond.methodLink RX8 3 ⟨"java/lang/Object", "<init>", "()V"⟩ ∈ Gw := gw_1 (List.mem_of_getElem? (i := 187) rfl) rfl
theorem fl_X8_11 : Cond.fieldLink RX8 11 "SecondSilence$Rests" "getters" "[I" ∈ Gw := gw_1 (List.mem_of_getElem? (i := 188) rfl) rfl
theorem fl_X8_15 : Cond.fieldLink RX8 15 "SecondSilence$Rests" "gains" "[I" ∈ Gw := gw_1 (List.mem_of_getElem? (i := 189) rfl) rfl
theorem fl_X8_18 : Cond.fieldLink RX8 18 "SecondSilence$Rests" "weights" "[I" ∈ Gw := gw_1 (List.mem_of_getElem? (i := 190) rfl) rfl
theorem fl_X8_21 : Cond.fieldLink RX8 21 "SecondSilence$Rests" "choices" "[I" ∈ Gw := gw_1 (List.mem_of_getElem? (i := 191) rfl) rfl
theorem fl_X8_24 : Cond.fieldLink RX8 24 "SecondSilence$Rests" "firstChoices" "[I" ∈ Gw := gw_1 (List.mem_of_getElem? (i := 192) rfl) rfl
theorem fl_X8_27 : Cond.fieldLink RX8 27 "SecondSilence$Course" "hall" "LSecondSilence$Hall;" ∈ Gw := gw_1 (List.mem_of_getElem? (i := 117) rfl) rfl
theorem fl_X8_33 : Cond.fieldLink RX8 33 "SecondSilence$Hall" "size" "I" ∈ Gw := gw_1 (List.mem_of_getElem? (i := 99) rfl) rfl
theorem fl_X8_39 : Cond.fieldLink RX8 39 "SecondSilence$Rests" "size" "I" ∈ Gw := gw_1 (List.mem_of_getElem? (i := 193) rfl) rfl
theorem fl_X8_40 : Cond.fieldLink RX8 40 "SecondSilence$Rests" "breaths" "I" ∈ Gw := gw_1 (List.mem_of_getElem? (i := 194) rfl) rfl
theorem ml_X8_43 : Cond.methodLink RX8 43 yX8_weigh ∈ Gw := gw_3 (List.mem_of_getElem? (i := 109) rfl) rfl
theorem ml_X8_47 : Cond.methodLink RX8 47 yX8_tryAll ∈ Gw := gw_3 (List.mem_of_getElem? (i := 114) rfl) rfl
theorem fl_X8_51 : Cond.fieldLink RX8 51 "SecondSilence$Rests" "howMany" "I" ∈ Gw := gw_1 (List.mem_of_getElem? (i := 195) rfl) rfl
theorem ml_X8_54 : Cond.methodLink RX8 54 yX8_chooseFirst ∈ Gw := gw_3 (List.mem_of_getElem? (i := 119) rfl) rfl
theorem ml_X8_57 : Cond.methodLink RX8 57 yX8_isRest ∈ Gw := gw_3 (List.mem_of_getElem? (i := 130) rfl) rfl
theorem ml_X8_61 : Cond.methodLink RX8 61 yX8_keepIfFirst ∈ Gw := gw_3 (List.mem_of_getElem? (i := 142) rfl) rfl
theorem ml_X8_64 : Cond.methodLink RX8 64 yX8_chooseNext ∈ Gw := gw_3 (List.mem_of_getElem? (i := 126) rfl) rfl
theorem ml_X8_67 : Cond.methodLink RX8 67 ⟨"java/lang/Math", "min", "(II)I"⟩ ∈ Gw := gw_3 (List.mem_of_getElem? (i := 113) rfl) rfl
theorem ml_X8_73 : Cond.methodLink RX8 73 yX2_takeAsItIs ∈ Gw := gw_3 (List.mem_of_getElem? (i := 118) rfl) rfl
theorem ml_X8_76 : Cond.methodLink RX8 76 yX2_supposeChoice ∈ Gw := gw_3 (List.mem_of_getElem? (i := 123) rfl) rfl
theorem ml_X8_80 : Cond.methodLink RX8 80 yX2_run ∈ Gw := gw_3 (List.mem_of_getElem? (i := 124) rfl) rfl
theorem fl_X8_83 : Cond.fieldLink RX8 83 "SecondSilence$Course" "getter" "I" ∈ Gw := gw_1 (List.mem_of_getElem? (i := 126) rfl) rfl
theorem ml_X8_86 : Cond.methodLink RX8 86 yX2_gainOf ∈ Gw := gw_3 (List.mem_of_getElem? (i := 125) rfl) rfl
theorem ml_X8_90 : Cond.methodLink RX8 90 yX8_wouldChange ∈ Gw := gw_3 (List.mem_of_getElem? (i := 134) rfl) rfl
theorem ml_X8_94 : Cond.methodLink RX8 94 yX8_gainIn ∈ Gw := gw_3 (List.mem_of_getElem? (i := 138) rfl) rfl
theorem ml_X9_1 : Cond.methodLink RX9 1 yX0_init ∈ Gw := gw_2 (List.mem_of_getElem? (i := 160) rfl) rfl
theorem ml_X10_1 : Cond.methodLink RX10 1 yX0_init ∈ Gw := gw_2 (List.mem_of_getElem? (i := 148) rfl) rfl
theorem cl_L_7 : Cond.classLink RL 7 "SecondSilence" ∈ Gw := gw_1 (List.mem_of_getElem? (i := 21) rfl) rfl
theorem ml_L_9 : Cond.methodLink RL 9 yX11_init ∈ Gw := gw_1 (List.mem_of_getElem? (i := 23) rfl) rfl
theorem cl_L_10 : Cond.classLink RL 10 "SecondSilenceModel" ∈ Gw := gw_4 (List.mem_of_getElem? (i := 28) rfl) rfl
theorem ml_L_12 : Cond.methodLink RL 12 yX12_init ∈ Gw := gw_4 (List.mem_of_getElem? (i := 30) rfl) rfl
theorem ml_L_13 : Cond.methodLink RL 13 yX11_letter ∈ Gw := gw_1 (List.mem_of_getElem? (i := 239) rfl) rfl
theorem ml_L_17 : Cond.methodLink RL 17 yX12_letter ∈ Gw := gw_4 (List.mem_of_getElem? (i := 122) rfl) rfl
theorem ml_L_18 : Cond.methodLink RL 18 yX11_blank ∈ Gw := gw_2 (List.mem_of_getElem? (i := 11) rfl) rfl
theorem ml_L_22 : Cond.methodLink RL 22 yX12_blank ∈ Gw := gw_4 (List.mem_of_getElem? (i := 129) rfl) rfl
theorem ml_L_23 : Cond.methodLink RL 23 yX11_fault ∈ Gw := gw_2 (List.mem_of_getElem? (i := 15) rfl) rfl
theorem ml_L_26 : Cond.methodLink RL 26 yX12_fault ∈ Gw := gw_4 (List.mem_of_getElem? (i := 133) rfl) rfl
theorem ml_L_27 : Cond.methodLink RL 27 yX11_hall ∈ Gw := gw_2 (List.mem_of_getElem? (i := 123) rfl) rfl
theorem ml_L_30 : Cond.methodLink RL 30 yX12_hall ∈ Gw := gw_4 (List.mem_of_getElem? (i := 152) rfl) rfl
theorem ml_L_31 : Cond.methodLink RL 31 yX11_about ∈ Gw := gw_2 (List.mem_of_getElem? (i := 191) rfl) rfl
theorem ml_L_35 : Cond.methodLink RL 35 yX12_about ∈ Gw := gw_4 (List.mem_of_getElem? (i := 156) rfl) rfl
theorem ml_L_36 : Cond.methodLink RL 36 yX11_as ∈ Gw := gw_3 (List.mem_of_getElem? (i := 56) rfl) rfl
theorem ml_L_39 : Cond.methodLink RL 39 yX12_as ∈ Gw := gw_4 (List.mem_of_getElem? (i := 204) rfl) rfl
theorem ml_L_40 : Cond.methodLink RL 40 yX11_choose ∈ Gw := gw_3 (List.mem_of_getElem? (i := 67) rfl) rfl
theorem ml_L_43 : Cond.methodLink RL 43 yX12_choose ∈ Gw := gw_4 (List.mem_of_getElem? (i := 208) rfl) rfl
theorem ml_L_44 : Cond.methodLink RL 44 yX11_wind ∈ Gw := gw_3 (List.mem_of_getElem? (i := 71) rfl) rfl
theorem ml_L_47 : Cond.methodLink RL 47 yX12_wind ∈ Gw := gw_4 (List.mem_of_getElem? (i := 212) rfl) rfl
theorem ml_L_48 : Cond.methodLink RL 48 yX11_touch ∈ Gw := gw_3 (List.mem_of_getElem? (i := 75) rfl) rfl
theorem ml_L_52 : Cond.methodLink RL 52 yX12_touch ∈ Gw := gw_4 (List.mem_of_getElem? (i := 216) rfl) rfl
theorem ml_L_53 : Cond.methodLink RL 53 yX11_saying ∈ Gw := gw_3 (List.mem_of_getElem? (i := 79) rfl) rfl
theorem ml_L_56 : Cond.methodLink RL 56 yX12_saying ∈ Gw := gw_4 (List.mem_of_getElem? (i := 220) rfl) rfl
theorem ml_L_57 : Cond.methodLink RL 57 yX11_lot ∈ Gw := gw_3 (List.mem_of_getElem? (i := 83) rfl) rfl
theorem ml_L_60 : Cond.methodLink RL 60 yX12_lot ∈ Gw := gw_4 (List.mem_of_getElem? (i := 228) rfl) rfl
theorem ml_L_61 : Cond.methodLink RL 61 yX11_best ∈ Gw := gw_3 (List.mem_of_getElem? (i := 87) rfl) rfl
theorem ml_L_64 : Cond.methodLink RL 64 yX12_best ∈ Gw := gw_4 (List.mem_of_getElem? (i := 236) rfl) rfl
theorem ml_L_65 : Cond.methodLink RL 65 yX11_rests ∈ Gw := gw_3 (List.mem_of_getElem? (i := 101) rfl) rfl
theorem ml_L_68 : Cond.methodLink RL 68 yX12_rests ∈ Gw := gw_5 (List.mem_of_getElem? (i := 8) rfl) rfl
theorem ml_L_69 : Cond.methodLink RL 69 yX11_hear ∈ Gw := gw_3 (List.mem_of_getElem? (i := 150) rfl) rfl
theorem ml_L_72 : Cond.methodLink RL 72 yX12_hear ∈ Gw := gw_5 (List.mem_of_getElem? (i := 32) rfl) rfl
theorem ml_L_73 : Cond.methodLink RL 73 yX11_forget ∈ Gw := gw_3 (List.mem_of_getElem? (i := 162) rfl) rfl
theorem ml_L_76 : Cond.methodLink RL 76 yX12_forget ∈ Gw := gw_5 (List.mem_of_getElem? (i := 36) rfl) rfl
theorem ml_L_77 : Cond.methodLink RL 77 yX11_winds ∈ Gw := gw_3 (List.mem_of_getElem? (i := 166) rfl) rfl
theorem ml_L_80 : Cond.methodLink RL 80 yX12_winds ∈ Gw := gw_5 (List.mem_of_getElem? (i := 40) rfl) rfl
theorem ml_L_81 : Cond.methodLink RL 81 yX11_touched ∈ Gw := gw_3 (List.mem_of_getElem? (i := 178) rfl) rfl
theorem ml_L_84 : Cond.methodLink RL 84 yX12_touched ∈ Gw := gw_5 (List.mem_of_getElem? (i := 52) rfl) rfl
theorem ml_L_85 : Cond.methodLink RL 85 yX11_sales ∈ Gw := gw_3 (List.mem_of_getElem? (i := 198) rfl) rfl
theorem ml_L_89 : Cond.methodLink RL 89 yX12_sales ∈ Gw := gw_5 (List.mem_of_getElem? (i := 64) rfl) rfl
theorem ml_L_90 : Cond.methodLink RL 90 yX11_image ∈ Gw := gw_3 (List.mem_of_getElem? (i := 210) rfl) rfl
theorem ml_L_93 : Cond.methodLink RL 93 yX12_image ∈ Gw := gw_5 (List.mem_of_getElem? (i := 80) rfl) rfl
theorem ml_L_94 : Cond.methodLink RL 94 yX11_restore ∈ Gw := gw_3 (List.mem_of_getElem? (i := 222) rfl) rfl
theorem ml_L_97 : Cond.methodLink RL 97 yX12_restore ∈ Gw := gw_5 (List.mem_of_getElem? (i := 84) rfl) rfl
theorem ml_L_98 : Cond.methodLink RL 98 yX11_count ∈ Gw := gw_3 (List.mem_of_getElem? (i := 234) rfl) rfl
theorem ml_L_101 : Cond.methodLink RL 101 yX12_count ∈ Gw := gw_5 (List.mem_of_getElem? (i := 88) rfl) rfl
theorem ml_L_102 : Cond.methodLink RL 102 yX11_digest ∈ Gw := gw_4 (List.mem_of_getElem? (i := 12) rfl) rfl
theorem ml_L_106 : Cond.methodLink RL 106 yX12_digest ∈ Gw := gw_5 (List.mem_of_getElem? (i := 104) rfl) rfl
theorem ml_X12_1 : Cond.methodLink RX12 1 ⟨"java/lang/Object", "<init>", "()V"⟩ ∈ Gw := gw_4 (List.mem_of_getElem? (i := 33) rfl) rfl
theorem fl_X12_7 : Cond.fieldLink RX12 7 "SecondSilenceModel" "kindOf" "[I" ∈ Gw := gw_4 (List.mem_of_getElem? (i := 37) rfl) rfl
theorem fl_X12_13 : Cond.fieldLink RX12 13 "SecondSilenceModel" "windOf" "[I" ∈ Gw := gw_4 (List.mem_of_getElem? (i := 38) rfl) rfl
theorem fl_X12_16 : Cond.fieldLink RX12 16 "SecondSilenceModel" "sumOf" "[I" ∈ Gw := gw_4 (List.mem_of_getElem? (i := 39) rfl) rfl
theorem fl_X12_19 : Cond.fieldLink RX12 19 "SecondSilenceModel" "wishOf" "[I" ∈ Gw := gw_4 (List.mem_of_getElem? (i := 40) rfl) rfl
theorem fl_X12_22 : Cond.fieldLink RX12 22 "SecondSilenceModel" "choiceOf" "[I" ∈ Gw := gw_4 (List.mem_of_getElem? (i := 41) rfl) rfl
theorem fl_X12_25 : Cond.fieldLink RX12 25 "SecondSilenceModel" "touchedBy" "[I" ∈ Gw := gw_4 (List.mem_of_getElem? (i := 42) rfl) rfl
theorem fl_X12_28 : Cond.fieldLink RX12 28 "SecondSilenceModel" "heardBidder" "[I" ∈ Gw := gw_4 (List.mem_of_getElem? (i := 44) rfl) rfl
theorem fl_X12_31 : Cond.fieldLink RX12 31 "SecondSilenceModel" "heardBreath" "[I" ∈ Gw := gw_4 (List.mem_of_getElem? (i := 45) rfl) rfl
theorem fl_X12_34 : Cond.fieldLink RX12 34 "SecondSilenceModel" "page" "[B" ∈ Gw := gw_4 (List.mem_of_getElem? (i := 48) rfl) rfl
theorem fl_X12_38 : Cond.fieldLink RX12 38 "SecondSilenceModel" "stopsAt" "[I" ∈ Gw := gw_4 (List.mem_of_getElem? (i := 51) rfl) rfl
theorem fl_X12_41 : Cond.fieldLink RX12 41 "SecondSilenceModel" "saved" "[I" ∈ Gw := gw_4 (List.mem_of_getElem? (i := 52) rfl) rfl
theorem fl_X12_44 : Cond.fieldLink RX12 44 "SecondSilenceModel" "keptWind" "[I" ∈ Gw := gw_4 (List.mem_of_getElem? (i := 57) rfl) rfl
theorem fl_X12_47 : Cond.fieldLink RX12 47 "SecondSilenceModel" "keptChoice" "[I" ∈ Gw := gw_4 (List.mem_of_getElem? (i := 58) rfl) rfl
theorem fl_X12_50 : Cond.fieldLink RX12 50 "SecondSilenceModel" "keptTouched" "[I" ∈ Gw := gw_4 (List.mem_of_getElem? (i := 59) rfl) rfl
theorem fl_X12_53 : Cond.fieldLink RX12 53 "SecondSilenceModel" "keptBidder" "[I" ∈ Gw := gw_4 (List.mem_of_getElem? (i := 60) rfl) rfl
theorem fl_X12_56 : Cond.fieldLink RX12 56 "SecondSilenceModel" "keptBreath" "[I" ∈ Gw := gw_4 (List.mem_of_getElem? (i := 61) rfl) rfl
theorem ml_X12_59 : Cond.methodLink RX12 59 yX12_within ∈ Gw := gw_4 (List.mem_of_getElem? (i := 126) rfl) rfl
theorem fl_X12_63 : Cond.fieldLink RX12 63 "SecondSilenceModel" "pageLength" "I" ∈ Gw := gw_4 (List.mem_of_getElem? (i := 47) rfl) rfl
theorem ml_X12_67 : Cond.methodLink RX12 67 yX12_kindBy ∈ Gw := gw_4 (List.mem_of_getElem? (i := 145) rfl) rfl
theorem ml_X12_71 : Cond.methodLink RX12 71 yX12_isFigure ∈ Gw := gw_4 (List.mem_of_getElem? (i := 148) rfl) rfl
theorem fl_X12_75 : Cond.fieldLink RX12 75 "SecondSilenceModel" "isWhole" "Z" ∈ Gw := gw_4 (List.mem_of_getElem? (i := 49) rfl) rfl
theorem fl_X12_79 : Cond.fieldLink RX12 79 "SecondSilenceModel" "newMany" "I" ∈ Gw := gw_4 (List.mem_of_getElem? (i := 50) rfl) rfl
theorem ml_X12_82 : Cond.methodLink RX12 82 yX12_readOne ∈ Gw := gw_4 (List.mem_of_getElem? (i := 141) rfl) rfl
theorem ml_X12_85 : Cond.methodLink RX12 85 yX12_read ∈ Gw := gw_4 (List.mem_of_getElem? (i := 137) rfl) rfl
theorem fl_X12_89 : Cond.fieldLink RX12 89 "SecondSilenceModel" "bidders" "I" ∈ Gw := gw_4 (List.mem_of_getElem? (i := 35) rfl) rfl
theorem fl_X12_92 : Cond.fieldLink RX12 92 "SecondSilenceModel" "fall" "I" ∈ Gw := gw_4 (List.mem_of_getElem? (i := 36) rfl) rfl
theorem fl_X12_95 : Cond.fieldLink RX12 95 "SecondSilenceModel" "halls" "I" ∈ Gw := gw_4 (List.mem_of_getElem? (i := 34) rfl) rfl
theorem fl_X12_98 : Cond.fieldLink RX12 98 "SecondSilenceModel" "heard" "I" ∈ Gw := gw_4 (List.mem_of_getElem? (i := 43) rfl) rfl
theorem ml_X12_101 : Cond.methodLink RX12 101 yX12_ownEnd ∈ Gw := gw_4 (List.mem_of_getElem? (i := 172) rfl) rfl
theorem ml_X12_104 : Cond.methodLink RX12 104 yX12_has ∈ Gw := gw_4 (List.mem_of_getElem? (i := 176) rfl) rfl
theorem kc_X12_107 : Cond.constant RX12 107 268435456 ∈ Gw := gw_4 (List.mem_of_getElem? (i := 199) rfl) rfl
theorem ml_X12_108 : Cond.methodLink RX12 108 yX12_silentFrom ∈ Gw := gw_4 (List.mem_of_getElem? (i := 179) rfl) rfl
theorem ml_X12_111 : Cond.methodLink RX12 111 yX12_nextSilence ∈ Gw := gw_4 (List.mem_of_getElem? (i := 195) rfl) rfl
theorem ml_X12_114 : Cond.methodLink RX12 114 yX12_manySilent ∈ Gw := gw_4 (List.mem_of_getElem? (i := 200) rfl) rfl
theorem ml_X12_117 : Cond.methodLink RX12 117 yX12_getter ∈ Gw := gw_4 (List.mem_of_getElem? (i := 191) rfl) rfl
theorem ml_X12_120 : Cond.methodLink RX12 120 yX12_priceOf ∈ Gw := gw_4 (List.mem_of_getElem? (i := 183) rfl) rfl
theorem ml_X12_123 : Cond.methodLink RX12 123 yX12_layStops ∈ Gw := gw_4 (List.mem_of_getElem? (i := 168) rfl) rfl
theorem ml_X12_126 : Cond.methodLink RX12 126 yX12_gainOf ∈ Gw := gw_4 (List.mem_of_getElem? (i := 187) rfl) rfl
theorem ml_X12_129 : Cond.methodLink RX12 129 yX12_isBidder ∈ Gw := gw_4 (List.mem_of_getElem? (i := 160) rfl) rfl
theorem ml_X12_133 : Cond.methodLink RX12 133 yX12_bidderNow ∈ Gw := gw_4 (List.mem_of_getElem? (i := 164) rfl) rfl
theorem ml_X12_137 : Cond.methodLink RX12 137 yX12_sayingNow ∈ Gw := gw_4 (List.mem_of_getElem? (i := 224) rfl) rfl
theorem ml_X12_140 : Cond.methodLink RX12 140 yX12_lotNow ∈ Gw := gw_4 (List.mem_of_getElem? (i := 232) rfl) rfl
theorem ml_X12_143 : Cond.methodLink RX12 143 yX12_gainBy ∈ Gw := gw_5 (List.mem_of_getElem? (i := 4) rfl) rfl
theorem ml_X12_146 : Cond.methodLink RX12 146 yX12_bestNow ∈ Gw := gw_5 (List.mem_of_getElem? (i := 0) rfl) rfl
theorem ml_X12_149 : Cond.methodLink RX12 149 yX12_save ∈ Gw := gw_5 (List.mem_of_getElem? (i := 16) rfl) rfl
theorem ml_X12_152 : Cond.methodLink RX12 152 yX12_chooseBy ∈ Gw := gw_5 (List.mem_of_getElem? (i := 20) rfl) rfl
theorem ml_X12_156 : Cond.methodLink RX12 156 yX12_isRest ∈ Gw := gw_5 (List.mem_of_getElem? (i := 24) rfl) rfl
theorem ml_X12_159 : Cond.methodLink RX12 159 yX12_load ∈ Gw := gw_5 (List.mem_of_getElem? (i := 28) rfl) rfl
theorem fl_X12_162 : Cond.fieldLink RX12 162 "SecondSilenceModel" "asks" "I" ∈ Gw := gw_4 (List.mem_of_getElem? (i := 46) rfl) rfl
theorem ml_X12_165 : Cond.methodLink RX12 165 yX12_restsNow ∈ Gw := gw_5 (List.mem_of_getElem? (i := 12) rfl) rfl
theorem ml_X12_168 : Cond.methodLink RX12 168 yX12_isHeard ∈ Gw := gw_5 (List.mem_of_getElem? (i := 48) rfl) rfl
theorem ml_X12_171 : Cond.methodLink RX12 171 yX12_windsNow ∈ Gw := gw_5 (List.mem_of_getElem? (i := 44) rfl) rfl
theorem ml_X12_174 : Cond.methodLink RX12 174 yX12_isTouch ∈ Gw := gw_5 (List.mem_of_getElem? (i := 60) rfl) rfl
theorem ml_X12_177 : Cond.methodLink RX12 177 yX12_touchedNow ∈ Gw := gw_5 (List.mem_of_getElem? (i := 56) rfl) rfl
theorem kc_X12_180 : Cond.constantLong RX12 180 1103515245 ∈ Gw := gw_5 (List.mem_of_getElem? (i := 76) rfl) rfl
theorem fl_X12_182 : Cond.fieldLink RX12 182 "SecondSilenceModel" "seedNow" "J" ∈ Gw := gw_4 (List.mem_of_getElem? (i := 53) rfl) rfl
theorem kc_X12_186 : Cond.constantLong RX12 186 12345 ∈ Gw := gw_5 (List.mem_of_getElem? (i := 77) rfl) rfl
theorem kc_X12_188 : Cond.constantLong RX12 188 2147483647 ∈ Gw := gw_5 (List.mem_of_getElem? (i := 78) rfl) rfl
theorem kc_X12_190 : Cond.constantLong RX12 190 65536 ∈ Gw := gw_5 (List.mem_of_getElem? (i := 79) rfl) rfl
theorem ml_X12_192 : Cond.methodLink RX12 192 yX12_draw ∈ Gw := gw_5 (List.mem_of_getElem? (i := 72) rfl) rfl
theorem ml_X12_195 : Cond.methodLink RX12 195 yX12_salesNow ∈ Gw := gw_5 (List.mem_of_getElem? (i := 68) rfl) rfl
theorem fl_X12_199 : Cond.fieldLink RX12 199 "SecondSilenceModel" "isKept" "Z" ∈ Gw := gw_4 (List.mem_of_getElem? (i := 54) rfl) rfl
theorem fl_X12_202 : Cond.fieldLink RX12 202 "SecondSilenceModel" "keptHall" "I" ∈ Gw := gw_4 (List.mem_of_getElem? (i := 55) rfl) rfl
theorem fl_X12_205 : Cond.fieldLink RX12 205 "SecondSilenceModel" "keptHeard" "I" ∈ Gw := gw_4 (List.mem_of_getElem? (i := 56) rfl) rfl
theorem ml_X12_208 : Cond.methodLink RX12 208 yX12_chosen ∈ Gw := gw_5 (List.mem_of_getElem? (i := 96) rfl) rfl
theorem ml_X12_211 : Cond.methodLink RX12 211 yX12_touches ∈ Gw := gw_5 (List.mem_of_getElem? (i := 100) rfl) rfl
theorem ml_X12_214 : Cond.methodLink RX12 214 yX12_howMany ∈ Gw := gw_5 (List.mem_of_getElem? (i := 92) rfl) rfl
theorem kc_X12_217 : Cond.constantLong RX12 217 31 ∈ Gw := gw_5 (List.mem_of_getElem? (i := 113) rfl) rfl
theorem fl_X12_219 : Cond.fieldLink RX12 219 "SecondSilenceModel" "h" "J" ∈ Gw := gw_4 (List.mem_of_getElem? (i := 62) rfl) rfl
theorem kc_X12_222 : Cond.constantLong RX12 222 911 ∈ Gw := gw_5 (List.mem_of_getElem? (i := 108) rfl) rfl
theorem ml_X12_224 : Cond.methodLink RX12 224 yX12_mix ∈ Gw := gw_5 (List.mem_of_getElem? (i := 109) rfl) rfl
theorem fb_X0 : FB RX0 TX0 5 tyX0 := ⟨List.forall_mem_cons.mpr ⟨gw_1 (List.mem_of_getElem? (i := 84) rfl) rfl, List.forall_mem_cons.mpr ⟨gw_1 (List.mem_of_getElem? (i := 86) rfl) rfl, List.forall_mem_cons.mpr ⟨gw_1 (List.mem_of_getElem? (i := 88) rfl) rfl, List.forall_mem_cons.mpr ⟨gw_1 (List.mem_of_getElem? (i := 90) rfl) rfl, List.forall_mem_cons.mpr ⟨gw_1 (List.mem_of_getElem? (i := 92) rfl) rfl, fun _ h => absurd h List.not_mem_nil⟩⟩⟩⟩⟩, tyX0_ok, nmX0⟩
theorem in_X0 : Cond.initialized RX0 ∈ Gw := gw_1 (List.mem_of_getElem? (i := 5) rfl) rfl
theorem ist_X0 : Cond.instantiable RX0 5 ∈ Gw := gw_1 (List.mem_of_getElem? (i := 59) rfl) rfl
theorem fb_X1 : FB RX1 TX1 5 tyX1 := ⟨List.forall_mem_cons.mpr ⟨gw_2 (List.mem_of_getElem? (i := 185) rfl) rfl, List.forall_mem_cons.mpr ⟨gw_2 (List.mem_of_getElem? (i := 186) rfl) rfl, List.forall_mem_cons.mpr ⟨gw_2 (List.mem_of_getElem? (i := 187) rfl) rfl, List.forall_mem_cons.mpr ⟨gw_2 (List.mem_of_getElem? (i := 188) rfl) rfl, List.forall_mem_cons.mpr ⟨gw_2 (List.mem_of_getElem? (i := 189) rfl) rfl, fun _ h => absurd h List.not_mem_nil⟩⟩⟩⟩⟩, tyX1_ok, nmX1⟩
theorem in_X1 : Cond.initialized RX1 ∈ Gw := gw_1 (List.mem_of_getElem? (i := 19) rfl) rfl
theorem ist_X1 : Cond.instantiable RX1 5 ∈ Gw := gw_2 (List.mem_of_getElem? (i := 180) rfl) rfl
theorem fb_X2 : FB RX2 TX2 6 tyX2 := ⟨List.forall_mem_cons.mpr ⟨gw_1 (List.mem_of_getElem? (i := 128) rfl) rfl, List.forall_mem_cons.mpr ⟨gw_1 (List.mem_of_getElem? (i := 130) rfl) rfl, List.forall_mem_cons.mpr ⟨gw_1 (List.mem_of_getElem? (i := 132) rfl) rfl, List.forall_mem_cons.mpr ⟨gw_1 (List.mem_of_getElem? (i := 134) rfl) rfl, List.forall_mem_cons.mpr ⟨gw_1 (List.mem_of_getElem? (i := 136) rfl) rfl, List.forall_mem_cons.mpr ⟨gw_1 (List.mem_of_getElem? (i := 138) rfl) rfl, fun _ h => absurd h List.not_mem_nil⟩⟩⟩⟩⟩⟩, tyX2_ok, nmX2⟩
theorem in_X2 : Cond.initialized RX2 ∈ Gw := gw_1 (List.mem_of_getElem? (i := 3) rfl) rfl
theorem ist_X2 : Cond.instantiable RX2 6 ∈ Gw := gw_1 (List.mem_of_getElem? (i := 46) rfl) rfl
theorem fb_X3 : FB RX3 TX3 5 tyX3 := ⟨List.forall_mem_cons.mpr ⟨gw_2 (List.mem_of_getElem? (i := 173) rfl) rfl, List.forall_mem_cons.mpr ⟨gw_2 (List.mem_of_getElem? (i := 174) rfl) rfl, List.forall_mem_cons.mpr ⟨gw_2 (List.mem_of_getElem? (i := 175) rfl) rfl, List.forall_mem_cons.mpr ⟨gw_2 (List.mem_of_getElem? (i := 176) rfl) rfl, List.forall_mem_cons.mpr ⟨gw_2 (List.mem_of_getElem? (i := 177) rfl) rfl, fun _ h => absurd h List.not_mem_nil⟩⟩⟩⟩⟩, tyX3_ok, nmX3⟩
theorem in_X3 : Cond.initialized RX3 ∈ Gw := gw_1 (List.mem_of_getElem? (i := 18) rfl) rfl
theorem ist_X3 : Cond.instantiable RX3 5 ∈ Gw := gw_2 (List.mem_of_getElem? (i := 168) rfl) rfl
theorem fb_X4 : FB RX4 TX4 3 tyX4 := ⟨List.forall_mem_cons.mpr ⟨gw_1 (List.mem_of_getElem? (i := 108) rfl) rfl, List.forall_mem_cons.mpr ⟨gw_1 (List.mem_of_getElem? (i := 110) rfl) rfl, List.forall_mem_cons.mpr ⟨gw_1 (List.mem_of_getElem? (i := 112) rfl) rfl, fun _ h => absurd h List.not_mem_nil⟩⟩⟩, tyX4_ok, nmX4⟩
theorem in_X4 : Cond.initialized RX4 ∈ Gw := gw_1 (List.mem_of_getElem? (i := 4) rfl) rfl
theorem ist_X4 : Cond.instantiable RX4 3 ∈ Gw := gw_1 (List.mem_of_getElem? (i := 52) rfl) rfl
theorem fb_X5 : FB RX5 TX5 3 tyX5 := ⟨List.forall_mem_cons.mpr ⟨gw_1 (List.mem_of_getElem? (i := 151) rfl) rfl, List.forall_mem_cons.mpr ⟨gw_1 (List.mem_of_getElem? (i := 153) rfl) rfl, List.forall_mem_cons.mpr ⟨gw_1 (List.mem_of_getElem? (i := 155) rfl) rfl, fun _ h => absurd h List.not_mem_nil⟩⟩⟩, tyX5_ok, nmX5⟩
theorem in_X5 : Cond.initialized RX5 ∈ Gw := gw_1 (List.mem_of_getElem? (i := 6) rfl) rfl
theorem ist_X5 : Cond.instantiable RX5 3 ∈ Gw := gw_1 (List.mem_of_getElem? (i := 142) rfl) rfl
theorem fb_X6 : FB RX6 TX6 5 tyX6 := ⟨List.forall_mem_cons.mpr ⟨gw_1 (List.mem_of_getElem? (i := 171) rfl) rfl, List.forall_mem_cons.mpr ⟨gw_1 (List.mem_of_getElem? (i := 173) rfl) rfl, List.forall_mem_cons.mpr ⟨gw_1 (List.mem_of_getElem? (i := 175) rfl) rfl, List.forall_mem_cons.mpr ⟨gw_1 (List.mem_of_getElem? (i := 177) rfl) rfl, List.forall_mem_cons.mpr ⟨gw_1 (List.mem_of_getElem? (i := 179) rfl) rfl, fun _ h => absurd h List.not_mem_nil⟩⟩⟩⟩⟩, tyX6_ok, nmX6⟩
theorem in_X6 : Cond.initialized RX6 ∈ Gw := gw_1 (List.mem_of_getElem? (i := 7) rfl) rfl
theorem ist_X6 : Cond.instantiable RX6 5 ∈ Gw := gw_1 (List.mem_of_getElem? (i := 159) rfl) rfl
theorem fb_X7 : FB RX7 TX7 2 tyX7 := ⟨List.forall_mem_cons.mpr ⟨gw_1 (List.mem_of_getElem? (i := 39) rfl) rfl, List.forall_mem_cons.mpr ⟨gw_1 (List.mem_of_getElem? (i := 41) rfl) rfl, fun _ h => absurd h List.not_mem_nil⟩⟩, tyX7_ok, nmX7⟩
theorem in_X7 : Cond.initialized RX7 ∈ Gw := gw_1 (List.mem_of_getElem? (i := 2) rfl) rfl
theorem ist_X7 : Cond.instantiable RX7 2 ∈ Gw := gw_1 (List.mem_of_getElem? (i := 30) rfl) rfl
theorem fb_X8 : FB RX8 TX8 8 tyX8 := ⟨List.forall_mem_cons.mpr ⟨gw_1 (List.mem_of_getElem? (i := 197) rfl) rfl, List.forall_mem_cons.mpr ⟨gw_1 (List.mem_of_getElem? (i := 199) rfl) rfl, List.forall_mem_cons.mpr ⟨gw_1 (List.mem_of_getElem? (i := 201) rfl) rfl, List.forall_mem_cons.mpr ⟨gw_1 (List.mem_of_getElem? (i := 203) rfl) rfl, List.forall_mem_cons.mpr ⟨gw_1 (List.mem_of_getElem? (i := 205) rfl) rfl, List.forall_mem_cons.mpr ⟨gw_1 (List.mem_of_getElem? (i := 207) rfl) rfl, List.forall_mem_cons.mpr ⟨gw_1 (List.mem_of_getElem? (i := 209) rfl) rfl, List.forall_mem_cons.mpr ⟨gw_1 (List.mem_of_getElem? (i := 211) rfl) rfl, fun _ h => absurd h List.not_mem_nil⟩⟩⟩⟩⟩⟩⟩⟩, tyX8_ok, nmX8⟩
theorem in_X8 : Cond.initialized RX8 ∈ Gw := gw_1 (List.mem_of_getElem? (i := 8) rfl) rfl
theorem ist_X8 : Cond.instantiable RX8 8 ∈ Gw := gw_1 (List.mem_of_getElem? (i := 183) rfl) rfl
theorem fb_X9 : FB RX9 TX9 5 tyX9 := ⟨List.forall_mem_cons.mpr ⟨gw_2 (List.mem_of_getElem? (i := 161) rfl) rfl, List.forall_mem_cons.mpr ⟨gw_2 (List.mem_of_getElem? (i := 162) rfl) rfl, List.forall_mem_cons.mpr ⟨gw_2 (List.mem_of_getElem? (i := 163) rfl) rfl, List.forall_mem_cons.mpr ⟨gw_2 (List.mem_of_getElem? (i := 164) rfl) rfl, List.forall_mem_cons.mpr ⟨gw_2 (List.mem_of_getElem? (i := 165) rfl) rfl, fun _ h => absurd h List.not_mem_nil⟩⟩⟩⟩⟩, tyX9_ok, nmX9⟩
theorem in_X9 : Cond.initialized RX9 ∈ Gw := gw_1 (List.mem_of_getElem? (i := 17) rfl) rfl
theorem ist_X9 : Cond.instantiable RX9 5 ∈ Gw := gw_2 (List.mem_of_getElem? (i := 156) rfl) rfl
theorem fb_X10 : FB RX10 TX10 5 tyX10 := ⟨List.forall_mem_cons.mpr ⟨gw_2 (List.mem_of_getElem? (i := 149) rfl) rfl, List.forall_mem_cons.mpr ⟨gw_2 (List.mem_of_getElem? (i := 150) rfl) rfl, List.forall_mem_cons.mpr ⟨gw_2 (List.mem_of_getElem? (i := 151) rfl) rfl, List.forall_mem_cons.mpr ⟨gw_2 (List.mem_of_getElem? (i := 152) rfl) rfl, List.forall_mem_cons.mpr ⟨gw_2 (List.mem_of_getElem? (i := 153) rfl) rfl, fun _ h => absurd h List.not_mem_nil⟩⟩⟩⟩⟩, tyX10_ok, nmX10⟩
theorem in_X10 : Cond.initialized RX10 ∈ Gw := gw_1 (List.mem_of_getElem? (i := 16) rfl) rfl
theorem ist_X10 : Cond.instantiable RX10 5 ∈ Gw := gw_2 (List.mem_of_getElem? (i := 144) rfl) rfl
theorem fb_X11 : FB RX11 TX11 8 tyX11 := ⟨List.forall_mem_cons.mpr ⟨gw_1 (List.mem_of_getElem? (i := 222) rfl) rfl, List.forall_mem_cons.mpr ⟨gw_1 (List.mem_of_getElem? (i := 224) rfl) rfl, List.forall_mem_cons.mpr ⟨gw_1 (List.mem_of_getElem? (i := 226) rfl) rfl, List.forall_mem_cons.mpr ⟨gw_1 (List.mem_of_getElem? (i := 228) rfl) rfl, List.forall_mem_cons.mpr ⟨gw_1 (List.mem_of_getElem? (i := 230) rfl) rfl, List.forall_mem_cons.mpr ⟨gw_1 (List.mem_of_getElem? (i := 232) rfl) rfl, List.forall_mem_cons.mpr ⟨gw_1 (List.mem_of_getElem? (i := 234) rfl) rfl, List.forall_mem_cons.mpr ⟨gw_1 (List.mem_of_getElem? (i := 236) rfl) rfl, fun _ h => absurd h List.not_mem_nil⟩⟩⟩⟩⟩⟩⟩⟩, tyX11_ok, nmX11⟩
theorem in_X11 : Cond.initialized RX11 ∈ Gw := gw_1 (List.mem_of_getElem? (i := 1) rfl) rfl
theorem ist_X11 : Cond.instantiable RX11 8 ∈ Gw := gw_1 (List.mem_of_getElem? (i := 22) rfl) rfl
theorem fb_X12 : FB RX12 TX12 29 tyX12 := ⟨List.forall_mem_cons.mpr ⟨gw_4 (List.mem_of_getElem? (i := 63) rfl) rfl, List.forall_mem_cons.mpr ⟨gw_4 (List.mem_of_getElem? (i := 65) rfl) rfl, List.forall_mem_cons.mpr ⟨gw_4 (List.mem_of_getElem? (i := 67) rfl) rfl, List.forall_mem_cons.mpr ⟨gw_4 (List.mem_of_getElem? (i := 69) rfl) rfl, List.forall_mem_cons.mpr ⟨gw_4 (List.mem_of_getElem? (i := 71) rfl) rfl, List.forall_mem_cons.mpr ⟨gw_4 (List.mem_of_getElem? (i := 73) rfl) rfl, List.forall_mem_cons.mpr ⟨gw_4 (List.mem_of_getElem? (i := 75) rfl) rfl, List.forall_mem_cons.mpr ⟨gw_4 (List.mem_of_getElem? (i := 77) rfl) rfl, List.forall_mem_cons.mpr ⟨gw_4 (List.mem_of_getElem? (i := 79) rfl) rfl, List.forall_mem_cons.mpr ⟨gw_4 (List.mem_of_getElem? (i := 81) rfl) rfl, List.forall_mem_cons.mpr ⟨gw_4 (List.mem_of_getElem? (i := 83) rfl) rfl, List.forall_mem_cons.mpr ⟨gw_4 (List.mem_of_getElem? (i := 85) rfl) rfl, List.forall_mem_cons.mpr ⟨gw_4 (List.mem_of_getElem? (i := 87) rfl) rfl, List.forall_mem_cons.mpr ⟨gw_4 (List.mem_of_getElem? (i := 89) rfl) rfl, List.forall_mem_cons.mpr ⟨gw_4 (List.mem_of_getElem? (i := 91) rfl) rfl, List.forall_mem_cons.mpr ⟨gw_4 (List.mem_of_getElem? (i := 93) rfl) rfl, List.forall_mem_cons.mpr ⟨gw_4 (List.mem_of_getElem? (i := 95) rfl) rfl, List.forall_mem_cons.mpr ⟨gw_4 (List.mem_of_getElem? (i := 97) rfl) rfl, List.forall_mem_cons.mpr ⟨gw_4 (List.mem_of_getElem? (i := 99) rfl) rfl, List.forall_mem_cons.mpr ⟨gw_4 (List.mem_of_getElem? (i := 101) rfl) rfl, List.forall_mem_cons.mpr ⟨gw_4 (List.mem_of_getElem? (i := 103) rfl) rfl, List.forall_mem_cons.mpr ⟨gw_4 (List.mem_of_getElem? (i := 105) rfl) rfl, List.forall_mem_cons.mpr ⟨gw_4 (List.mem_of_getElem? (i := 107) rfl) rfl, List.forall_mem_cons.mpr ⟨gw_4 (List.mem_of_getElem? (i := 109) rfl) rfl, List.forall_mem_cons.mpr ⟨gw_4 (List.mem_of_getElem? (i := 111) rfl) rfl, List.forall_mem_cons.mpr ⟨gw_4 (List.mem_of_getElem? (i := 113) rfl) rfl, List.forall_mem_cons.mpr ⟨gw_4 (List.mem_of_getElem? (i := 115) rfl) rfl, List.forall_mem_cons.mpr ⟨gw_4 (List.mem_of_getElem? (i := 117) rfl) rfl, List.forall_mem_cons.mpr ⟨gw_4 (List.mem_of_getElem? (i := 119) rfl) rfl, fun _ h => absurd h List.not_mem_nil⟩⟩⟩⟩⟩⟩⟩⟩⟩⟩⟩⟩⟩⟩⟩⟩⟩⟩⟩⟩⟩⟩⟩⟩⟩⟩⟩⟩⟩, tyX12_ok, nmX12⟩
theorem in_X12 : Cond.initialized RX12 ∈ Gw := gw_1 (List.mem_of_getElem? (i := 9) rfl) rfl
theorem ist_X12 : Cond.instantiable RX12 29 ∈ Gw := gw_4 (List.mem_of_getElem? (i := 29) rfl) rfl
theorem im_X0_init : Cond.instanceMethod yX0_init ∈ Gw := gw_1 (List.mem_of_getElem? (i := 61) rfl) rfl
theorem co_X0_init : Cond.code yX0_init cX0_init 4 none ∈ Gw := gw_1 (List.mem_of_getElem? (i := 62) rfl) rfl
theorem im_X0_kind : Cond.instanceMethod yX0_kind ∈ Gw := gw_3 (List.mem_of_getElem? (i := 19) rfl) rfl
theorem co_X0_kind : Cond.code yX0_kind cX0_kind 1 (some .int) ∈ Gw := gw_3 (List.mem_of_getElem? (i := 34) rfl) rfl
theorem qv_X0_kind : QV yX0_kind cX0_kind 1 (some .int) 0 := ⟨(by decide +kernel), im_X0_kind, gw_3 (List.mem_of_getElem? (i := 20) rfl) rfl, in_X0, co_X0_kind⟩
theorem im_X0_breathsOf : Cond.instanceMethod yX0_breathsOf ∈ Gw := gw_2 (List.mem_of_getElem? (i := 217) rfl) rfl
theorem co_X0_breathsOf : Cond.code yX0_breathsOf cX0_breathsOf 2 (some .int) ∈ Gw := gw_2 (List.mem_of_getElem? (i := 228) rfl) rfl
theorem qv_X0_breathsOf : QV yX0_breathsOf cX0_breathsOf 2 (some .int) 1 := ⟨(by decide +kernel), im_X0_breathsOf, gw_2 (List.mem_of_getElem? (i := 218) rfl) rfl, in_X0, co_X0_breathsOf⟩
theorem im_X0_echo : Cond.instanceMethod yX0_echo ∈ Gw := gw_3 (List.mem_of_getElem? (i := 4) rfl) rfl
theorem co_X0_echo : Cond.code yX0_echo cX0_echo 1 (some .int) ∈ Gw := gw_3 (List.mem_of_getElem? (i := 13) rfl) rfl
theorem qv_X0_echo : QV yX0_echo cX0_echo 1 (some .int) 0 := ⟨(by decide +kernel), im_X0_echo, gw_3 (List.mem_of_getElem? (i := 5) rfl) rfl, in_X0, co_X0_echo⟩
theorem im_X0_endBy : Cond.instanceMethod yX0_endBy ∈ Gw := gw_2 (List.mem_of_getElem? (i := 208) rfl) rfl
theorem co_X0_endBy : Cond.code yX0_endBy cX0_endBy 4 (some .int) ∈ Gw := gw_2 (List.mem_of_getElem? (i := 215) rfl) rfl
theorem qv_X0_endBy : QV yX0_endBy cX0_endBy 4 (some .int) 2 := ⟨(by decide +kernel), im_X0_endBy, gw_2 (List.mem_of_getElem? (i := 209) rfl) rfl, in_X0, co_X0_endBy⟩
theorem im_X0_priceAt : Cond.instanceMethod yX0_priceAt ∈ Gw := gw_3 (List.mem_of_getElem? (i := 40) rfl) rfl
theorem co_X0_priceAt : Cond.code yX0_priceAt cX0_priceAt 3 (some .int) ∈ Gw := gw_3 (List.mem_of_getElem? (i := 49) rfl) rfl
theorem qv_X0_priceAt : QV yX0_priceAt cX0_priceAt 3 (some .int) 2 := ⟨(by decide +kernel), im_X0_priceAt, gw_3 (List.mem_of_getElem? (i := 41) rfl) rfl, in_X0, co_X0_priceAt⟩
theorem im_X1_init : Cond.instanceMethod yX1_init ∈ Gw := gw_2 (List.mem_of_getElem? (i := 182) rfl) rfl
theorem co_X1_init : Cond.code yX1_init cX1_init 4 none ∈ Gw := gw_2 (List.mem_of_getElem? (i := 183) rfl) rfl
theorem im_X1_kind : Cond.instanceMethod yX1_kind ∈ Gw := gw_3 (List.mem_of_getElem? (i := 23) rfl) rfl
theorem co_X1_kind : Cond.code yX1_kind cX1_kind 1 (some .int) ∈ Gw := gw_3 (List.mem_of_getElem? (i := 24) rfl) rfl
theorem im_X1_priceAt : Cond.instanceMethod yX1_priceAt ∈ Gw := gw_3 (List.mem_of_getElem? (i := 44) rfl) rfl
theorem co_X1_priceAt : Cond.code yX1_priceAt cX1_priceAt 3 (some .int) ∈ Gw := gw_3 (List.mem_of_getElem? (i := 45) rfl) rfl
theorem im_X2_init : Cond.instanceMethod yX2_init ∈ Gw := gw_1 (List.mem_of_getElem? (i := 48) rfl) rfl
theorem co_X2_init : Cond.code yX2_init cX2_init 1 none ∈ Gw := gw_1 (List.mem_of_getElem? (i := 49) rfl) rfl
theorem im_X2_takeAsItIs : Cond.instanceMethod yX2_takeAsItIs ∈ Gw := gw_2 (List.mem_of_getElem? (i := 204) rfl) rfl
theorem co_X2_takeAsItIs : Cond.code yX2_takeAsItIs cX2_takeAsItIs 3 none ∈ Gw := gw_2 (List.mem_of_getElem? (i := 206) rfl) rfl
theorem qv_X2_takeAsItIs : QV yX2_takeAsItIs cX2_takeAsItIs 3 none 0 := ⟨(by decide +kernel), im_X2_takeAsItIs, gw_2 (List.mem_of_getElem? (i := 205) rfl) rfl, in_X2, co_X2_takeAsItIs⟩
theorem im_X2_supposeChoice : Cond.instanceMethod yX2_supposeChoice ∈ Gw := gw_3 (List.mem_of_getElem? (i := 97) rfl) rfl
theorem co_X2_supposeChoice : Cond.code yX2_supposeChoice cX2_supposeChoice 4 none ∈ Gw := gw_3 (List.mem_of_getElem? (i := 99) rfl) rfl
theorem qv_X2_supposeChoice : QV yX2_supposeChoice cX2_supposeChoice 4 none 2 := ⟨(by decide +kernel), im_X2_supposeChoice, gw_3 (List.mem_of_getElem? (i := 98) rfl) rfl, in_X2, co_X2_supposeChoice⟩
theorem im_X2_supposeWind : Cond.instanceMethod yX2_supposeWind ∈ Gw := gw_3 (List.mem_of_getElem? (i := 171) rfl) rfl
theorem co_X2_supposeWind : Cond.code yX2_supposeWind cX2_supposeWind 4 none ∈ Gw := gw_3 (List.mem_of_getElem? (i := 173) rfl) rfl
theorem qv_X2_supposeWind : QV yX2_supposeWind cX2_supposeWind 4 none 2 := ⟨(by decide +kernel), im_X2_supposeWind, gw_3 (List.mem_of_getElem? (i := 172) rfl) rfl, in_X2, co_X2_supposeWind⟩
theorem im_X2_supposeTouch : Cond.instanceMethod yX2_supposeTouch ∈ Gw := gw_3 (List.mem_of_getElem? (i := 195) rfl) rfl
theorem co_X2_supposeTouch : Cond.code yX2_supposeTouch cX2_supposeTouch 3 none ∈ Gw := gw_3 (List.mem_of_getElem? (i := 197) rfl) rfl
theorem qv_X2_supposeTouch : QV yX2_supposeTouch cX2_supposeTouch 3 none 2 := ⟨(by decide +kernel), im_X2_supposeTouch, gw_3 (List.mem_of_getElem? (i := 196) rfl) rfl, in_X2, co_X2_supposeTouch⟩
theorem im_X2_runAsItIs : Cond.instanceMethod yX2_runAsItIs ∈ Gw := gw_2 (List.mem_of_getElem? (i := 200) rfl) rfl
theorem co_X2_runAsItIs : Cond.code yX2_runAsItIs cX2_runAsItIs 1 none ∈ Gw := gw_2 (List.mem_of_getElem? (i := 202) rfl) rfl
theorem qv_X2_runAsItIs : QV yX2_runAsItIs cX2_runAsItIs 1 none 0 := ⟨(by decide +kernel), im_X2_runAsItIs, gw_2 (List.mem_of_getElem? (i := 201) rfl) rfl, in_X2, co_X2_runAsItIs⟩
theorem im_X2_run : Cond.instanceMethod yX2_run ∈ Gw := gw_2 (List.mem_of_getElem? (i := 231) rfl) rfl
theorem co_X2_run : Cond.code yX2_run cX2_run 2 none ∈ Gw := gw_2 (List.mem_of_getElem? (i := 233) rfl) rfl
theorem qv_X2_run : QV yX2_run cX2_run 2 none 0 := ⟨(by decide +kernel), im_X2_run, gw_2 (List.mem_of_getElem? (i := 232) rfl) rfl, in_X2, co_X2_run⟩
theorem im_X2_findStops : Cond.instanceMethod yX2_findStops ∈ Gw := gw_2 (List.mem_of_getElem? (i := 236) rfl) rfl
theorem co_X2_findStops : Cond.code yX2_findStops cX2_findStops 5 none ∈ Gw := gw_2 (List.mem_of_getElem? (i := 237) rfl) rfl
theorem qv_X2_findStops : QV yX2_findStops cX2_findStops 5 none 0 := ⟨(by decide +kernel), im_X2_findStops, gw_s (List.mem_of_getElem? (i := 0) rfl) rfl, in_X2, co_X2_findStops⟩
theorem im_X2_stopByTouch : Cond.instanceMethod yX2_stopByTouch ∈ Gw := gw_3 (List.mem_of_getElem? (i := 0) rfl) rfl
theorem co_X2_stopByTouch : Cond.code yX2_stopByTouch cX2_stopByTouch 4 (some .int) ∈ Gw := gw_3 (List.mem_of_getElem? (i := 1) rfl) rfl
theorem qv_X2_stopByTouch : QV yX2_stopByTouch cX2_stopByTouch 4 (some .int) 1 := ⟨(by decide +kernel), im_X2_stopByTouch, gw_s (List.mem_of_getElem? (i := 1) rfl) rfl, in_X2, co_X2_stopByTouch⟩
theorem im_X2_findGetter : Cond.instanceMethod yX2_findGetter ∈ Gw := gw_3 (List.mem_of_getElem? (i := 16) rfl) rfl
theorem co_X2_findGetter : Cond.code yX2_findGetter cX2_findGetter 7 none ∈ Gw := gw_3 (List.mem_of_getElem? (i := 17) rfl) rfl
theorem qv_X2_findGetter : QV yX2_findGetter cX2_findGetter 7 none 0 := ⟨(by decide +kernel), im_X2_findGetter, gw_s (List.mem_of_getElem? (i := 2) rfl) rfl, in_X2, co_X2_findGetter⟩
theorem im_X2_priceOf : Cond.instanceMethod yX2_priceOf ∈ Gw := gw_3 (List.mem_of_getElem? (i := 36) rfl) rfl
theorem co_X2_priceOf : Cond.code yX2_priceOf cX2_priceOf 2 (some .int) ∈ Gw := gw_3 (List.mem_of_getElem? (i := 38) rfl) rfl
theorem qv_X2_priceOf : QV yX2_priceOf cX2_priceOf 2 (some .int) 1 := ⟨(by decide +kernel), im_X2_priceOf, gw_3 (List.mem_of_getElem? (i := 37) rfl) rfl, in_X2, co_X2_priceOf⟩
theorem im_X2_gainOf : Cond.instanceMethod yX2_gainOf ∈ Gw := gw_3 (List.mem_of_getElem? (i := 52) rfl) rfl
theorem co_X2_gainOf : Cond.code yX2_gainOf cX2_gainOf 2 (some .int) ∈ Gw := gw_3 (List.mem_of_getElem? (i := 54) rfl) rfl
theorem qv_X2_gainOf : QV yX2_gainOf cX2_gainOf 2 (some .int) 1 := ⟨(by decide +kernel), im_X2_gainOf, gw_3 (List.mem_of_getElem? (i := 53) rfl) rfl, in_X2, co_X2_gainOf⟩
theorem im_X3_init : Cond.instanceMethod yX3_init ∈ Gw := gw_2 (List.mem_of_getElem? (i := 170) rfl) rfl
theorem co_X3_init : Cond.code yX3_init cX3_init 4 none ∈ Gw := gw_2 (List.mem_of_getElem? (i := 171) rfl) rfl
theorem im_X3_kind : Cond.instanceMethod yX3_kind ∈ Gw := gw_3 (List.mem_of_getElem? (i := 26) rfl) rfl
theorem co_X3_kind : Cond.code yX3_kind cX3_kind 1 (some .int) ∈ Gw := gw_3 (List.mem_of_getElem? (i := 27) rfl) rfl
theorem im_X3_echo : Cond.instanceMethod yX3_echo ∈ Gw := gw_3 (List.mem_of_getElem? (i := 9) rfl) rfl
theorem co_X3_echo : Cond.code yX3_echo cX3_echo 1 (some .int) ∈ Gw := gw_3 (List.mem_of_getElem? (i := 10) rfl) rfl
theorem im_X4_init : Cond.instanceMethod yX4_init ∈ Gw := gw_1 (List.mem_of_getElem? (i := 54) rfl) rfl
theorem co_X4_init : Cond.code yX4_init cX4_init 2 none ∈ Gw := gw_1 (List.mem_of_getElem? (i := 55) rfl) rfl
theorem im_X4_has : Cond.instanceMethod yX4_has ∈ Gw := gw_2 (List.mem_of_getElem? (i := 196) rfl) rfl
theorem co_X4_has : Cond.code yX4_has cX4_has 2 (some .boolean) ∈ Gw := gw_2 (List.mem_of_getElem? (i := 198) rfl) rfl
theorem qv_X4_has : QV yX4_has cX4_has 2 (some .boolean) 1 := ⟨(by decide +kernel), im_X4_has, gw_2 (List.mem_of_getElem? (i := 197) rfl) rfl, in_X4, co_X4_has⟩
theorem im_X4_seat : Cond.instanceMethod yX4_seat ∈ Gw := gw_2 (List.mem_of_getElem? (i := 137) rfl) rfl
theorem co_X4_seat : Cond.code yX4_seat cX4_seat 5 none ∈ Gw := gw_2 (List.mem_of_getElem? (i := 139) rfl) rfl
theorem qv_X4_seat : QV yX4_seat cX4_seat 5 none 4 := ⟨(by decide +kernel), im_X4_seat, gw_2 (List.mem_of_getElem? (i := 138) rfl) rfl, in_X4, co_X4_seat⟩
theorem qs_X4_newBidder : QS yX4_newBidder cX4_newBidder 4 (some (.object "SecondSilence$Bidder")) 4 := ⟨(by decide +kernel), gw_2 (List.mem_of_getElem? (i := 141) rfl) rfl, gw_1 (List.mem_of_getElem? (i := 4) rfl) rfl, gw_2 (List.mem_of_getElem? (i := 142) rfl) rfl⟩
theorem im_X4_touches : Cond.instanceMethod yX4_touches ∈ Gw := gw_3 (List.mem_of_getElem? (i := 191) rfl) rfl
theorem co_X4_touches : Cond.code yX4_touches cX4_touches 3 (some .boolean) ∈ Gw := gw_3 (List.mem_of_getElem? (i := 193) rfl) rfl
theorem qv_X4_touches : QV yX4_touches cX4_touches 3 (some .boolean) 2 := ⟨(by decide +kernel), im_X4_touches, gw_3 (List.mem_of_getElem? (i := 192) rfl) rfl, in_X4, co_X4_touches⟩
theorem im_X4_howManyHaveChosen : Cond.instanceMethod yX4_howManyHaveChosen ∈ Gw := gw_3 (List.mem_of_getElem? (i := 239) rfl) rfl
theorem co_X4_howManyHaveChosen : Cond.code yX4_howManyHaveChosen cX4_howManyHaveChosen 3 (some .int) ∈ Gw := gw_4 (List.mem_of_getElem? (i := 1) rfl) rfl
theorem qv_X4_howManyHaveChosen : QV yX4_howManyHaveChosen cX4_howManyHaveChosen 3 (some .int) 0 := ⟨(by decide +kernel), im_X4_howManyHaveChosen, gw_4 (List.mem_of_getElem? (i := 0) rfl) rfl, in_X4, co_X4_howManyHaveChosen⟩
theorem im_X4_howManyTouches : Cond.instanceMethod yX4_howManyTouches ∈ Gw := gw_4 (List.mem_of_getElem? (i := 3) rfl) rfl
theorem co_X4_howManyTouches : Cond.code yX4_howManyTouches cX4_howManyTouches 3 (some .int) ∈ Gw := gw_4 (List.mem_of_getElem? (i := 5) rfl) rfl
theorem qv_X4_howManyTouches : QV yX4_howManyTouches cX4_howManyTouches 3 (some .int) 0 := ⟨(by decide +kernel), im_X4_howManyTouches, gw_4 (List.mem_of_getElem? (i := 4) rfl) rfl, in_X4, co_X4_howManyTouches⟩
theorem im_X5_init : Cond.instanceMethod yX5_init ∈ Gw := gw_1 (List.mem_of_getElem? (i := 144) rfl) rfl
theorem co_X5_init : Cond.code yX5_init cX5_init 1 none ∈ Gw := gw_1 (List.mem_of_getElem? (i := 145) rfl) rfl
theorem im_X5_isFull : Cond.instanceMethod yX5_isFull ∈ Gw := gw_3 (List.mem_of_getElem? (i := 155) rfl) rfl
theorem co_X5_isFull : Cond.code yX5_isFull cX5_isFull 1 (some .boolean) ∈ Gw := gw_3 (List.mem_of_getElem? (i := 157) rfl) rfl
theorem qv_X5_isFull : QV yX5_isFull cX5_isFull 1 (some .boolean) 0 := ⟨(by decide +kernel), im_X5_isFull, gw_3 (List.mem_of_getElem? (i := 156) rfl) rfl, in_X5, co_X5_isFull⟩
theorem im_X5_add : Cond.instanceMethod yX5_add ∈ Gw := gw_3 (List.mem_of_getElem? (i := 159) rfl) rfl
theorem co_X5_add : Cond.code yX5_add cX5_add 3 none ∈ Gw := gw_3 (List.mem_of_getElem? (i := 161) rfl) rfl
theorem qv_X5_add : QV yX5_add cX5_add 3 none 2 := ⟨(by decide +kernel), im_X5_add, gw_3 (List.mem_of_getElem? (i := 160) rfl) rfl, in_X5, co_X5_add⟩
theorem im_X5_copy : Cond.instanceMethod yX5_copy ∈ Gw := gw_3 (List.mem_of_getElem? (i := 219) rfl) rfl
theorem co_X5_copy : Cond.code yX5_copy cX5_copy 3 none ∈ Gw := gw_3 (List.mem_of_getElem? (i := 221) rfl) rfl
theorem qv_X5_copy : QV yX5_copy cX5_copy 3 none 1 := ⟨(by decide +kernel), im_X5_copy, gw_3 (List.mem_of_getElem? (i := 220) rfl) rfl, in_X5, co_X5_copy⟩
theorem im_X5_agrees : Cond.instanceMethod yX5_agrees ∈ Gw := gw_3 (List.mem_of_getElem? (i := 183) rfl) rfl
theorem co_X5_agrees : Cond.code yX5_agrees cX5_agrees 3 (some .boolean) ∈ Gw := gw_3 (List.mem_of_getElem? (i := 185) rfl) rfl
theorem qv_X5_agrees : QV yX5_agrees cX5_agrees 3 (some .boolean) 1 := ⟨(by decide +kernel), im_X5_agrees, gw_3 (List.mem_of_getElem? (i := 184) rfl) rfl, in_X5, co_X5_agrees⟩
theorem im_X5_agreesOn : Cond.instanceMethod yX5_agreesOn ∈ Gw := gw_3 (List.mem_of_getElem? (i := 175) rfl) rfl
theorem co_X5_agreesOn : Cond.code yX5_agreesOn cX5_agreesOn 5 (some .boolean) ∈ Gw := gw_3 (List.mem_of_getElem? (i := 177) rfl) rfl
theorem qv_X5_agreesOn : QV yX5_agreesOn cX5_agreesOn 5 (some .boolean) 2 := ⟨(by decide +kernel), im_X5_agreesOn, gw_3 (List.mem_of_getElem? (i := 176) rfl) rfl, in_X5, co_X5_agreesOn⟩
theorem im_X6_init : Cond.instanceMethod yX6_init ∈ Gw := gw_1 (List.mem_of_getElem? (i := 161) rfl) rfl
theorem co_X6_init : Cond.code yX6_init cX6_init 1 none ∈ Gw := gw_1 (List.mem_of_getElem? (i := 162) rfl) rfl
theorem im_X6_isOf : Cond.instanceMethod yX6_isOf ∈ Gw := gw_3 (List.mem_of_getElem? (i := 227) rfl) rfl
theorem co_X6_isOf : Cond.code yX6_isOf cX6_isOf 2 (some .boolean) ∈ Gw := gw_3 (List.mem_of_getElem? (i := 229) rfl) rfl
theorem qv_X6_isOf : QV yX6_isOf cX6_isOf 2 (some .boolean) 1 := ⟨(by decide +kernel), im_X6_isOf, gw_3 (List.mem_of_getElem? (i := 228) rfl) rfl, in_X6, co_X6_isOf⟩
theorem im_X6_keep : Cond.instanceMethod yX6_keep ∈ Gw := gw_3 (List.mem_of_getElem? (i := 215) rfl) rfl
theorem co_X6_keep : Cond.code yX6_keep cX6_keep 5 none ∈ Gw := gw_3 (List.mem_of_getElem? (i := 217) rfl) rfl
theorem qv_X6_keep : QV yX6_keep cX6_keep 5 none 3 := ⟨(by decide +kernel), im_X6_keep, gw_3 (List.mem_of_getElem? (i := 216) rfl) rfl, in_X6, co_X6_keep⟩
theorem im_X6_giveBack : Cond.instanceMethod yX6_giveBack ∈ Gw := gw_3 (List.mem_of_getElem? (i := 231) rfl) rfl
theorem co_X6_giveBack : Cond.code yX6_giveBack cX6_giveBack 4 none ∈ Gw := gw_3 (List.mem_of_getElem? (i := 233) rfl) rfl
theorem qv_X6_giveBack : QV yX6_giveBack cX6_giveBack 4 none 2 := ⟨(by decide +kernel), im_X6_giveBack, gw_3 (List.mem_of_getElem? (i := 232) rfl) rfl, in_X6, co_X6_giveBack⟩
theorem im_X7_init : Cond.instanceMethod yX7_init ∈ Gw := gw_1 (List.mem_of_getElem? (i := 32) rfl) rfl
theorem co_X7_init : Cond.code yX7_init cX7_init 1 none ∈ Gw := gw_1 (List.mem_of_getElem? (i := 33) rfl) rfl
theorem im_X7_isFull : Cond.instanceMethod yX7_isFull ∈ Gw := gw_2 (List.mem_of_getElem? (i := 4) rfl) rfl
theorem co_X7_isFull : Cond.code yX7_isFull cX7_isFull 1 (some .boolean) ∈ Gw := gw_2 (List.mem_of_getElem? (i := 6) rfl) rfl
theorem qv_X7_isFull : QV yX7_isFull cX7_isFull 1 (some .boolean) 0 := ⟨(by decide +kernel), im_X7_isFull, gw_2 (List.mem_of_getElem? (i := 5) rfl) rfl, in_X7, co_X7_isFull⟩
theorem im_X7_write : Cond.instanceMethod yX7_write ∈ Gw := gw_2 (List.mem_of_getElem? (i := 8) rfl) rfl
theorem co_X7_write : Cond.code yX7_write cX7_write 2 none ∈ Gw := gw_2 (List.mem_of_getElem? (i := 10) rfl) rfl
theorem qv_X7_write : QV yX7_write cX7_write 2 none 1 := ⟨(by decide +kernel), im_X7_write, gw_2 (List.mem_of_getElem? (i := 9) rfl) rfl, in_X7, co_X7_write⟩
theorem im_X7_faultPlace : Cond.instanceMethod yX7_faultPlace ∈ Gw := gw_2 (List.mem_of_getElem? (i := 20) rfl) rfl
theorem co_X7_faultPlace : Cond.code yX7_faultPlace cX7_faultPlace 3 (some .int) ∈ Gw := gw_2 (List.mem_of_getElem? (i := 22) rfl) rfl
theorem qv_X7_faultPlace : QV yX7_faultPlace cX7_faultPlace 3 (some .int) 0 := ⟨(by decide +kernel), im_X7_faultPlace, gw_2 (List.mem_of_getElem? (i := 21) rfl) rfl, in_X7, co_X7_faultPlace⟩
theorem qs_X7_fits : QS yX7_fits cX7_fits 3 (some .boolean) 3 := ⟨(by decide +kernel), gw_2 (List.mem_of_getElem? (i := 24) rfl) rfl, gw_1 (List.mem_of_getElem? (i := 2) rfl) rfl, gw_2 (List.mem_of_getElem? (i := 25) rfl) rfl⟩
theorem qs_X7_fitsBehindBidder : QS yX7_fitsBehindBidder cX7_fitsBehindBidder 2 (some .boolean) 2 := ⟨(by decide +kernel), gw_2 (List.mem_of_getElem? (i := 120) rfl) rfl, gw_1 (List.mem_of_getElem? (i := 2) rfl) rfl, gw_2 (List.mem_of_getElem? (i := 121) rfl) rfl⟩
theorem qs_X7_isDigit : QS yX7_isDigit cX7_isDigit 1 (some .boolean) 1 := ⟨(by decide +kernel), gw_2 (List.mem_of_getElem? (i := 27) rfl) rfl, gw_1 (List.mem_of_getElem? (i := 2) rfl) rfl, gw_2 (List.mem_of_getElem? (i := 28) rfl) rfl⟩
theorem qs_X7_kindOf : QS yX7_kindOf cX7_kindOf 1 (some .int) 1 := ⟨(by decide +kernel), gw_2 (List.mem_of_getElem? (i := 30) rfl) rfl, gw_1 (List.mem_of_getElem? (i := 2) rfl) rfl, gw_2 (List.mem_of_getElem? (i := 31) rfl) rfl⟩
theorem im_X7_isHall : Cond.instanceMethod yX7_isHall ∈ Gw := gw_2 (List.mem_of_getElem? (i := 128) rfl) rfl
theorem co_X7_isHall : Cond.code yX7_isHall cX7_isHall 1 (some .boolean) ∈ Gw := gw_2 (List.mem_of_getElem? (i := 130) rfl) rfl
theorem qv_X7_isHall : QV yX7_isHall cX7_isHall 1 (some .boolean) 0 := ⟨(by decide +kernel), im_X7_isHall, gw_2 (List.mem_of_getElem? (i := 129) rfl) rfl, in_X7, co_X7_isHall⟩
theorem im_X7_readInto : Cond.instanceMethod yX7_readInto ∈ Gw := gw_2 (List.mem_of_getElem? (i := 133) rfl) rfl
theorem co_X7_readInto : Cond.code yX7_readInto cX7_readInto 5 none ∈ Gw := gw_2 (List.mem_of_getElem? (i := 135) rfl) rfl
theorem qv_X7_readInto : QV yX7_readInto cX7_readInto 5 none 1 := ⟨(by decide +kernel), im_X7_readInto, gw_2 (List.mem_of_getElem? (i := 134) rfl) rfl, in_X7, co_X7_readInto⟩
theorem im_X8_init : Cond.instanceMethod yX8_init ∈ Gw := gw_1 (List.mem_of_getElem? (i := 185) rfl) rfl
theorem co_X8_init : Cond.code yX8_init cX8_init 1 none ∈ Gw := gw_1 (List.mem_of_getElem? (i := 186) rfl) rfl
theorem im_X8_find : Cond.instanceMethod yX8_find ∈ Gw := gw_3 (List.mem_of_getElem? (i := 106) rfl) rfl
theorem co_X8_find : Cond.code yX8_find cX8_find 5 none ∈ Gw := gw_3 (List.mem_of_getElem? (i := 108) rfl) rfl
theorem qv_X8_find : QV yX8_find cX8_find 5 none 2 := ⟨(by decide +kernel), im_X8_find, gw_3 (List.mem_of_getElem? (i := 107) rfl) rfl, in_X8, co_X8_find⟩
theorem im_X8_weigh : Cond.instanceMethod yX8_weigh ∈ Gw := gw_3 (List.mem_of_getElem? (i := 111) rfl) rfl
theorem co_X8_weigh : Cond.code yX8_weigh cX8_weigh 3 (some .int) ∈ Gw := gw_3 (List.mem_of_getElem? (i := 112) rfl) rfl
theorem qv_X8_weigh : QV yX8_weigh cX8_weigh 3 (some .int) 0 := ⟨(by decide +kernel), im_X8_weigh, gw_s (List.mem_of_getElem? (i := 4) rfl) rfl, in_X8, co_X8_weigh⟩
theorem im_X8_chooseFirst : Cond.instanceMethod yX8_chooseFirst ∈ Gw := gw_3 (List.mem_of_getElem? (i := 121) rfl) rfl
theorem co_X8_chooseFirst : Cond.code yX8_chooseFirst cX8_chooseFirst 2 none ∈ Gw := gw_3 (List.mem_of_getElem? (i := 122) rfl) rfl
theorem qv_X8_chooseFirst : QV yX8_chooseFirst cX8_chooseFirst 2 none 0 := ⟨(by decide +kernel), im_X8_chooseFirst, gw_s (List.mem_of_getElem? (i := 6) rfl) rfl, in_X8, co_X8_chooseFirst⟩
theorem im_X8_chooseNext : Cond.instanceMethod yX8_chooseNext ∈ Gw := gw_3 (List.mem_of_getElem? (i := 128) rfl) rfl
theorem co_X8_chooseNext : Cond.code yX8_chooseNext cX8_chooseNext 2 none ∈ Gw := gw_3 (List.mem_of_getElem? (i := 129) rfl) rfl
theorem qv_X8_chooseNext : QV yX8_chooseNext cX8_chooseNext 2 none 0 := ⟨(by decide +kernel), im_X8_chooseNext, gw_s (List.mem_of_getElem? (i := 7) rfl) rfl, in_X8, co_X8_chooseNext⟩
theorem im_X8_tryAll : Cond.instanceMethod yX8_tryAll ∈ Gw := gw_3 (List.mem_of_getElem? (i := 116) rfl) rfl
theorem co_X8_tryAll : Cond.code yX8_tryAll cX8_tryAll 5 none ∈ Gw := gw_3 (List.mem_of_getElem? (i := 117) rfl) rfl
theorem qv_X8_tryAll : QV yX8_tryAll cX8_tryAll 5 none 2 := ⟨(by decide +kernel), im_X8_tryAll, gw_s (List.mem_of_getElem? (i := 5) rfl) rfl, in_X8, co_X8_tryAll⟩
theorem im_X8_isRest : Cond.instanceMethod yX8_isRest ∈ Gw := gw_3 (List.mem_of_getElem? (i := 132) rfl) rfl
theorem co_X8_isRest : Cond.code yX8_isRest cX8_isRest 3 (some .boolean) ∈ Gw := gw_3 (List.mem_of_getElem? (i := 133) rfl) rfl
theorem qv_X8_isRest : QV yX8_isRest cX8_isRest 3 (some .boolean) 1 := ⟨(by decide +kernel), im_X8_isRest, gw_s (List.mem_of_getElem? (i := 8) rfl) rfl, in_X8, co_X8_isRest⟩
theorem im_X8_wouldChange : Cond.instanceMethod yX8_wouldChange ∈ Gw := gw_3 (List.mem_of_getElem? (i := 136) rfl) rfl
theorem co_X8_wouldChange : Cond.code yX8_wouldChange cX8_wouldChange 6 (some .boolean) ∈ Gw := gw_3 (List.mem_of_getElem? (i := 137) rfl) rfl
theorem qv_X8_wouldChange : QV yX8_wouldChange cX8_wouldChange 6 (some .boolean) 2 := ⟨(by decide +kernel), im_X8_wouldChange, gw_s (List.mem_of_getElem? (i := 9) rfl) rfl, in_X8, co_X8_wouldChange⟩
theorem im_X8_gainIn : Cond.instanceMethod yX8_gainIn ∈ Gw := gw_3 (List.mem_of_getElem? (i := 140) rfl) rfl
theorem co_X8_gainIn : Cond.code yX8_gainIn cX8_gainIn 3 (some .int) ∈ Gw := gw_3 (List.mem_of_getElem? (i := 141) rfl) rfl
theorem qv_X8_gainIn : QV yX8_gainIn cX8_gainIn 3 (some .int) 2 := ⟨(by decide +kernel), im_X8_gainIn, gw_s (List.mem_of_getElem? (i := 10) rfl) rfl, in_X8, co_X8_gainIn⟩
theorem im_X8_keepIfFirst : Cond.instanceMethod yX8_keepIfFirst ∈ Gw := gw_3 (List.mem_of_getElem? (i := 144) rfl) rfl
theorem co_X8_keepIfFirst : Cond.code yX8_keepIfFirst cX8_keepIfFirst 2 none ∈ Gw := gw_3 (List.mem_of_getElem? (i := 145) rfl) rfl
theorem qv_X8_keepIfFirst : QV yX8_keepIfFirst cX8_keepIfFirst 2 none 0 := ⟨(by decide +kernel), im_X8_keepIfFirst, gw_s (List.mem_of_getElem? (i := 11) rfl) rfl, in_X8, co_X8_keepIfFirst⟩
theorem im_X8_choiceInFirst : Cond.instanceMethod yX8_choiceInFirst ∈ Gw := gw_3 (List.mem_of_getElem? (i := 147) rfl) rfl
theorem co_X8_choiceInFirst : Cond.code yX8_choiceInFirst cX8_choiceInFirst 2 (some .int) ∈ Gw := gw_3 (List.mem_of_getElem? (i := 149) rfl) rfl
theorem qv_X8_choiceInFirst : QV yX8_choiceInFirst cX8_choiceInFirst 2 (some .int) 1 := ⟨(by decide +kernel), im_X8_choiceInFirst, gw_3 (List.mem_of_getElem? (i := 148) rfl) rfl, in_X8, co_X8_choiceInFirst⟩
theorem im_X9_init : Cond.instanceMethod yX9_init ∈ Gw := gw_2 (List.mem_of_getElem? (i := 158) rfl) rfl
theorem co_X9_init : Cond.code yX9_init cX9_init 4 none ∈ Gw := gw_2 (List.mem_of_getElem? (i := 159) rfl) rfl
theorem im_X9_kind : Cond.instanceMethod yX9_kind ∈ Gw := gw_3 (List.mem_of_getElem? (i := 29) rfl) rfl
theorem co_X9_kind : Cond.code yX9_kind cX9_kind 1 (some .int) ∈ Gw := gw_3 (List.mem_of_getElem? (i := 30) rfl) rfl
theorem im_X9_breathsOf : Cond.instanceMethod yX9_breathsOf ∈ Gw := gw_2 (List.mem_of_getElem? (i := 225) rfl) rfl
theorem co_X9_breathsOf : Cond.code yX9_breathsOf cX9_breathsOf 2 (some .int) ∈ Gw := gw_2 (List.mem_of_getElem? (i := 226) rfl) rfl
theorem im_X10_init : Cond.instanceMethod yX10_init ∈ Gw := gw_2 (List.mem_of_getElem? (i := 146) rfl) rfl
theorem co_X10_init : Cond.code yX10_init cX10_init 4 none ∈ Gw := gw_2 (List.mem_of_getElem? (i := 147) rfl) rfl
theorem im_X10_kind : Cond.instanceMethod yX10_kind ∈ Gw := gw_3 (List.mem_of_getElem? (i := 32) rfl) rfl
theorem co_X10_kind : Cond.code yX10_kind cX10_kind 1 (some .int) ∈ Gw := gw_3 (List.mem_of_getElem? (i := 33) rfl) rfl
theorem im_X10_breathsOf : Cond.instanceMethod yX10_breathsOf ∈ Gw := gw_2 (List.mem_of_getElem? (i := 221) rfl) rfl
theorem co_X10_breathsOf : Cond.code yX10_breathsOf cX10_breathsOf 2 (some .int) ∈ Gw := gw_2 (List.mem_of_getElem? (i := 222) rfl) rfl
theorem im_X11_init : Cond.instanceMethod yX11_init ∈ Gw := gw_1 (List.mem_of_getElem? (i := 24) rfl) rfl
theorem co_X11_init : Cond.code yX11_init cX11_init 1 none ∈ Gw := gw_1 (List.mem_of_getElem? (i := 25) rfl) rfl
theorem im_X11_letter : Cond.instanceMethod yX11_letter ∈ Gw := gw_2 (List.mem_of_getElem? (i := 0) rfl) rfl
theorem co_X11_letter : Cond.code yX11_letter cX11_letter 2 (some .int) ∈ Gw := gw_2 (List.mem_of_getElem? (i := 2) rfl) rfl
theorem qv_X11_letter : QV yX11_letter cX11_letter 2 (some .int) 1 := ⟨(by decide +kernel), im_X11_letter, gw_2 (List.mem_of_getElem? (i := 1) rfl) rfl, in_X11, co_X11_letter⟩
theorem im_X11_blank : Cond.instanceMethod yX11_blank ∈ Gw := gw_2 (List.mem_of_getElem? (i := 12) rfl) rfl
theorem co_X11_blank : Cond.code yX11_blank cX11_blank 2 (some .int) ∈ Gw := gw_2 (List.mem_of_getElem? (i := 14) rfl) rfl
theorem qv_X11_blank : QV yX11_blank cX11_blank 2 (some .int) 0 := ⟨(by decide +kernel), im_X11_blank, gw_2 (List.mem_of_getElem? (i := 13) rfl) rfl, in_X11, co_X11_blank⟩
theorem im_X11_fault : Cond.instanceMethod yX11_fault ∈ Gw := gw_2 (List.mem_of_getElem? (i := 16) rfl) rfl
theorem co_X11_fault : Cond.code yX11_fault cX11_fault 1 (some .int) ∈ Gw := gw_2 (List.mem_of_getElem? (i := 18) rfl) rfl
theorem qv_X11_fault : QV yX11_fault cX11_fault 1 (some .int) 0 := ⟨(by decide +kernel), im_X11_fault, gw_2 (List.mem_of_getElem? (i := 17) rfl) rfl, in_X11, co_X11_fault⟩
theorem im_X11_hall : Cond.instanceMethod yX11_hall ∈ Gw := gw_2 (List.mem_of_getElem? (i := 124) rfl) rfl
theorem co_X11_hall : Cond.code yX11_hall cX11_hall 1 (some .int) ∈ Gw := gw_2 (List.mem_of_getElem? (i := 126) rfl) rfl
theorem qv_X11_hall : QV yX11_hall cX11_hall 1 (some .int) 0 := ⟨(by decide +kernel), im_X11_hall, gw_2 (List.mem_of_getElem? (i := 125) rfl) rfl, in_X11, co_X11_hall⟩
theorem im_X11_about : Cond.instanceMethod yX11_about ∈ Gw := gw_2 (List.mem_of_getElem? (i := 192) rfl) rfl
theorem co_X11_about : Cond.code yX11_about cX11_about 4 (some .int) ∈ Gw := gw_2 (List.mem_of_getElem? (i := 194) rfl) rfl
theorem qv_X11_about : QV yX11_about cX11_about 4 (some .int) 2 := ⟨(by decide +kernel), im_X11_about, gw_2 (List.mem_of_getElem? (i := 193) rfl) rfl, in_X11, co_X11_about⟩
theorem im_X11_as : Cond.instanceMethod yX11_as ∈ Gw := gw_3 (List.mem_of_getElem? (i := 57) rfl) rfl
theorem co_X11_as : Cond.code yX11_as cX11_as 3 (some .int) ∈ Gw := gw_3 (List.mem_of_getElem? (i := 59) rfl) rfl
theorem qv_X11_as : QV yX11_as cX11_as 3 (some .int) 2 := ⟨(by decide +kernel), im_X11_as, gw_3 (List.mem_of_getElem? (i := 58) rfl) rfl, in_X11, co_X11_as⟩
theorem qs_X11_isOfKind : QS yX11_isOfKind cX11_isOfKind 2 (some .boolean) 2 := ⟨(by decide +kernel), gw_3 (List.mem_of_getElem? (i := 61) rfl) rfl, gw_1 (List.mem_of_getElem? (i := 1) rfl) rfl, gw_3 (List.mem_of_getElem? (i := 62) rfl) rfl⟩
theorem im_X11_choose : Cond.instanceMethod yX11_choose ∈ Gw := gw_3 (List.mem_of_getElem? (i := 68) rfl) rfl
theorem co_X11_choose : Cond.code yX11_choose cX11_choose 5 (some .int) ∈ Gw := gw_3 (List.mem_of_getElem? (i := 70) rfl) rfl
theorem qv_X11_choose : QV yX11_choose cX11_choose 5 (some .int) 2 := ⟨(by decide +kernel), im_X11_choose, gw_3 (List.mem_of_getElem? (i := 69) rfl) rfl, in_X11, co_X11_choose⟩
theorem im_X11_wind : Cond.instanceMethod yX11_wind ∈ Gw := gw_3 (List.mem_of_getElem? (i := 72) rfl) rfl
theorem co_X11_wind : Cond.code yX11_wind cX11_wind 5 (some .int) ∈ Gw := gw_3 (List.mem_of_getElem? (i := 74) rfl) rfl
theorem qv_X11_wind : QV yX11_wind cX11_wind 5 (some .int) 2 := ⟨(by decide +kernel), im_X11_wind, gw_3 (List.mem_of_getElem? (i := 73) rfl) rfl, in_X11, co_X11_wind⟩
theorem im_X11_touch : Cond.instanceMethod yX11_touch ∈ Gw := gw_3 (List.mem_of_getElem? (i := 76) rfl) rfl
theorem co_X11_touch : Cond.code yX11_touch cX11_touch 6 (some .int) ∈ Gw := gw_3 (List.mem_of_getElem? (i := 78) rfl) rfl
theorem qv_X11_touch : QV yX11_touch cX11_touch 6 (some .int) 3 := ⟨(by decide +kernel), im_X11_touch, gw_3 (List.mem_of_getElem? (i := 77) rfl) rfl, in_X11, co_X11_touch⟩
theorem im_X11_saying : Cond.instanceMethod yX11_saying ∈ Gw := gw_3 (List.mem_of_getElem? (i := 80) rfl) rfl
theorem co_X11_saying : Cond.code yX11_saying cX11_saying 4 (some .int) ∈ Gw := gw_3 (List.mem_of_getElem? (i := 82) rfl) rfl
theorem qv_X11_saying : QV yX11_saying cX11_saying 4 (some .int) 1 := ⟨(by decide +kernel), im_X11_saying, gw_3 (List.mem_of_getElem? (i := 81) rfl) rfl, in_X11, co_X11_saying⟩
theorem im_X11_lot : Cond.instanceMethod yX11_lot ∈ Gw := gw_3 (List.mem_of_getElem? (i := 84) rfl) rfl
theorem co_X11_lot : Cond.code yX11_lot cX11_lot 2 (some .int) ∈ Gw := gw_3 (List.mem_of_getElem? (i := 86) rfl) rfl
theorem qv_X11_lot : QV yX11_lot cX11_lot 2 (some .int) 1 := ⟨(by decide +kernel), im_X11_lot, gw_3 (List.mem_of_getElem? (i := 85) rfl) rfl, in_X11, co_X11_lot⟩
theorem im_X11_best : Cond.instanceMethod yX11_best ∈ Gw := gw_3 (List.mem_of_getElem? (i := 88) rfl) rfl
theorem co_X11_best : Cond.code yX11_best cX11_best 7 (some .int) ∈ Gw := gw_3 (List.mem_of_getElem? (i := 90) rfl) rfl
theorem qv_X11_best : QV yX11_best cX11_best 7 (some .int) 2 := ⟨(by decide +kernel), im_X11_best, gw_3 (List.mem_of_getElem? (i := 89) rfl) rfl, in_X11, co_X11_best⟩
theorem im_X11_gainByChoice : Cond.instanceMethod yX11_gainByChoice ∈ Gw := gw_3 (List.mem_of_getElem? (i := 94) rfl) rfl
theorem co_X11_gainByChoice : Cond.code yX11_gainByChoice cX11_gainByChoice 3 (some .int) ∈ Gw := gw_3 (List.mem_of_getElem? (i := 95) rfl) rfl
theorem qv_X11_gainByChoice : QV yX11_gainByChoice cX11_gainByChoice 3 (some .int) 2 := ⟨(by decide +kernel), im_X11_gainByChoice, gw_s (List.mem_of_getElem? (i := 3) rfl) rfl, in_X11, co_X11_gainByChoice⟩
theorem im_X11_rests : Cond.instanceMethod yX11_rests ∈ Gw := gw_3 (List.mem_of_getElem? (i := 102) rfl) rfl
theorem co_X11_rests : Cond.code yX11_rests cX11_rests 3 (some .int) ∈ Gw := gw_3 (List.mem_of_getElem? (i := 104) rfl) rfl
theorem qv_X11_rests : QV yX11_rests cX11_rests 3 (some .int) 2 := ⟨(by decide +kernel), im_X11_rests, gw_3 (List.mem_of_getElem? (i := 103) rfl) rfl, in_X11, co_X11_rests⟩
theorem im_X11_hear : Cond.instanceMethod yX11_hear ∈ Gw := gw_3 (List.mem_of_getElem? (i := 151) rfl) rfl
theorem co_X11_hear : Cond.code yX11_hear cX11_hear 3 (some .int) ∈ Gw := gw_3 (List.mem_of_getElem? (i := 153) rfl) rfl
theorem qv_X11_hear : QV yX11_hear cX11_hear 3 (some .int) 2 := ⟨(by decide +kernel), im_X11_hear, gw_3 (List.mem_of_getElem? (i := 152) rfl) rfl, in_X11, co_X11_hear⟩
theorem im_X11_forget : Cond.instanceMethod yX11_forget ∈ Gw := gw_3 (List.mem_of_getElem? (i := 163) rfl) rfl
theorem co_X11_forget : Cond.code yX11_forget cX11_forget 2 (some .int) ∈ Gw := gw_3 (List.mem_of_getElem? (i := 165) rfl) rfl
theorem qv_X11_forget : QV yX11_forget cX11_forget 2 (some .int) 0 := ⟨(by decide +kernel), im_X11_forget, gw_3 (List.mem_of_getElem? (i := 164) rfl) rfl, in_X11, co_X11_forget⟩
theorem im_X11_winds : Cond.instanceMethod yX11_winds ∈ Gw := gw_3 (List.mem_of_getElem? (i := 167) rfl) rfl
theorem co_X11_winds : Cond.code yX11_winds cX11_winds 4 (some .int) ∈ Gw := gw_3 (List.mem_of_getElem? (i := 169) rfl) rfl
theorem qv_X11_winds : QV yX11_winds cX11_winds 4 (some .int) 1 := ⟨(by decide +kernel), im_X11_winds, gw_3 (List.mem_of_getElem? (i := 168) rfl) rfl, in_X11, co_X11_winds⟩
theorem im_X11_touched : Cond.instanceMethod yX11_touched ∈ Gw := gw_3 (List.mem_of_getElem? (i := 179) rfl) rfl
theorem co_X11_touched : Cond.code yX11_touched cX11_touched 5 (some .int) ∈ Gw := gw_3 (List.mem_of_getElem? (i := 181) rfl) rfl
theorem qv_X11_touched : QV yX11_touched cX11_touched 5 (some .int) 1 := ⟨(by decide +kernel), im_X11_touched, gw_3 (List.mem_of_getElem? (i := 180) rfl) rfl, in_X11, co_X11_touched⟩
theorem im_X11_explainsHeard : Cond.instanceMethod yX11_explainsHeard ∈ Gw := gw_3 (List.mem_of_getElem? (i := 188) rfl) rfl
theorem co_X11_explainsHeard : Cond.code yX11_explainsHeard cX11_explainsHeard 3 (some .boolean) ∈ Gw := gw_3 (List.mem_of_getElem? (i := 189) rfl) rfl
theorem qv_X11_explainsHeard : QV yX11_explainsHeard cX11_explainsHeard 3 (some .boolean) 2 := ⟨(by decide +kernel), im_X11_explainsHeard, gw_s (List.mem_of_getElem? (i := 12) rfl) rfl, in_X11, co_X11_explainsHeard⟩
theorem im_X11_sales : Cond.instanceMethod yX11_sales ∈ Gw := gw_3 (List.mem_of_getElem? (i := 199) rfl) rfl
theorem co_X11_sales : Cond.code yX11_sales cX11_sales 8 (some .int) ∈ Gw := gw_3 (List.mem_of_getElem? (i := 201) rfl) rfl
theorem qv_X11_sales : QV yX11_sales cX11_sales 8 (some .int) 3 := ⟨(by decide +kernel), im_X11_sales, gw_3 (List.mem_of_getElem? (i := 200) rfl) rfl, in_X11, co_X11_sales⟩
theorem im_X11_supposeDrawnChoices : Cond.instanceMethod yX11_supposeDrawnChoices ∈ Gw := gw_3 (List.mem_of_getElem? (i := 204) rfl) rfl
theorem co_X11_supposeDrawnChoices : Cond.code yX11_supposeDrawnChoices cX11_supposeDrawnChoices 4 (some .int) ∈ Gw := gw_3 (List.mem_of_getElem? (i := 205) rfl) rfl
theorem qv_X11_supposeDrawnChoices : QV yX11_supposeDrawnChoices cX11_supposeDrawnChoices 4 (some .int) 1 := ⟨(by decide +kernel), im_X11_supposeDrawnChoices, gw_s (List.mem_of_getElem? (i := 13) rfl) rfl, in_X11, co_X11_supposeDrawnChoices⟩
theorem im_X11_image : Cond.instanceMethod yX11_image ∈ Gw := gw_3 (List.mem_of_getElem? (i := 211) rfl) rfl
theorem co_X11_image : Cond.code yX11_image cX11_image 1 (some .int) ∈ Gw := gw_3 (List.mem_of_getElem? (i := 213) rfl) rfl
theorem qv_X11_image : QV yX11_image cX11_image 1 (some .int) 0 := ⟨(by decide +kernel), im_X11_image, gw_3 (List.mem_of_getElem? (i := 212) rfl) rfl, in_X11, co_X11_image⟩
theorem im_X11_restore : Cond.instanceMethod yX11_restore ∈ Gw := gw_3 (List.mem_of_getElem? (i := 223) rfl) rfl
theorem co_X11_restore : Cond.code yX11_restore cX11_restore 1 (some .int) ∈ Gw := gw_3 (List.mem_of_getElem? (i := 225) rfl) rfl
theorem qv_X11_restore : QV yX11_restore cX11_restore 1 (some .int) 0 := ⟨(by decide +kernel), im_X11_restore, gw_3 (List.mem_of_getElem? (i := 224) rfl) rfl, in_X11, co_X11_restore⟩
theorem im_X11_count : Cond.instanceMethod yX11_count ∈ Gw := gw_3 (List.mem_of_getElem? (i := 235) rfl) rfl
theorem co_X11_count : Cond.code yX11_count cX11_count 2 (some .int) ∈ Gw := gw_3 (List.mem_of_getElem? (i := 237) rfl) rfl
theorem qv_X11_count : QV yX11_count cX11_count 2 (some .int) 1 := ⟨(by decide +kernel), im_X11_count, gw_3 (List.mem_of_getElem? (i := 236) rfl) rfl, in_X11, co_X11_count⟩
theorem im_X11_digest : Cond.instanceMethod yX11_digest ∈ Gw := gw_4 (List.mem_of_getElem? (i := 13) rfl) rfl
theorem co_X11_digest : Cond.code yX11_digest cX11_digest 4 (some .long) ∈ Gw := gw_4 (List.mem_of_getElem? (i := 15) rfl) rfl
theorem qv_X11_digest : QV yX11_digest cX11_digest 4 (some .long) 0 := ⟨(by decide +kernel), im_X11_digest, gw_4 (List.mem_of_getElem? (i := 14) rfl) rfl, in_X11, co_X11_digest⟩
theorem im_X11_digestWith : Cond.instanceMethod yX11_digestWith ∈ Gw := gw_4 (List.mem_of_getElem? (i := 22) rfl) rfl
theorem co_X11_digestWith : Cond.code yX11_digestWith cX11_digestWith 7 (some .long) ∈ Gw := gw_4 (List.mem_of_getElem? (i := 23) rfl) rfl
theorem qv_X11_digestWith : QV yX11_digestWith cX11_digestWith 7 (some .long) 2 := ⟨(by decide +kernel), im_X11_digestWith, gw_s (List.mem_of_getElem? (i := 14) rfl) rfl, in_X11, co_X11_digestWith⟩
theorem im_X12_init : Cond.instanceMethod yX12_init ∈ Gw := gw_4 (List.mem_of_getElem? (i := 31) rfl) rfl
theorem co_X12_init : Cond.code yX12_init cX12_init 1 none ∈ Gw := gw_4 (List.mem_of_getElem? (i := 32) rfl) rfl
theorem qs_X12_within : QS yX12_within cX12_within 3 (some .boolean) 3 := ⟨(by decide +kernel), gw_4 (List.mem_of_getElem? (i := 127) rfl) rfl, gw_1 (List.mem_of_getElem? (i := 9) rfl) rfl, gw_4 (List.mem_of_getElem? (i := 128) rfl) rfl⟩
theorem qs_X12_has : QS yX12_has cX12_has 2 (some .boolean) 2 := ⟨(by decide +kernel), gw_4 (List.mem_of_getElem? (i := 177) rfl) rfl, gw_1 (List.mem_of_getElem? (i := 9) rfl) rfl, gw_4 (List.mem_of_getElem? (i := 178) rfl) rfl⟩
theorem im_X12_letter : Cond.instanceMethod yX12_letter ∈ Gw := gw_4 (List.mem_of_getElem? (i := 123) rfl) rfl
theorem co_X12_letter : Cond.code yX12_letter cX12_letter 2 (some .int) ∈ Gw := gw_4 (List.mem_of_getElem? (i := 125) rfl) rfl
theorem qv_X12_letter : QV yX12_letter cX12_letter 2 (some .int) 1 := ⟨(by decide +kernel), im_X12_letter, gw_4 (List.mem_of_getElem? (i := 124) rfl) rfl, in_X12, co_X12_letter⟩
theorem im_X12_blank : Cond.instanceMethod yX12_blank ∈ Gw := gw_4 (List.mem_of_getElem? (i := 130) rfl) rfl
theorem co_X12_blank : Cond.code yX12_blank cX12_blank 2 (some .int) ∈ Gw := gw_4 (List.mem_of_getElem? (i := 132) rfl) rfl
theorem qv_X12_blank : QV yX12_blank cX12_blank 2 (some .int) 0 := ⟨(by decide +kernel), im_X12_blank, gw_4 (List.mem_of_getElem? (i := 131) rfl) rfl, in_X12, co_X12_blank⟩
theorem qs_X12_kindBy : QS yX12_kindBy cX12_kindBy 1 (some .int) 1 := ⟨(by decide +kernel), gw_4 (List.mem_of_getElem? (i := 146) rfl) rfl, gw_1 (List.mem_of_getElem? (i := 9) rfl) rfl, gw_4 (List.mem_of_getElem? (i := 147) rfl) rfl⟩
theorem im_X12_isFigure : Cond.instanceMethod yX12_isFigure ∈ Gw := gw_4 (List.mem_of_getElem? (i := 150) rfl) rfl
theorem co_X12_isFigure : Cond.code yX12_isFigure cX12_isFigure 3 (some .boolean) ∈ Gw := gw_4 (List.mem_of_getElem? (i := 151) rfl) rfl
theorem qv_X12_isFigure : QV yX12_isFigure cX12_isFigure 3 (some .boolean) 2 := ⟨(by decide +kernel), im_X12_isFigure, gw_s (List.mem_of_getElem? (i := 17) rfl) rfl, in_X12, co_X12_isFigure⟩
theorem im_X12_readOne : Cond.instanceMethod yX12_readOne ∈ Gw := gw_4 (List.mem_of_getElem? (i := 143) rfl) rfl
theorem co_X12_readOne : Cond.code yX12_readOne cX12_readOne 2 (some .int) ∈ Gw := gw_4 (List.mem_of_getElem? (i := 144) rfl) rfl
theorem qv_X12_readOne : QV yX12_readOne cX12_readOne 2 (some .int) 1 := ⟨(by decide +kernel), im_X12_readOne, gw_s (List.mem_of_getElem? (i := 16) rfl) rfl, in_X12, co_X12_readOne⟩
theorem im_X12_read : Cond.instanceMethod yX12_read ∈ Gw := gw_4 (List.mem_of_getElem? (i := 139) rfl) rfl
theorem co_X12_read : Cond.code yX12_read cX12_read 4 (some .int) ∈ Gw := gw_4 (List.mem_of_getElem? (i := 140) rfl) rfl
theorem qv_X12_read : QV yX12_read cX12_read 4 (some .int) 0 := ⟨(by decide +kernel), im_X12_read, gw_s (List.mem_of_getElem? (i := 15) rfl) rfl, in_X12, co_X12_read⟩
theorem im_X12_fault : Cond.instanceMethod yX12_fault ∈ Gw := gw_4 (List.mem_of_getElem? (i := 134) rfl) rfl
theorem co_X12_fault : Cond.code yX12_fault cX12_fault 1 (some .int) ∈ Gw := gw_4 (List.mem_of_getElem? (i := 136) rfl) rfl
theorem qv_X12_fault : QV yX12_fault cX12_fault 1 (some .int) 0 := ⟨(by decide +kernel), im_X12_fault, gw_4 (List.mem_of_getElem? (i := 135) rfl) rfl, in_X12, co_X12_fault⟩
theorem im_X12_hall : Cond.instanceMethod yX12_hall ∈ Gw := gw_4 (List.mem_of_getElem? (i := 153) rfl) rfl
theorem co_X12_hall : Cond.code yX12_hall cX12_hall 3 (some .int) ∈ Gw := gw_4 (List.mem_of_getElem? (i := 155) rfl) rfl
theorem qv_X12_hall : QV yX12_hall cX12_hall 3 (some .int) 0 := ⟨(by decide +kernel), im_X12_hall, gw_4 (List.mem_of_getElem? (i := 154) rfl) rfl, in_X12, co_X12_hall⟩
theorem im_X12_isBidder : Cond.instanceMethod yX12_isBidder ∈ Gw := gw_4 (List.mem_of_getElem? (i := 162) rfl) rfl
theorem co_X12_isBidder : Cond.code yX12_isBidder cX12_isBidder 2 (some .boolean) ∈ Gw := gw_4 (List.mem_of_getElem? (i := 163) rfl) rfl
theorem qv_X12_isBidder : QV yX12_isBidder cX12_isBidder 2 (some .boolean) 1 := ⟨(by decide +kernel), im_X12_isBidder, gw_s (List.mem_of_getElem? (i := 18) rfl) rfl, in_X12, co_X12_isBidder⟩
theorem im_X12_ownEnd : Cond.instanceMethod yX12_ownEnd ∈ Gw := gw_4 (List.mem_of_getElem? (i := 174) rfl) rfl
theorem co_X12_ownEnd : Cond.code yX12_ownEnd cX12_ownEnd 4 (some .int) ∈ Gw := gw_4 (List.mem_of_getElem? (i := 175) rfl) rfl
theorem qv_X12_ownEnd : QV yX12_ownEnd cX12_ownEnd 4 (some .int) 1 := ⟨(by decide +kernel), im_X12_ownEnd, gw_s (List.mem_of_getElem? (i := 21) rfl) rfl, in_X12, co_X12_ownEnd⟩
theorem im_X12_layStops : Cond.instanceMethod yX12_layStops ∈ Gw := gw_4 (List.mem_of_getElem? (i := 170) rfl) rfl
theorem co_X12_layStops : Cond.code yX12_layStops cX12_layStops 5 none ∈ Gw := gw_4 (List.mem_of_getElem? (i := 171) rfl) rfl
theorem qv_X12_layStops : QV yX12_layStops cX12_layStops 5 none 0 := ⟨(by decide +kernel), im_X12_layStops, gw_s (List.mem_of_getElem? (i := 20) rfl) rfl, in_X12, co_X12_layStops⟩
theorem im_X12_silentFrom : Cond.instanceMethod yX12_silentFrom ∈ Gw := gw_4 (List.mem_of_getElem? (i := 181) rfl) rfl
theorem co_X12_silentFrom : Cond.code yX12_silentFrom cX12_silentFrom 2 (some .int) ∈ Gw := gw_4 (List.mem_of_getElem? (i := 182) rfl) rfl
theorem qv_X12_silentFrom : QV yX12_silentFrom cX12_silentFrom 2 (some .int) 1 := ⟨(by decide +kernel), im_X12_silentFrom, gw_s (List.mem_of_getElem? (i := 22) rfl) rfl, in_X12, co_X12_silentFrom⟩
theorem im_X12_nextSilence : Cond.instanceMethod yX12_nextSilence ∈ Gw := gw_4 (List.mem_of_getElem? (i := 197) rfl) rfl
theorem co_X12_nextSilence : Cond.code yX12_nextSilence cX12_nextSilence 5 (some .int) ∈ Gw := gw_4 (List.mem_of_getElem? (i := 198) rfl) rfl
theorem qv_X12_nextSilence : QV yX12_nextSilence cX12_nextSilence 5 (some .int) 1 := ⟨(by decide +kernel), im_X12_nextSilence, gw_s (List.mem_of_getElem? (i := 26) rfl) rfl, in_X12, co_X12_nextSilence⟩
theorem im_X12_manySilent : Cond.instanceMethod yX12_manySilent ∈ Gw := gw_4 (List.mem_of_getElem? (i := 202) rfl) rfl
theorem co_X12_manySilent : Cond.code yX12_manySilent cX12_manySilent 4 (some .int) ∈ Gw := gw_4 (List.mem_of_getElem? (i := 203) rfl) rfl
theorem qv_X12_manySilent : QV yX12_manySilent cX12_manySilent 4 (some .int) 1 := ⟨(by decide +kernel), im_X12_manySilent, gw_s (List.mem_of_getElem? (i := 27) rfl) rfl, in_X12, co_X12_manySilent⟩
theorem im_X12_getter : Cond.instanceMethod yX12_getter ∈ Gw := gw_4 (List.mem_of_getElem? (i := 193) rfl) rfl
theorem co_X12_getter : Cond.code yX12_getter cX12_getter 5 (some .int) ∈ Gw := gw_4 (List.mem_of_getElem? (i := 194) rfl) rfl
theorem qv_X12_getter : QV yX12_getter cX12_getter 5 (some .int) 0 := ⟨(by decide +kernel), im_X12_getter, gw_s (List.mem_of_getElem? (i := 25) rfl) rfl, in_X12, co_X12_getter⟩
theorem im_X12_priceOf : Cond.instanceMethod yX12_priceOf ∈ Gw := gw_4 (List.mem_of_getElem? (i := 185) rfl) rfl
theorem co_X12_priceOf : Cond.code yX12_priceOf cX12_priceOf 3 (some .int) ∈ Gw := gw_4 (List.mem_of_getElem? (i := 186) rfl) rfl
theorem qv_X12_priceOf : QV yX12_priceOf cX12_priceOf 3 (some .int) 1 := ⟨(by decide +kernel), im_X12_priceOf, gw_s (List.mem_of_getElem? (i := 23) rfl) rfl, in_X12, co_X12_priceOf⟩
theorem im_X12_gainOf : Cond.instanceMethod yX12_gainOf ∈ Gw := gw_4 (List.mem_of_getElem? (i := 189) rfl) rfl
theorem co_X12_gainOf : Cond.code yX12_gainOf cX12_gainOf 2 (some .int) ∈ Gw := gw_4 (List.mem_of_getElem? (i := 190) rfl) rfl
theorem qv_X12_gainOf : QV yX12_gainOf cX12_gainOf 2 (some .int) 1 := ⟨(by decide +kernel), im_X12_gainOf, gw_s (List.mem_of_getElem? (i := 24) rfl) rfl, in_X12, co_X12_gainOf⟩
theorem im_X12_bidderNow : Cond.instanceMethod yX12_bidderNow ∈ Gw := gw_4 (List.mem_of_getElem? (i := 166) rfl) rfl
theorem co_X12_bidderNow : Cond.code yX12_bidderNow cX12_bidderNow 3 (some .int) ∈ Gw := gw_4 (List.mem_of_getElem? (i := 167) rfl) rfl
theorem qv_X12_bidderNow : QV yX12_bidderNow cX12_bidderNow 3 (some .int) 2 := ⟨(by decide +kernel), im_X12_bidderNow, gw_s (List.mem_of_getElem? (i := 19) rfl) rfl, in_X12, co_X12_bidderNow⟩
theorem im_X12_about : Cond.instanceMethod yX12_about ∈ Gw := gw_4 (List.mem_of_getElem? (i := 157) rfl) rfl
theorem co_X12_about : Cond.code yX12_about cX12_about 3 (some .int) ∈ Gw := gw_4 (List.mem_of_getElem? (i := 159) rfl) rfl
theorem qv_X12_about : QV yX12_about cX12_about 3 (some .int) 2 := ⟨(by decide +kernel), im_X12_about, gw_4 (List.mem_of_getElem? (i := 158) rfl) rfl, in_X12, co_X12_about⟩
theorem im_X12_as : Cond.instanceMethod yX12_as ∈ Gw := gw_4 (List.mem_of_getElem? (i := 205) rfl) rfl
theorem co_X12_as : Cond.code yX12_as cX12_as 4 (some .int) ∈ Gw := gw_4 (List.mem_of_getElem? (i := 207) rfl) rfl
theorem qv_X12_as : QV yX12_as cX12_as 4 (some .int) 2 := ⟨(by decide +kernel), im_X12_as, gw_4 (List.mem_of_getElem? (i := 206) rfl) rfl, in_X12, co_X12_as⟩
theorem im_X12_choose : Cond.instanceMethod yX12_choose ∈ Gw := gw_4 (List.mem_of_getElem? (i := 209) rfl) rfl
theorem co_X12_choose : Cond.code yX12_choose cX12_choose 4 (some .int) ∈ Gw := gw_4 (List.mem_of_getElem? (i := 211) rfl) rfl
theorem qv_X12_choose : QV yX12_choose cX12_choose 4 (some .int) 2 := ⟨(by decide +kernel), im_X12_choose, gw_4 (List.mem_of_getElem? (i := 210) rfl) rfl, in_X12, co_X12_choose⟩
theorem im_X12_wind : Cond.instanceMethod yX12_wind ∈ Gw := gw_4 (List.mem_of_getElem? (i := 213) rfl) rfl
theorem co_X12_wind : Cond.code yX12_wind cX12_wind 4 (some .int) ∈ Gw := gw_4 (List.mem_of_getElem? (i := 215) rfl) rfl
theorem qv_X12_wind : QV yX12_wind cX12_wind 4 (some .int) 2 := ⟨(by decide +kernel), im_X12_wind, gw_4 (List.mem_of_getElem? (i := 214) rfl) rfl, in_X12, co_X12_wind⟩
theorem im_X12_touch : Cond.instanceMethod yX12_touch ∈ Gw := gw_4 (List.mem_of_getElem? (i := 217) rfl) rfl
theorem co_X12_touch : Cond.code yX12_touch cX12_touch 5 (some .int) ∈ Gw := gw_4 (List.mem_of_getElem? (i := 219) rfl) rfl
theorem qv_X12_touch : QV yX12_touch cX12_touch 5 (some .int) 3 := ⟨(by decide +kernel), im_X12_touch, gw_4 (List.mem_of_getElem? (i := 218) rfl) rfl, in_X12, co_X12_touch⟩
theorem im_X12_sayingNow : Cond.instanceMethod yX12_sayingNow ∈ Gw := gw_4 (List.mem_of_getElem? (i := 226) rfl) rfl
theorem co_X12_sayingNow : Cond.code yX12_sayingNow cX12_sayingNow 4 (some .int) ∈ Gw := gw_4 (List.mem_of_getElem? (i := 227) rfl) rfl
theorem qv_X12_sayingNow : QV yX12_sayingNow cX12_sayingNow 4 (some .int) 1 := ⟨(by decide +kernel), im_X12_sayingNow, gw_s (List.mem_of_getElem? (i := 28) rfl) rfl, in_X12, co_X12_sayingNow⟩
theorem im_X12_saying : Cond.instanceMethod yX12_saying ∈ Gw := gw_4 (List.mem_of_getElem? (i := 221) rfl) rfl
theorem co_X12_saying : Cond.code yX12_saying cX12_saying 2 (some .int) ∈ Gw := gw_4 (List.mem_of_getElem? (i := 223) rfl) rfl
theorem qv_X12_saying : QV yX12_saying cX12_saying 2 (some .int) 1 := ⟨(by decide +kernel), im_X12_saying, gw_4 (List.mem_of_getElem? (i := 222) rfl) rfl, in_X12, co_X12_saying⟩
theorem im_X12_lotNow : Cond.instanceMethod yX12_lotNow ∈ Gw := gw_4 (List.mem_of_getElem? (i := 234) rfl) rfl
theorem co_X12_lotNow : Cond.code yX12_lotNow cX12_lotNow 3 (some .int) ∈ Gw := gw_4 (List.mem_of_getElem? (i := 235) rfl) rfl
theorem qv_X12_lotNow : QV yX12_lotNow cX12_lotNow 3 (some .int) 1 := ⟨(by decide +kernel), im_X12_lotNow, gw_s (List.mem_of_getElem? (i := 29) rfl) rfl, in_X12, co_X12_lotNow⟩
theorem im_X12_lot : Cond.instanceMethod yX12_lot ∈ Gw := gw_4 (List.mem_of_getElem? (i := 229) rfl) rfl
theorem co_X12_lot : Cond.code yX12_lot cX12_lot 2 (some .int) ∈ Gw := gw_4 (List.mem_of_getElem? (i := 231) rfl) rfl
theorem qv_X12_lot : QV yX12_lot cX12_lot 2 (some .int) 1 := ⟨(by decide +kernel), im_X12_lot, gw_4 (List.mem_of_getElem? (i := 230) rfl) rfl, in_X12, co_X12_lot⟩
theorem im_X12_gainBy : Cond.instanceMethod yX12_gainBy ∈ Gw := gw_5 (List.mem_of_getElem? (i := 6) rfl) rfl
theorem co_X12_gainBy : Cond.code yX12_gainBy cX12_gainBy 5 (some .int) ∈ Gw := gw_5 (List.mem_of_getElem? (i := 7) rfl) rfl
theorem qv_X12_gainBy : QV yX12_gainBy cX12_gainBy 5 (some .int) 2 := ⟨(by decide +kernel), im_X12_gainBy, gw_s (List.mem_of_getElem? (i := 31) rfl) rfl, in_X12, co_X12_gainBy⟩
theorem im_X12_bestNow : Cond.instanceMethod yX12_bestNow ∈ Gw := gw_5 (List.mem_of_getElem? (i := 2) rfl) rfl
theorem co_X12_bestNow : Cond.code yX12_bestNow cX12_bestNow 7 (some .int) ∈ Gw := gw_5 (List.mem_of_getElem? (i := 3) rfl) rfl
theorem qv_X12_bestNow : QV yX12_bestNow cX12_bestNow 7 (some .int) 2 := ⟨(by decide +kernel), im_X12_bestNow, gw_s (List.mem_of_getElem? (i := 30) rfl) rfl, in_X12, co_X12_bestNow⟩
theorem im_X12_best : Cond.instanceMethod yX12_best ∈ Gw := gw_4 (List.mem_of_getElem? (i := 237) rfl) rfl
theorem co_X12_best : Cond.code yX12_best cX12_best 3 (some .int) ∈ Gw := gw_4 (List.mem_of_getElem? (i := 239) rfl) rfl
theorem qv_X12_best : QV yX12_best cX12_best 3 (some .int) 2 := ⟨(by decide +kernel), im_X12_best, gw_4 (List.mem_of_getElem? (i := 238) rfl) rfl, in_X12, co_X12_best⟩
theorem im_X12_save : Cond.instanceMethod yX12_save ∈ Gw := gw_5 (List.mem_of_getElem? (i := 18) rfl) rfl
theorem co_X12_save : Cond.code yX12_save cX12_save 2 none ∈ Gw := gw_5 (List.mem_of_getElem? (i := 19) rfl) rfl
theorem qv_X12_save : QV yX12_save cX12_save 2 none 0 := ⟨(by decide +kernel), im_X12_save, gw_s (List.mem_of_getElem? (i := 33) rfl) rfl, in_X12, co_X12_save⟩
theorem im_X12_load : Cond.instanceMethod yX12_load ∈ Gw := gw_5 (List.mem_of_getElem? (i := 30) rfl) rfl
theorem co_X12_load : Cond.code yX12_load cX12_load 2 none ∈ Gw := gw_5 (List.mem_of_getElem? (i := 31) rfl) rfl
theorem qv_X12_load : QV yX12_load cX12_load 2 none 0 := ⟨(by decide +kernel), im_X12_load, gw_s (List.mem_of_getElem? (i := 36) rfl) rfl, in_X12, co_X12_load⟩
theorem im_X12_chooseBy : Cond.instanceMethod yX12_chooseBy ∈ Gw := gw_5 (List.mem_of_getElem? (i := 22) rfl) rfl
theorem co_X12_chooseBy : Cond.code yX12_chooseBy cX12_chooseBy 5 none ∈ Gw := gw_5 (List.mem_of_getElem? (i := 23) rfl) rfl
theorem qv_X12_chooseBy : QV yX12_chooseBy cX12_chooseBy 5 none 2 := ⟨(by decide +kernel), im_X12_chooseBy, gw_s (List.mem_of_getElem? (i := 34) rfl) rfl, in_X12, co_X12_chooseBy⟩
theorem im_X12_isRest : Cond.instanceMethod yX12_isRest ∈ Gw := gw_5 (List.mem_of_getElem? (i := 26) rfl) rfl
theorem co_X12_isRest : Cond.code yX12_isRest cX12_isRest 6 (some .boolean) ∈ Gw := gw_5 (List.mem_of_getElem? (i := 27) rfl) rfl
theorem qv_X12_isRest : QV yX12_isRest cX12_isRest 6 (some .boolean) 1 := ⟨(by decide +kernel), im_X12_isRest, gw_s (List.mem_of_getElem? (i := 35) rfl) rfl, in_X12, co_X12_isRest⟩
theorem im_X12_restsNow : Cond.instanceMethod yX12_restsNow ∈ Gw := gw_5 (List.mem_of_getElem? (i := 14) rfl) rfl
theorem co_X12_restsNow : Cond.code yX12_restsNow cX12_restsNow 8 (some .int) ∈ Gw := gw_5 (List.mem_of_getElem? (i := 15) rfl) rfl
theorem qv_X12_restsNow : QV yX12_restsNow cX12_restsNow 8 (some .int) 2 := ⟨(by decide +kernel), im_X12_restsNow, gw_s (List.mem_of_getElem? (i := 32) rfl) rfl, in_X12, co_X12_restsNow⟩
theorem im_X12_rests : Cond.instanceMethod yX12_rests ∈ Gw := gw_5 (List.mem_of_getElem? (i := 9) rfl) rfl
theorem co_X12_rests : Cond.code yX12_rests cX12_rests 3 (some .int) ∈ Gw := gw_5 (List.mem_of_getElem? (i := 11) rfl) rfl
theorem qv_X12_rests : QV yX12_rests cX12_rests 3 (some .int) 2 := ⟨(by decide +kernel), im_X12_rests, gw_5 (List.mem_of_getElem? (i := 10) rfl) rfl, in_X12, co_X12_rests⟩
theorem im_X12_hear : Cond.instanceMethod yX12_hear ∈ Gw := gw_5 (List.mem_of_getElem? (i := 33) rfl) rfl
theorem co_X12_hear : Cond.code yX12_hear cX12_hear 3 (some .int) ∈ Gw := gw_5 (List.mem_of_getElem? (i := 35) rfl) rfl
theorem qv_X12_hear : QV yX12_hear cX12_hear 3 (some .int) 2 := ⟨(by decide +kernel), im_X12_hear, gw_5 (List.mem_of_getElem? (i := 34) rfl) rfl, in_X12, co_X12_hear⟩
theorem im_X12_forget : Cond.instanceMethod yX12_forget ∈ Gw := gw_5 (List.mem_of_getElem? (i := 37) rfl) rfl
theorem co_X12_forget : Cond.code yX12_forget cX12_forget 2 (some .int) ∈ Gw := gw_5 (List.mem_of_getElem? (i := 39) rfl) rfl
theorem qv_X12_forget : QV yX12_forget cX12_forget 2 (some .int) 0 := ⟨(by decide +kernel), im_X12_forget, gw_5 (List.mem_of_getElem? (i := 38) rfl) rfl, in_X12, co_X12_forget⟩
theorem im_X12_isHeard : Cond.instanceMethod yX12_isHeard ∈ Gw := gw_5 (List.mem_of_getElem? (i := 50) rfl) rfl
theorem co_X12_isHeard : Cond.code yX12_isHeard cX12_isHeard 5 (some .boolean) ∈ Gw := gw_5 (List.mem_of_getElem? (i := 51) rfl) rfl
theorem qv_X12_isHeard : QV yX12_isHeard cX12_isHeard 5 (some .boolean) 1 := ⟨(by decide +kernel), im_X12_isHeard, gw_s (List.mem_of_getElem? (i := 38) rfl) rfl, in_X12, co_X12_isHeard⟩
theorem im_X12_windsNow : Cond.instanceMethod yX12_windsNow ∈ Gw := gw_5 (List.mem_of_getElem? (i := 46) rfl) rfl
theorem co_X12_windsNow : Cond.code yX12_windsNow cX12_windsNow 5 (some .int) ∈ Gw := gw_5 (List.mem_of_getElem? (i := 47) rfl) rfl
theorem qv_X12_windsNow : QV yX12_windsNow cX12_windsNow 5 (some .int) 1 := ⟨(by decide +kernel), im_X12_windsNow, gw_s (List.mem_of_getElem? (i := 37) rfl) rfl, in_X12, co_X12_windsNow⟩
theorem im_X12_winds : Cond.instanceMethod yX12_winds ∈ Gw := gw_5 (List.mem_of_getElem? (i := 41) rfl) rfl
theorem co_X12_winds : Cond.code yX12_winds cX12_winds 2 (some .int) ∈ Gw := gw_5 (List.mem_of_getElem? (i := 43) rfl) rfl
theorem qv_X12_winds : QV yX12_winds cX12_winds 2 (some .int) 1 := ⟨(by decide +kernel), im_X12_winds, gw_5 (List.mem_of_getElem? (i := 42) rfl) rfl, in_X12, co_X12_winds⟩
theorem im_X12_isTouch : Cond.instanceMethod yX12_isTouch ∈ Gw := gw_5 (List.mem_of_getElem? (i := 62) rfl) rfl
theorem co_X12_isTouch : Cond.code yX12_isTouch cX12_isTouch 5 (some .boolean) ∈ Gw := gw_5 (List.mem_of_getElem? (i := 63) rfl) rfl
theorem qv_X12_isTouch : QV yX12_isTouch cX12_isTouch 5 (some .boolean) 2 := ⟨(by decide +kernel), im_X12_isTouch, gw_s (List.mem_of_getElem? (i := 40) rfl) rfl, in_X12, co_X12_isTouch⟩
theorem im_X12_touchedNow : Cond.instanceMethod yX12_touchedNow ∈ Gw := gw_5 (List.mem_of_getElem? (i := 58) rfl) rfl
theorem co_X12_touchedNow : Cond.code yX12_touchedNow cX12_touchedNow 8 (some .int) ∈ Gw := gw_5 (List.mem_of_getElem? (i := 59) rfl) rfl
theorem qv_X12_touchedNow : QV yX12_touchedNow cX12_touchedNow 8 (some .int) 1 := ⟨(by decide +kernel), im_X12_touchedNow, gw_s (List.mem_of_getElem? (i := 39) rfl) rfl, in_X12, co_X12_touchedNow⟩
theorem im_X12_touched : Cond.instanceMethod yX12_touched ∈ Gw := gw_5 (List.mem_of_getElem? (i := 53) rfl) rfl
theorem co_X12_touched : Cond.code yX12_touched cX12_touched 2 (some .int) ∈ Gw := gw_5 (List.mem_of_getElem? (i := 55) rfl) rfl
theorem qv_X12_touched : QV yX12_touched cX12_touched 2 (some .int) 1 := ⟨(by decide +kernel), im_X12_touched, gw_5 (List.mem_of_getElem? (i := 54) rfl) rfl, in_X12, co_X12_touched⟩
theorem im_X12_draw : Cond.instanceMethod yX12_draw ∈ Gw := gw_5 (List.mem_of_getElem? (i := 74) rfl) rfl
theorem co_X12_draw : Cond.code yX12_draw cX12_draw 2 (some .int) ∈ Gw := gw_5 (List.mem_of_getElem? (i := 75) rfl) rfl
theorem qv_X12_draw : QV yX12_draw cX12_draw 2 (some .int) 1 := ⟨(by decide +kernel), im_X12_draw, gw_s (List.mem_of_getElem? (i := 42) rfl) rfl, in_X12, co_X12_draw⟩
theorem im_X12_salesNow : Cond.instanceMethod yX12_salesNow ∈ Gw := gw_5 (List.mem_of_getElem? (i := 70) rfl) rfl
theorem co_X12_salesNow : Cond.code yX12_salesNow cX12_salesNow 8 (some .int) ∈ Gw := gw_5 (List.mem_of_getElem? (i := 71) rfl) rfl
theorem qv_X12_salesNow : QV yX12_salesNow cX12_salesNow 8 (some .int) 3 := ⟨(by decide +kernel), im_X12_salesNow, gw_s (List.mem_of_getElem? (i := 41) rfl) rfl, in_X12, co_X12_salesNow⟩
theorem im_X12_sales : Cond.instanceMethod yX12_sales ∈ Gw := gw_5 (List.mem_of_getElem? (i := 65) rfl) rfl
theorem co_X12_sales : Cond.code yX12_sales cX12_sales 4 (some .int) ∈ Gw := gw_5 (List.mem_of_getElem? (i := 67) rfl) rfl
theorem qv_X12_sales : QV yX12_sales cX12_sales 4 (some .int) 3 := ⟨(by decide +kernel), im_X12_sales, gw_5 (List.mem_of_getElem? (i := 66) rfl) rfl, in_X12, co_X12_sales⟩
theorem im_X12_image : Cond.instanceMethod yX12_image ∈ Gw := gw_5 (List.mem_of_getElem? (i := 81) rfl) rfl
theorem co_X12_image : Cond.code yX12_image cX12_image 2 (some .int) ∈ Gw := gw_5 (List.mem_of_getElem? (i := 83) rfl) rfl
theorem qv_X12_image : QV yX12_image cX12_image 2 (some .int) 0 := ⟨(by decide +kernel), im_X12_image, gw_5 (List.mem_of_getElem? (i := 82) rfl) rfl, in_X12, co_X12_image⟩
theorem im_X12_restore : Cond.instanceMethod yX12_restore ∈ Gw := gw_5 (List.mem_of_getElem? (i := 85) rfl) rfl
theorem co_X12_restore : Cond.code yX12_restore cX12_restore 2 (some .int) ∈ Gw := gw_5 (List.mem_of_getElem? (i := 87) rfl) rfl
theorem qv_X12_restore : QV yX12_restore cX12_restore 2 (some .int) 0 := ⟨(by decide +kernel), im_X12_restore, gw_5 (List.mem_of_getElem? (i := 86) rfl) rfl, in_X12, co_X12_restore⟩
theorem im_X12_chosen : Cond.instanceMethod yX12_chosen ∈ Gw := gw_5 (List.mem_of_getElem? (i := 98) rfl) rfl
theorem co_X12_chosen : Cond.code yX12_chosen cX12_chosen 3 (some .int) ∈ Gw := gw_5 (List.mem_of_getElem? (i := 99) rfl) rfl
theorem qv_X12_chosen : QV yX12_chosen cX12_chosen 3 (some .int) 0 := ⟨(by decide +kernel), im_X12_chosen, gw_s (List.mem_of_getElem? (i := 44) rfl) rfl, in_X12, co_X12_chosen⟩
theorem im_X12_touches : Cond.instanceMethod yX12_touches ∈ Gw := gw_5 (List.mem_of_getElem? (i := 102) rfl) rfl
theorem co_X12_touches : Cond.code yX12_touches cX12_touches 3 (some .int) ∈ Gw := gw_5 (List.mem_of_getElem? (i := 103) rfl) rfl
theorem qv_X12_touches : QV yX12_touches cX12_touches 3 (some .int) 0 := ⟨(by decide +kernel), im_X12_touches, gw_s (List.mem_of_getElem? (i := 45) rfl) rfl, in_X12, co_X12_touches⟩
theorem im_X12_howMany : Cond.instanceMethod yX12_howMany ∈ Gw := gw_5 (List.mem_of_getElem? (i := 94) rfl) rfl
theorem co_X12_howMany : Cond.code yX12_howMany cX12_howMany 2 (some .int) ∈ Gw := gw_5 (List.mem_of_getElem? (i := 95) rfl) rfl
theorem qv_X12_howMany : QV yX12_howMany cX12_howMany 2 (some .int) 1 := ⟨(by decide +kernel), im_X12_howMany, gw_s (List.mem_of_getElem? (i := 43) rfl) rfl, in_X12, co_X12_howMany⟩
theorem im_X12_count : Cond.instanceMethod yX12_count ∈ Gw := gw_5 (List.mem_of_getElem? (i := 89) rfl) rfl
theorem co_X12_count : Cond.code yX12_count cX12_count 2 (some .int) ∈ Gw := gw_5 (List.mem_of_getElem? (i := 91) rfl) rfl
theorem qv_X12_count : QV yX12_count cX12_count 2 (some .int) 1 := ⟨(by decide +kernel), im_X12_count, gw_5 (List.mem_of_getElem? (i := 90) rfl) rfl, in_X12, co_X12_count⟩
theorem im_X12_mix : Cond.instanceMethod yX12_mix ∈ Gw := gw_5 (List.mem_of_getElem? (i := 111) rfl) rfl
theorem co_X12_mix : Cond.code yX12_mix cX12_mix 3 none ∈ Gw := gw_5 (List.mem_of_getElem? (i := 112) rfl) rfl
theorem qv_X12_mix : QV yX12_mix cX12_mix 3 none 1 := ⟨(by decide +kernel), im_X12_mix, gw_s (List.mem_of_getElem? (i := 46) rfl) rfl, in_X12, co_X12_mix⟩
theorem im_X12_digest : Cond.instanceMethod yX12_digest ∈ Gw := gw_5 (List.mem_of_getElem? (i := 105) rfl) rfl
theorem co_X12_digest : Cond.code yX12_digest cX12_digest 3 (some .long) ∈ Gw := gw_5 (List.mem_of_getElem? (i := 107) rfl) rfl
theorem qv_X12_digest : QV yX12_digest cX12_digest 3 (some .long) 0 := ⟨(by decide +kernel), im_X12_digest, gw_5 (List.mem_of_getElem? (i := 106) rfl) rfl, in_X12, co_X12_digest⟩
