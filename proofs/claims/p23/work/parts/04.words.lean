theorem cl_L_10 : Cond.classLink RL 10 RX8 ∈ AW := AWm (i := 11) (by decide +kernel) (by decide +kernel)
theorem ml_L_78 : Cond.methodLink RL 78 yX8_init ∈ AW := AWm (i := 13) (by decide +kernel) (by decide +kernel)
theorem ml_X8_3 : Cond.methodLink RX8 3 objectInit ∈ AW := AWm (i := 16) (by decide +kernel) (by decide +kernel)
theorem cl_X8_9 : Cond.classLink RX8 9 RX4 ∈ AW := AWm (i := 19) (by decide +kernel) (by decide +kernel)
theorem ml_X4_3 : Cond.methodLink RX4 3 objectInit ∈ AW := AWm (i := 24) (by decide +kernel) (by decide +kernel)
theorem fl_X4_9 : Cond.fieldLink RX4 9 "LearningSpans$Message" "letters" "[I" ∈ AW := AWm (i := 25) (by decide +kernel) (by decide +kernel)
theorem fl_X4_15 : Cond.fieldLink RX4 15 "LearningSpans$Message" "size" "I" ∈ AW := AWm (i := 26) (by decide +kernel) (by decide +kernel)
theorem fl_X4_19 : Cond.fieldLink RX4 19 "LearningSpans$Message" "ended" "Z" ∈ AW := AWm (i := 29) (by decide +kernel) (by decide +kernel)
theorem fl_X4_23 : Cond.fieldLink RX4 23 "LearningSpans$Message" "pace" "I" ∈ AW := AWm (i := 31) (by decide +kernel) (by decide +kernel)
theorem fl_X4_26 : Cond.fieldLink RX4 26 "LearningSpans$Message" "bound" "I" ∈ AW := AWm (i := 33) (by decide +kernel) (by decide +kernel)
theorem arrI : Cond.arrayClass .int ∈ AW := AWm (i := 46) (by decide +kernel) (by decide +kernel)
theorem cl_X8_16 : Cond.classLink RX8 16 RX1 ∈ AW := AWm (i := 47) (by decide +kernel) (by decide +kernel)
theorem ml_X8_18 : Cond.methodLink RX8 18 yX1_init ∈ AW := AWm (i := 49) (by decide +kernel) (by decide +kernel)
theorem ml_X1_3 : Cond.methodLink RX1 3 objectInit ∈ AW := AWm (i := 52) (by decide +kernel) (by decide +kernel)
theorem cl_X1_9 : Cond.classLink RX1 9 RX2 ∈ AW := AWm (i := 53) (by decide +kernel) (by decide +kernel)
theorem ml_X2_3 : Cond.methodLink RX2 3 objectInit ∈ AW := AWm (i := 58) (by decide +kernel) (by decide +kernel)
theorem fl_X2_9 : Cond.fieldLink RX2 9 "LearningSpans$Counts" "row" "[I" ∈ AW := AWm (i := 59) (by decide +kernel) (by decide +kernel)
theorem fl_X2_15 : Cond.fieldLink RX2 15 "LearningSpans$Counts" "total" "I" ∈ AW := AWm (i := 60) (by decide +kernel) (by decide +kernel)
theorem fl_X2_19 : Cond.fieldLink RX2 19 "LearningSpans$Counts" "halvings" "I" ∈ AW := AWm (i := 63) (by decide +kernel) (by decide +kernel)
theorem fl_X2_22 : Cond.fieldLink RX2 22 "LearningSpans$Counts" "pace" "I" ∈ AW := AWm (i := 65) (by decide +kernel) (by decide +kernel)
theorem fl_X2_25 : Cond.fieldLink RX2 25 "LearningSpans$Counts" "bound" "I" ∈ AW := AWm (i := 66) (by decide +kernel) (by decide +kernel)
theorem cl_X1_18 : Cond.classLink RX1 18 RX6 ∈ AW := AWm (i := 78) (by decide +kernel) (by decide +kernel)
theorem ml_X6_3 : Cond.methodLink RX6 3 objectInit ∈ AW := AWm (i := 83) (by decide +kernel) (by decide +kernel)
theorem cst_X6_15 : Cond.constant RX6 15 (65535) ∈ AW := AWm (i := 84) (by decide +kernel) (by decide +kernel)
theorem fl_X6_9 : Cond.fieldLink RX6 9 "LearningSpans$Span" "low" "I" ∈ AW := AWm (i := 85) (by decide +kernel) (by decide +kernel)
theorem fl_X6_16 : Cond.fieldLink RX6 16 "LearningSpans$Span" "high" "I" ∈ AW := AWm (i := 88) (by decide +kernel) (by decide +kernel)
theorem cl_X1_25 : Cond.classLink RX1 25 RX0 ∈ AW := AWm (i := 95) (by decide +kernel) (by decide +kernel)
theorem ml_X0_3 : Cond.methodLink RX0 3 objectInit ∈ AW := AWm (i := 100) (by decide +kernel) (by decide +kernel)
theorem fl_X0_9 : Cond.fieldLink RX0 9 "LearningSpans$BitRow" "row" "[I" ∈ AW := AWm (i := 101) (by decide +kernel) (by decide +kernel)
theorem fl_X0_15 : Cond.fieldLink RX0 15 "LearningSpans$BitRow" "size" "I" ∈ AW := AWm (i := 102) (by decide +kernel) (by decide +kernel)
theorem ml_X1_43 : Cond.methodLink RX1 43 yX1_start ∈ AW := AWm (i := 111) (by decide +kernel) (by decide +kernel)
theorem ml_X1_47 : Cond.methodLink RX1 47 yX2_start ∈ AW := AWm (i := 115) (by decide +kernel) (by decide +kernel)
theorem ml_X1_48 : Cond.methodLink RX1 48 yX6_start ∈ AW := AWm (i := 119) (by decide +kernel) (by decide +kernel)
theorem ml_X1_50 : Cond.methodLink RX1 50 yX0_empty ∈ AW := AWm (i := 123) (by decide +kernel) (by decide +kernel)
theorem fl_X1_12 : Cond.fieldLink RX1 12 "LearningSpans$Coder" "counts" "LLearningSpans$Counts;" ∈ AW := AWm (i := 127) (by decide +kernel) (by decide +kernel)
theorem fl_X1_21 : Cond.fieldLink RX1 21 "LearningSpans$Coder" "span" "LLearningSpans$Span;" ∈ AW := AWm (i := 129) (by decide +kernel) (by decide +kernel)
theorem fl_X1_28 : Cond.fieldLink RX1 28 "LearningSpans$Coder" "bits" "LLearningSpans$BitRow;" ∈ AW := AWm (i := 131) (by decide +kernel) (by decide +kernel)
theorem fl_X1_32 : Cond.fieldLink RX1 32 "LearningSpans$Coder" "costs" "[I" ∈ AW := AWm (i := 133) (by decide +kernel) (by decide +kernel)
theorem fl_X1_36 : Cond.fieldLink RX1 36 "LearningSpans$Coder" "size" "I" ∈ AW := AWm (i := 134) (by decide +kernel) (by decide +kernel)
theorem fl_X1_40 : Cond.fieldLink RX1 40 "LearningSpans$Coder" "waiting" "I" ∈ AW := AWm (i := 135) (by decide +kernel) (by decide +kernel)
theorem cl_X8_26 : Cond.classLink RX8 26 RX5 ∈ AW := AWm (i := 150) (by decide +kernel) (by decide +kernel)
theorem ml_X5_3 : Cond.methodLink RX5 3 objectInit ∈ AW := AWm (i := 155) (by decide +kernel) (by decide +kernel)
theorem cl_X5_9 : Cond.classLink RX5 9 RX2 ∈ AW := AWm (i := 156) (by decide +kernel) (by decide +kernel)
theorem cl_X5_18 : Cond.classLink RX5 18 RX6 ∈ AW := AWm (i := 158) (by decide +kernel) (by decide +kernel)
theorem fl_X5_12 : Cond.fieldLink RX5 12 "LearningSpans$Reader" "counts" "LLearningSpans$Counts;" ∈ AW := AWm (i := 160) (by decide +kernel) (by decide +kernel)
theorem fl_X5_21 : Cond.fieldLink RX5 21 "LearningSpans$Reader" "span" "LLearningSpans$Span;" ∈ AW := AWm (i := 161) (by decide +kernel) (by decide +kernel)
theorem fl_X5_25 : Cond.fieldLink RX5 25 "LearningSpans$Reader" "letters" "[I" ∈ AW := AWm (i := 162) (by decide +kernel) (by decide +kernel)
theorem fl_X5_29 : Cond.fieldLink RX5 29 "LearningSpans$Reader" "size" "I" ∈ AW := AWm (i := 163) (by decide +kernel) (by decide +kernel)
theorem fl_X5_33 : Cond.fieldLink RX5 33 "LearningSpans$Reader" "number" "I" ∈ AW := AWm (i := 165) (by decide +kernel) (by decide +kernel)
theorem fl_X5_36 : Cond.fieldLink RX5 36 "LearningSpans$Reader" "taken" "I" ∈ AW := AWm (i := 166) (by decide +kernel) (by decide +kernel)
theorem fl_X5_39 : Cond.fieldLink RX5 39 "LearningSpans$Reader" "over" "Z" ∈ AW := AWm (i := 168) (by decide +kernel) (by decide +kernel)
theorem cl_X8_33 : Cond.classLink RX8 33 RX7 ∈ AW := AWm (i := 185) (by decide +kernel) (by decide +kernel)
theorem ml_X7_3 : Cond.methodLink RX7 3 objectInit ∈ AW := AWm (i := 190) (by decide +kernel) (by decide +kernel)
theorem fl_X7_9 : Cond.fieldLink RX7 9 "LearningSpans$Text" "characters" "[I" ∈ AW := AWm (i := 191) (by decide +kernel) (by decide +kernel)
theorem fl_X7_15 : Cond.fieldLink RX7 15 "LearningSpans$Text" "size" "I" ∈ AW := AWm (i := 192) (by decide +kernel) (by decide +kernel)
theorem cl_X8_40 : Cond.classLink RX8 40 RX0 ∈ AW := AWm (i := 199) (by decide +kernel) (by decide +kernel)
theorem cl_X8_47 : Cond.classLink RX8 47 RX3 ∈ AW := AWm (i := 201) (by decide +kernel) (by decide +kernel)
theorem ml_X8_49 : Cond.methodLink RX8 49 yX3_init ∈ AW := AWm (i := 203) (by decide +kernel) (by decide +kernel)
theorem ml_X3_3 : Cond.methodLink RX3 3 objectInit ∈ AW := AWm (i := 206) (by decide +kernel) (by decide +kernel)
theorem cl_X3_9 : Cond.classLink RX3 9 RX4 ∈ AW := AWm (i := 207) (by decide +kernel) (by decide +kernel)
theorem ovM_row : tables_1[208]? = some (Cond.arrayOver (.object "LearningSpans$Message")) := by decide +kernel
theorem fl_X3_11 : Cond.fieldLink RX3 11 "LearningSpans$History" "states" "[LLearningSpans$Message;" ∈ AW := AWm (i := 210) (by decide +kernel) (by decide +kernel)
theorem fl_X3_17 : Cond.fieldLink RX3 17 "LearningSpans$History" "size" "I" ∈ AW := AWm (i := 211) (by decide +kernel) (by decide +kernel)
theorem fl_X8_12 : Cond.fieldLink RX8 12 "LearningSpans" "message" "LLearningSpans$Message;" ∈ AW := AWm (i := 218) (by decide +kernel) (by decide +kernel)
theorem fl_X8_19 : Cond.fieldLink RX8 19 "LearningSpans" "coder" "LLearningSpans$Coder;" ∈ AW := AWm (i := 219) (by decide +kernel) (by decide +kernel)
theorem fl_X8_23 : Cond.fieldLink RX8 23 "LearningSpans" "trial" "LLearningSpans$Coder;" ∈ AW := AWm (i := 220) (by decide +kernel) (by decide +kernel)
theorem fl_X8_29 : Cond.fieldLink RX8 29 "LearningSpans" "reader" "LLearningSpans$Reader;" ∈ AW := AWm (i := 221) (by decide +kernel) (by decide +kernel)
theorem fl_X8_36 : Cond.fieldLink RX8 36 "LearningSpans" "text" "LLearningSpans$Text;" ∈ AW := AWm (i := 222) (by decide +kernel) (by decide +kernel)
theorem fl_X8_43 : Cond.fieldLink RX8 43 "LearningSpans" "textBits" "LLearningSpans$BitRow;" ∈ AW := AWm (i := 223) (by decide +kernel) (by decide +kernel)
theorem fl_X8_50 : Cond.fieldLink RX8 50 "LearningSpans" "history" "LLearningSpans$History;" ∈ AW := AWm (i := 224) (by decide +kernel) (by decide +kernel)
theorem ml_L_36 : Cond.methodLink RL 36 yX8_end ∈ AW := AWm (i := 240) (by decide +kernel) (by decide +kernel)
theorem ml_X8_66 : Cond.methodLink RX8 66 yX3_keep ∈ AW := AWm (i := 244) (by decide +kernel) (by decide +kernel)
theorem ml_X3_22 : Cond.methodLink RX3 22 yX3_dropOldest ∈ AW := AWm (i := 248) (by decide +kernel) (by decide +kernel)
theorem ml_X3_25 : Cond.methodLink RX3 25 yX3_copy ∈ AW := AWm (i := 252) (by decide +kernel) (by decide +kernel)
theorem ml_X3_29 : Cond.methodLink RX3 29 yX4_copyFrom ∈ AW := AWm (i := 255) (by decide +kernel) (by decide +kernel)
theorem ml_X4_35 : Cond.methodLink RX4 35 yX4_letterAt ∈ AW := AWm (i := 259) (by decide +kernel) (by decide +kernel)
theorem ml_X8_78 : Cond.methodLink RX8 78 yX1_close ∈ AW := AWm (i := 263) (by decide +kernel) (by decide +kernel)
theorem ml_X1_54 : Cond.methodLink RX1 54 yX1_narrow ∈ AW := AWm (i := 267) (by decide +kernel) (by decide +kernel)
theorem ml_X1_86 : Cond.methodLink RX1 86 yX6_shrink ∈ AW := AWm (i := 271) (by decide +kernel) (by decide +kernel)
theorem ml_X6_24 : Cond.methodLink RX6 24 yX2_below ∈ AW := AWm (i := 275) (by decide +kernel) (by decide +kernel)
theorem ml_X6_28 : Cond.methodLink RX6 28 yX2_countAt ∈ AW := AWm (i := 279) (by decide +kernel) (by decide +kernel)
theorem ml_X1_90 : Cond.methodLink RX1 90 yX6_widen ∈ AW := AWm (i := 283) (by decide +kernel) (by decide +kernel)
theorem cst_X6_31 : Cond.constant RX6 31 (32768) ∈ AW := AWm (i := 287) (by decide +kernel) (by decide +kernel)
theorem cst_X6_32 : Cond.constant RX6 32 (49152) ∈ AW := AWm (i := 288) (by decide +kernel) (by decide +kernel)
theorem cst_X1_94 : Cond.constant RX1 94 (32768) ∈ AW := AWm (i := 289) (by decide +kernel) (by decide +kernel)
theorem ml_X1_74 : Cond.methodLink RX1 74 yX1_writeBit ∈ AW := AWm (i := 290) (by decide +kernel) (by decide +kernel)
theorem ml_X1_95 : Cond.methodLink RX1 95 yX0_append ∈ AW := AWm (i := 294) (by decide +kernel) (by decide +kernel)
theorem ml_L_9 : Cond.methodLink RL 9 yX8_count ∈ AW := AWm (i := 298) (by decide +kernel) (by decide +kernel)
theorem ml_X8_155 : Cond.methodLink RX8 155 yX1_dearest ∈ AW := AWm (i := 302) (by decide +kernel) (by decide +kernel)
theorem ml_X1_77 : Cond.methodLink RX1 77 yX1_costAt ∈ AW := AWm (i := 306) (by decide +kernel) (by decide +kernel)
theorem ml_X1_80 : Cond.methodLink RX1 80 Lib.Math.max.name ∈ AW := AWm (i := 310) (by decide +kernel) (by decide +kernel)
theorem ml_L_60 : Cond.methodLink RL 60 yX8_bitsBy ∈ AW := AWm (i := 313) (by decide +kernel) (by decide +kernel)
theorem ml_X8_162 : Cond.methodLink RX8 162 yX8_isPace ∈ AW := AWm (i := 317) (by decide +kernel) (by decide +kernel)
theorem ml_X8_165 : Cond.methodLink RX8 165 yX8_bitsEnded ∈ AW := AWm (i := 320) (by decide +kernel) (by decide +kernel)
theorem ml_X8_195 : Cond.methodLink RX8 195 yX1_start ∈ AW := AWm (i := 324) (by decide +kernel) (by decide +kernel)
theorem ml_X8_198 : Cond.methodLink RX8 198 yX1_addAll ∈ AW := AWm (i := 325) (by decide +kernel) (by decide +kernel)
theorem ml_X1_64 : Cond.methodLink RX1 64 yX4_letterAt ∈ AW := AWm (i := 329) (by decide +kernel) (by decide +kernel)
theorem ml_X1_68 : Cond.methodLink RX1 68 yX1_add ∈ AW := AWm (i := 330) (by decide +kernel) (by decide +kernel)
theorem ml_X1_58 : Cond.methodLink RX1 58 yX2_learn ∈ AW := AWm (i := 334) (by decide +kernel) (by decide +kernel)
theorem ml_X2_28 : Cond.methodLink RX2 28 yX2_halve ∈ AW := AWm (i := 338) (by decide +kernel) (by decide +kernel)
theorem ml_L_93 : Cond.methodLink RL 93 yX8_bestPace ∈ AW := AWm (i := 342) (by decide +kernel) (by decide +kernel)
theorem ml_L_79 : Cond.methodLink RL 79 yL_cell ∈ AW := AWm (i := 346) (by decide +kernel) (by decide +kernel)
theorem cst_L_7 : Cond.constant RL 7 (1831565813) ∈ AW := AWm (i := 349) (by decide +kernel) (by decide +kernel)
theorem ml_L_83 : Cond.methodLink RL 83 yL_isStep ∈ AW := AWm (i := 350) (by decide +kernel) (by decide +kernel)
theorem ml_L_31 : Cond.methodLink RL 31 yL_up ∈ AW := AWm (i := 353) (by decide +kernel) (by decide +kernel)
theorem cst_L_8 : Cond.constant RL 8 (2147483647) ∈ AW := AWm (i := 356) (by decide +kernel) (by decide +kernel)
theorem ml_L_18 : Cond.methodLink RL 18 yX8_letterOf ∈ AW := AWm (i := 357) (by decide +kernel) (by decide +kernel)
theorem ml_X8_118 : Cond.methodLink RX8 118 yX2_countAt ∈ AW := AWm (i := 361) (by decide +kernel) (by decide +kernel)
theorem ml_X8_123 : Cond.methodLink RX8 123 yX2_below ∈ AW := AWm (i := 362) (by decide +kernel) (by decide +kernel)
theorem ml_X8_126 : Cond.methodLink RX8 126 yX4_howOften ∈ AW := AWm (i := 363) (by decide +kernel) (by decide +kernel)
theorem ml_X8_129 : Cond.methodLink RX8 129 yX8_bitsMoreWith ∈ AW := AWm (i := 367) (by decide +kernel) (by decide +kernel)
theorem ml_X8_74 : Cond.methodLink RX8 74 yX1_add ∈ AW := AWm (i := 371) (by decide +kernel) (by decide +kernel)
theorem ml_L_40 : Cond.methodLink RL 40 yX8_readBack ∈ AW := AWm (i := 372) (by decide +kernel) (by decide +kernel)
theorem ml_X8_168 : Cond.methodLink RX8 168 yX5_read ∈ AW := AWm (i := 376) (by decide +kernel) (by decide +kernel)
theorem ml_X5_43 : Cond.methodLink RX5 43 yX2_start ∈ AW := AWm (i := 380) (by decide +kernel) (by decide +kernel)
theorem ml_X5_47 : Cond.methodLink RX5 47 yX6_start ∈ AW := AWm (i := 381) (by decide +kernel) (by decide +kernel)
theorem ml_X5_49 : Cond.methodLink RX5 49 yX5_takeBit ∈ AW := AWm (i := 382) (by decide +kernel) (by decide +kernel)
theorem ml_X5_76 : Cond.methodLink RX5 76 yX0_bitAt ∈ AW := AWm (i := 386) (by decide +kernel) (by decide +kernel)
theorem ml_X5_53 : Cond.methodLink RX5 53 yX5_readLetter ∈ AW := AWm (i := 390) (by decide +kernel) (by decide +kernel)
theorem ml_X5_56 : Cond.methodLink RX5 56 yX6_letterAround ∈ AW := AWm (i := 394) (by decide +kernel) (by decide +kernel)
theorem ml_X6_33 : Cond.methodLink RX6 33 yX2_letterWith ∈ AW := AWm (i := 398) (by decide +kernel) (by decide +kernel)
theorem ml_X5_60 : Cond.methodLink RX5 60 yX5_narrow ∈ AW := AWm (i := 402) (by decide +kernel) (by decide +kernel)
theorem ml_X5_68 : Cond.methodLink RX5 68 yX6_shrink ∈ AW := AWm (i := 406) (by decide +kernel) (by decide +kernel)
theorem ml_X5_72 : Cond.methodLink RX5 72 yX6_widen ∈ AW := AWm (i := 407) (by decide +kernel) (by decide +kernel)
theorem ml_X5_64 : Cond.methodLink RX5 64 yX2_learn ∈ AW := AWm (i := 408) (by decide +kernel) (by decide +kernel)
theorem ml_X8_176 : Cond.methodLink RX8 176 yX8_alikeFromFirst ∈ AW := AWm (i := 409) (by decide +kernel) (by decide +kernel)
theorem ml_X8_201 : Cond.methodLink RX8 201 Lib.Math.min.name ∈ AW := AWm (i := 413) (by decide +kernel) (by decide +kernel)
theorem ml_X8_194 : Cond.methodLink RX8 194 yX5_letterAt ∈ AW := AWm (i := 416) (by decide +kernel) (by decide +kernel)
theorem ml_X8_108 : Cond.methodLink RX8 108 yX4_letterAt ∈ AW := AWm (i := 420) (by decide +kernel) (by decide +kernel)
theorem ml_L_43 : Cond.methodLink RL 43 yX8_drop ∈ AW := AWm (i := 421) (by decide +kernel) (by decide +kernel)
theorem ml_X8_91 : Cond.methodLink RX8 91 yX4_shorten ∈ AW := AWm (i := 425) (by decide +kernel) (by decide +kernel)
theorem ml_X4_29 : Cond.methodLink RX4 29 Lib.Math.max.name ∈ AW := AWm (i := 429) (by decide +kernel) (by decide +kernel)
theorem ml_X8_88 : Cond.methodLink RX8 88 yX8_writeAnew ∈ AW := AWm (i := 430) (by decide +kernel) (by decide +kernel)
theorem ml_L_46 : Cond.methodLink RL 46 yX8_mend ∈ AW := AWm (i := 434) (by decide +kernel) (by decide +kernel)
theorem ml_X8_54 : Cond.methodLink RX8 54 yX8_isLetter ∈ AW := AWm (i := 438) (by decide +kernel) (by decide +kernel)
theorem ml_X8_94 : Cond.methodLink RX8 94 yX4_replace ∈ AW := AWm (i := 441) (by decide +kernel) (by decide +kernel)
theorem ml_L_28 : Cond.methodLink RL 28 yX8_letter ∈ AW := AWm (i := 445) (by decide +kernel) (by decide +kernel)
theorem ml_L_49 : Cond.methodLink RL 49 yX8_undo ∈ AW := AWm (i := 449) (by decide +kernel) (by decide +kernel)
theorem ml_X8_179 : Cond.methodLink RX8 179 yX3_restore ∈ AW := AWm (i := 453) (by decide +kernel) (by decide +kernel)
theorem ml_L_52 : Cond.methodLink RL 52 yX8_set ∈ AW := AWm (i := 457) (by decide +kernel) (by decide +kernel)
theorem ml_X8_98 : Cond.methodLink RX8 98 yX8_isSetting ∈ AW := AWm (i := 461) (by decide +kernel) (by decide +kernel)
theorem ml_X8_85 : Cond.methodLink RX8 85 yX4_empty ∈ AW := AWm (i := 464) (by decide +kernel) (by decide +kernel)
theorem ml_L_55 : Cond.methodLink RL 55 yL_isPut ∈ AW := AWm (i := 468) (by decide +kernel) (by decide +kernel)
theorem ml_L_15 : Cond.methodLink RL 15 yX8_bit ∈ AW := AWm (i := 471) (by decide +kernel) (by decide +kernel)
theorem ml_X8_111 : Cond.methodLink RX8 111 yX0_bitAt ∈ AW := AWm (i := 475) (by decide +kernel) (by decide +kernel)
theorem ml_L_22 : Cond.methodLink RL 22 yX8_put ∈ AW := AWm (i := 476) (by decide +kernel) (by decide +kernel)
theorem ml_X8_70 : Cond.methodLink RX8 70 yX4_append ∈ AW := AWm (i := 480) (by decide +kernel) (by decide +kernel)
theorem ml_L_25 : Cond.methodLink RL 25 yX8_cost ∈ AW := AWm (i := 484) (by decide +kernel) (by decide +kernel)
theorem ml_X8_159 : Cond.methodLink RX8 159 yX1_costAt ∈ AW := AWm (i := 488) (by decide +kernel) (by decide +kernel)
theorem ml_L_86 : Cond.methodLink RL 86 yL_isWell ∈ AW := AWm (i := 489) (by decide +kernel) (by decide +kernel)
theorem cst_L_59 : Cond.constant RL 59 (65535) ∈ AW := AWm (i := 492) (by decide +kernel) (by decide +kernel)
theorem ml_L_90 : Cond.methodLink RL 90 yL_isText ∈ AW := AWm (i := 493) (by decide +kernel) (by decide +kernel)
theorem ml_L_63 : Cond.methodLink RL 63 yX8_write ∈ AW := AWm (i := 496) (by decide +kernel) (by decide +kernel)
theorem ml_X8_184 : Cond.methodLink RX8 184 yX7_copyFrom ∈ AW := AWm (i := 500) (by decide +kernel) (by decide +kernel)
theorem ml_X7_19 : Cond.methodLink RX7 19 yX7_empty ∈ AW := AWm (i := 504) (by decide +kernel) (by decide +kernel)
theorem ml_X7_25 : Cond.methodLink RX7 25 yX0_bitAt ∈ AW := AWm (i := 508) (by decide +kernel) (by decide +kernel)
theorem ml_X7_29 : Cond.methodLink RX7 29 yX7_append ∈ AW := AWm (i := 509) (by decide +kernel) (by decide +kernel)
theorem ml_L_66 : Cond.methodLink RL 66 yX8_fault ∈ AW := AWm (i := 513) (by decide +kernel) (by decide +kernel)
theorem ml_X8_188 : Cond.methodLink RX8 188 yX8_faultReason ∈ AW := AWm (i := 517) (by decide +kernel) (by decide +kernel)
theorem ml_X8_207 : Cond.methodLink RX8 207 yX7_firstStrange ∈ AW := AWm (i := 521) (by decide +kernel) (by decide +kernel)
theorem ml_X8_210 : Cond.methodLink RX8 210 yX7_copyTo ∈ AW := AWm (i := 525) (by decide +kernel) (by decide +kernel)
theorem ml_X7_33 : Cond.methodLink RX7 33 yX0_empty ∈ AW := AWm (i := 529) (by decide +kernel) (by decide +kernel)
theorem ml_X7_34 : Cond.methodLink RX7 34 yX0_append ∈ AW := AWm (i := 530) (by decide +kernel) (by decide +kernel)
theorem ml_X8_216 : Cond.methodLink RX8 216 yX0_firstOne ∈ AW := AWm (i := 531) (by decide +kernel) (by decide +kernel)
theorem ml_X0_19 : Cond.methodLink RX0 19 Lib.Math.max.name ∈ AW := AWm (i := 535) (by decide +kernel) (by decide +kernel)
theorem ml_X0_25 : Cond.methodLink RX0 25 yX0_bitAt ∈ AW := AWm (i := 536) (by decide +kernel) (by decide +kernel)
theorem ml_X8_191 : Cond.methodLink RX8 191 yX8_faultPlace ∈ AW := AWm (i := 537) (by decide +kernel) (by decide +kernel)
theorem ml_L_69 : Cond.methodLink RL 69 yX8_told ∈ AW := AWm (i := 541) (by decide +kernel) (by decide +kernel)
theorem ml_L_72 : Cond.methodLink RL 72 yX8_clearText ∈ AW := AWm (i := 545) (by decide +kernel) (by decide +kernel)
theorem ml_X8_183 : Cond.methodLink RX8 183 yX7_empty ∈ AW := AWm (i := 549) (by decide +kernel) (by decide +kernel)
theorem ml_L_75 : Cond.methodLink RL 75 yX8_type ∈ AW := AWm (i := 550) (by decide +kernel) (by decide +kernel)
theorem ml_X8_182 : Cond.methodLink RX8 182 yX7_append ∈ AW := AWm (i := 554) (by decide +kernel) (by decide +kernel)
theorem ini_L : Cond.initialized RL ∈ AW := AWm (i := 0) (by decide +kernel) (by decide +kernel)
theorem ini_X8 : Cond.initialized RX8 ∈ AW := AWm (i := 1) (by decide +kernel) (by decide +kernel)
theorem ini_X4 : Cond.initialized RX4 ∈ AW := AWm (i := 2) (by decide +kernel) (by decide +kernel)
theorem ini_X1 : Cond.initialized RX1 ∈ AW := AWm (i := 3) (by decide +kernel) (by decide +kernel)
theorem ini_X2 : Cond.initialized RX2 ∈ AW := AWm (i := 4) (by decide +kernel) (by decide +kernel)
theorem ini_X6 : Cond.initialized RX6 ∈ AW := AWm (i := 5) (by decide +kernel) (by decide +kernel)
theorem ini_X0 : Cond.initialized RX0 ∈ AW := AWm (i := 6) (by decide +kernel) (by decide +kernel)
theorem ini_X5 : Cond.initialized RX5 ∈ AW := AWm (i := 7) (by decide +kernel) (by decide +kernel)
theorem ini_X7 : Cond.initialized RX7 ∈ AW := AWm (i := 8) (by decide +kernel) (by decide +kernel)
theorem ini_X3 : Cond.initialized RX3 ∈ AW := AWm (i := 9) (by decide +kernel) (by decide +kernel)
theorem ini_J9 : Cond.initialized RJ9 ∈ AW := AWm (i := 10) (by decide +kernel) (by decide +kernel)
theorem ini_Math : Cond.initialized "java/lang/Math" ∈ AW := AWm (i := 10) (by decide +kernel) (by decide +kernel)
theorem inst_X8 : Cond.instantiable RX8 7 ∈ AW := AWm (i := 12) (by decide +kernel) (by decide +kernel)
theorem inst_X4 : Cond.instantiable RX4 5 ∈ AW := AWm (i := 20) (by decide +kernel) (by decide +kernel)
theorem inst_X1 : Cond.instantiable RX1 6 ∈ AW := AWm (i := 48) (by decide +kernel) (by decide +kernel)
theorem inst_X2 : Cond.instantiable RX2 5 ∈ AW := AWm (i := 54) (by decide +kernel) (by decide +kernel)
theorem inst_X6 : Cond.instantiable RX6 2 ∈ AW := AWm (i := 79) (by decide +kernel) (by decide +kernel)
theorem inst_X0 : Cond.instantiable RX0 2 ∈ AW := AWm (i := 96) (by decide +kernel) (by decide +kernel)
theorem inst_X5 : Cond.instantiable RX5 7 ∈ AW := AWm (i := 151) (by decide +kernel) (by decide +kernel)
theorem inst_X7 : Cond.instantiable RX7 2 ∈ AW := AWm (i := 186) (by decide +kernel) (by decide +kernel)
theorem inst_X3 : Cond.instantiable RX3 2 ∈ AW := AWm (i := 202) (by decide +kernel) (by decide +kernel)
theorem cd_X0_init : Cond.code yX0_init cX0_init 1 none ∈ AW := AWm (i := 99) (by decide +kernel) (by decide +kernel)
theorem im_X0_init : Cond.instanceMethod yX0_init ∈ AW := AWm (i := 98) (by decide +kernel) (by decide +kernel)
theorem mok_X0_init : MOKi yX0_init cX0_init 1 0 := ⟨im_X0_init, ini_X0, cd_X0_init, rfl, by decide +kernel, by decide +kernel, by decide +kernel⟩
theorem cd_X0_empty : Cond.code yX0_empty cX0_empty 1 none ∈ AW := AWm (i := 126) (by decide +kernel) (by decide +kernel)
theorem im_X0_empty : Cond.instanceMethod yX0_empty ∈ AW := AWm (i := 124) (by decide +kernel) (by decide +kernel)
theorem sel_X0_empty : Cond.selects RX0 yX0_empty yX0_empty ∈ AW := AWm (i := 125) (by decide +kernel) (by decide +kernel)
theorem mok_X0_empty : MOK RX0 yX0_empty cX0_empty 1 none 0 := ⟨im_X0_empty, sel_X0_empty, ini_X0, cd_X0_empty, rfl, by decide +kernel, by decide +kernel, by decide +kernel⟩
theorem cd_X0_append : Cond.code yX0_append cX0_append 2 none ∈ AW := AWm (i := 297) (by decide +kernel) (by decide +kernel)
theorem im_X0_append : Cond.instanceMethod yX0_append ∈ AW := AWm (i := 295) (by decide +kernel) (by decide +kernel)
theorem sel_X0_append : Cond.selects RX0 yX0_append yX0_append ∈ AW := AWm (i := 296) (by decide +kernel) (by decide +kernel)
theorem mok_X0_append : MOK RX0 yX0_append cX0_append 2 none 1 := ⟨im_X0_append, sel_X0_append, ini_X0, cd_X0_append, rfl, by decide +kernel, by decide +kernel, by decide +kernel⟩
theorem cd_X0_bitAt : Cond.code yX0_bitAt cX0_bitAt 2 (some .int) ∈ AW := AWm (i := 389) (by decide +kernel) (by decide +kernel)
theorem im_X0_bitAt : Cond.instanceMethod yX0_bitAt ∈ AW := AWm (i := 387) (by decide +kernel) (by decide +kernel)
theorem sel_X0_bitAt : Cond.selects RX0 yX0_bitAt yX0_bitAt ∈ AW := AWm (i := 388) (by decide +kernel) (by decide +kernel)
theorem mok_X0_bitAt : MOK RX0 yX0_bitAt cX0_bitAt 2 (some .int) 1 := ⟨im_X0_bitAt, sel_X0_bitAt, ini_X0, cd_X0_bitAt, rfl, by decide +kernel, by decide +kernel, by decide +kernel⟩
theorem cd_X0_firstOne : Cond.code yX0_firstOne cX0_firstOne 3 (some .int) ∈ AW := AWm (i := 534) (by decide +kernel) (by decide +kernel)
theorem im_X0_firstOne : Cond.instanceMethod yX0_firstOne ∈ AW := AWm (i := 532) (by decide +kernel) (by decide +kernel)
theorem sel_X0_firstOne : Cond.selects RX0 yX0_firstOne yX0_firstOne ∈ AW := AWm (i := 533) (by decide +kernel) (by decide +kernel)
theorem mok_X0_firstOne : MOK RX0 yX0_firstOne cX0_firstOne 3 (some .int) 1 := ⟨im_X0_firstOne, sel_X0_firstOne, ini_X0, cd_X0_firstOne, rfl, by decide +kernel, by decide +kernel, by decide +kernel⟩
theorem cd_X1_init : Cond.code yX1_init cX1_init 1 none ∈ AW := AWm (i := 51) (by decide +kernel) (by decide +kernel)
theorem im_X1_init : Cond.instanceMethod yX1_init ∈ AW := AWm (i := 50) (by decide +kernel) (by decide +kernel)
theorem mok_X1_init : MOKi yX1_init cX1_init 1 0 := ⟨im_X1_init, ini_X1, cd_X1_init, rfl, by decide +kernel, by decide +kernel, by decide +kernel⟩
theorem cd_X1_start : Cond.code yX1_start cX1_start 3 none ∈ AW := AWm (i := 114) (by decide +kernel) (by decide +kernel)
theorem im_X1_start : Cond.instanceMethod yX1_start ∈ AW := AWm (i := 112) (by decide +kernel) (by decide +kernel)
theorem sel_X1_start : Cond.selects RX1 yX1_start yX1_start ∈ AW := AWm (i := 113) (by decide +kernel) (by decide +kernel)
theorem mok_X1_start : MOK RX1 yX1_start cX1_start 3 none 2 := ⟨im_X1_start, sel_X1_start, ini_X1, cd_X1_start, rfl, by decide +kernel, by decide +kernel, by decide +kernel⟩
theorem cd_X1_add : Cond.code yX1_add cX1_add 4 (some .int) ∈ AW := AWm (i := 333) (by decide +kernel) (by decide +kernel)
theorem im_X1_add : Cond.instanceMethod yX1_add ∈ AW := AWm (i := 331) (by decide +kernel) (by decide +kernel)
theorem sel_X1_add : Cond.selects RX1 yX1_add yX1_add ∈ AW := AWm (i := 332) (by decide +kernel) (by decide +kernel)
theorem mok_X1_add : MOK RX1 yX1_add cX1_add 4 (some .int) 1 := ⟨im_X1_add, sel_X1_add, ini_X1, cd_X1_add, rfl, by decide +kernel, by decide +kernel, by decide +kernel⟩
theorem cd_X1_addAll : Cond.code yX1_addAll cX1_addAll 3 none ∈ AW := AWm (i := 328) (by decide +kernel) (by decide +kernel)
theorem im_X1_addAll : Cond.instanceMethod yX1_addAll ∈ AW := AWm (i := 326) (by decide +kernel) (by decide +kernel)
theorem sel_X1_addAll : Cond.selects RX1 yX1_addAll yX1_addAll ∈ AW := AWm (i := 327) (by decide +kernel) (by decide +kernel)
theorem mok_X1_addAll : MOK RX1 yX1_addAll cX1_addAll 3 none 1 := ⟨im_X1_addAll, sel_X1_addAll, ini_X1, cd_X1_addAll, rfl, by decide +kernel, by decide +kernel, by decide +kernel⟩
theorem cd_X1_close : Cond.code yX1_close cX1_close 1 none ∈ AW := AWm (i := 266) (by decide +kernel) (by decide +kernel)
theorem im_X1_close : Cond.instanceMethod yX1_close ∈ AW := AWm (i := 264) (by decide +kernel) (by decide +kernel)
theorem sel_X1_close : Cond.selects RX1 yX1_close yX1_close ∈ AW := AWm (i := 265) (by decide +kernel) (by decide +kernel)
theorem mok_X1_close : MOK RX1 yX1_close cX1_close 1 none 0 := ⟨im_X1_close, sel_X1_close, ini_X1, cd_X1_close, rfl, by decide +kernel, by decide +kernel, by decide +kernel⟩
theorem cd_X1_costAt : Cond.code yX1_costAt cX1_costAt 2 (some .int) ∈ AW := AWm (i := 309) (by decide +kernel) (by decide +kernel)
theorem im_X1_costAt : Cond.instanceMethod yX1_costAt ∈ AW := AWm (i := 307) (by decide +kernel) (by decide +kernel)
theorem sel_X1_costAt : Cond.selects RX1 yX1_costAt yX1_costAt ∈ AW := AWm (i := 308) (by decide +kernel) (by decide +kernel)
theorem mok_X1_costAt : MOK RX1 yX1_costAt cX1_costAt 2 (some .int) 1 := ⟨im_X1_costAt, sel_X1_costAt, ini_X1, cd_X1_costAt, rfl, by decide +kernel, by decide +kernel, by decide +kernel⟩
theorem cd_X1_dearest : Cond.code yX1_dearest cX1_dearest 3 (some .int) ∈ AW := AWm (i := 305) (by decide +kernel) (by decide +kernel)
theorem im_X1_dearest : Cond.instanceMethod yX1_dearest ∈ AW := AWm (i := 303) (by decide +kernel) (by decide +kernel)
theorem sel_X1_dearest : Cond.selects RX1 yX1_dearest yX1_dearest ∈ AW := AWm (i := 304) (by decide +kernel) (by decide +kernel)
theorem mok_X1_dearest : MOK RX1 yX1_dearest cX1_dearest 3 (some .int) 0 := ⟨im_X1_dearest, sel_X1_dearest, ini_X1, cd_X1_dearest, rfl, by decide +kernel, by decide +kernel, by decide +kernel⟩
theorem cd_X1_narrow : Cond.code yX1_narrow cX1_narrow 4 none ∈ AW := AWm (i := 270) (by decide +kernel) (by decide +kernel)
theorem im_X1_narrow : Cond.instanceMethod yX1_narrow ∈ AW := AWm (i := 269) (by decide +kernel) (by decide +kernel)
theorem sel_X1_narrow : Cond.selects RX1 yX1_narrow yX1_narrow ∈ AW := AWs (i := 1) (q := (yX1_narrow, 6)) (by decide +kernel)
theorem mok_X1_narrow : MOK RX1 yX1_narrow cX1_narrow 4 none 1 := ⟨im_X1_narrow, sel_X1_narrow, ini_X1, cd_X1_narrow, rfl, by decide +kernel, by decide +kernel, by decide +kernel⟩
theorem cd_X1_writeBit : Cond.code yX1_writeBit cX1_writeBit 3 none ∈ AW := AWm (i := 293) (by decide +kernel) (by decide +kernel)
theorem im_X1_writeBit : Cond.instanceMethod yX1_writeBit ∈ AW := AWm (i := 292) (by decide +kernel) (by decide +kernel)
theorem sel_X1_writeBit : Cond.selects RX1 yX1_writeBit yX1_writeBit ∈ AW := AWs (i := 2) (q := (yX1_writeBit, 6)) (by decide +kernel)
theorem mok_X1_writeBit : MOK RX1 yX1_writeBit cX1_writeBit 3 none 1 := ⟨im_X1_writeBit, sel_X1_writeBit, ini_X1, cd_X1_writeBit, rfl, by decide +kernel, by decide +kernel, by decide +kernel⟩
theorem cd_X2_init : Cond.code yX2_init cX2_init 1 none ∈ AW := AWm (i := 57) (by decide +kernel) (by decide +kernel)
theorem im_X2_init : Cond.instanceMethod yX2_init ∈ AW := AWm (i := 56) (by decide +kernel) (by decide +kernel)
theorem mok_X2_init : MOKi yX2_init cX2_init 1 0 := ⟨im_X2_init, ini_X2, cd_X2_init, rfl, by decide +kernel, by decide +kernel, by decide +kernel⟩
theorem cd_X2_start : Cond.code yX2_start cX2_start 4 none ∈ AW := AWm (i := 118) (by decide +kernel) (by decide +kernel)
theorem im_X2_start : Cond.instanceMethod yX2_start ∈ AW := AWm (i := 116) (by decide +kernel) (by decide +kernel)
theorem sel_X2_start : Cond.selects RX2 yX2_start yX2_start ∈ AW := AWm (i := 117) (by decide +kernel) (by decide +kernel)
theorem mok_X2_start : MOK RX2 yX2_start cX2_start 4 none 2 := ⟨im_X2_start, sel_X2_start, ini_X2, cd_X2_start, rfl, by decide +kernel, by decide +kernel, by decide +kernel⟩
theorem cd_X2_countAt : Cond.code yX2_countAt cX2_countAt 2 (some .int) ∈ AW := AWm (i := 282) (by decide +kernel) (by decide +kernel)
theorem im_X2_countAt : Cond.instanceMethod yX2_countAt ∈ AW := AWm (i := 280) (by decide +kernel) (by decide +kernel)
theorem sel_X2_countAt : Cond.selects RX2 yX2_countAt yX2_countAt ∈ AW := AWm (i := 281) (by decide +kernel) (by decide +kernel)
theorem mok_X2_countAt : MOK RX2 yX2_countAt cX2_countAt 2 (some .int) 1 := ⟨im_X2_countAt, sel_X2_countAt, ini_X2, cd_X2_countAt, rfl, by decide +kernel, by decide +kernel, by decide +kernel⟩
theorem cd_X2_below : Cond.code yX2_below cX2_below 4 (some .int) ∈ AW := AWm (i := 278) (by decide +kernel) (by decide +kernel)
theorem im_X2_below : Cond.instanceMethod yX2_below ∈ AW := AWm (i := 276) (by decide +kernel) (by decide +kernel)
theorem sel_X2_below : Cond.selects RX2 yX2_below yX2_below ∈ AW := AWm (i := 277) (by decide +kernel) (by decide +kernel)
theorem mok_X2_below : MOK RX2 yX2_below cX2_below 4 (some .int) 1 := ⟨im_X2_below, sel_X2_below, ini_X2, cd_X2_below, rfl, by decide +kernel, by decide +kernel, by decide +kernel⟩
theorem cd_X2_letterWith : Cond.code yX2_letterWith cX2_letterWith 4 (some .int) ∈ AW := AWm (i := 401) (by decide +kernel) (by decide +kernel)
theorem im_X2_letterWith : Cond.instanceMethod yX2_letterWith ∈ AW := AWm (i := 399) (by decide +kernel) (by decide +kernel)
theorem sel_X2_letterWith : Cond.selects RX2 yX2_letterWith yX2_letterWith ∈ AW := AWm (i := 400) (by decide +kernel) (by decide +kernel)
theorem mok_X2_letterWith : MOK RX2 yX2_letterWith cX2_letterWith 4 (some .int) 1 := ⟨im_X2_letterWith, sel_X2_letterWith, ini_X2, cd_X2_letterWith, rfl, by decide +kernel, by decide +kernel, by decide +kernel⟩
theorem cd_X2_learn : Cond.code yX2_learn cX2_learn 2 none ∈ AW := AWm (i := 337) (by decide +kernel) (by decide +kernel)
theorem im_X2_learn : Cond.instanceMethod yX2_learn ∈ AW := AWm (i := 335) (by decide +kernel) (by decide +kernel)
theorem sel_X2_learn : Cond.selects RX2 yX2_learn yX2_learn ∈ AW := AWm (i := 336) (by decide +kernel) (by decide +kernel)
theorem mok_X2_learn : MOK RX2 yX2_learn cX2_learn 2 none 1 := ⟨im_X2_learn, sel_X2_learn, ini_X2, cd_X2_learn, rfl, by decide +kernel, by decide +kernel, by decide +kernel⟩
theorem cd_X2_halve : Cond.code yX2_halve cX2_halve 2 none ∈ AW := AWm (i := 341) (by decide +kernel) (by decide +kernel)
theorem im_X2_halve : Cond.instanceMethod yX2_halve ∈ AW := AWm (i := 340) (by decide +kernel) (by decide +kernel)
theorem sel_X2_halve : Cond.selects RX2 yX2_halve yX2_halve ∈ AW := AWs (i := 4) (q := (yX2_halve, 5)) (by decide +kernel)
theorem mok_X2_halve : MOK RX2 yX2_halve cX2_halve 2 none 0 := ⟨im_X2_halve, sel_X2_halve, ini_X2, cd_X2_halve, rfl, by decide +kernel, by decide +kernel, by decide +kernel⟩
theorem cd_X3_init : Cond.code yX3_init cX3_init 2 none ∈ AW := AWm (i := 205) (by decide +kernel) (by decide +kernel)
theorem im_X3_init : Cond.instanceMethod yX3_init ∈ AW := AWm (i := 204) (by decide +kernel) (by decide +kernel)
theorem mok_X3_init : MOKi yX3_init cX3_init 2 0 := ⟨im_X3_init, ini_X3, cd_X3_init, rfl, by decide +kernel, by decide +kernel, by decide +kernel⟩
theorem cd_X3_keep : Cond.code yX3_keep cX3_keep 2 none ∈ AW := AWm (i := 247) (by decide +kernel) (by decide +kernel)
theorem im_X3_keep : Cond.instanceMethod yX3_keep ∈ AW := AWm (i := 245) (by decide +kernel) (by decide +kernel)
theorem sel_X3_keep : Cond.selects RX3 yX3_keep yX3_keep ∈ AW := AWm (i := 246) (by decide +kernel) (by decide +kernel)
theorem mok_X3_keep : MOK RX3 yX3_keep cX3_keep 2 none 1 := ⟨im_X3_keep, sel_X3_keep, ini_X3, cd_X3_keep, rfl, by decide +kernel, by decide +kernel, by decide +kernel⟩
theorem cd_X3_restore : Cond.code yX3_restore cX3_restore 2 none ∈ AW := AWm (i := 456) (by decide +kernel) (by decide +kernel)
theorem im_X3_restore : Cond.instanceMethod yX3_restore ∈ AW := AWm (i := 454) (by decide +kernel) (by decide +kernel)
theorem sel_X3_restore : Cond.selects RX3 yX3_restore yX3_restore ∈ AW := AWm (i := 455) (by decide +kernel) (by decide +kernel)
theorem mok_X3_restore : MOK RX3 yX3_restore cX3_restore 2 none 1 := ⟨im_X3_restore, sel_X3_restore, ini_X3, cd_X3_restore, rfl, by decide +kernel, by decide +kernel, by decide +kernel⟩
theorem cd_X3_dropOldest : Cond.code yX3_dropOldest cX3_dropOldest 2 none ∈ AW := AWm (i := 251) (by decide +kernel) (by decide +kernel)
theorem im_X3_dropOldest : Cond.instanceMethod yX3_dropOldest ∈ AW := AWm (i := 250) (by decide +kernel) (by decide +kernel)
theorem sel_X3_dropOldest : Cond.selects RX3 yX3_dropOldest yX3_dropOldest ∈ AW := AWs (i := 0) (q := (yX3_dropOldest, 2)) (by decide +kernel)
theorem mok_X3_dropOldest : MOK RX3 yX3_dropOldest cX3_dropOldest 2 none 0 := ⟨im_X3_dropOldest, sel_X3_dropOldest, ini_X3, cd_X3_dropOldest, rfl, by decide +kernel, by decide +kernel, by decide +kernel⟩
theorem cd_X3_copy : Cond.code yX3_copy cX3_copy 2 none ∈ AW := AWm (i := 254) (by decide +kernel) (by decide +kernel)
theorem stt_X3_copy : Cond.static yX3_copy ∈ AW := AWm (i := 253) (by decide +kernel) (by decide +kernel)
theorem mok_X3_copy : MOKs yX3_copy cX3_copy 2 none 2 := ⟨stt_X3_copy, ini_X3, cd_X3_copy, by decide +kernel, by decide +kernel, by decide +kernel⟩
theorem cd_X4_init : Cond.code yX4_init cX4_init 1 none ∈ AW := AWm (i := 23) (by decide +kernel) (by decide +kernel)
theorem im_X4_init : Cond.instanceMethod yX4_init ∈ AW := AWm (i := 22) (by decide +kernel) (by decide +kernel)
theorem mok_X4_init : MOKi yX4_init cX4_init 1 0 := ⟨im_X4_init, ini_X4, cd_X4_init, rfl, by decide +kernel, by decide +kernel, by decide +kernel⟩
theorem cd_X4_letterAt : Cond.code yX4_letterAt cX4_letterAt 2 (some .int) ∈ AW := AWm (i := 262) (by decide +kernel) (by decide +kernel)
theorem im_X4_letterAt : Cond.instanceMethod yX4_letterAt ∈ AW := AWm (i := 260) (by decide +kernel) (by decide +kernel)
theorem sel_X4_letterAt : Cond.selects RX4 yX4_letterAt yX4_letterAt ∈ AW := AWm (i := 261) (by decide +kernel) (by decide +kernel)
theorem mok_X4_letterAt : MOK RX4 yX4_letterAt cX4_letterAt 2 (some .int) 1 := ⟨im_X4_letterAt, sel_X4_letterAt, ini_X4, cd_X4_letterAt, rfl, by decide +kernel, by decide +kernel, by decide +kernel⟩
theorem cd_X4_append : Cond.code yX4_append cX4_append 2 none ∈ AW := AWm (i := 483) (by decide +kernel) (by decide +kernel)
theorem im_X4_append : Cond.instanceMethod yX4_append ∈ AW := AWm (i := 481) (by decide +kernel) (by decide +kernel)
theorem sel_X4_append : Cond.selects RX4 yX4_append yX4_append ∈ AW := AWm (i := 482) (by decide +kernel) (by decide +kernel)
theorem mok_X4_append : MOK RX4 yX4_append cX4_append 2 none 1 := ⟨im_X4_append, sel_X4_append, ini_X4, cd_X4_append, rfl, by decide +kernel, by decide +kernel, by decide +kernel⟩
theorem cd_X4_replace : Cond.code yX4_replace cX4_replace 3 none ∈ AW := AWm (i := 444) (by decide +kernel) (by decide +kernel)
theorem im_X4_replace : Cond.instanceMethod yX4_replace ∈ AW := AWm (i := 442) (by decide +kernel) (by decide +kernel)
theorem sel_X4_replace : Cond.selects RX4 yX4_replace yX4_replace ∈ AW := AWm (i := 443) (by decide +kernel) (by decide +kernel)
theorem mok_X4_replace : MOK RX4 yX4_replace cX4_replace 3 none 2 := ⟨im_X4_replace, sel_X4_replace, ini_X4, cd_X4_replace, rfl, by decide +kernel, by decide +kernel, by decide +kernel⟩
theorem cd_X4_shorten : Cond.code yX4_shorten cX4_shorten 2 none ∈ AW := AWm (i := 428) (by decide +kernel) (by decide +kernel)
theorem im_X4_shorten : Cond.instanceMethod yX4_shorten ∈ AW := AWm (i := 426) (by decide +kernel) (by decide +kernel)
theorem sel_X4_shorten : Cond.selects RX4 yX4_shorten yX4_shorten ∈ AW := AWm (i := 427) (by decide +kernel) (by decide +kernel)
theorem mok_X4_shorten : MOK RX4 yX4_shorten cX4_shorten 2 none 1 := ⟨im_X4_shorten, sel_X4_shorten, ini_X4, cd_X4_shorten, rfl, by decide +kernel, by decide +kernel, by decide +kernel⟩
theorem cd_X4_empty : Cond.code yX4_empty cX4_empty 1 none ∈ AW := AWm (i := 467) (by decide +kernel) (by decide +kernel)
theorem im_X4_empty : Cond.instanceMethod yX4_empty ∈ AW := AWm (i := 465) (by decide +kernel) (by decide +kernel)
theorem sel_X4_empty : Cond.selects RX4 yX4_empty yX4_empty ∈ AW := AWm (i := 466) (by decide +kernel) (by decide +kernel)
theorem mok_X4_empty : MOK RX4 yX4_empty cX4_empty 1 none 0 := ⟨im_X4_empty, sel_X4_empty, ini_X4, cd_X4_empty, rfl, by decide +kernel, by decide +kernel, by decide +kernel⟩
theorem cd_X4_howOften : Cond.code yX4_howOften cX4_howOften 4 (some .int) ∈ AW := AWm (i := 366) (by decide +kernel) (by decide +kernel)
theorem im_X4_howOften : Cond.instanceMethod yX4_howOften ∈ AW := AWm (i := 364) (by decide +kernel) (by decide +kernel)
theorem sel_X4_howOften : Cond.selects RX4 yX4_howOften yX4_howOften ∈ AW := AWm (i := 365) (by decide +kernel) (by decide +kernel)
theorem mok_X4_howOften : MOK RX4 yX4_howOften cX4_howOften 4 (some .int) 1 := ⟨im_X4_howOften, sel_X4_howOften, ini_X4, cd_X4_howOften, rfl, by decide +kernel, by decide +kernel, by decide +kernel⟩
theorem cd_X4_copyFrom : Cond.code yX4_copyFrom cX4_copyFrom 3 none ∈ AW := AWm (i := 258) (by decide +kernel) (by decide +kernel)
theorem im_X4_copyFrom : Cond.instanceMethod yX4_copyFrom ∈ AW := AWm (i := 256) (by decide +kernel) (by decide +kernel)
theorem sel_X4_copyFrom : Cond.selects RX4 yX4_copyFrom yX4_copyFrom ∈ AW := AWm (i := 257) (by decide +kernel) (by decide +kernel)
theorem mok_X4_copyFrom : MOK RX4 yX4_copyFrom cX4_copyFrom 3 none 1 := ⟨im_X4_copyFrom, sel_X4_copyFrom, ini_X4, cd_X4_copyFrom, rfl, by decide +kernel, by decide +kernel, by decide +kernel⟩
theorem cd_X5_init : Cond.code yX5_init cX5_init 1 none ∈ AW := AWm (i := 154) (by decide +kernel) (by decide +kernel)
theorem im_X5_init : Cond.instanceMethod yX5_init ∈ AW := AWm (i := 153) (by decide +kernel) (by decide +kernel)
theorem mok_X5_init : MOKi yX5_init cX5_init 1 0 := ⟨im_X5_init, ini_X5, cd_X5_init, rfl, by decide +kernel, by decide +kernel, by decide +kernel⟩
theorem cd_X5_letterAt : Cond.code yX5_letterAt cX5_letterAt 2 (some .int) ∈ AW := AWm (i := 419) (by decide +kernel) (by decide +kernel)
theorem im_X5_letterAt : Cond.instanceMethod yX5_letterAt ∈ AW := AWm (i := 417) (by decide +kernel) (by decide +kernel)
theorem sel_X5_letterAt : Cond.selects RX5 yX5_letterAt yX5_letterAt ∈ AW := AWm (i := 418) (by decide +kernel) (by decide +kernel)
theorem mok_X5_letterAt : MOK RX5 yX5_letterAt cX5_letterAt 2 (some .int) 1 := ⟨im_X5_letterAt, sel_X5_letterAt, ini_X5, cd_X5_letterAt, rfl, by decide +kernel, by decide +kernel, by decide +kernel⟩
theorem cd_X5_read : Cond.code yX5_read cX5_read 5 none ∈ AW := AWm (i := 379) (by decide +kernel) (by decide +kernel)
theorem im_X5_read : Cond.instanceMethod yX5_read ∈ AW := AWm (i := 377) (by decide +kernel) (by decide +kernel)
theorem sel_X5_read : Cond.selects RX5 yX5_read yX5_read ∈ AW := AWm (i := 378) (by decide +kernel) (by decide +kernel)
theorem mok_X5_read : MOK RX5 yX5_read cX5_read 5 none 3 := ⟨im_X5_read, sel_X5_read, ini_X5, cd_X5_read, rfl, by decide +kernel, by decide +kernel, by decide +kernel⟩
theorem cd_X5_readLetter : Cond.code yX5_readLetter cX5_readLetter 3 none ∈ AW := AWm (i := 393) (by decide +kernel) (by decide +kernel)
theorem im_X5_readLetter : Cond.instanceMethod yX5_readLetter ∈ AW := AWm (i := 392) (by decide +kernel) (by decide +kernel)
theorem sel_X5_readLetter : Cond.selects RX5 yX5_readLetter yX5_readLetter ∈ AW := AWs (i := 7) (q := (yX5_readLetter, 7)) (by decide +kernel)
theorem mok_X5_readLetter : MOK RX5 yX5_readLetter cX5_readLetter 3 none 1 := ⟨im_X5_readLetter, sel_X5_readLetter, ini_X5, cd_X5_readLetter, rfl, by decide +kernel, by decide +kernel, by decide +kernel⟩
theorem cd_X5_narrow : Cond.code yX5_narrow cX5_narrow 5 none ∈ AW := AWm (i := 405) (by decide +kernel) (by decide +kernel)
theorem im_X5_narrow : Cond.instanceMethod yX5_narrow ∈ AW := AWm (i := 404) (by decide +kernel) (by decide +kernel)
theorem sel_X5_narrow : Cond.selects RX5 yX5_narrow yX5_narrow ∈ AW := AWs (i := 8) (q := (yX5_narrow, 7)) (by decide +kernel)
theorem mok_X5_narrow : MOK RX5 yX5_narrow cX5_narrow 5 none 2 := ⟨im_X5_narrow, sel_X5_narrow, ini_X5, cd_X5_narrow, rfl, by decide +kernel, by decide +kernel, by decide +kernel⟩
theorem cd_X5_takeBit : Cond.code yX5_takeBit cX5_takeBit 2 none ∈ AW := AWm (i := 385) (by decide +kernel) (by decide +kernel)
theorem im_X5_takeBit : Cond.instanceMethod yX5_takeBit ∈ AW := AWm (i := 384) (by decide +kernel) (by decide +kernel)
theorem sel_X5_takeBit : Cond.selects RX5 yX5_takeBit yX5_takeBit ∈ AW := AWs (i := 6) (q := (yX5_takeBit, 7)) (by decide +kernel)
theorem mok_X5_takeBit : MOK RX5 yX5_takeBit cX5_takeBit 2 none 1 := ⟨im_X5_takeBit, sel_X5_takeBit, ini_X5, cd_X5_takeBit, rfl, by decide +kernel, by decide +kernel, by decide +kernel⟩
theorem cd_X6_init : Cond.code yX6_init cX6_init 1 none ∈ AW := AWm (i := 82) (by decide +kernel) (by decide +kernel)
theorem im_X6_init : Cond.instanceMethod yX6_init ∈ AW := AWm (i := 81) (by decide +kernel) (by decide +kernel)
theorem mok_X6_init : MOKi yX6_init cX6_init 1 0 := ⟨im_X6_init, ini_X6, cd_X6_init, rfl, by decide +kernel, by decide +kernel, by decide +kernel⟩
theorem cd_X6_start : Cond.code yX6_start cX6_start 1 none ∈ AW := AWm (i := 122) (by decide +kernel) (by decide +kernel)
theorem im_X6_start : Cond.instanceMethod yX6_start ∈ AW := AWm (i := 120) (by decide +kernel) (by decide +kernel)
theorem sel_X6_start : Cond.selects RX6 yX6_start yX6_start ∈ AW := AWm (i := 121) (by decide +kernel) (by decide +kernel)
theorem mok_X6_start : MOK RX6 yX6_start cX6_start 1 none 0 := ⟨im_X6_start, sel_X6_start, ini_X6, cd_X6_start, rfl, by decide +kernel, by decide +kernel, by decide +kernel⟩
theorem cd_X6_shrink : Cond.code yX6_shrink cX6_shrink 7 none ∈ AW := AWm (i := 274) (by decide +kernel) (by decide +kernel)
theorem im_X6_shrink : Cond.instanceMethod yX6_shrink ∈ AW := AWm (i := 272) (by decide +kernel) (by decide +kernel)
theorem sel_X6_shrink : Cond.selects RX6 yX6_shrink yX6_shrink ∈ AW := AWm (i := 273) (by decide +kernel) (by decide +kernel)
theorem mok_X6_shrink : MOK RX6 yX6_shrink cX6_shrink 7 none 2 := ⟨im_X6_shrink, sel_X6_shrink, ini_X6, cd_X6_shrink, rfl, by decide +kernel, by decide +kernel, by decide +kernel⟩
theorem cd_X6_widen : Cond.code yX6_widen cX6_widen 2 (some .int) ∈ AW := AWm (i := 286) (by decide +kernel) (by decide +kernel)
theorem im_X6_widen : Cond.instanceMethod yX6_widen ∈ AW := AWm (i := 284) (by decide +kernel) (by decide +kernel)
theorem sel_X6_widen : Cond.selects RX6 yX6_widen yX6_widen ∈ AW := AWm (i := 285) (by decide +kernel) (by decide +kernel)
theorem mok_X6_widen : MOK RX6 yX6_widen cX6_widen 2 (some .int) 0 := ⟨im_X6_widen, sel_X6_widen, ini_X6, cd_X6_widen, rfl, by decide +kernel, by decide +kernel, by decide +kernel⟩
theorem cd_X6_letterAround : Cond.code yX6_letterAround cX6_letterAround 4 (some .int) ∈ AW := AWm (i := 397) (by decide +kernel) (by decide +kernel)
theorem im_X6_letterAround : Cond.instanceMethod yX6_letterAround ∈ AW := AWm (i := 395) (by decide +kernel) (by decide +kernel)
theorem sel_X6_letterAround : Cond.selects RX6 yX6_letterAround yX6_letterAround ∈ AW := AWm (i := 396) (by decide +kernel) (by decide +kernel)
theorem mok_X6_letterAround : MOK RX6 yX6_letterAround cX6_letterAround 4 (some .int) 2 := ⟨im_X6_letterAround, sel_X6_letterAround, ini_X6, cd_X6_letterAround, rfl, by decide +kernel, by decide +kernel, by decide +kernel⟩
theorem cd_X7_init : Cond.code yX7_init cX7_init 1 none ∈ AW := AWm (i := 189) (by decide +kernel) (by decide +kernel)
theorem im_X7_init : Cond.instanceMethod yX7_init ∈ AW := AWm (i := 188) (by decide +kernel) (by decide +kernel)
theorem mok_X7_init : MOKi yX7_init cX7_init 1 0 := ⟨im_X7_init, ini_X7, cd_X7_init, rfl, by decide +kernel, by decide +kernel, by decide +kernel⟩
theorem cd_X7_empty : Cond.code yX7_empty cX7_empty 1 none ∈ AW := AWm (i := 507) (by decide +kernel) (by decide +kernel)
theorem im_X7_empty : Cond.instanceMethod yX7_empty ∈ AW := AWm (i := 505) (by decide +kernel) (by decide +kernel)
theorem sel_X7_empty : Cond.selects RX7 yX7_empty yX7_empty ∈ AW := AWm (i := 506) (by decide +kernel) (by decide +kernel)
theorem mok_X7_empty : MOK RX7 yX7_empty cX7_empty 1 none 0 := ⟨im_X7_empty, sel_X7_empty, ini_X7, cd_X7_empty, rfl, by decide +kernel, by decide +kernel, by decide +kernel⟩
theorem cd_X7_append : Cond.code yX7_append cX7_append 2 none ∈ AW := AWm (i := 512) (by decide +kernel) (by decide +kernel)
theorem im_X7_append : Cond.instanceMethod yX7_append ∈ AW := AWm (i := 510) (by decide +kernel) (by decide +kernel)
theorem sel_X7_append : Cond.selects RX7 yX7_append yX7_append ∈ AW := AWm (i := 511) (by decide +kernel) (by decide +kernel)
theorem mok_X7_append : MOK RX7 yX7_append cX7_append 2 none 1 := ⟨im_X7_append, sel_X7_append, ini_X7, cd_X7_append, rfl, by decide +kernel, by decide +kernel, by decide +kernel⟩
theorem cd_X7_copyFrom : Cond.code yX7_copyFrom cX7_copyFrom 3 none ∈ AW := AWm (i := 503) (by decide +kernel) (by decide +kernel)
theorem im_X7_copyFrom : Cond.instanceMethod yX7_copyFrom ∈ AW := AWm (i := 501) (by decide +kernel) (by decide +kernel)
theorem sel_X7_copyFrom : Cond.selects RX7 yX7_copyFrom yX7_copyFrom ∈ AW := AWm (i := 502) (by decide +kernel) (by decide +kernel)
theorem mok_X7_copyFrom : MOK RX7 yX7_copyFrom cX7_copyFrom 3 none 1 := ⟨im_X7_copyFrom, sel_X7_copyFrom, ini_X7, cd_X7_copyFrom, rfl, by decide +kernel, by decide +kernel, by decide +kernel⟩
theorem cd_X7_copyTo : Cond.code yX7_copyTo cX7_copyTo 3 none ∈ AW := AWm (i := 528) (by decide +kernel) (by decide +kernel)
theorem im_X7_copyTo : Cond.instanceMethod yX7_copyTo ∈ AW := AWm (i := 526) (by decide +kernel) (by decide +kernel)
theorem sel_X7_copyTo : Cond.selects RX7 yX7_copyTo yX7_copyTo ∈ AW := AWm (i := 527) (by decide +kernel) (by decide +kernel)
theorem mok_X7_copyTo : MOK RX7 yX7_copyTo cX7_copyTo 3 none 1 := ⟨im_X7_copyTo, sel_X7_copyTo, ini_X7, cd_X7_copyTo, rfl, by decide +kernel, by decide +kernel, by decide +kernel⟩
theorem cd_X7_firstStrange : Cond.code yX7_firstStrange cX7_firstStrange 2 (some .int) ∈ AW := AWm (i := 524) (by decide +kernel) (by decide +kernel)
theorem im_X7_firstStrange : Cond.instanceMethod yX7_firstStrange ∈ AW := AWm (i := 522) (by decide +kernel) (by decide +kernel)
theorem sel_X7_firstStrange : Cond.selects RX7 yX7_firstStrange yX7_firstStrange ∈ AW := AWm (i := 523) (by decide +kernel) (by decide +kernel)
theorem mok_X7_firstStrange : MOK RX7 yX7_firstStrange cX7_firstStrange 2 (some .int) 0 := ⟨im_X7_firstStrange, sel_X7_firstStrange, ini_X7, cd_X7_firstStrange, rfl, by decide +kernel, by decide +kernel, by decide +kernel⟩
theorem cd_X8_init : Cond.code yX8_init cX8_init 1 none ∈ AW := AWm (i := 15) (by decide +kernel) (by decide +kernel)
theorem im_X8_init : Cond.instanceMethod yX8_init ∈ AW := AWm (i := 14) (by decide +kernel) (by decide +kernel)
theorem mok_X8_init : MOKi yX8_init cX8_init 1 0 := ⟨im_X8_init, ini_X8, cd_X8_init, rfl, by decide +kernel, by decide +kernel, by decide +kernel⟩
theorem cd_X8_put : Cond.code yX8_put cX8_put 2 (some .int) ∈ AW := AWm (i := 479) (by decide +kernel) (by decide +kernel)
theorem im_X8_put : Cond.instanceMethod yX8_put ∈ AW := AWm (i := 477) (by decide +kernel) (by decide +kernel)
theorem sel_X8_put : Cond.selects RX8 yX8_put yX8_put ∈ AW := AWm (i := 478) (by decide +kernel) (by decide +kernel)
theorem mok_X8_put : MOK RX8 yX8_put cX8_put 2 (some .int) 1 := ⟨im_X8_put, sel_X8_put, ini_X8, cd_X8_put, rfl, by decide +kernel, by decide +kernel, by decide +kernel⟩
theorem cd_X8_end : Cond.code yX8_end cX8_end 1 (some .int) ∈ AW := AWm (i := 243) (by decide +kernel) (by decide +kernel)
theorem im_X8_end : Cond.instanceMethod yX8_end ∈ AW := AWm (i := 241) (by decide +kernel) (by decide +kernel)
theorem sel_X8_end : Cond.selects RX8 yX8_end yX8_end ∈ AW := AWm (i := 242) (by decide +kernel) (by decide +kernel)
theorem mok_X8_end : MOK RX8 yX8_end cX8_end 1 (some .int) 0 := ⟨im_X8_end, sel_X8_end, ini_X8, cd_X8_end, rfl, by decide +kernel, by decide +kernel, by decide +kernel⟩
theorem cd_X8_drop : Cond.code yX8_drop cX8_drop 2 (some .int) ∈ AW := AWm (i := 424) (by decide +kernel) (by decide +kernel)
theorem im_X8_drop : Cond.instanceMethod yX8_drop ∈ AW := AWm (i := 422) (by decide +kernel) (by decide +kernel)
theorem sel_X8_drop : Cond.selects RX8 yX8_drop yX8_drop ∈ AW := AWm (i := 423) (by decide +kernel) (by decide +kernel)
theorem mok_X8_drop : MOK RX8 yX8_drop cX8_drop 2 (some .int) 1 := ⟨im_X8_drop, sel_X8_drop, ini_X8, cd_X8_drop, rfl, by decide +kernel, by decide +kernel, by decide +kernel⟩
theorem cd_X8_mend : Cond.code yX8_mend cX8_mend 3 (some .int) ∈ AW := AWm (i := 437) (by decide +kernel) (by decide +kernel)
theorem im_X8_mend : Cond.instanceMethod yX8_mend ∈ AW := AWm (i := 435) (by decide +kernel) (by decide +kernel)
theorem sel_X8_mend : Cond.selects RX8 yX8_mend yX8_mend ∈ AW := AWm (i := 436) (by decide +kernel) (by decide +kernel)
theorem mok_X8_mend : MOK RX8 yX8_mend cX8_mend 3 (some .int) 2 := ⟨im_X8_mend, sel_X8_mend, ini_X8, cd_X8_mend, rfl, by decide +kernel, by decide +kernel, by decide +kernel⟩
theorem cd_X8_set : Cond.code yX8_set cX8_set 4 (some .int) ∈ AW := AWm (i := 460) (by decide +kernel) (by decide +kernel)
theorem im_X8_set : Cond.instanceMethod yX8_set ∈ AW := AWm (i := 458) (by decide +kernel) (by decide +kernel)
theorem sel_X8_set : Cond.selects RX8 yX8_set yX8_set ∈ AW := AWm (i := 459) (by decide +kernel) (by decide +kernel)
theorem mok_X8_set : MOK RX8 yX8_set cX8_set 4 (some .int) 2 := ⟨im_X8_set, sel_X8_set, ini_X8, cd_X8_set, rfl, by decide +kernel, by decide +kernel, by decide +kernel⟩
theorem cd_X8_letter : Cond.code yX8_letter cX8_letter 2 (some .int) ∈ AW := AWm (i := 448) (by decide +kernel) (by decide +kernel)
theorem im_X8_letter : Cond.instanceMethod yX8_letter ∈ AW := AWm (i := 446) (by decide +kernel) (by decide +kernel)
theorem sel_X8_letter : Cond.selects RX8 yX8_letter yX8_letter ∈ AW := AWm (i := 447) (by decide +kernel) (by decide +kernel)
theorem mok_X8_letter : MOK RX8 yX8_letter cX8_letter 2 (some .int) 1 := ⟨im_X8_letter, sel_X8_letter, ini_X8, cd_X8_letter, rfl, by decide +kernel, by decide +kernel, by decide +kernel⟩
theorem cd_X8_bit : Cond.code yX8_bit cX8_bit 2 (some .int) ∈ AW := AWm (i := 474) (by decide +kernel) (by decide +kernel)
theorem im_X8_bit : Cond.instanceMethod yX8_bit ∈ AW := AWm (i := 472) (by decide +kernel) (by decide +kernel)
theorem sel_X8_bit : Cond.selects RX8 yX8_bit yX8_bit ∈ AW := AWm (i := 473) (by decide +kernel) (by decide +kernel)
theorem mok_X8_bit : MOK RX8 yX8_bit cX8_bit 2 (some .int) 1 := ⟨im_X8_bit, sel_X8_bit, ini_X8, cd_X8_bit, rfl, by decide +kernel, by decide +kernel, by decide +kernel⟩
theorem cd_X8_letterOf : Cond.code yX8_letterOf cX8_letterOf 3 (some .int) ∈ AW := AWm (i := 360) (by decide +kernel) (by decide +kernel)
theorem im_X8_letterOf : Cond.instanceMethod yX8_letterOf ∈ AW := AWm (i := 358) (by decide +kernel) (by decide +kernel)
theorem sel_X8_letterOf : Cond.selects RX8 yX8_letterOf yX8_letterOf ∈ AW := AWm (i := 359) (by decide +kernel) (by decide +kernel)
theorem mok_X8_letterOf : MOK RX8 yX8_letterOf cX8_letterOf 3 (some .int) 2 := ⟨im_X8_letterOf, sel_X8_letterOf, ini_X8, cd_X8_letterOf, rfl, by decide +kernel, by decide +kernel, by decide +kernel⟩
theorem cd_X8_count : Cond.code yX8_count cX8_count 2 (some .int) ∈ AW := AWm (i := 301) (by decide +kernel) (by decide +kernel)
theorem im_X8_count : Cond.instanceMethod yX8_count ∈ AW := AWm (i := 299) (by decide +kernel) (by decide +kernel)
theorem sel_X8_count : Cond.selects RX8 yX8_count yX8_count ∈ AW := AWm (i := 300) (by decide +kernel) (by decide +kernel)
theorem mok_X8_count : MOK RX8 yX8_count cX8_count 2 (some .int) 1 := ⟨im_X8_count, sel_X8_count, ini_X8, cd_X8_count, rfl, by decide +kernel, by decide +kernel, by decide +kernel⟩
theorem cd_X8_cost : Cond.code yX8_cost cX8_cost 2 (some .int) ∈ AW := AWm (i := 487) (by decide +kernel) (by decide +kernel)
theorem im_X8_cost : Cond.instanceMethod yX8_cost ∈ AW := AWm (i := 485) (by decide +kernel) (by decide +kernel)
theorem sel_X8_cost : Cond.selects RX8 yX8_cost yX8_cost ∈ AW := AWm (i := 486) (by decide +kernel) (by decide +kernel)
theorem mok_X8_cost : MOK RX8 yX8_cost cX8_cost 2 (some .int) 1 := ⟨im_X8_cost, sel_X8_cost, ini_X8, cd_X8_cost, rfl, by decide +kernel, by decide +kernel, by decide +kernel⟩
theorem cd_X8_bitsBy : Cond.code yX8_bitsBy cX8_bitsBy 2 (some .int) ∈ AW := AWm (i := 316) (by decide +kernel) (by decide +kernel)
theorem im_X8_bitsBy : Cond.instanceMethod yX8_bitsBy ∈ AW := AWm (i := 314) (by decide +kernel) (by decide +kernel)
theorem sel_X8_bitsBy : Cond.selects RX8 yX8_bitsBy yX8_bitsBy ∈ AW := AWm (i := 315) (by decide +kernel) (by decide +kernel)
theorem mok_X8_bitsBy : MOK RX8 yX8_bitsBy cX8_bitsBy 2 (some .int) 1 := ⟨im_X8_bitsBy, sel_X8_bitsBy, ini_X8, cd_X8_bitsBy, rfl, by decide +kernel, by decide +kernel, by decide +kernel⟩
theorem cd_X8_bestPace : Cond.code yX8_bestPace cX8_bestPace 5 (some .int) ∈ AW := AWm (i := 345) (by decide +kernel) (by decide +kernel)
theorem im_X8_bestPace : Cond.instanceMethod yX8_bestPace ∈ AW := AWm (i := 343) (by decide +kernel) (by decide +kernel)
theorem sel_X8_bestPace : Cond.selects RX8 yX8_bestPace yX8_bestPace ∈ AW := AWm (i := 344) (by decide +kernel) (by decide +kernel)
theorem mok_X8_bestPace : MOK RX8 yX8_bestPace cX8_bestPace 5 (some .int) 0 := ⟨im_X8_bestPace, sel_X8_bestPace, ini_X8, cd_X8_bestPace, rfl, by decide +kernel, by decide +kernel, by decide +kernel⟩
theorem cd_X8_readBack : Cond.code yX8_readBack cX8_readBack 2 (some .int) ∈ AW := AWm (i := 375) (by decide +kernel) (by decide +kernel)
theorem im_X8_readBack : Cond.instanceMethod yX8_readBack ∈ AW := AWm (i := 373) (by decide +kernel) (by decide +kernel)
theorem sel_X8_readBack : Cond.selects RX8 yX8_readBack yX8_readBack ∈ AW := AWm (i := 374) (by decide +kernel) (by decide +kernel)
theorem mok_X8_readBack : MOK RX8 yX8_readBack cX8_readBack 2 (some .int) 1 := ⟨im_X8_readBack, sel_X8_readBack, ini_X8, cd_X8_readBack, rfl, by decide +kernel, by decide +kernel, by decide +kernel⟩
theorem cd_X8_undo : Cond.code yX8_undo cX8_undo 1 (some .int) ∈ AW := AWm (i := 452) (by decide +kernel) (by decide +kernel)
theorem im_X8_undo : Cond.instanceMethod yX8_undo ∈ AW := AWm (i := 450) (by decide +kernel) (by decide +kernel)
theorem sel_X8_undo : Cond.selects RX8 yX8_undo yX8_undo ∈ AW := AWm (i := 451) (by decide +kernel) (by decide +kernel)
theorem mok_X8_undo : MOK RX8 yX8_undo cX8_undo 1 (some .int) 0 := ⟨im_X8_undo, sel_X8_undo, ini_X8, cd_X8_undo, rfl, by decide +kernel, by decide +kernel, by decide +kernel⟩
theorem cd_X8_type : Cond.code yX8_type cX8_type 2 (some .int) ∈ AW := AWm (i := 553) (by decide +kernel) (by decide +kernel)
theorem im_X8_type : Cond.instanceMethod yX8_type ∈ AW := AWm (i := 551) (by decide +kernel) (by decide +kernel)
theorem sel_X8_type : Cond.selects RX8 yX8_type yX8_type ∈ AW := AWm (i := 552) (by decide +kernel) (by decide +kernel)
theorem mok_X8_type : MOK RX8 yX8_type cX8_type 2 (some .int) 1 := ⟨im_X8_type, sel_X8_type, ini_X8, cd_X8_type, rfl, by decide +kernel, by decide +kernel, by decide +kernel⟩
theorem cd_X8_clearText : Cond.code yX8_clearText cX8_clearText 2 (some .int) ∈ AW := AWm (i := 548) (by decide +kernel) (by decide +kernel)
theorem im_X8_clearText : Cond.instanceMethod yX8_clearText ∈ AW := AWm (i := 546) (by decide +kernel) (by decide +kernel)
theorem sel_X8_clearText : Cond.selects RX8 yX8_clearText yX8_clearText ∈ AW := AWm (i := 547) (by decide +kernel) (by decide +kernel)
theorem mok_X8_clearText : MOK RX8 yX8_clearText cX8_clearText 2 (some .int) 0 := ⟨im_X8_clearText, sel_X8_clearText, ini_X8, cd_X8_clearText, rfl, by decide +kernel, by decide +kernel, by decide +kernel⟩
theorem cd_X8_write : Cond.code yX8_write cX8_write 1 (some .int) ∈ AW := AWm (i := 499) (by decide +kernel) (by decide +kernel)
theorem im_X8_write : Cond.instanceMethod yX8_write ∈ AW := AWm (i := 497) (by decide +kernel) (by decide +kernel)
theorem sel_X8_write : Cond.selects RX8 yX8_write yX8_write ∈ AW := AWm (i := 498) (by decide +kernel) (by decide +kernel)
theorem mok_X8_write : MOK RX8 yX8_write cX8_write 1 (some .int) 0 := ⟨im_X8_write, sel_X8_write, ini_X8, cd_X8_write, rfl, by decide +kernel, by decide +kernel, by decide +kernel⟩
theorem cd_X8_fault : Cond.code yX8_fault cX8_fault 3 (some .int) ∈ AW := AWm (i := 516) (by decide +kernel) (by decide +kernel)
theorem im_X8_fault : Cond.instanceMethod yX8_fault ∈ AW := AWm (i := 514) (by decide +kernel) (by decide +kernel)
theorem sel_X8_fault : Cond.selects RX8 yX8_fault yX8_fault ∈ AW := AWm (i := 515) (by decide +kernel) (by decide +kernel)
theorem mok_X8_fault : MOK RX8 yX8_fault cX8_fault 3 (some .int) 1 := ⟨im_X8_fault, sel_X8_fault, ini_X8, cd_X8_fault, rfl, by decide +kernel, by decide +kernel, by decide +kernel⟩
theorem cd_X8_told : Cond.code yX8_told cX8_told 2 (some .int) ∈ AW := AWm (i := 544) (by decide +kernel) (by decide +kernel)
theorem im_X8_told : Cond.instanceMethod yX8_told ∈ AW := AWm (i := 542) (by decide +kernel) (by decide +kernel)
theorem sel_X8_told : Cond.selects RX8 yX8_told yX8_told ∈ AW := AWm (i := 543) (by decide +kernel) (by decide +kernel)
theorem mok_X8_told : MOK RX8 yX8_told cX8_told 2 (some .int) 1 := ⟨im_X8_told, sel_X8_told, ini_X8, cd_X8_told, rfl, by decide +kernel, by decide +kernel, by decide +kernel⟩
theorem cd_X8_isLetter : Cond.code yX8_isLetter cX8_isLetter 1 (some .boolean) ∈ AW := AWm (i := 440) (by decide +kernel) (by decide +kernel)
theorem stt_X8_isLetter : Cond.static yX8_isLetter ∈ AW := AWm (i := 439) (by decide +kernel) (by decide +kernel)
theorem mok_X8_isLetter : MOKs yX8_isLetter cX8_isLetter 1 (some .boolean) 1 := ⟨stt_X8_isLetter, ini_X8, cd_X8_isLetter, by decide +kernel, by decide +kernel, by decide +kernel⟩
theorem cd_X8_isPace : Cond.code yX8_isPace cX8_isPace 1 (some .boolean) ∈ AW := AWm (i := 319) (by decide +kernel) (by decide +kernel)
theorem stt_X8_isPace : Cond.static yX8_isPace ∈ AW := AWm (i := 318) (by decide +kernel) (by decide +kernel)
theorem mok_X8_isPace : MOKs yX8_isPace cX8_isPace 1 (some .boolean) 1 := ⟨stt_X8_isPace, ini_X8, cd_X8_isPace, by decide +kernel, by decide +kernel, by decide +kernel⟩
theorem cd_X8_isSetting : Cond.code yX8_isSetting cX8_isSetting 2 (some .boolean) ∈ AW := AWm (i := 463) (by decide +kernel) (by decide +kernel)
theorem stt_X8_isSetting : Cond.static yX8_isSetting ∈ AW := AWm (i := 462) (by decide +kernel) (by decide +kernel)
theorem mok_X8_isSetting : MOKs yX8_isSetting cX8_isSetting 2 (some .boolean) 2 := ⟨stt_X8_isSetting, ini_X8, cd_X8_isSetting, by decide +kernel, by decide +kernel, by decide +kernel⟩
theorem cd_X8_writeAnew : Cond.code yX8_writeAnew cX8_writeAnew 1 none ∈ AW := AWm (i := 433) (by decide +kernel) (by decide +kernel)
theorem im_X8_writeAnew : Cond.instanceMethod yX8_writeAnew ∈ AW := AWm (i := 432) (by decide +kernel) (by decide +kernel)
theorem sel_X8_writeAnew : Cond.selects RX8 yX8_writeAnew yX8_writeAnew ∈ AW := AWs (i := 10) (q := (yX8_writeAnew, 7)) (by decide +kernel)
theorem mok_X8_writeAnew : MOK RX8 yX8_writeAnew cX8_writeAnew 1 none 0 := ⟨im_X8_writeAnew, sel_X8_writeAnew, ini_X8, cd_X8_writeAnew, rfl, by decide +kernel, by decide +kernel, by decide +kernel⟩
theorem cd_X8_bitsMoreWith : Cond.code yX8_bitsMoreWith cX8_bitsMoreWith 3 (some .int) ∈ AW := AWm (i := 370) (by decide +kernel) (by decide +kernel)
theorem im_X8_bitsMoreWith : Cond.instanceMethod yX8_bitsMoreWith ∈ AW := AWm (i := 369) (by decide +kernel) (by decide +kernel)
theorem sel_X8_bitsMoreWith : Cond.selects RX8 yX8_bitsMoreWith yX8_bitsMoreWith ∈ AW := AWs (i := 5) (q := (yX8_bitsMoreWith, 7)) (by decide +kernel)
theorem mok_X8_bitsMoreWith : MOK RX8 yX8_bitsMoreWith cX8_bitsMoreWith 3 (some .int) 1 := ⟨im_X8_bitsMoreWith, sel_X8_bitsMoreWith, ini_X8, cd_X8_bitsMoreWith, rfl, by decide +kernel, by decide +kernel, by decide +kernel⟩
theorem cd_X8_bitsEnded : Cond.code yX8_bitsEnded cX8_bitsEnded 2 (some .int) ∈ AW := AWm (i := 323) (by decide +kernel) (by decide +kernel)
theorem im_X8_bitsEnded : Cond.instanceMethod yX8_bitsEnded ∈ AW := AWm (i := 322) (by decide +kernel) (by decide +kernel)
theorem sel_X8_bitsEnded : Cond.selects RX8 yX8_bitsEnded yX8_bitsEnded ∈ AW := AWs (i := 3) (q := (yX8_bitsEnded, 7)) (by decide +kernel)
theorem mok_X8_bitsEnded : MOK RX8 yX8_bitsEnded cX8_bitsEnded 2 (some .int) 1 := ⟨im_X8_bitsEnded, sel_X8_bitsEnded, ini_X8, cd_X8_bitsEnded, rfl, by decide +kernel, by decide +kernel, by decide +kernel⟩
theorem cd_X8_alikeFromFirst : Cond.code yX8_alikeFromFirst cX8_alikeFromFirst 3 (some .int) ∈ AW := AWm (i := 412) (by decide +kernel) (by decide +kernel)
theorem im_X8_alikeFromFirst : Cond.instanceMethod yX8_alikeFromFirst ∈ AW := AWm (i := 411) (by decide +kernel) (by decide +kernel)
theorem sel_X8_alikeFromFirst : Cond.selects RX8 yX8_alikeFromFirst yX8_alikeFromFirst ∈ AW := AWs (i := 9) (q := (yX8_alikeFromFirst, 7)) (by decide +kernel)
theorem mok_X8_alikeFromFirst : MOK RX8 yX8_alikeFromFirst cX8_alikeFromFirst 3 (some .int) 0 := ⟨im_X8_alikeFromFirst, sel_X8_alikeFromFirst, ini_X8, cd_X8_alikeFromFirst, rfl, by decide +kernel, by decide +kernel, by decide +kernel⟩
theorem cd_X8_faultReason : Cond.code yX8_faultReason cX8_faultReason 1 (some .int) ∈ AW := AWm (i := 520) (by decide +kernel) (by decide +kernel)
theorem im_X8_faultReason : Cond.instanceMethod yX8_faultReason ∈ AW := AWm (i := 519) (by decide +kernel) (by decide +kernel)
theorem sel_X8_faultReason : Cond.selects RX8 yX8_faultReason yX8_faultReason ∈ AW := AWs (i := 11) (q := (yX8_faultReason, 7)) (by decide +kernel)
theorem mok_X8_faultReason : MOK RX8 yX8_faultReason cX8_faultReason 1 (some .int) 0 := ⟨im_X8_faultReason, sel_X8_faultReason, ini_X8, cd_X8_faultReason, rfl, by decide +kernel, by decide +kernel, by decide +kernel⟩
theorem cd_X8_faultPlace : Cond.code yX8_faultPlace cX8_faultPlace 2 (some .int) ∈ AW := AWm (i := 540) (by decide +kernel) (by decide +kernel)
theorem im_X8_faultPlace : Cond.instanceMethod yX8_faultPlace ∈ AW := AWm (i := 539) (by decide +kernel) (by decide +kernel)
theorem sel_X8_faultPlace : Cond.selects RX8 yX8_faultPlace yX8_faultPlace ∈ AW := AWs (i := 12) (q := (yX8_faultPlace, 7)) (by decide +kernel)
theorem mok_X8_faultPlace : MOK RX8 yX8_faultPlace cX8_faultPlace 2 (some .int) 1 := ⟨im_X8_faultPlace, sel_X8_faultPlace, ini_X8, cd_X8_faultPlace, rfl, by decide +kernel, by decide +kernel, by decide +kernel⟩
theorem cd_J9_max_7cf53 : Cond.code yJ9_max_7cf53 cJ9_max_7cf53 2 (some .int) ∈ AW := AWm (i := 312) (by decide +kernel) (by decide +kernel)
theorem stt_J9_max_7cf53 : Cond.static yJ9_max_7cf53 ∈ AW := AWm (i := 311) (by decide +kernel) (by decide +kernel)
theorem mok_J9_max_7cf53 : MOKs yJ9_max_7cf53 cJ9_max_7cf53 2 (some .int) 2 := ⟨stt_J9_max_7cf53, ini_J9, cd_J9_max_7cf53, by decide +kernel, by decide +kernel, by decide +kernel⟩
theorem cd_J9_min_7cf53 : Cond.code yJ9_min_7cf53 cJ9_min_7cf53 2 (some .int) ∈ AW := AWm (i := 415) (by decide +kernel) (by decide +kernel)
theorem stt_J9_min_7cf53 : Cond.static yJ9_min_7cf53 ∈ AW := AWm (i := 414) (by decide +kernel) (by decide +kernel)
theorem mok_J9_min_7cf53 : MOKs yJ9_min_7cf53 cJ9_min_7cf53 2 (some .int) 2 := ⟨stt_J9_min_7cf53, ini_J9, cd_J9_min_7cf53, by decide +kernel, by decide +kernel, by decide +kernel⟩
theorem cd_L_cell : Cond.code yL_cell cL_cell 2 (some .int) ∈ AW := AWm (i := 348) (by decide +kernel) (by decide +kernel)
theorem stt_L_cell : Cond.static yL_cell ∈ AW := AWm (i := 347) (by decide +kernel) (by decide +kernel)
theorem mok_L_cell : MOKs yL_cell cL_cell 2 (some .int) 2 := ⟨stt_L_cell, ini_L, cd_L_cell, by decide +kernel, by decide +kernel, by decide +kernel⟩
theorem cd_L_up : Cond.code yL_up cL_up 2 (some .int) ∈ AW := AWm (i := 355) (by decide +kernel) (by decide +kernel)
theorem stt_L_up : Cond.static yL_up ∈ AW := AWm (i := 354) (by decide +kernel) (by decide +kernel)
theorem mok_L_up : MOKs yL_up cL_up 2 (some .int) 2 := ⟨stt_L_up, ini_L, cd_L_up, by decide +kernel, by decide +kernel, by decide +kernel⟩
theorem cd_L_isPut : Cond.code yL_isPut cL_isPut 10 (some .boolean) ∈ AW := AWm (i := 470) (by decide +kernel) (by decide +kernel)
theorem stt_L_isPut : Cond.static yL_isPut ∈ AW := AWm (i := 469) (by decide +kernel) (by decide +kernel)
theorem mok_L_isPut : MOKs yL_isPut cL_isPut 10 (some .boolean) 2 := ⟨stt_L_isPut, ini_L, cd_L_isPut, by decide +kernel, by decide +kernel, by decide +kernel⟩
theorem cd_L_isStep : Cond.code yL_isStep cL_isStep 8 (some .boolean) ∈ AW := AWm (i := 352) (by decide +kernel) (by decide +kernel)
theorem stt_L_isStep : Cond.static yL_isStep ∈ AW := AWm (i := 351) (by decide +kernel) (by decide +kernel)
theorem mok_L_isStep : MOKs yL_isStep cL_isStep 8 (some .boolean) 2 := ⟨stt_L_isStep, ini_L, cd_L_isStep, by decide +kernel, by decide +kernel, by decide +kernel⟩
theorem cd_L_isWell : Cond.code yL_isWell cL_isWell 11 (some .boolean) ∈ AW := AWm (i := 491) (by decide +kernel) (by decide +kernel)
theorem stt_L_isWell : Cond.static yL_isWell ∈ AW := AWm (i := 490) (by decide +kernel) (by decide +kernel)
theorem mok_L_isWell : MOKs yL_isWell cL_isWell 11 (some .boolean) 1 := ⟨stt_L_isWell, ini_L, cd_L_isWell, by decide +kernel, by decide +kernel, by decide +kernel⟩
theorem cd_L_isText : Cond.code yL_isText cL_isText 8 (some .boolean) ∈ AW := AWm (i := 495) (by decide +kernel) (by decide +kernel)
theorem stt_L_isText : Cond.static yL_isText ∈ AW := AWm (i := 494) (by decide +kernel) (by decide +kernel)
theorem mok_L_isText : MOKs yL_isText cL_isText 8 (some .boolean) 2 := ⟨stt_L_isText, ini_L, cd_L_isText, by decide +kernel, by decide +kernel, by decide +kernel⟩
theorem im_obj : Cond.instanceMethod objectInit ∈ AW := AWm (i := 17) (by decide +kernel) (by decide +kernel)
theorem cd_obj : Cond.code objectInit ⟨#[0xb1]⟩ 1 none ∈ AW := AWm (i := 18) (by decide +kernel) (by decide +kernel)
theorem stt_max : Cond.static Lib.Math.max.name ∈ AW := AWm (i := 311) (by decide +kernel) (by decide +kernel)
theorem cd_max : Cond.code Lib.Math.max.name Lib.Math.max.code 2 (some .int) ∈ AW := AWm (i := 312) (by decide +kernel) (by decide +kernel)
theorem stt_min : Cond.static Lib.Math.min.name ∈ AW := AWm (i := 414) (by decide +kernel) (by decide +kernel)
theorem cd_min : Cond.code Lib.Math.min.name Lib.Math.min.code 2 (some .int) ∈ AW := AWm (i := 415) (by decide +kernel) (by decide +kernel)
theorem in_X0 : ∀ w ∈ u_ws RX0 TX0 2, w ∈ AW := by
  intro w hw
  obtain ⟨k, hk, rfl⟩ := List.mem_map.mp hw
  have hk := List.mem_range.mp hk
  match k, hk with
  | 0, _ => exact AWm (i := 106) (by decide +kernel) (by decide +kernel)
  | 1, _ => exact AWm (i := 108) (by decide +kernel) (by decide +kernel)
  | k + 2, hk => exact absurd hk (by omega)
theorem cls_X0 : vwCl[0]? = some (RX0, TX0, 2) := rfl
theorem in_X1 : ∀ w ∈ u_ws RX1 TX1 6, w ∈ AW := by
  intro w hw
  obtain ⟨k, hk, rfl⟩ := List.mem_map.mp hw
  have hk := List.mem_range.mp hk
  match k, hk with
  | 0, _ => exact AWm (i := 137) (by decide +kernel) (by decide +kernel)
  | 1, _ => exact AWm (i := 139) (by decide +kernel) (by decide +kernel)
  | 2, _ => exact AWm (i := 141) (by decide +kernel) (by decide +kernel)
  | 3, _ => exact AWm (i := 143) (by decide +kernel) (by decide +kernel)
  | 4, _ => exact AWm (i := 145) (by decide +kernel) (by decide +kernel)
  | 5, _ => exact AWm (i := 147) (by decide +kernel) (by decide +kernel)
  | k + 6, hk => exact absurd hk (by omega)
theorem cls_X1 : vwCl[1]? = some (RX1, TX1, 6) := rfl
theorem in_X2 : ∀ w ∈ u_ws RX2 TX2 5, w ∈ AW := by
  intro w hw
  obtain ⟨k, hk, rfl⟩ := List.mem_map.mp hw
  have hk := List.mem_range.mp hk
  match k, hk with
  | 0, _ => exact AWm (i := 67) (by decide +kernel) (by decide +kernel)
  | 1, _ => exact AWm (i := 69) (by decide +kernel) (by decide +kernel)
  | 2, _ => exact AWm (i := 71) (by decide +kernel) (by decide +kernel)
  | 3, _ => exact AWm (i := 73) (by decide +kernel) (by decide +kernel)
  | 4, _ => exact AWm (i := 75) (by decide +kernel) (by decide +kernel)
  | k + 5, hk => exact absurd hk (by omega)
theorem cls_X2 : vwCl[2]? = some (RX2, TX2, 5) := rfl
theorem in_X3 : ∀ w ∈ u_ws RX3 TX3 2, w ∈ AW := by
  intro w hw
  obtain ⟨k, hk, rfl⟩ := List.mem_map.mp hw
  have hk := List.mem_range.mp hk
  match k, hk with
  | 0, _ => exact AWm (i := 213) (by decide +kernel) (by decide +kernel)
  | 1, _ => exact AWm (i := 215) (by decide +kernel) (by decide +kernel)
  | k + 2, hk => exact absurd hk (by omega)
theorem cls_X3 : vwCl[3]? = some (RX3, TX3, 2) := rfl
theorem in_X4 : ∀ w ∈ u_ws RX4 TX4 5, w ∈ AW := by
  intro w hw
  obtain ⟨k, hk, rfl⟩ := List.mem_map.mp hw
  have hk := List.mem_range.mp hk
  match k, hk with
  | 0, _ => exact AWm (i := 35) (by decide +kernel) (by decide +kernel)
  | 1, _ => exact AWm (i := 37) (by decide +kernel) (by decide +kernel)
  | 2, _ => exact AWm (i := 39) (by decide +kernel) (by decide +kernel)
  | 3, _ => exact AWm (i := 41) (by decide +kernel) (by decide +kernel)
  | 4, _ => exact AWm (i := 43) (by decide +kernel) (by decide +kernel)
  | k + 5, hk => exact absurd hk (by omega)
theorem cls_X4 : vwCl[4]? = some (RX4, TX4, 5) := rfl
theorem in_X5 : ∀ w ∈ u_ws RX5 TX5 7, w ∈ AW := by
  intro w hw
  obtain ⟨k, hk, rfl⟩ := List.mem_map.mp hw
  have hk := List.mem_range.mp hk
  match k, hk with
  | 0, _ => exact AWm (i := 170) (by decide +kernel) (by decide +kernel)
  | 1, _ => exact AWm (i := 172) (by decide +kernel) (by decide +kernel)
  | 2, _ => exact AWm (i := 174) (by decide +kernel) (by decide +kernel)
  | 3, _ => exact AWm (i := 176) (by decide +kernel) (by decide +kernel)
  | 4, _ => exact AWm (i := 178) (by decide +kernel) (by decide +kernel)
  | 5, _ => exact AWm (i := 180) (by decide +kernel) (by decide +kernel)
  | 6, _ => exact AWm (i := 182) (by decide +kernel) (by decide +kernel)
  | k + 7, hk => exact absurd hk (by omega)
theorem cls_X5 : vwCl[5]? = some (RX5, TX5, 7) := rfl
theorem in_X6 : ∀ w ∈ u_ws RX6 TX6 2, w ∈ AW := by
  intro w hw
  obtain ⟨k, hk, rfl⟩ := List.mem_map.mp hw
  have hk := List.mem_range.mp hk
  match k, hk with
  | 0, _ => exact AWm (i := 90) (by decide +kernel) (by decide +kernel)
  | 1, _ => exact AWm (i := 92) (by decide +kernel) (by decide +kernel)
  | k + 2, hk => exact absurd hk (by omega)
theorem cls_X6 : vwCl[6]? = some (RX6, TX6, 2) := rfl
theorem in_X7 : ∀ w ∈ u_ws RX7 TX7 2, w ∈ AW := by
  intro w hw
  obtain ⟨k, hk, rfl⟩ := List.mem_map.mp hw
  have hk := List.mem_range.mp hk
  match k, hk with
  | 0, _ => exact AWm (i := 194) (by decide +kernel) (by decide +kernel)
  | 1, _ => exact AWm (i := 196) (by decide +kernel) (by decide +kernel)
  | k + 2, hk => exact absurd hk (by omega)
theorem cls_X7 : vwCl[7]? = some (RX7, TX7, 2) := rfl
theorem in_X8 : ∀ w ∈ u_ws RX8 TX8 7, w ∈ AW := by
  intro w hw
  obtain ⟨k, hk, rfl⟩ := List.mem_map.mp hw
  have hk := List.mem_range.mp hk
  match k, hk with
  | 0, _ => exact AWm (i := 225) (by decide +kernel) (by decide +kernel)
  | 1, _ => exact AWm (i := 227) (by decide +kernel) (by decide +kernel)
  | 2, _ => exact AWm (i := 229) (by decide +kernel) (by decide +kernel)
  | 3, _ => exact AWm (i := 231) (by decide +kernel) (by decide +kernel)
  | 4, _ => exact AWm (i := 233) (by decide +kernel) (by decide +kernel)
  | 5, _ => exact AWm (i := 235) (by decide +kernel) (by decide +kernel)
  | 6, _ => exact AWm (i := 237) (by decide +kernel) (by decide +kernel)
  | k + 7, hk => exact absurd hk (by omega)
theorem cls_X8 : vwCl[8]? = some (RX8, TX8, 7) := rfl
theorem mn_X8_11 : tables_1[21]? = some (Cond.methodLinkNest RX8 11 yX4_init "LearningSpans") := by decide +kernel
theorem fn_X8_62 : tables_1[27]? = some (Cond.fieldLinkNest RX8 62 "LearningSpans$Message" "size" "I" "LearningSpans") := by decide +kernel
theorem fn_X1_61 : tables_1[28]? = some (Cond.fieldLinkNest RX1 61 "LearningSpans$Message" "size" "I" "LearningSpans") := by decide +kernel
theorem fn_X8_58 : tables_1[30]? = some (Cond.fieldLinkNest RX8 58 "LearningSpans$Message" "ended" "Z" "LearningSpans") := by decide +kernel
theorem fn_X8_102 : tables_1[32]? = some (Cond.fieldLinkNest RX8 102 "LearningSpans$Message" "pace" "I" "LearningSpans") := by decide +kernel
theorem fn_X8_105 : tables_1[34]? = some (Cond.fieldLinkNest RX8 105 "LearningSpans$Message" "bound" "I" "LearningSpans") := by decide +kernel
theorem mn_X1_11 : tables_1[55]? = some (Cond.methodLinkNest RX1 11 yX2_init "LearningSpans") := by decide +kernel
theorem fn_X6_19 : tables_1[61]? = some (Cond.fieldLinkNest RX6 19 "LearningSpans$Counts" "total" "I" "LearningSpans") := by decide +kernel
theorem fn_X8_147 : tables_1[62]? = some (Cond.fieldLinkNest RX8 147 "LearningSpans$Counts" "total" "I" "LearningSpans") := by decide +kernel
theorem fn_X8_150 : tables_1[64]? = some (Cond.fieldLinkNest RX8 150 "LearningSpans$Counts" "halvings" "I" "LearningSpans") := by decide +kernel
theorem mn_X1_20 : tables_1[80]? = some (Cond.methodLinkNest RX1 20 yX6_init "LearningSpans") := by decide +kernel
theorem fn_X1_71 : tables_1[86]? = some (Cond.fieldLinkNest RX1 71 "LearningSpans$Span" "low" "I" "LearningSpans") := by decide +kernel
theorem fn_X8_139 : tables_1[87]? = some (Cond.fieldLinkNest RX8 139 "LearningSpans$Span" "low" "I" "LearningSpans") := by decide +kernel
theorem fn_X8_144 : tables_1[89]? = some (Cond.fieldLinkNest RX8 144 "LearningSpans$Span" "high" "I" "LearningSpans") := by decide +kernel
theorem mn_X1_27 : tables_1[97]? = some (Cond.methodLinkNest RX1 27 yX0_init "LearningSpans") := by decide +kernel
theorem fn_X1_53 : tables_1[103]? = some (Cond.fieldLinkNest RX1 53 "LearningSpans$BitRow" "size" "I" "LearningSpans") := by decide +kernel
theorem fn_X8_84 : tables_1[104]? = some (Cond.fieldLinkNest RX8 84 "LearningSpans$BitRow" "size" "I" "LearningSpans") := by decide +kernel
theorem fn_X7_22 : tables_1[105]? = some (Cond.fieldLinkNest RX7 22 "LearningSpans$BitRow" "size" "I" "LearningSpans") := by decide +kernel
theorem fn_X8_114 : tables_1[128]? = some (Cond.fieldLinkNest RX8 114 "LearningSpans$Coder" "counts" "LLearningSpans$Counts;" "LearningSpans") := by decide +kernel
theorem fn_X8_135 : tables_1[130]? = some (Cond.fieldLinkNest RX8 135 "LearningSpans$Coder" "span" "LLearningSpans$Span;" "LearningSpans") := by decide +kernel
theorem fn_X8_81 : tables_1[132]? = some (Cond.fieldLinkNest RX8 81 "LearningSpans$Coder" "bits" "LLearningSpans$BitRow;" "LearningSpans") := by decide +kernel
theorem fn_X8_132 : tables_1[136]? = some (Cond.fieldLinkNest RX8 132 "LearningSpans$Coder" "waiting" "I" "LearningSpans") := by decide +kernel
theorem mn_X8_28 : tables_1[152]? = some (Cond.methodLinkNest RX8 28 yX5_init "LearningSpans") := by decide +kernel
theorem mn_X5_11 : tables_1[157]? = some (Cond.methodLinkNest RX5 11 yX2_init "LearningSpans") := by decide +kernel
theorem mn_X5_20 : tables_1[159]? = some (Cond.methodLinkNest RX5 20 yX6_init "LearningSpans") := by decide +kernel
theorem fn_X8_172 : tables_1[164]? = some (Cond.fieldLinkNest RX8 172 "LearningSpans$Reader" "size" "I" "LearningSpans") := by decide +kernel
theorem fn_X8_213 : tables_1[167]? = some (Cond.fieldLinkNest RX8 213 "LearningSpans$Reader" "taken" "I" "LearningSpans") := by decide +kernel
theorem fn_X8_173 : tables_1[169]? = some (Cond.fieldLinkNest RX8 173 "LearningSpans$Reader" "over" "Z" "LearningSpans") := by decide +kernel
theorem mn_X8_35 : tables_1[187]? = some (Cond.methodLinkNest RX8 35 yX7_init "LearningSpans") := by decide +kernel
theorem fn_X8_154 : tables_1[193]? = some (Cond.fieldLinkNest RX8 154 "LearningSpans$Text" "size" "I" "LearningSpans") := by decide +kernel
theorem mn_X8_42 : tables_1[200]? = some (Cond.methodLinkNest RX8 42 yX0_init "LearningSpans") := by decide +kernel
theorem mn_X3_21 : tables_1[209]? = some (Cond.methodLinkNest RX3 21 yX4_init "LearningSpans") := by decide +kernel
theorem fn_X8_153 : tables_1[212]? = some (Cond.fieldLinkNest RX8 153 "LearningSpans$History" "size" "I" "LearningSpans") := by decide +kernel
