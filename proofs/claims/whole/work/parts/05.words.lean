theorem gTbl_lw {w : Cond} (h : w ∈ gTbl) : w ∈ lw_tbl := (List.mem_filter.mp h).1
theorem cl_L_7 : Cond.classLink RL 7 RX7 ∈ gTbl := gTbl_of (List.mem_of_getElem? (i := 68) (by decide +kernel)) (by decide +kernel)
theorem it_X7 : Cond.instantiable RX7 10 ∈ gTbl := gTbl_of (List.mem_of_getElem? (i := 69) (by decide +kernel)) (by decide +kernel)
theorem ml_L_9 : Cond.methodLink RL 9 yX7_init ∈ gTbl := gTbl_of (List.mem_of_getElem? (i := 70) (by decide +kernel)) (by decide +kernel)
theorem ml_X7_1 : Cond.methodLink RX7 1 ⟨"java/lang/Object", "<init>", "()V"⟩ ∈ gTbl := gTbl_of (List.mem_of_getElem? (i := 73) (by decide +kernel)) (by decide +kernel)
theorem cl_X7_7 : Cond.classLink RX7 7 RX6 ∈ gTbl := gTbl_of (List.mem_of_getElem? (i := 76) (by decide +kernel)) (by decide +kernel)
theorem it_X6 : Cond.instantiable RX6 5 ∈ gTbl := gTbl_of (List.mem_of_getElem? (i := 77) (by decide +kernel)) (by decide +kernel)
theorem ml_X6_3 : Cond.methodLink RX6 3 ⟨"java/lang/Object", "<init>", "()V"⟩ ∈ gTbl := gTbl_of (List.mem_of_getElem? (i := 81) (by decide +kernel)) (by decide +kernel)
theorem cl_X6_15 : Cond.classLink RX6 15 RX1 ∈ gTbl := gTbl_of (List.mem_of_getElem? (i := 82) (by decide +kernel)) (by decide +kernel)
theorem it_X1 : Cond.instantiable RX1 7 ∈ gTbl := gTbl_of (List.mem_of_getElem? (i := 83) (by decide +kernel)) (by decide +kernel)
theorem ml_X6_17 : Cond.methodLink RX6 17 yX1_init ∈ gTbl := gTbl_of (List.mem_of_getElem? (i := 84) (by decide +kernel)) (by decide +kernel)
theorem ml_X1_3 : Cond.methodLink RX1 3 ⟨"java/lang/Object", "<init>", "()V"⟩ ∈ gTbl := gTbl_of (List.mem_of_getElem? (i := 87) (by decide +kernel)) (by decide +kernel)
theorem cl_X1_9 : Cond.classLink RX1 9 RX0 ∈ gTbl := gTbl_of (List.mem_of_getElem? (i := 88) (by decide +kernel)) (by decide +kernel)
theorem it_X0 : Cond.instantiable RX0 6 ∈ gTbl := gTbl_of (List.mem_of_getElem? (i := 89) (by decide +kernel)) (by decide +kernel)
theorem ml_X0_3 : Cond.methodLink RX0 3 ⟨"java/lang/Object", "<init>", "()V"⟩ ∈ gTbl := gTbl_of (List.mem_of_getElem? (i := 93) (by decide +kernel)) (by decide +kernel)
theorem fl_X0_9 : Cond.fieldLink RX0 9 "ShelfFilters$Hashing" "cells" "I" ∈ gTbl := gTbl_of (List.mem_of_getElem? (i := 94) (by decide +kernel)) (by decide +kernel)
theorem fl_X7_135 : Cond.fieldLink RX7 135 "ShelfFilters$Hashing" "cells" "I" ∈ gTbl := gTbl_of (List.mem_of_getElem? (i := 95) (by decide +kernel)) (by decide +kernel)
theorem fl_X0_15 : Cond.fieldLink RX0 15 "ShelfFilters$Hashing" "functions" "I" ∈ gTbl := gTbl_of (List.mem_of_getElem? (i := 96) (by decide +kernel)) (by decide +kernel)
theorem fl_X7_150 : Cond.fieldLink RX7 150 "ShelfFilters$Hashing" "functions" "I" ∈ gTbl := gTbl_of (List.mem_of_getElem? (i := 97) (by decide +kernel)) (by decide +kernel)
theorem fl_X1_146 : Cond.fieldLink RX1 146 "ShelfFilters$Hashing" "functions" "I" ∈ gTbl := gTbl_of (List.mem_of_getElem? (i := 98) (by decide +kernel)) (by decide +kernel)
theorem fl_X0_18 : Cond.fieldLink RX0 18 "ShelfFilters$Hashing" "families" "I" ∈ gTbl := gTbl_of (List.mem_of_getElem? (i := 99) (by decide +kernel)) (by decide +kernel)
theorem fl_X1_56 : Cond.fieldLink RX1 56 "ShelfFilters$Hashing" "families" "I" ∈ gTbl := gTbl_of (List.mem_of_getElem? (i := 100) (by decide +kernel)) (by decide +kernel)
theorem fl_X6_62 : Cond.fieldLink RX6 62 "ShelfFilters$Hashing" "families" "I" ∈ gTbl := gTbl_of (List.mem_of_getElem? (i := 101) (by decide +kernel)) (by decide +kernel)
theorem fl_X7_200 : Cond.fieldLink RX7 200 "ShelfFilters$Hashing" "families" "I" ∈ gTbl := gTbl_of (List.mem_of_getElem? (i := 102) (by decide +kernel)) (by decide +kernel)
theorem fl_X0_21 : Cond.fieldLink RX0 21 "ShelfFilters$Hashing" "present" "I" ∈ gTbl := gTbl_of (List.mem_of_getElem? (i := 103) (by decide +kernel)) (by decide +kernel)
theorem fl_X1_87 : Cond.fieldLink RX1 87 "ShelfFilters$Hashing" "present" "I" ∈ gTbl := gTbl_of (List.mem_of_getElem? (i := 104) (by decide +kernel)) (by decide +kernel)
theorem fl_X7_182 : Cond.fieldLink RX7 182 "ShelfFilters$Hashing" "present" "I" ∈ gTbl := gTbl_of (List.mem_of_getElem? (i := 105) (by decide +kernel)) (by decide +kernel)
theorem fl_X0_24 : Cond.fieldLink RX0 24 "ShelfFilters$Hashing" "factors" "[I" ∈ gTbl := gTbl_of (List.mem_of_getElem? (i := 106) (by decide +kernel)) (by decide +kernel)
theorem fl_X0_28 : Cond.fieldLink RX0 28 "ShelfFilters$Hashing" "shifts" "[I" ∈ gTbl := gTbl_of (List.mem_of_getElem? (i := 107) (by decide +kernel)) (by decide +kernel)
theorem ac_int : Cond.arrayClass Jvm.ClassFile.FieldType.int ∈ gTbl := gTbl_of (List.mem_of_getElem? (i := 121) (by decide +kernel)) (by decide +kernel)
theorem cl_X1_18 : Cond.classLink RX1 18 RX4 ∈ gTbl := gTbl_of (List.mem_of_getElem? (i := 122) (by decide +kernel)) (by decide +kernel)
theorem ao_X4 : Cond.arrayOver (Jvm.ClassFile.FieldType.object "ShelfFilters$Proxy") ∈ lw_tbl := List.mem_of_getElem? (i := 123) (by decide +kernel)
theorem it_X4 : Cond.instantiable RX4 7 ∈ gTbl := gTbl_of (List.mem_of_getElem? (i := 124) (by decide +kernel)) (by decide +kernel)
theorem ml_X4_3 : Cond.methodLink RX4 3 ⟨"java/lang/Object", "<init>", "()V"⟩ ∈ gTbl := gTbl_of (List.mem_of_getElem? (i := 128) (by decide +kernel)) (by decide +kernel)
theorem fl_X4_9 : Cond.fieldLink RX4 9 "ShelfFilters$Proxy" "room" "I" ∈ gTbl := gTbl_of (List.mem_of_getElem? (i := 129) (by decide +kernel)) (by decide +kernel)
theorem fl_X7_98 : Cond.fieldLink RX7 98 "ShelfFilters$Proxy" "room" "I" ∈ gTbl := gTbl_of (List.mem_of_getElem? (i := 130) (by decide +kernel)) (by decide +kernel)
theorem fl_X4_15 : Cond.fieldLink RX4 15 "ShelfFilters$Proxy" "limit" "I" ∈ gTbl := gTbl_of (List.mem_of_getElem? (i := 131) (by decide +kernel)) (by decide +kernel)
theorem fl_X7_103 : Cond.fieldLink RX7 103 "ShelfFilters$Proxy" "limit" "I" ∈ gTbl := gTbl_of (List.mem_of_getElem? (i := 132) (by decide +kernel)) (by decide +kernel)
theorem fl_X1_156 : Cond.fieldLink RX1 156 "ShelfFilters$Proxy" "limit" "I" ∈ gTbl := gTbl_of (List.mem_of_getElem? (i := 133) (by decide +kernel)) (by decide +kernel)
theorem fl_X4_18 : Cond.fieldLink RX4 18 "ShelfFilters$Proxy" "pages" "I" ∈ gTbl := gTbl_of (List.mem_of_getElem? (i := 134) (by decide +kernel)) (by decide +kernel)
theorem fl_X7_106 : Cond.fieldLink RX7 106 "ShelfFilters$Proxy" "pages" "I" ∈ gTbl := gTbl_of (List.mem_of_getElem? (i := 135) (by decide +kernel)) (by decide +kernel)
theorem fl_X1_74 : Cond.fieldLink RX1 74 "ShelfFilters$Proxy" "pages" "I" ∈ gTbl := gTbl_of (List.mem_of_getElem? (i := 136) (by decide +kernel)) (by decide +kernel)
theorem fl_X4_21 : Cond.fieldLink RX4 21 "ShelfFilters$Proxy" "changes" "I" ∈ gTbl := gTbl_of (List.mem_of_getElem? (i := 137) (by decide +kernel)) (by decide +kernel)
theorem fl_X7_109 : Cond.fieldLink RX7 109 "ShelfFilters$Proxy" "changes" "I" ∈ gTbl := gTbl_of (List.mem_of_getElem? (i := 138) (by decide +kernel)) (by decide +kernel)
theorem fl_X1_137 : Cond.fieldLink RX1 137 "ShelfFilters$Proxy" "changes" "I" ∈ gTbl := gTbl_of (List.mem_of_getElem? (i := 139) (by decide +kernel)) (by decide +kernel)
theorem fl_X4_24 : Cond.fieldLink RX4 24 "ShelfFilters$Proxy" "summary" "I" ∈ gTbl := gTbl_of (List.mem_of_getElem? (i := 140) (by decide +kernel)) (by decide +kernel)
theorem fl_X7_112 : Cond.fieldLink RX7 112 "ShelfFilters$Proxy" "summary" "I" ∈ gTbl := gTbl_of (List.mem_of_getElem? (i := 141) (by decide +kernel)) (by decide +kernel)
theorem fl_X1_80 : Cond.fieldLink RX1 80 "ShelfFilters$Proxy" "summary" "I" ∈ gTbl := gTbl_of (List.mem_of_getElem? (i := 142) (by decide +kernel)) (by decide +kernel)
theorem fl_X4_27 : Cond.fieldLink RX4 27 "ShelfFilters$Proxy" "shelf" "[I" ∈ gTbl := gTbl_of (List.mem_of_getElem? (i := 143) (by decide +kernel)) (by decide +kernel)
theorem fl_X4_31 : Cond.fieldLink RX4 31 "ShelfFilters$Proxy" "counters" "[I" ∈ gTbl := gTbl_of (List.mem_of_getElem? (i := 144) (by decide +kernel)) (by decide +kernel)
theorem fl_X7_140 : Cond.fieldLink RX7 140 "ShelfFilters$Proxy" "counters" "[I" ∈ gTbl := gTbl_of (List.mem_of_getElem? (i := 145) (by decide +kernel)) (by decide +kernel)
theorem fl_X1_12 : Cond.fieldLink RX1 12 "ShelfFilters$Net" "hashing" "LShelfFilters$Hashing;" ∈ gTbl := gTbl_of (List.mem_of_getElem? (i := 161) (by decide +kernel)) (by decide +kernel)
theorem fl_X7_131 : Cond.fieldLink RX7 131 "ShelfFilters$Net" "hashing" "LShelfFilters$Hashing;" ∈ gTbl := gTbl_of (List.mem_of_getElem? (i := 162) (by decide +kernel)) (by decide +kernel)
theorem fl_X6_58 : Cond.fieldLink RX6 58 "ShelfFilters$Net" "hashing" "LShelfFilters$Hashing;" ∈ gTbl := gTbl_of (List.mem_of_getElem? (i := 163) (by decide +kernel)) (by decide +kernel)
theorem fl_X1_20 : Cond.fieldLink RX1 20 "ShelfFilters$Net" "proxies" "[LShelfFilters$Proxy;" ∈ gTbl := gTbl_of (List.mem_of_getElem? (i := 164) (by decide +kernel)) (by decide +kernel)
theorem fl_X1_24 : Cond.fieldLink RX1 24 "ShelfFilters$Net" "size" "I" ∈ gTbl := gTbl_of (List.mem_of_getElem? (i := 165) (by decide +kernel)) (by decide +kernel)
theorem fl_X7_91 : Cond.fieldLink RX7 91 "ShelfFilters$Net" "size" "I" ∈ gTbl := gTbl_of (List.mem_of_getElem? (i := 166) (by decide +kernel)) (by decide +kernel)
theorem fl_X6_70 : Cond.fieldLink RX6 70 "ShelfFilters$Net" "size" "I" ∈ gTbl := gTbl_of (List.mem_of_getElem? (i := 167) (by decide +kernel)) (by decide +kernel)
theorem fl_X1_28 : Cond.fieldLink RX1 28 "ShelfFilters$Net" "requests" "I" ∈ gTbl := gTbl_of (List.mem_of_getElem? (i := 168) (by decide +kernel)) (by decide +kernel)
theorem fl_X7_257 : Cond.fieldLink RX7 257 "ShelfFilters$Net" "requests" "I" ∈ gTbl := gTbl_of (List.mem_of_getElem? (i := 169) (by decide +kernel)) (by decide +kernel)
theorem fl_X1_31 : Cond.fieldLink RX1 31 "ShelfFilters$Net" "falseHits" "I" ∈ gTbl := gTbl_of (List.mem_of_getElem? (i := 170) (by decide +kernel)) (by decide +kernel)
theorem fl_X7_260 : Cond.fieldLink RX7 260 "ShelfFilters$Net" "falseHits" "I" ∈ gTbl := gTbl_of (List.mem_of_getElem? (i := 171) (by decide +kernel)) (by decide +kernel)
theorem fl_X1_34 : Cond.fieldLink RX1 34 "ShelfFilters$Net" "fetches" "I" ∈ gTbl := gTbl_of (List.mem_of_getElem? (i := 172) (by decide +kernel)) (by decide +kernel)
theorem fl_X7_263 : Cond.fieldLink RX7 263 "ShelfFilters$Net" "fetches" "I" ∈ gTbl := gTbl_of (List.mem_of_getElem? (i := 173) (by decide +kernel)) (by decide +kernel)
theorem fl_X1_37 : Cond.fieldLink RX1 37 "ShelfFilters$Net" "messages" "I" ∈ gTbl := gTbl_of (List.mem_of_getElem? (i := 174) (by decide +kernel)) (by decide +kernel)
theorem fl_X7_266 : Cond.fieldLink RX7 266 "ShelfFilters$Net" "messages" "I" ∈ gTbl := gTbl_of (List.mem_of_getElem? (i := 175) (by decide +kernel)) (by decide +kernel)
theorem fl_X6_9 : Cond.fieldLink RX6 9 "ShelfFilters$Text" "length" "I" ∈ gTbl := gTbl_of (List.mem_of_getElem? (i := 191) (by decide +kernel)) (by decide +kernel)
theorem fl_X7_73 : Cond.fieldLink RX7 73 "ShelfFilters$Text" "length" "I" ∈ gTbl := gTbl_of (List.mem_of_getElem? (i := 192) (by decide +kernel)) (by decide +kernel)
theorem fl_X6_18 : Cond.fieldLink RX6 18 "ShelfFilters$Text" "net" "LShelfFilters$Net;" ∈ gTbl := gTbl_of (List.mem_of_getElem? (i := 193) (by decide +kernel)) (by decide +kernel)
theorem fl_X7_81 : Cond.fieldLink RX7 81 "ShelfFilters$Text" "net" "LShelfFilters$Net;" ∈ gTbl := gTbl_of (List.mem_of_getElem? (i := 194) (by decide +kernel)) (by decide +kernel)
theorem fl_X6_22 : Cond.fieldLink RX6 22 "ShelfFilters$Text" "letters" "[I" ∈ gTbl := gTbl_of (List.mem_of_getElem? (i := 195) (by decide +kernel)) (by decide +kernel)
theorem fl_X6_26 : Cond.fieldLink RX6 26 "ShelfFilters$Text" "at" "I" ∈ gTbl := gTbl_of (List.mem_of_getElem? (i := 196) (by decide +kernel)) (by decide +kernel)
theorem fl_X6_29 : Cond.fieldLink RX6 29 "ShelfFilters$Text" "digit" "I" ∈ gTbl := gTbl_of (List.mem_of_getElem? (i := 197) (by decide +kernel)) (by decide +kernel)
theorem cl_X7_16 : Cond.classLink RX7 16 RX1 ∈ gTbl := gTbl_of (List.mem_of_getElem? (i := 209) (by decide +kernel)) (by decide +kernel)
theorem ml_X7_18 : Cond.methodLink RX7 18 yX1_init ∈ gTbl := gTbl_of (List.mem_of_getElem? (i := 210) (by decide +kernel)) (by decide +kernel)
theorem cl_X7_26 : Cond.classLink RX7 26 RX3 ∈ gTbl := gTbl_of (List.mem_of_getElem? (i := 211) (by decide +kernel)) (by decide +kernel)
theorem it_X3 : Cond.instantiable RX3 3 ∈ gTbl := gTbl_of (List.mem_of_getElem? (i := 212) (by decide +kernel)) (by decide +kernel)
theorem ml_X7_28 : Cond.methodLink RX7 28 yX3_init ∈ gTbl := gTbl_of (List.mem_of_getElem? (i := 213) (by decide +kernel)) (by decide +kernel)
theorem ml_X3_3 : Cond.methodLink RX3 3 ⟨"java/lang/Object", "<init>", "()V"⟩ ∈ gTbl := gTbl_of (List.mem_of_getElem? (i := 216) (by decide +kernel)) (by decide +kernel)
theorem cl_X3_9 : Cond.classLink RX3 9 RX1 ∈ gTbl := gTbl_of (List.mem_of_getElem? (i := 217) (by decide +kernel)) (by decide +kernel)
theorem ao_X1 : Cond.arrayOver (Jvm.ClassFile.FieldType.object "ShelfFilters$Net") ∈ lw_tbl := List.mem_of_getElem? (i := 218) (by decide +kernel)
theorem ml_X3_24 : Cond.methodLink RX3 24 yX1_init ∈ gTbl := gTbl_of (List.mem_of_getElem? (i := 219) (by decide +kernel)) (by decide +kernel)
theorem fl_X3_11 : Cond.fieldLink RX3 11 "ShelfFilters$Past" "nets" "[LShelfFilters$Net;" ∈ gTbl := gTbl_of (List.mem_of_getElem? (i := 220) (by decide +kernel)) (by decide +kernel)
theorem fl_X3_17 : Cond.fieldLink RX3 17 "ShelfFilters$Past" "next" "I" ∈ gTbl := gTbl_of (List.mem_of_getElem? (i := 221) (by decide +kernel)) (by decide +kernel)
theorem fl_X3_21 : Cond.fieldLink RX3 21 "ShelfFilters$Past" "size" "I" ∈ gTbl := gTbl_of (List.mem_of_getElem? (i := 222) (by decide +kernel)) (by decide +kernel)
theorem fl_X7_192 : Cond.fieldLink RX7 192 "ShelfFilters$Past" "size" "I" ∈ gTbl := gTbl_of (List.mem_of_getElem? (i := 223) (by decide +kernel)) (by decide +kernel)
theorem cl_X7_41 : Cond.classLink RX7 41 RX5 ∈ gTbl := gTbl_of (List.mem_of_getElem? (i := 231) (by decide +kernel)) (by decide +kernel)
theorem it_X5 : Cond.instantiable RX5 4 ∈ gTbl := gTbl_of (List.mem_of_getElem? (i := 232) (by decide +kernel)) (by decide +kernel)
theorem ml_X5_3 : Cond.methodLink RX5 3 ⟨"java/lang/Object", "<init>", "()V"⟩ ∈ gTbl := gTbl_of (List.mem_of_getElem? (i := 236) (by decide +kernel)) (by decide +kernel)
theorem fl_X5_9 : Cond.fieldLink RX5 9 "ShelfFilters$Sightings" "proxies" "[I" ∈ gTbl := gTbl_of (List.mem_of_getElem? (i := 237) (by decide +kernel)) (by decide +kernel)
theorem fl_X5_15 : Cond.fieldLink RX5 15 "ShelfFilters$Sightings" "sorts" "[I" ∈ gTbl := gTbl_of (List.mem_of_getElem? (i := 238) (by decide +kernel)) (by decide +kernel)
theorem fl_X5_18 : Cond.fieldLink RX5 18 "ShelfFilters$Sightings" "truths" "[Z" ∈ gTbl := gTbl_of (List.mem_of_getElem? (i := 239) (by decide +kernel)) (by decide +kernel)
theorem fl_X5_22 : Cond.fieldLink RX5 22 "ShelfFilters$Sightings" "size" "I" ∈ gTbl := gTbl_of (List.mem_of_getElem? (i := 240) (by decide +kernel)) (by decide +kernel)
theorem fl_X7_230 : Cond.fieldLink RX7 230 "ShelfFilters$Sightings" "size" "I" ∈ gTbl := gTbl_of (List.mem_of_getElem? (i := 241) (by decide +kernel)) (by decide +kernel)
theorem ac_boolean : Cond.arrayClass Jvm.ClassFile.FieldType.boolean ∈ gTbl := gTbl_of (List.mem_of_getElem? (i := 251) (by decide +kernel)) (by decide +kernel)
theorem cl_X7_48 : Cond.classLink RX7 48 RX2 ∈ gTbl := gTbl_of (List.mem_of_getElem? (i := 252) (by decide +kernel)) (by decide +kernel)
theorem it_X2 : Cond.instantiable RX2 2 ∈ gTbl := gTbl_of (List.mem_of_getElem? (i := 253) (by decide +kernel)) (by decide +kernel)
theorem ml_X2_3 : Cond.methodLink RX2 3 ⟨"java/lang/Object", "<init>", "()V"⟩ ∈ gTbl := gTbl_of (List.mem_of_getElem? (i := 257) (by decide +kernel)) (by decide +kernel)
theorem fl_X2_9 : Cond.fieldLink RX2 9 "ShelfFilters$Order" "size" "I" ∈ gTbl := gTbl_of (List.mem_of_getElem? (i := 258) (by decide +kernel)) (by decide +kernel)
theorem fl_X7_291 : Cond.fieldLink RX7 291 "ShelfFilters$Order" "size" "I" ∈ gTbl := gTbl_of (List.mem_of_getElem? (i := 259) (by decide +kernel)) (by decide +kernel)
theorem fl_X2_15 : Cond.fieldLink RX2 15 "ShelfFilters$Order" "pages" "[I" ∈ gTbl := gTbl_of (List.mem_of_getElem? (i := 260) (by decide +kernel)) (by decide +kernel)
theorem ml_X7_62 : Cond.methodLink RX7 62 yX1_begin ∈ gTbl := gTbl_of (List.mem_of_getElem? (i := 266) (by decide +kernel)) (by decide +kernel)
theorem ml_X1_48 : Cond.methodLink RX1 48 yX0_begin ∈ gTbl := gTbl_of (List.mem_of_getElem? (i := 270) (by decide +kernel)) (by decide +kernel)
theorem ml_X1_52 : Cond.methodLink RX1 52 yX1_clearCounts ∈ gTbl := gTbl_of (List.mem_of_getElem? (i := 274) (by decide +kernel)) (by decide +kernel)
theorem ml_X7_66 : Cond.methodLink RX7 66 yX1_complete ∈ gTbl := gTbl_of (List.mem_of_getElem? (i := 278) (by decide +kernel)) (by decide +kernel)
theorem ml_X1_59 : Cond.methodLink RX1 59 yX0_addFamily ∈ gTbl := gTbl_of (List.mem_of_getElem? (i := 282) (by decide +kernel)) (by decide +kernel)
theorem ml_X1_62 : Cond.methodLink RX1 62 yX1_adopt ∈ gTbl := gTbl_of (List.mem_of_getElem? (i := 286) (by decide +kernel)) (by decide +kernel)
theorem ml_X1_163 : Cond.methodLink RX1 163 yX0_isFamily ∈ gTbl := gTbl_of (List.mem_of_getElem? (i := 290) (by decide +kernel)) (by decide +kernel)
theorem ml_X1_66 : Cond.methodLink RX1 66 yX1_proxyAt ∈ gTbl := gTbl_of (List.mem_of_getElem? (i := 294) (by decide +kernel)) (by decide +kernel)
theorem ml_X1_166 : Cond.methodLink RX1 166 yX1_rebuild ∈ gTbl := gTbl_of (List.mem_of_getElem? (i := 298) (by decide +kernel)) (by decide +kernel)
theorem ml_X1_169 : Cond.methodLink RX1 169 yX4_clearCounters ∈ gTbl := gTbl_of (List.mem_of_getElem? (i := 302) (by decide +kernel)) (by decide +kernel)
theorem ml_X1_98 : Cond.methodLink RX1 98 yX4_pageAt ∈ gTbl := gTbl_of (List.mem_of_getElem? (i := 306) (by decide +kernel)) (by decide +kernel)
theorem ml_X1_133 : Cond.methodLink RX1 133 yX1_tally ∈ gTbl := gTbl_of (List.mem_of_getElem? (i := 310) (by decide +kernel)) (by decide +kernel)
theorem ml_X1_149 : Cond.methodLink RX1 149 yX0_cell ∈ gTbl := gTbl_of (List.mem_of_getElem? (i := 314) (by decide +kernel)) (by decide +kernel)
theorem ml_X1_153 : Cond.methodLink RX1 153 yX4_move ∈ gTbl := gTbl_of (List.mem_of_getElem? (i := 318) (by decide +kernel)) (by decide +kernel)
theorem ml_X1_159 : Cond.methodLink RX1 159 yX1_spread ∈ gTbl := gTbl_of (List.mem_of_getElem? (i := 322) (by decide +kernel)) (by decide +kernel)
theorem ml_X1_83 : Cond.methodLink RX1 83 yX4_filterSet ∈ gTbl := gTbl_of (List.mem_of_getElem? (i := 326) (by decide +kernel)) (by decide +kernel)
theorem fl_X7_10 : Cond.fieldLink RX7 10 "ShelfFilters" "text" "LShelfFilters$Text;" ∈ gTbl := gTbl_of (List.mem_of_getElem? (i := 330) (by decide +kernel)) (by decide +kernel)
theorem fl_X7_19 : Cond.fieldLink RX7 19 "ShelfFilters" "current" "LShelfFilters$Net;" ∈ gTbl := gTbl_of (List.mem_of_getElem? (i := 331) (by decide +kernel)) (by decide +kernel)
theorem fl_X7_23 : Cond.fieldLink RX7 23 "ShelfFilters" "trial" "LShelfFilters$Net;" ∈ gTbl := gTbl_of (List.mem_of_getElem? (i := 332) (by decide +kernel)) (by decide +kernel)
theorem fl_X7_29 : Cond.fieldLink RX7 29 "ShelfFilters" "past" "LShelfFilters$Past;" ∈ gTbl := gTbl_of (List.mem_of_getElem? (i := 333) (by decide +kernel)) (by decide +kernel)
theorem fl_X7_33 : Cond.fieldLink RX7 33 "ShelfFilters" "slots" "[LShelfFilters$Net;" ∈ gTbl := gTbl_of (List.mem_of_getElem? (i := 334) (by decide +kernel)) (by decide +kernel)
theorem fl_X7_37 : Cond.fieldLink RX7 37 "ShelfFilters" "filled" "[Z" ∈ gTbl := gTbl_of (List.mem_of_getElem? (i := 335) (by decide +kernel)) (by decide +kernel)
theorem fl_X7_44 : Cond.fieldLink RX7 44 "ShelfFilters" "sightings" "LShelfFilters$Sightings;" ∈ gTbl := gTbl_of (List.mem_of_getElem? (i := 336) (by decide +kernel)) (by decide +kernel)
theorem fl_X7_51 : Cond.fieldLink RX7 51 "ShelfFilters" "tried" "LShelfFilters$Order;" ∈ gTbl := gTbl_of (List.mem_of_getElem? (i := 337) (by decide +kernel)) (by decide +kernel)
theorem fl_X7_55 : Cond.fieldLink RX7 55 "ShelfFilters" "cheapest" "LShelfFilters$Order;" ∈ gTbl := gTbl_of (List.mem_of_getElem? (i := 338) (by decide +kernel)) (by decide +kernel)
theorem fl_X7_58 : Cond.fieldLink RX7 58 "ShelfFilters" "chance" "J" ∈ gTbl := gTbl_of (List.mem_of_getElem? (i := 339) (by decide +kernel)) (by decide +kernel)
theorem ml_L_13 : Cond.methodLink RL 13 yX7_write ∈ gTbl := gTbl_of (List.mem_of_getElem? (i := 361) (by decide +kernel)) (by decide +kernel)
theorem ml_X7_69 : Cond.methodLink RX7 69 yX6_append ∈ gTbl := gTbl_of (List.mem_of_getElem? (i := 365) (by decide +kernel)) (by decide +kernel)
theorem ml_L_18 : Cond.methodLink RL 18 yX7_wipe ∈ gTbl := gTbl_of (List.mem_of_getElem? (i := 369) (by decide +kernel)) (by decide +kernel)
theorem ml_L_23 : Cond.methodLink RL 23 yX7_fault ∈ gTbl := gTbl_of (List.mem_of_getElem? (i := 373) (by decide +kernel)) (by decide +kernel)
theorem ml_X7_77 : Cond.methodLink RX7 77 yX6_read ∈ gTbl := gTbl_of (List.mem_of_getElem? (i := 377) (by decide +kernel)) (by decide +kernel)
theorem ml_X6_32 : Cond.methodLink RX6 32 yX6_readHead ∈ gTbl := gTbl_of (List.mem_of_getElem? (i := 381) (by decide +kernel)) (by decide +kernel)
theorem ml_X6_46 : Cond.methodLink RX6 46 yX6_pass ∈ gTbl := gTbl_of (List.mem_of_getElem? (i := 385) (by decide +kernel)) (by decide +kernel)
theorem ml_X6_42 : Cond.methodLink RX6 42 yX6_letter ∈ gTbl := gTbl_of (List.mem_of_getElem? (i := 389) (by decide +kernel)) (by decide +kernel)
theorem ml_X6_50 : Cond.methodLink RX6 50 yX6_passDigit ∈ gTbl := gTbl_of (List.mem_of_getElem? (i := 393) (by decide +kernel)) (by decide +kernel)
theorem ml_X6_54 : Cond.methodLink RX6 54 yX1_begin ∈ gTbl := gTbl_of (List.mem_of_getElem? (i := 397) (by decide +kernel)) (by decide +kernel)
theorem ml_X6_36 : Cond.methodLink RX6 36 yX6_readPart ∈ gTbl := gTbl_of (List.mem_of_getElem? (i := 398) (by decide +kernel)) (by decide +kernel)
theorem ml_X6_67 : Cond.methodLink RX6 67 yX6_readFamily ∈ gTbl := gTbl_of (List.mem_of_getElem? (i := 402) (by decide +kernel)) (by decide +kernel)
theorem ml_X6_82 : Cond.methodLink RX6 82 yX0_addFamily ∈ gTbl := gTbl_of (List.mem_of_getElem? (i := 406) (by decide +kernel)) (by decide +kernel)
theorem ml_X6_73 : Cond.methodLink RX6 73 yX6_readProxy ∈ gTbl := gTbl_of (List.mem_of_getElem? (i := 407) (by decide +kernel)) (by decide +kernel)
theorem ml_X6_85 : Cond.methodLink RX6 85 yX1_addProxy ∈ gTbl := gTbl_of (List.mem_of_getElem? (i := 411) (by decide +kernel)) (by decide +kernel)
theorem ml_X1_55 : Cond.methodLink RX1 55 yX4_begin ∈ gTbl := gTbl_of (List.mem_of_getElem? (i := 415) (by decide +kernel)) (by decide +kernel)
theorem ml_X4_38 : Cond.methodLink RX4 38 yX4_clearCounters ∈ gTbl := gTbl_of (List.mem_of_getElem? (i := 419) (by decide +kernel)) (by decide +kernel)
theorem ml_X6_76 : Cond.methodLink RX6 76 yX1_anyRoom ∈ gTbl := gTbl_of (List.mem_of_getElem? (i := 420) (by decide +kernel)) (by decide +kernel)
theorem ml_X1_70 : Cond.methodLink RX1 70 yX4_hasRoom ∈ gTbl := gTbl_of (List.mem_of_getElem? (i := 424) (by decide +kernel)) (by decide +kernel)
theorem ml_X6_79 : Cond.methodLink RX6 79 yX6_readShelved ∈ gTbl := gTbl_of (List.mem_of_getElem? (i := 428) (by decide +kernel)) (by decide +kernel)
theorem ml_X6_88 : Cond.methodLink RX6 88 yX1_proxyAt ∈ gTbl := gTbl_of (List.mem_of_getElem? (i := 432) (by decide +kernel)) (by decide +kernel)
theorem ml_X6_92 : Cond.methodLink RX6 92 yX4_hasRoom ∈ gTbl := gTbl_of (List.mem_of_getElem? (i := 433) (by decide +kernel)) (by decide +kernel)
theorem ml_X6_97 : Cond.methodLink RX6 97 yX6_mayBegin ∈ gTbl := gTbl_of (List.mem_of_getElem? (i := 434) (by decide +kernel)) (by decide +kernel)
theorem ml_X6_104 : Cond.methodLink RX6 104 yX4_has ∈ gTbl := gTbl_of (List.mem_of_getElem? (i := 440) (by decide +kernel)) (by decide +kernel)
theorem ml_X4_41 : Cond.methodLink RX4 41 yX4_placeOf ∈ gTbl := gTbl_of (List.mem_of_getElem? (i := 444) (by decide +kernel)) (by decide +kernel)
theorem ml_X6_107 : Cond.methodLink RX6 107 yX4_addOldest ∈ gTbl := gTbl_of (List.mem_of_getElem? (i := 448) (by decide +kernel)) (by decide +kernel)
theorem ml_X6_39 : Cond.methodLink RX6 39 yX1_complete ∈ gTbl := gTbl_of (List.mem_of_getElem? (i := 452) (by decide +kernel)) (by decide +kernel)
theorem ml_L_27 : Cond.methodLink RL 27 yX7_net ∈ gTbl := gTbl_of (List.mem_of_getElem? (i := 453) (by decide +kernel)) (by decide +kernel)
theorem ml_X7_84 : Cond.methodLink RX7 84 yX1_take ∈ gTbl := gTbl_of (List.mem_of_getElem? (i := 457) (by decide +kernel)) (by decide +kernel)
theorem ml_X1_41 : Cond.methodLink RX1 41 yX0_take ∈ gTbl := gTbl_of (List.mem_of_getElem? (i := 461) (by decide +kernel)) (by decide +kernel)
theorem ml_X1_45 : Cond.methodLink RX1 45 yX4_take ∈ gTbl := gTbl_of (List.mem_of_getElem? (i := 468) (by decide +kernel)) (by decide +kernel)
theorem ml_X7_88 : Cond.methodLink RX7 88 yX3_forget ∈ gTbl := gTbl_of (List.mem_of_getElem? (i := 473) (by decide +kernel)) (by decide +kernel)
theorem ml_L_31 : Cond.methodLink RL 31 yX7_proxy ∈ gTbl := gTbl_of (List.mem_of_getElem? (i := 477) (by decide +kernel)) (by decide +kernel)
theorem ml_X7_94 : Cond.methodLink RX7 94 yX1_proxyAt ∈ gTbl := gTbl_of (List.mem_of_getElem? (i := 481) (by decide +kernel)) (by decide +kernel)
theorem ml_X7_115 : Cond.methodLink RX7 115 yX1_claimed ∈ gTbl := gTbl_of (List.mem_of_getElem? (i := 482) (by decide +kernel)) (by decide +kernel)
theorem ml_X1_94 : Cond.methodLink RX1 94 yX0_pagesIn ∈ gTbl := gTbl_of (List.mem_of_getElem? (i := 486) (by decide +kernel)) (by decide +kernel)
theorem ml_X0_39 : Cond.methodLink RX0 39 yX0_contains ∈ gTbl := gTbl_of (List.mem_of_getElem? (i := 490) (by decide +kernel)) (by decide +kernel)
theorem ml_X0_35 : Cond.methodLink RX0 35 yX0_cell ∈ gTbl := gTbl_of (List.mem_of_getElem? (i := 494) (by decide +kernel)) (by decide +kernel)
theorem ml_X7_119 : Cond.methodLink RX7 119 yX4_shelfSet ∈ gTbl := gTbl_of (List.mem_of_getElem? (i := 495) (by decide +kernel)) (by decide +kernel)
theorem ml_X7_122 : Cond.methodLink RX7 122 yJ6_bitCount_0f7a4 ∈ gTbl := gTbl_of (List.mem_of_getElem? (i := 499) (by decide +kernel)) (by decide +kernel)
theorem cn_J6_265 : Cond.constant RJ6 265 (1431655765) ∈ gTbl := gTbl_of (List.mem_of_getElem? (i := 502) (by decide +kernel)) (by decide +kernel)
theorem cn_J6_266 : Cond.constant RJ6 266 (858993459) ∈ gTbl := gTbl_of (List.mem_of_getElem? (i := 503) (by decide +kernel)) (by decide +kernel)
theorem cn_J6_267 : Cond.constant RJ6 267 (252645135) ∈ gTbl := gTbl_of (List.mem_of_getElem? (i := 504) (by decide +kernel)) (by decide +kernel)
theorem ml_L_36 : Cond.methodLink RL 36 yX7_page ∈ gTbl := gTbl_of (List.mem_of_getElem? (i := 505) (by decide +kernel)) (by decide +kernel)
theorem ml_X7_128 : Cond.methodLink RX7 128 yX4_pageAt ∈ gTbl := gTbl_of (List.mem_of_getElem? (i := 509) (by decide +kernel)) (by decide +kernel)
theorem ml_L_40 : Cond.methodLink RL 40 yX7_counter ∈ gTbl := gTbl_of (List.mem_of_getElem? (i := 510) (by decide +kernel)) (by decide +kernel)
theorem ml_L_44 : Cond.methodLink RL 44 yX7_hash ∈ gTbl := gTbl_of (List.mem_of_getElem? (i := 514) (by decide +kernel)) (by decide +kernel)
theorem ml_X7_144 : Cond.methodLink RX7 144 yX0_isFamily ∈ gTbl := gTbl_of (List.mem_of_getElem? (i := 518) (by decide +kernel)) (by decide +kernel)
theorem ml_X7_147 : Cond.methodLink RX7 147 yX7_isPage ∈ gTbl := gTbl_of (List.mem_of_getElem? (i := 519) (by decide +kernel)) (by decide +kernel)
theorem ml_X7_153 : Cond.methodLink RX7 153 yX0_cell ∈ gTbl := gTbl_of (List.mem_of_getElem? (i := 520) (by decide +kernel)) (by decide +kernel)
theorem ml_L_49 : Cond.methodLink RL 49 yX7_says ∈ gTbl := gTbl_of (List.mem_of_getElem? (i := 521) (by decide +kernel)) (by decide +kernel)
theorem ml_X7_157 : Cond.methodLink RX7 157 yX1_isSo ∈ gTbl := gTbl_of (List.mem_of_getElem? (i := 525) (by decide +kernel)) (by decide +kernel)
theorem ml_X1_77 : Cond.methodLink RX1 77 yX4_has ∈ gTbl := gTbl_of (List.mem_of_getElem? (i := 529) (by decide +kernel)) (by decide +kernel)
theorem ml_X1_90 : Cond.methodLink RX1 90 yX0_contains ∈ gTbl := gTbl_of (List.mem_of_getElem? (i := 530) (by decide +kernel)) (by decide +kernel)
theorem ml_L_54 : Cond.methodLink RL 54 yX7_ask ∈ gTbl := gTbl_of (List.mem_of_getElem? (i := 531) (by decide +kernel)) (by decide +kernel)
theorem ml_X7_161 : Cond.methodLink RX7 161 yX3_record ∈ gTbl := gTbl_of (List.mem_of_getElem? (i := 535) (by decide +kernel)) (by decide +kernel)
theorem ml_X3_29 : Cond.methodLink RX3 29 yX1_take ∈ gTbl := gTbl_of (List.mem_of_getElem? (i := 542) (by decide +kernel)) (by decide +kernel)
theorem ml_X3_33 : Cond.methodLink RX3 33 yJ9_min_7cf53 ∈ gTbl := gTbl_of (List.mem_of_getElem? (i := 543) (by decide +kernel)) (by decide +kernel)
theorem ml_X7_164 : Cond.methodLink RX7 164 yX1_request ∈ gTbl := gTbl_of (List.mem_of_getElem? (i := 546) (by decide +kernel)) (by decide +kernel)
theorem ml_X1_113 : Cond.methodLink RX1 113 yX4_renew ∈ gTbl := gTbl_of (List.mem_of_getElem? (i := 550) (by decide +kernel)) (by decide +kernel)
theorem ml_X4_45 : Cond.methodLink RX4 45 yX4_removeAt ∈ gTbl := gTbl_of (List.mem_of_getElem? (i := 554) (by decide +kernel)) (by decide +kernel)
theorem ml_X4_49 : Cond.methodLink RX4 49 yX4_addNewest ∈ gTbl := gTbl_of (List.mem_of_getElem? (i := 558) (by decide +kernel)) (by decide +kernel)
theorem ml_X1_117 : Cond.methodLink RX1 117 yX1_searchOthers ∈ gTbl := gTbl_of (List.mem_of_getElem? (i := 562) (by decide +kernel)) (by decide +kernel)
theorem ml_X1_120 : Cond.methodLink RX1 120 yX1_removePage ∈ gTbl := gTbl_of (List.mem_of_getElem? (i := 566) (by decide +kernel)) (by decide +kernel)
theorem ml_X1_140 : Cond.methodLink RX1 140 yX4_placeOf ∈ gTbl := gTbl_of (List.mem_of_getElem? (i := 570) (by decide +kernel)) (by decide +kernel)
theorem ml_X1_143 : Cond.methodLink RX1 143 yX4_removeAt ∈ gTbl := gTbl_of (List.mem_of_getElem? (i := 571) (by decide +kernel)) (by decide +kernel)
theorem ml_X1_124 : Cond.methodLink RX1 124 yX1_addPage ∈ gTbl := gTbl_of (List.mem_of_getElem? (i := 572) (by decide +kernel)) (by decide +kernel)
theorem ml_X1_130 : Cond.methodLink RX1 130 yX4_addNewest ∈ gTbl := gTbl_of (List.mem_of_getElem? (i := 576) (by decide +kernel)) (by decide +kernel)
theorem ml_X1_127 : Cond.methodLink RX1 127 yX1_spreadDue ∈ gTbl := gTbl_of (List.mem_of_getElem? (i := 577) (by decide +kernel)) (by decide +kernel)
theorem ml_L_58 : Cond.methodLink RL 58 yX7_drop ∈ gTbl := gTbl_of (List.mem_of_getElem? (i := 581) (by decide +kernel)) (by decide +kernel)
theorem ml_X7_168 : Cond.methodLink RX7 168 yX4_has ∈ gTbl := gTbl_of (List.mem_of_getElem? (i := 585) (by decide +kernel)) (by decide +kernel)
theorem ml_X7_171 : Cond.methodLink RX7 171 yX1_discard ∈ gTbl := gTbl_of (List.mem_of_getElem? (i := 586) (by decide +kernel)) (by decide +kernel)
theorem ml_L_62 : Cond.methodLink RL 62 yX7_send ∈ gTbl := gTbl_of (List.mem_of_getElem? (i := 590) (by decide +kernel)) (by decide +kernel)
theorem ml_X7_175 : Cond.methodLink RX7 175 yX1_spread ∈ gTbl := gTbl_of (List.mem_of_getElem? (i := 594) (by decide +kernel)) (by decide +kernel)
theorem ml_L_66 : Cond.methodLink RL 66 yX7_threshold ∈ gTbl := gTbl_of (List.mem_of_getElem? (i := 595) (by decide +kernel)) (by decide +kernel)
theorem ml_X7_179 : Cond.methodLink RX7 179 yX1_spreadDue ∈ gTbl := gTbl_of (List.mem_of_getElem? (i := 599) (by decide +kernel)) (by decide +kernel)
theorem ml_L_70 : Cond.methodLink RL 70 yX7_use ∈ gTbl := gTbl_of (List.mem_of_getElem? (i := 600) (by decide +kernel)) (by decide +kernel)
theorem ml_X7_185 : Cond.methodLink RX7 185 yX1_adopt ∈ gTbl := gTbl_of (List.mem_of_getElem? (i := 604) (by decide +kernel)) (by decide +kernel)
theorem ml_L_74 : Cond.methodLink RL 74 yX7_undo ∈ gTbl := gTbl_of (List.mem_of_getElem? (i := 605) (by decide +kernel)) (by decide +kernel)
theorem ml_X7_188 : Cond.methodLink RX7 188 yX3_restore ∈ gTbl := gTbl_of (List.mem_of_getElem? (i := 609) (by decide +kernel)) (by decide +kernel)
theorem ml_L_78 : Cond.methodLink RL 78 yX7_weight ∈ gTbl := gTbl_of (List.mem_of_getElem? (i := 613) (by decide +kernel)) (by decide +kernel)
theorem ml_X7_193 : Cond.methodLink RX7 193 yX4_filterSet ∈ gTbl := gTbl_of (List.mem_of_getElem? (i := 617) (by decide +kernel)) (by decide +kernel)
theorem ml_X7_196 : Cond.methodLink RX7 196 yX7_floatBits ∈ gTbl := gTbl_of (List.mem_of_getElem? (i := 618) (by decide +kernel)) (by decide +kernel)
theorem cn_X7_274 : Cond.constantFloat RX7 274 (1258291200) ∈ gTbl := gTbl_of (List.mem_of_getElem? (i := 621) (by decide +kernel)) (by decide +kernel)
theorem ml_L_82 : Cond.methodLink RL 82 yX7_best ∈ gTbl := gTbl_of (List.mem_of_getElem? (i := 622) (by decide +kernel)) (by decide +kernel)
theorem ml_X7_203 : Cond.methodLink RX7 203 yX1_wrongPages ∈ gTbl := gTbl_of (List.mem_of_getElem? (i := 626) (by decide +kernel)) (by decide +kernel)
theorem ml_X1_102 : Cond.methodLink RX1 102 yX0_cellSet ∈ gTbl := gTbl_of (List.mem_of_getElem? (i := 630) (by decide +kernel)) (by decide +kernel)
theorem ml_X1_105 : Cond.methodLink RX1 105 yX4_shelfSet ∈ gTbl := gTbl_of (List.mem_of_getElem? (i := 634) (by decide +kernel)) (by decide +kernel)
theorem ml_X1_108 : Cond.methodLink RX1 108 yJ6_bitCount_0f7a4 ∈ gTbl := gTbl_of (List.mem_of_getElem? (i := 635) (by decide +kernel)) (by decide +kernel)
theorem ml_L_86 : Cond.methodLink RL 86 yX7_plan ∈ gTbl := gTbl_of (List.mem_of_getElem? (i := 636) (by decide +kernel)) (by decide +kernel)
theorem ml_X7_207 : Cond.methodLink RX7 207 yX7_powerOfTen ∈ gTbl := gTbl_of (List.mem_of_getElem? (i := 640) (by decide +kernel)) (by decide +kernel)
theorem cn_X7_272 : Cond.constantLong RX7 272 (10) ∈ gTbl := gTbl_of (List.mem_of_getElem? (i := 643) (by decide +kernel)) (by decide +kernel)
theorem cn_X7_211 : Cond.constantLong RX7 211 (100) ∈ gTbl := gTbl_of (List.mem_of_getElem? (i := 644) (by decide +kernel)) (by decide +kernel)
theorem ml_X7_213 : Cond.methodLink RX7 213 yX1_cost ∈ gTbl := gTbl_of (List.mem_of_getElem? (i := 645) (by decide +kernel)) (by decide +kernel)
theorem ml_L_90 : Cond.methodLink RL 90 yX7_order ∈ gTbl := gTbl_of (List.mem_of_getElem? (i := 649) (by decide +kernel)) (by decide +kernel)
theorem ml_X7_216 : Cond.methodLink RX7 216 yX7_findCheapest ∈ gTbl := gTbl_of (List.mem_of_getElem? (i := 653) (by decide +kernel)) (by decide +kernel)
theorem ml_X7_278 : Cond.methodLink RX7 278 yX2_begin ∈ gTbl := gTbl_of (List.mem_of_getElem? (i := 657) (by decide +kernel)) (by decide +kernel)
theorem ml_X7_281 : Cond.methodLink RX7 281 yX7_triedCost ∈ gTbl := gTbl_of (List.mem_of_getElem? (i := 661) (by decide +kernel)) (by decide +kernel)
theorem ml_X7_219 : Cond.methodLink RX7 219 yX2_pageAt ∈ gTbl := gTbl_of (List.mem_of_getElem? (i := 665) (by decide +kernel)) (by decide +kernel)
theorem ml_X7_284 : Cond.methodLink RX7 284 yX2_take ∈ gTbl := gTbl_of (List.mem_of_getElem? (i := 669) (by decide +kernel)) (by decide +kernel)
theorem ml_X7_287 : Cond.methodLink RX7 287 yX2_advance ∈ gTbl := gTbl_of (List.mem_of_getElem? (i := 674) (by decide +kernel)) (by decide +kernel)
theorem ml_X2_23 : Cond.methodLink RX2 23 yX2_pageAt ∈ gTbl := gTbl_of (List.mem_of_getElem? (i := 678) (by decide +kernel)) (by decide +kernel)
theorem ml_X2_27 : Cond.methodLink RX2 27 yX2_swap ∈ gTbl := gTbl_of (List.mem_of_getElem? (i := 679) (by decide +kernel)) (by decide +kernel)
theorem ml_L_96 : Cond.methodLink RL 96 yX7_judge ∈ gTbl := gTbl_of (List.mem_of_getElem? (i := 683) (by decide +kernel)) (by decide +kernel)
theorem cn_X7_220 : Cond.constantLong RX7 220 (100000) ∈ gTbl := gTbl_of (List.mem_of_getElem? (i := 687) (by decide +kernel)) (by decide +kernel)
theorem ml_X7_222 : Cond.methodLink RX7 222 yX7_holds ∈ gTbl := gTbl_of (List.mem_of_getElem? (i := 688) (by decide +kernel)) (by decide +kernel)
theorem ml_L_101 : Cond.methodLink RL 101 yX7_see ∈ gTbl := gTbl_of (List.mem_of_getElem? (i := 691) (by decide +kernel)) (by decide +kernel)
theorem ml_X7_226 : Cond.methodLink RX7 226 yX5_add ∈ gTbl := gTbl_of (List.mem_of_getElem? (i := 695) (by decide +kernel)) (by decide +kernel)
theorem ml_L_105 : Cond.methodLink RL 105 yX7_unsee ∈ gTbl := gTbl_of (List.mem_of_getElem? (i := 699) (by decide +kernel)) (by decide +kernel)
theorem ml_L_109 : Cond.methodLink RL 109 yX7_which ∈ gTbl := gTbl_of (List.mem_of_getElem? (i := 703) (by decide +kernel)) (by decide +kernel)
theorem ml_X7_231 : Cond.methodLink RX7 231 yX5_agreeing ∈ gTbl := gTbl_of (List.mem_of_getElem? (i := 707) (by decide +kernel)) (by decide +kernel)
theorem ml_X5_26 : Cond.methodLink RX5 26 yX5_agrees ∈ gTbl := gTbl_of (List.mem_of_getElem? (i := 711) (by decide +kernel)) (by decide +kernel)
theorem ml_X5_30 : Cond.methodLink RX5 30 yX1_proxyAt ∈ gTbl := gTbl_of (List.mem_of_getElem? (i := 715) (by decide +kernel)) (by decide +kernel)
theorem ml_X5_36 : Cond.methodLink RX5 36 yX1_isSo ∈ gTbl := gTbl_of (List.mem_of_getElem? (i := 716) (by decide +kernel)) (by decide +kernel)
theorem ml_L_113 : Cond.methodLink RL 113 yX7_share ∈ gTbl := gTbl_of (List.mem_of_getElem? (i := 717) (by decide +kernel)) (by decide +kernel)
theorem ml_X7_235 : Cond.methodLink RX7 235 yX1_holders ∈ gTbl := gTbl_of (List.mem_of_getElem? (i := 721) (by decide +kernel)) (by decide +kernel)
theorem ml_X7_238 : Cond.methodLink RX7 238 yX7_ofFraction ∈ gTbl := gTbl_of (List.mem_of_getElem? (i := 725) (by decide +kernel)) (by decide +kernel)
theorem ml_X7_275 : Cond.methodLink RX7 275 yX7_commonDivisor ∈ gTbl := gTbl_of (List.mem_of_getElem? (i := 728) (by decide +kernel)) (by decide +kernel)
theorem ml_L_118 : Cond.methodLink RL 118 yX7_lost ∈ gTbl := gTbl_of (List.mem_of_getElem? (i := 731) (by decide +kernel)) (by decide +kernel)
theorem ml_X7_242 : Cond.methodLink RX7 242 yX1_servesWell ∈ gTbl := gTbl_of (List.mem_of_getElem? (i := 735) (by decide +kernel)) (by decide +kernel)
theorem ml_X1_172 : Cond.methodLink RX1 172 yX1_isSo ∈ gTbl := gTbl_of (List.mem_of_getElem? (i := 739) (by decide +kernel)) (by decide +kernel)
theorem ml_X1_176 : Cond.methodLink RX1 176 yX1_holders ∈ gTbl := gTbl_of (List.mem_of_getElem? (i := 740) (by decide +kernel)) (by decide +kernel)
theorem ml_X7_246 : Cond.methodLink RX7 246 yX7_wayWeight ∈ gTbl := gTbl_of (List.mem_of_getElem? (i := 741) (by decide +kernel)) (by decide +kernel)
theorem ml_L_123 : Cond.methodLink RL 123 yX7_seed ∈ gTbl := gTbl_of (List.mem_of_getElem? (i := 745) (by decide +kernel)) (by decide +kernel)
theorem ml_L_128 : Cond.methodLink RL 128 yX7_drawn ∈ gTbl := gTbl_of (List.mem_of_getElem? (i := 749) (by decide +kernel)) (by decide +kernel)
theorem cn_X7_249 : Cond.constantLong RX7 249 (6364136223846793005) ∈ gTbl := gTbl_of (List.mem_of_getElem? (i := 753) (by decide +kernel)) (by decide +kernel)
theorem cn_X7_251 : Cond.constantLong RX7 251 (1442695040888963407) ∈ gTbl := gTbl_of (List.mem_of_getElem? (i := 754) (by decide +kernel)) (by decide +kernel)
theorem ml_L_132 : Cond.methodLink RL 132 yX7_keep ∈ gTbl := gTbl_of (List.mem_of_getElem? (i := 755) (by decide +kernel)) (by decide +kernel)
theorem ml_X7_253 : Cond.methodLink RX7 253 yX7_netAt ∈ gTbl := gTbl_of (List.mem_of_getElem? (i := 759) (by decide +kernel)) (by decide +kernel)
theorem ml_L_136 : Cond.methodLink RL 136 yX7_again ∈ gTbl := gTbl_of (List.mem_of_getElem? (i := 760) (by decide +kernel)) (by decide +kernel)
theorem ml_L_140 : Cond.methodLink RL 140 yX7_count ∈ gTbl := gTbl_of (List.mem_of_getElem? (i := 764) (by decide +kernel)) (by decide +kernel)
theorem ml_X7_269 : Cond.methodLink RX7 269 yX1_allPages ∈ gTbl := gTbl_of (List.mem_of_getElem? (i := 768) (by decide +kernel)) (by decide +kernel)
theorem cl_L_10 : Cond.classLink RL 10 RX8 ∈ gTbl := gTbl_of (List.mem_of_getElem? (i := 772) (by decide +kernel)) (by decide +kernel)
theorem it_X8 : Cond.instantiable RX8 33 ∈ gTbl := gTbl_of (List.mem_of_getElem? (i := 773) (by decide +kernel)) (by decide +kernel)
theorem ml_L_12 : Cond.methodLink RL 12 yX8_init ∈ gTbl := gTbl_of (List.mem_of_getElem? (i := 774) (by decide +kernel)) (by decide +kernel)
theorem ml_X8_1 : Cond.methodLink RX8 1 ⟨"java/lang/Object", "<init>", "()V"⟩ ∈ gTbl := gTbl_of (List.mem_of_getElem? (i := 777) (by decide +kernel)) (by decide +kernel)
theorem fl_X8_75 : Cond.fieldLink RX8 75 "ShelfFiltersModel" "thrown" "I" ∈ gTbl := gTbl_of (List.mem_of_getElem? (i := 778) (by decide +kernel)) (by decide +kernel)
theorem fl_X8_7 : Cond.fieldLink RX8 7 "ShelfFiltersModel" "text" "[I" ∈ gTbl := gTbl_of (List.mem_of_getElem? (i := 779) (by decide +kernel)) (by decide +kernel)
theorem fl_X8_89 : Cond.fieldLink RX8 89 "ShelfFiltersModel" "textSize" "I" ∈ gTbl := gTbl_of (List.mem_of_getElem? (i := 780) (by decide +kernel)) (by decide +kernel)
theorem fl_X8_92 : Cond.fieldLink RX8 92 "ShelfFiltersModel" "place" "I" ∈ gTbl := gTbl_of (List.mem_of_getElem? (i := 781) (by decide +kernel)) (by decide +kernel)
theorem fl_X8_13 : Cond.fieldLink RX8 13 "ShelfFiltersModel" "cells" "I" ∈ gTbl := gTbl_of (List.mem_of_getElem? (i := 782) (by decide +kernel)) (by decide +kernel)
theorem fl_X8_17 : Cond.fieldLink RX8 17 "ShelfFiltersModel" "hashes" "I" ∈ gTbl := gTbl_of (List.mem_of_getElem? (i := 783) (by decide +kernel)) (by decide +kernel)
theorem fl_X8_20 : Cond.fieldLink RX8 20 "ShelfFiltersModel" "families" "I" ∈ gTbl := gTbl_of (List.mem_of_getElem? (i := 784) (by decide +kernel)) (by decide +kernel)
theorem fl_X8_23 : Cond.fieldLink RX8 23 "ShelfFiltersModel" "a" "[I" ∈ gTbl := gTbl_of (List.mem_of_getElem? (i := 785) (by decide +kernel)) (by decide +kernel)
theorem fl_X8_26 : Cond.fieldLink RX8 26 "ShelfFiltersModel" "b" "[I" ∈ gTbl := gTbl_of (List.mem_of_getElem? (i := 786) (by decide +kernel)) (by decide +kernel)
theorem fl_X8_78 : Cond.fieldLink RX8 78 "ShelfFiltersModel" "proxies" "I" ∈ gTbl := gTbl_of (List.mem_of_getElem? (i := 787) (by decide +kernel)) (by decide +kernel)
theorem fl_X8_29 : Cond.fieldLink RX8 29 "ShelfFiltersModel" "room" "[I" ∈ gTbl := gTbl_of (List.mem_of_getElem? (i := 788) (by decide +kernel)) (by decide +kernel)
theorem fl_X8_103 : Cond.fieldLink RX8 103 "ShelfFiltersModel" "readCells" "I" ∈ gTbl := gTbl_of (List.mem_of_getElem? (i := 789) (by decide +kernel)) (by decide +kernel)
theorem fl_X8_106 : Cond.fieldLink RX8 106 "ShelfFiltersModel" "readHashes" "I" ∈ gTbl := gTbl_of (List.mem_of_getElem? (i := 790) (by decide +kernel)) (by decide +kernel)
theorem fl_X8_109 : Cond.fieldLink RX8 109 "ShelfFiltersModel" "readFamilies" "I" ∈ gTbl := gTbl_of (List.mem_of_getElem? (i := 791) (by decide +kernel)) (by decide +kernel)
theorem fl_X8_32 : Cond.fieldLink RX8 32 "ShelfFiltersModel" "readA" "[I" ∈ gTbl := gTbl_of (List.mem_of_getElem? (i := 792) (by decide +kernel)) (by decide +kernel)
theorem fl_X8_35 : Cond.fieldLink RX8 35 "ShelfFiltersModel" "readB" "[I" ∈ gTbl := gTbl_of (List.mem_of_getElem? (i := 793) (by decide +kernel)) (by decide +kernel)
theorem fl_X8_112 : Cond.fieldLink RX8 112 "ShelfFiltersModel" "readProxies" "I" ∈ gTbl := gTbl_of (List.mem_of_getElem? (i := 794) (by decide +kernel)) (by decide +kernel)
theorem fl_X8_38 : Cond.fieldLink RX8 38 "ShelfFiltersModel" "readRoom" "[I" ∈ gTbl := gTbl_of (List.mem_of_getElem? (i := 795) (by decide +kernel)) (by decide +kernel)
theorem fl_X8_41 : Cond.fieldLink RX8 41 "ShelfFiltersModel" "readPage" "[I" ∈ gTbl := gTbl_of (List.mem_of_getElem? (i := 796) (by decide +kernel)) (by decide +kernel)
theorem fl_X8_44 : Cond.fieldLink RX8 44 "ShelfFiltersModel" "page" "[I" ∈ gTbl := gTbl_of (List.mem_of_getElem? (i := 797) (by decide +kernel)) (by decide +kernel)
theorem fl_X8_47 : Cond.fieldLink RX8 47 "ShelfFiltersModel" "trial" "[I" ∈ gTbl := gTbl_of (List.mem_of_getElem? (i := 798) (by decide +kernel)) (by decide +kernel)
theorem fl_X8_50 : Cond.fieldLink RX8 50 "ShelfFiltersModel" "book" "[I" ∈ gTbl := gTbl_of (List.mem_of_getElem? (i := 799) (by decide +kernel)) (by decide +kernel)
theorem fl_X8_159 : Cond.fieldLink RX8 159 "ShelfFiltersModel" "doings" "I" ∈ gTbl := gTbl_of (List.mem_of_getElem? (i := 800) (by decide +kernel)) (by decide +kernel)
theorem fl_X8_53 : Cond.fieldLink RX8 53 "ShelfFiltersModel" "kept" "[I" ∈ gTbl := gTbl_of (List.mem_of_getElem? (i := 801) (by decide +kernel)) (by decide +kernel)
theorem fl_X8_56 : Cond.fieldLink RX8 56 "ShelfFiltersModel" "isKept" "[Z" ∈ gTbl := gTbl_of (List.mem_of_getElem? (i := 802) (by decide +kernel)) (by decide +kernel)
theorem fl_X8_275 : Cond.fieldLink RX8 275 "ShelfFiltersModel" "seen" "I" ∈ gTbl := gTbl_of (List.mem_of_getElem? (i := 803) (by decide +kernel)) (by decide +kernel)
theorem fl_X8_60 : Cond.fieldLink RX8 60 "ShelfFiltersModel" "seenProxy" "[I" ∈ gTbl := gTbl_of (List.mem_of_getElem? (i := 804) (by decide +kernel)) (by decide +kernel)
theorem fl_X8_63 : Cond.fieldLink RX8 63 "ShelfFiltersModel" "seenWhat" "[I" ∈ gTbl := gTbl_of (List.mem_of_getElem? (i := 805) (by decide +kernel)) (by decide +kernel)
theorem fl_X8_66 : Cond.fieldLink RX8 66 "ShelfFiltersModel" "seenWas" "[I" ∈ gTbl := gTbl_of (List.mem_of_getElem? (i := 806) (by decide +kernel)) (by decide +kernel)
theorem fl_X8_299 : Cond.fieldLink RX8 299 "ShelfFiltersModel" "seed" "J" ∈ gTbl := gTbl_of (List.mem_of_getElem? (i := 807) (by decide +kernel)) (by decide +kernel)
theorem fl_X8_69 : Cond.fieldLink RX8 69 "ShelfFiltersModel" "asked" "[I" ∈ gTbl := gTbl_of (List.mem_of_getElem? (i := 808) (by decide +kernel)) (by decide +kernel)
theorem fl_X8_72 : Cond.fieldLink RX8 72 "ShelfFiltersModel" "best" "[I" ∈ gTbl := gTbl_of (List.mem_of_getElem? (i := 809) (by decide +kernel)) (by decide +kernel)
theorem fl_X8_251 : Cond.fieldLink RX8 251 "ShelfFiltersModel" "bestCost" "I" ∈ gTbl := gTbl_of (List.mem_of_getElem? (i := 810) (by decide +kernel)) (by decide +kernel)
theorem ml_L_17 : Cond.methodLink RL 17 yX8_write ∈ gTbl := gTbl_of (List.mem_of_getElem? (i := 878) (by decide +kernel)) (by decide +kernel)
theorem cn_X8_87 : Cond.constantLong RX8 87 (255) ∈ gTbl := gTbl_of (List.mem_of_getElem? (i := 882) (by decide +kernel)) (by decide +kernel)
theorem ml_X8_81 : Cond.methodLink RX8 81 yX8_in ∈ gTbl := gTbl_of (List.mem_of_getElem? (i := 883) (by decide +kernel)) (by decide +kernel)
theorem ml_L_22 : Cond.methodLink RL 22 yX8_wipe ∈ gTbl := gTbl_of (List.mem_of_getElem? (i := 886) (by decide +kernel)) (by decide +kernel)
theorem ml_L_26 : Cond.methodLink RL 26 yX8_fault ∈ gTbl := gTbl_of (List.mem_of_getElem? (i := 890) (by decide +kernel)) (by decide +kernel)
theorem ml_X8_147 : Cond.methodLink RX8 147 yX8_readNet ∈ gTbl := gTbl_of (List.mem_of_getElem? (i := 894) (by decide +kernel)) (by decide +kernel)
theorem ml_X8_141 : Cond.methodLink RX8 141 yX8_readHead ∈ gTbl := gTbl_of (List.mem_of_getElem? (i := 898) (by decide +kernel)) (by decide +kernel)
theorem ml_X8_95 : Cond.methodLink RX8 95 yX8_isFigure ∈ gTbl := gTbl_of (List.mem_of_getElem? (i := 902) (by decide +kernel)) (by decide +kernel)
theorem ml_X8_99 : Cond.methodLink RX8 99 yX8_taken ∈ gTbl := gTbl_of (List.mem_of_getElem? (i := 906) (by decide +kernel)) (by decide +kernel)
theorem ml_X8_144 : Cond.methodLink RX8 144 yX8_readPart ∈ gTbl := gTbl_of (List.mem_of_getElem? (i := 910) (by decide +kernel)) (by decide +kernel)
theorem ml_X8_131 : Cond.methodLink RX8 131 yX8_readFamily ∈ gTbl := gTbl_of (List.mem_of_getElem? (i := 914) (by decide +kernel)) (by decide +kernel)
theorem ml_X8_135 : Cond.methodLink RX8 135 yX8_readProxy ∈ gTbl := gTbl_of (List.mem_of_getElem? (i := 918) (by decide +kernel)) (by decide +kernel)
theorem ml_X8_138 : Cond.methodLink RX8 138 yX8_readShelf ∈ gTbl := gTbl_of (List.mem_of_getElem? (i := 922) (by decide +kernel)) (by decide +kernel)
theorem ml_X8_119 : Cond.methodLink RX8 119 yX8_hasRoom ∈ gTbl := gTbl_of (List.mem_of_getElem? (i := 926) (by decide +kernel)) (by decide +kernel)
theorem cn_X8_123 : Cond.constantLong RX8 123 (3) ∈ gTbl := gTbl_of (List.mem_of_getElem? (i := 930) (by decide +kernel)) (by decide +kernel)
theorem ml_X8_125 : Cond.methodLink RX8 125 yX8_mayCome ∈ gTbl := gTbl_of (List.mem_of_getElem? (i := 931) (by decide +kernel)) (by decide +kernel)
theorem ml_X8_115 : Cond.methodLink RX8 115 yX8_placeOf ∈ gTbl := gTbl_of (List.mem_of_getElem? (i := 935) (by decide +kernel)) (by decide +kernel)
theorem cn_X8_129 : Cond.constantLong RX8 129 (9) ∈ gTbl := gTbl_of (List.mem_of_getElem? (i := 938) (by decide +kernel)) (by decide +kernel)
theorem ml_L_30 : Cond.methodLink RL 30 yX8_net ∈ gTbl := gTbl_of (List.mem_of_getElem? (i := 939) (by decide +kernel)) (by decide +kernel)
theorem ml_X8_151 : Cond.methodLink RX8 151 yX8_makeAnew ∈ gTbl := gTbl_of (List.mem_of_getElem? (i := 943) (by decide +kernel)) (by decide +kernel)
theorem ml_X8_172 : Cond.methodLink RX8 172 yX8_tally ∈ gTbl := gTbl_of (List.mem_of_getElem? (i := 947) (by decide +kernel)) (by decide +kernel)
theorem ml_X8_162 : Cond.methodLink RX8 162 yX8_hashOf ∈ gTbl := gTbl_of (List.mem_of_getElem? (i := 951) (by decide +kernel)) (by decide +kernel)
theorem ml_X8_155 : Cond.methodLink RX8 155 yX8_filterOf ∈ gTbl := gTbl_of (List.mem_of_getElem? (i := 955) (by decide +kernel)) (by decide +kernel)
theorem ml_L_35 : Cond.methodLink RL 35 yX8_proxy ∈ gTbl := gTbl_of (List.mem_of_getElem? (i := 959) (by decide +kernel)) (by decide +kernel)
theorem ml_X8_200 : Cond.methodLink RX8 200 yX8_noProxy ∈ gTbl := gTbl_of (List.mem_of_getElem? (i := 963) (by decide +kernel)) (by decide +kernel)
theorem ml_X8_197 : Cond.methodLink RX8 197 yX8_shelfOf ∈ gTbl := gTbl_of (List.mem_of_getElem? (i := 967) (by decide +kernel)) (by decide +kernel)
theorem ml_X8_203 : Cond.methodLink RX8 203 yX8_falseOnes ∈ gTbl := gTbl_of (List.mem_of_getElem? (i := 970) (by decide +kernel)) (by decide +kernel)
theorem ml_X8_166 : Cond.methodLink RX8 166 yX8_has ∈ gTbl := gTbl_of (List.mem_of_getElem? (i := 974) (by decide +kernel)) (by decide +kernel)
theorem ml_X8_169 : Cond.methodLink RX8 169 yX8_isSaid ∈ gTbl := gTbl_of (List.mem_of_getElem? (i := 977) (by decide +kernel)) (by decide +kernel)
theorem ml_X8_206 : Cond.methodLink RX8 206 yX8_denied ∈ gTbl := gTbl_of (List.mem_of_getElem? (i := 981) (by decide +kernel)) (by decide +kernel)
theorem ml_X8_190 : Cond.methodLink RX8 190 yX8_summarySays ∈ gTbl := gTbl_of (List.mem_of_getElem? (i := 985) (by decide +kernel)) (by decide +kernel)
theorem ml_L_39 : Cond.methodLink RL 39 yX8_page ∈ gTbl := gTbl_of (List.mem_of_getElem? (i := 989) (by decide +kernel)) (by decide +kernel)
theorem cn_X8_209 : Cond.constantLong RX8 209 (8) ∈ gTbl := gTbl_of (List.mem_of_getElem? (i := 993) (by decide +kernel)) (by decide +kernel)
theorem ml_L_43 : Cond.methodLink RL 43 yX8_counter ∈ gTbl := gTbl_of (List.mem_of_getElem? (i := 994) (by decide +kernel)) (by decide +kernel)
theorem ml_L_48 : Cond.methodLink RL 48 yX8_hash ∈ gTbl := gTbl_of (List.mem_of_getElem? (i := 998) (by decide +kernel)) (by decide +kernel)
theorem ml_X8_211 : Cond.methodLink RX8 211 yX8_noPage ∈ gTbl := gTbl_of (List.mem_of_getElem? (i := 1002) (by decide +kernel)) (by decide +kernel)
theorem cn_X8_85 : Cond.constantLong RX8 85 (31) ∈ gTbl := gTbl_of (List.mem_of_getElem? (i := 1005) (by decide +kernel)) (by decide +kernel)
theorem ml_L_53 : Cond.methodLink RL 53 yX8_says ∈ gTbl := gTbl_of (List.mem_of_getElem? (i := 1006) (by decide +kernel)) (by decide +kernel)
theorem ml_L_57 : Cond.methodLink RL 57 yX8_ask ∈ gTbl := gTbl_of (List.mem_of_getElem? (i := 1010) (by decide +kernel)) (by decide +kernel)
theorem ml_X8_214 : Cond.methodLink RX8 214 yX8_note ∈ gTbl := gTbl_of (List.mem_of_getElem? (i := 1014) (by decide +kernel)) (by decide +kernel)
theorem ml_X8_217 : Cond.methodLink RX8 217 yX8_askOn ∈ gTbl := gTbl_of (List.mem_of_getElem? (i := 1018) (by decide +kernel)) (by decide +kernel)
theorem ml_X8_180 : Cond.methodLink RX8 180 yX8_freshen ∈ gTbl := gTbl_of (List.mem_of_getElem? (i := 1022) (by decide +kernel)) (by decide +kernel)
theorem ml_X8_186 : Cond.methodLink RX8 186 yX8_sendDue ∈ gTbl := gTbl_of (List.mem_of_getElem? (i := 1025) (by decide +kernel)) (by decide +kernel)
theorem ml_X8_183 : Cond.methodLink RX8 183 yX8_sendOn ∈ gTbl := gTbl_of (List.mem_of_getElem? (i := 1029) (by decide +kernel)) (by decide +kernel)
theorem ml_X8_194 : Cond.methodLink RX8 194 yX8_comeTo ∈ gTbl := gTbl_of (List.mem_of_getElem? (i := 1033) (by decide +kernel)) (by decide +kernel)
theorem ml_X8_176 : Cond.methodLink RX8 176 yX8_goOut ∈ gTbl := gTbl_of (List.mem_of_getElem? (i := 1037) (by decide +kernel)) (by decide +kernel)
theorem ml_L_61 : Cond.methodLink RL 61 yX8_drop ∈ gTbl := gTbl_of (List.mem_of_getElem? (i := 1041) (by decide +kernel)) (by decide +kernel)
theorem ml_X8_220 : Cond.methodLink RX8 220 yX8_dropOn ∈ gTbl := gTbl_of (List.mem_of_getElem? (i := 1045) (by decide +kernel)) (by decide +kernel)
theorem ml_L_65 : Cond.methodLink RL 65 yX8_send ∈ gTbl := gTbl_of (List.mem_of_getElem? (i := 1049) (by decide +kernel)) (by decide +kernel)
theorem ml_L_69 : Cond.methodLink RL 69 yX8_threshold ∈ gTbl := gTbl_of (List.mem_of_getElem? (i := 1053) (by decide +kernel)) (by decide +kernel)
theorem ml_L_73 : Cond.methodLink RL 73 yX8_use ∈ gTbl := gTbl_of (List.mem_of_getElem? (i := 1057) (by decide +kernel)) (by decide +kernel)
theorem ml_X8_223 : Cond.methodLink RX8 223 yX8_useOn ∈ gTbl := gTbl_of (List.mem_of_getElem? (i := 1061) (by decide +kernel)) (by decide +kernel)
theorem ml_L_77 : Cond.methodLink RL 77 yX8_undo ∈ gTbl := gTbl_of (List.mem_of_getElem? (i := 1065) (by decide +kernel)) (by decide +kernel)
theorem ml_L_81 : Cond.methodLink RL 81 yX8_weight ∈ gTbl := gTbl_of (List.mem_of_getElem? (i := 1069) (by decide +kernel)) (by decide +kernel)
theorem ml_X8_226 : Cond.methodLink RX8 226 yX8_ones ∈ gTbl := gTbl_of (List.mem_of_getElem? (i := 1073) (by decide +kernel)) (by decide +kernel)
theorem ml_X8_229 : Cond.methodLink RX8 229 yJxf58ca_floatToIntBits_5c35a ∈ gTbl := gTbl_of (List.mem_of_getElem? (i := 1076) (by decide +kernel)) (by decide +kernel)
theorem ml_Jxf58ca_59 : Cond.methodLink RJxf58ca 59 yJxf58ca_isNaN_12338 ∈ gTbl := gTbl_of (List.mem_of_getElem? (i := 1079) (by decide +kernel)) (by decide +kernel)
theorem ml_Jxf58ca_74 : Cond.methodLink RJxf58ca 74 ⟨"java/lang/Float", "floatToRawIntBits", "(F)I"⟩ ∈ gTbl := gTbl_of (List.mem_of_getElem? (i := 1082) (by decide +kernel)) (by decide +kernel)
theorem nt_floatToRawIntBits : Cond.native ⟨"java/lang/Float", "floatToRawIntBits", "(F)I"⟩ ∈ gTbl := gTbl_of (List.mem_of_getElem? (i := 1084) (by decide +kernel)) (by decide +kernel)
theorem cn_Jxf58ca_77 : Cond.constant RJxf58ca 77 (2143289344) ∈ gTbl := gTbl_of (List.mem_of_getElem? (i := 1085) (by decide +kernel)) (by decide +kernel)
theorem ml_L_85 : Cond.methodLink RL 85 yX8_best ∈ gTbl := gTbl_of (List.mem_of_getElem? (i := 1086) (by decide +kernel)) (by decide +kernel)
theorem ml_X8_235 : Cond.methodLink RX8 235 yX8_madeBy ∈ gTbl := gTbl_of (List.mem_of_getElem? (i := 1090) (by decide +kernel)) (by decide +kernel)
theorem ml_L_89 : Cond.methodLink RL 89 yX8_plan ∈ gTbl := gTbl_of (List.mem_of_getElem? (i := 1094) (by decide +kernel)) (by decide +kernel)
theorem cn_X8_239 : Cond.constantLong RX8 239 (4) ∈ gTbl := gTbl_of (List.mem_of_getElem? (i := 1098) (by decide +kernel)) (by decide +kernel)
theorem ml_X8_241 : Cond.methodLink RX8 241 yX8_power ∈ gTbl := gTbl_of (List.mem_of_getElem? (i := 1099) (by decide +kernel)) (by decide +kernel)
theorem ml_X8_244 : Cond.methodLink RX8 244 yX8_layTrial ∈ gTbl := gTbl_of (List.mem_of_getElem? (i := 1102) (by decide +kernel)) (by decide +kernel)
theorem ml_X8_247 : Cond.methodLink RX8 247 yX8_costOf ∈ gTbl := gTbl_of (List.mem_of_getElem? (i := 1106) (by decide +kernel)) (by decide +kernel)
theorem ml_L_93 : Cond.methodLink RL 93 yX8_order ∈ gTbl := gTbl_of (List.mem_of_getElem? (i := 1109) (by decide +kernel)) (by decide +kernel)
theorem cn_X8_258 : Cond.constantLong RX8 258 (5) ∈ gTbl := gTbl_of (List.mem_of_getElem? (i := 1113) (by decide +kernel)) (by decide +kernel)
theorem ml_X8_260 : Cond.methodLink RX8 260 yX8_layBest ∈ gTbl := gTbl_of (List.mem_of_getElem? (i := 1114) (by decide +kernel)) (by decide +kernel)
theorem ml_X8_254 : Cond.methodLink RX8 254 yX8_layOrder ∈ gTbl := gTbl_of (List.mem_of_getElem? (i := 1118) (by decide +kernel)) (by decide +kernel)
theorem ml_L_100 : Cond.methodLink RL 100 yX8_judge ∈ gTbl := gTbl_of (List.mem_of_getElem? (i := 1122) (by decide +kernel)) (by decide +kernel)
theorem cn_X8_264 : Cond.constantLong RX8 264 (100000) ∈ gTbl := gTbl_of (List.mem_of_getElem? (i := 1126) (by decide +kernel)) (by decide +kernel)
theorem ml_X8_266 : Cond.methodLink RX8 266 yX8_longPower ∈ gTbl := gTbl_of (List.mem_of_getElem? (i := 1127) (by decide +kernel)) (by decide +kernel)
theorem ml_X8_270 : Cond.methodLink RX8 270 yX8_does ∈ gTbl := gTbl_of (List.mem_of_getElem? (i := 1130) (by decide +kernel)) (by decide +kernel)
theorem ml_L_104 : Cond.methodLink RL 104 yX8_see ∈ gTbl := gTbl_of (List.mem_of_getElem? (i := 1134) (by decide +kernel)) (by decide +kernel)
theorem cn_X8_273 : Cond.constantLong RX8 273 (2) ∈ gTbl := gTbl_of (List.mem_of_getElem? (i := 1138) (by decide +kernel)) (by decide +kernel)
theorem ml_L_108 : Cond.methodLink RL 108 yX8_unsee ∈ gTbl := gTbl_of (List.mem_of_getElem? (i := 1139) (by decide +kernel)) (by decide +kernel)
theorem ml_L_112 : Cond.methodLink RL 112 yX8_which ∈ gTbl := gTbl_of (List.mem_of_getElem? (i := 1143) (by decide +kernel)) (by decide +kernel)
theorem ml_X8_278 : Cond.methodLink RX8 278 yX8_isSo ∈ gTbl := gTbl_of (List.mem_of_getElem? (i := 1147) (by decide +kernel)) (by decide +kernel)
theorem ml_L_117 : Cond.methodLink RL 117 yX8_share ∈ gTbl := gTbl_of (List.mem_of_getElem? (i := 1151) (by decide +kernel)) (by decide +kernel)
theorem ml_X8_284 : Cond.methodLink RX8 284 yX8_factorial ∈ gTbl := gTbl_of (List.mem_of_getElem? (i := 1155) (by decide +kernel)) (by decide +kernel)
theorem ml_X8_287 : Cond.methodLink RX8 287 yX8_hadBy ∈ gTbl := gTbl_of (List.mem_of_getElem? (i := 1158) (by decide +kernel)) (by decide +kernel)
theorem ml_X8_290 : Cond.methodLink RX8 290 yX8_fraction ∈ gTbl := gTbl_of (List.mem_of_getElem? (i := 1162) (by decide +kernel)) (by decide +kernel)
theorem ml_X8_281 : Cond.methodLink RX8 281 yX8_divisor ∈ gTbl := gTbl_of (List.mem_of_getElem? (i := 1165) (by decide +kernel)) (by decide +kernel)
theorem ml_L_122 : Cond.methodLink RL 122 yX8_lost ∈ gTbl := gTbl_of (List.mem_of_getElem? (i := 1168) (by decide +kernel)) (by decide +kernel)
theorem cn_X8_294 : Cond.constantLong RX8 294 (10) ∈ gTbl := gTbl_of (List.mem_of_getElem? (i := 1172) (by decide +kernel)) (by decide +kernel)
theorem ml_X8_296 : Cond.methodLink RX8 296 yX8_isRight ∈ gTbl := gTbl_of (List.mem_of_getElem? (i := 1173) (by decide +kernel)) (by decide +kernel)
theorem ml_L_127 : Cond.methodLink RL 127 yX8_seed ∈ gTbl := gTbl_of (List.mem_of_getElem? (i := 1177) (by decide +kernel)) (by decide +kernel)
theorem ml_L_131 : Cond.methodLink RL 131 yX8_drawn ∈ gTbl := gTbl_of (List.mem_of_getElem? (i := 1181) (by decide +kernel)) (by decide +kernel)
theorem cn_X8_303 : Cond.constantLong RX8 303 (20) ∈ gTbl := gTbl_of (List.mem_of_getElem? (i := 1185) (by decide +kernel)) (by decide +kernel)
theorem cn_X8_305 : Cond.constantLong RX8 305 (6364136223846793005) ∈ gTbl := gTbl_of (List.mem_of_getElem? (i := 1186) (by decide +kernel)) (by decide +kernel)
theorem cn_X8_307 : Cond.constantLong RX8 307 (1442695040888963407) ∈ gTbl := gTbl_of (List.mem_of_getElem? (i := 1187) (by decide +kernel)) (by decide +kernel)
theorem ml_L_135 : Cond.methodLink RL 135 yX8_keep ∈ gTbl := gTbl_of (List.mem_of_getElem? (i := 1188) (by decide +kernel)) (by decide +kernel)
theorem ml_L_139 : Cond.methodLink RL 139 yX8_again ∈ gTbl := gTbl_of (List.mem_of_getElem? (i := 1192) (by decide +kernel)) (by decide +kernel)
theorem ml_L_143 : Cond.methodLink RL 143 yX8_count ∈ gTbl := gTbl_of (List.mem_of_getElem? (i := 1196) (by decide +kernel)) (by decide +kernel)
theorem ml_X8_309 : Cond.methodLink RX8 309 yX8_onShelves ∈ gTbl := gTbl_of (List.mem_of_getElem? (i := 1200) (by decide +kernel)) (by decide +kernel)
theorem cn_L_94 : Cond.constantLong RL 94 (4294967295) ∈ gTbl := gTbl_of (List.mem_of_getElem? (i := 1204) (by decide +kernel)) (by decide +kernel)
theorem in_L : Cond.initialized RL ∈ gTbl := gTbl_of (List.mem_of_getElem? (i := 55) (by decide +kernel)) (by decide +kernel)
theorem in_X7 : Cond.initialized RX7 ∈ gTbl := gTbl_of (List.mem_of_getElem? (i := 56) (by decide +kernel)) (by decide +kernel)
theorem in_X6 : Cond.initialized RX6 ∈ gTbl := gTbl_of (List.mem_of_getElem? (i := 57) (by decide +kernel)) (by decide +kernel)
theorem in_X1 : Cond.initialized RX1 ∈ gTbl := gTbl_of (List.mem_of_getElem? (i := 58) (by decide +kernel)) (by decide +kernel)
theorem in_X0 : Cond.initialized RX0 ∈ gTbl := gTbl_of (List.mem_of_getElem? (i := 59) (by decide +kernel)) (by decide +kernel)
theorem in_X4 : Cond.initialized RX4 ∈ gTbl := gTbl_of (List.mem_of_getElem? (i := 60) (by decide +kernel)) (by decide +kernel)
theorem in_X3 : Cond.initialized RX3 ∈ gTbl := gTbl_of (List.mem_of_getElem? (i := 61) (by decide +kernel)) (by decide +kernel)
theorem in_X5 : Cond.initialized RX5 ∈ gTbl := gTbl_of (List.mem_of_getElem? (i := 62) (by decide +kernel)) (by decide +kernel)
theorem in_X2 : Cond.initialized RX2 ∈ gTbl := gTbl_of (List.mem_of_getElem? (i := 63) (by decide +kernel)) (by decide +kernel)
theorem in_X8 : Cond.initialized RX8 ∈ gTbl := gTbl_of (List.mem_of_getElem? (i := 64) (by decide +kernel)) (by decide +kernel)
theorem in_J6 : Cond.initialized RJ6 ∈ gTbl := gTbl_of (List.mem_of_getElem? (i := 65) (by decide +kernel)) (by decide +kernel)
theorem in_J9 : Cond.initialized RJ9 ∈ gTbl := gTbl_of (List.mem_of_getElem? (i := 66) (by decide +kernel)) (by decide +kernel)
theorem in_Jxf58ca : Cond.initialized RJxf58ca ∈ gTbl := gTbl_of (List.mem_of_getElem? (i := 67) (by decide +kernel)) (by decide +kernel)
theorem wc_X0_init : Cond.code yX0_init cX0_init 1 none ∈ gTbl := gTbl_of (List.mem_of_getElem? (i := 92) (by decide +kernel)) (by decide +kernel)
theorem wi_X0_init : Cond.instanceMethod yX0_init ∈ gTbl := gTbl_of (List.mem_of_getElem? (i := 91) (by decide +kernel)) (by decide +kernel)
theorem wc_X0_take : Cond.code yX0_take cX0_take 2 none ∈ gTbl := gTbl_of (List.mem_of_getElem? (i := 464) (by decide +kernel)) (by decide +kernel)
theorem pk_X0_take : MPI yX0_take cX0_take 2 none 1 := ⟨gTbl_of (List.mem_of_getElem? (i := 462) (by decide +kernel)) (by decide +kernel), gTbl_of (List.mem_of_getElem? (i := 463) (by decide +kernel)) (by decide +kernel), in_X0, wc_X0_take, by decide +kernel, by decide +kernel, by decide +kernel⟩
theorem wc_X0_begin : Cond.code yX0_begin cX0_begin 3 none ∈ gTbl := gTbl_of (List.mem_of_getElem? (i := 273) (by decide +kernel)) (by decide +kernel)
theorem pk_X0_begin : MPI yX0_begin cX0_begin 3 none 2 := ⟨gTbl_of (List.mem_of_getElem? (i := 271) (by decide +kernel)) (by decide +kernel), gTbl_of (List.mem_of_getElem? (i := 272) (by decide +kernel)) (by decide +kernel), in_X0, wc_X0_begin, by decide +kernel, by decide +kernel, by decide +kernel⟩
theorem wc_X0_addFamily : Cond.code yX0_addFamily cX0_addFamily 3 none ∈ gTbl := gTbl_of (List.mem_of_getElem? (i := 285) (by decide +kernel)) (by decide +kernel)
theorem pk_X0_addFamily : MPI yX0_addFamily cX0_addFamily 3 none 2 := ⟨gTbl_of (List.mem_of_getElem? (i := 283) (by decide +kernel)) (by decide +kernel), gTbl_of (List.mem_of_getElem? (i := 284) (by decide +kernel)) (by decide +kernel), in_X0, wc_X0_addFamily, by decide +kernel, by decide +kernel, by decide +kernel⟩
theorem wc_X0_isFamily : Cond.code yX0_isFamily cX0_isFamily 2 (some .boolean) ∈ gTbl := gTbl_of (List.mem_of_getElem? (i := 293) (by decide +kernel)) (by decide +kernel)
theorem pk_X0_isFamily : MPI yX0_isFamily cX0_isFamily 2 (some .boolean) 1 := ⟨gTbl_of (List.mem_of_getElem? (i := 291) (by decide +kernel)) (by decide +kernel), gTbl_of (List.mem_of_getElem? (i := 292) (by decide +kernel)) (by decide +kernel), in_X0, wc_X0_isFamily, by decide +kernel, by decide +kernel, by decide +kernel⟩
theorem wc_X0_cell : Cond.code yX0_cell cX0_cell 4 (some .int) ∈ gTbl := gTbl_of (List.mem_of_getElem? (i := 317) (by decide +kernel)) (by decide +kernel)
theorem pk_X0_cell : MPI yX0_cell cX0_cell 4 (some .int) 3 := ⟨gTbl_of (List.mem_of_getElem? (i := 315) (by decide +kernel)) (by decide +kernel), gTbl_of (List.mem_of_getElem? (i := 316) (by decide +kernel)) (by decide +kernel), in_X0, wc_X0_cell, by decide +kernel, by decide +kernel, by decide +kernel⟩
theorem wc_X0_cellSet : Cond.code yX0_cellSet cX0_cellSet 5 (some .int) ∈ gTbl := gTbl_of (List.mem_of_getElem? (i := 633) (by decide +kernel)) (by decide +kernel)
theorem pk_X0_cellSet : MPI yX0_cellSet cX0_cellSet 5 (some .int) 2 := ⟨gTbl_of (List.mem_of_getElem? (i := 631) (by decide +kernel)) (by decide +kernel), gTbl_of (List.mem_of_getElem? (i := 632) (by decide +kernel)) (by decide +kernel), in_X0, wc_X0_cellSet, by decide +kernel, by decide +kernel, by decide +kernel⟩
theorem wc_X0_contains : Cond.code yX0_contains cX0_contains 5 (some .boolean) ∈ gTbl := gTbl_of (List.mem_of_getElem? (i := 493) (by decide +kernel)) (by decide +kernel)
theorem pk_X0_contains : MPI yX0_contains cX0_contains 5 (some .boolean) 3 := ⟨gTbl_of (List.mem_of_getElem? (i := 491) (by decide +kernel)) (by decide +kernel), gTbl_of (List.mem_of_getElem? (i := 492) (by decide +kernel)) (by decide +kernel), in_X0, wc_X0_contains, by decide +kernel, by decide +kernel, by decide +kernel⟩
theorem wc_X0_pagesIn : Cond.code yX0_pagesIn cX0_pagesIn 5 (some .int) ∈ gTbl := gTbl_of (List.mem_of_getElem? (i := 489) (by decide +kernel)) (by decide +kernel)
theorem pk_X0_pagesIn : MPI yX0_pagesIn cX0_pagesIn 5 (some .int) 2 := ⟨gTbl_of (List.mem_of_getElem? (i := 487) (by decide +kernel)) (by decide +kernel), gTbl_of (List.mem_of_getElem? (i := 488) (by decide +kernel)) (by decide +kernel), in_X0, wc_X0_pagesIn, by decide +kernel, by decide +kernel, by decide +kernel⟩
theorem wc_X1_init : Cond.code yX1_init cX1_init 2 none ∈ gTbl := gTbl_of (List.mem_of_getElem? (i := 86) (by decide +kernel)) (by decide +kernel)
theorem wi_X1_init : Cond.instanceMethod yX1_init ∈ gTbl := gTbl_of (List.mem_of_getElem? (i := 85) (by decide +kernel)) (by decide +kernel)
theorem wc_X1_take : Cond.code yX1_take cX1_take 3 none ∈ gTbl := gTbl_of (List.mem_of_getElem? (i := 460) (by decide +kernel)) (by decide +kernel)
theorem pk_X1_take : MPI yX1_take cX1_take 3 none 1 := ⟨gTbl_of (List.mem_of_getElem? (i := 458) (by decide +kernel)) (by decide +kernel), gTbl_of (List.mem_of_getElem? (i := 459) (by decide +kernel)) (by decide +kernel), in_X1, wc_X1_take, by decide +kernel, by decide +kernel, by decide +kernel⟩
theorem wc_X1_begin : Cond.code yX1_begin cX1_begin 3 none ∈ gTbl := gTbl_of (List.mem_of_getElem? (i := 269) (by decide +kernel)) (by decide +kernel)
theorem pk_X1_begin : MPI yX1_begin cX1_begin 3 none 2 := ⟨gTbl_of (List.mem_of_getElem? (i := 267) (by decide +kernel)) (by decide +kernel), gTbl_of (List.mem_of_getElem? (i := 268) (by decide +kernel)) (by decide +kernel), in_X1, wc_X1_begin, by decide +kernel, by decide +kernel, by decide +kernel⟩
theorem wc_X1_clearCounts : Cond.code yX1_clearCounts cX1_clearCounts 1 none ∈ gTbl := gTbl_of (List.mem_of_getElem? (i := 277) (by decide +kernel)) (by decide +kernel)
theorem pk_X1_clearCounts : MPI yX1_clearCounts cX1_clearCounts 1 none 0 := ⟨gTbl_of (List.mem_of_getElem? (i := 276) (by decide +kernel)) (by decide +kernel), gTbl_of (List.mem_of_getElem? (i := 0) (by decide +kernel)) (by decide +kernel), in_X1, wc_X1_clearCounts, by decide +kernel, by decide +kernel, by decide +kernel⟩
theorem wc_X1_addProxy : Cond.code yX1_addProxy cX1_addProxy 3 none ∈ gTbl := gTbl_of (List.mem_of_getElem? (i := 414) (by decide +kernel)) (by decide +kernel)
theorem pk_X1_addProxy : MPI yX1_addProxy cX1_addProxy 3 none 2 := ⟨gTbl_of (List.mem_of_getElem? (i := 412) (by decide +kernel)) (by decide +kernel), gTbl_of (List.mem_of_getElem? (i := 413) (by decide +kernel)) (by decide +kernel), in_X1, wc_X1_addProxy, by decide +kernel, by decide +kernel, by decide +kernel⟩
theorem wc_X1_complete : Cond.code yX1_complete cX1_complete 1 none ∈ gTbl := gTbl_of (List.mem_of_getElem? (i := 281) (by decide +kernel)) (by decide +kernel)
theorem pk_X1_complete : MPI yX1_complete cX1_complete 1 none 0 := ⟨gTbl_of (List.mem_of_getElem? (i := 279) (by decide +kernel)) (by decide +kernel), gTbl_of (List.mem_of_getElem? (i := 280) (by decide +kernel)) (by decide +kernel), in_X1, wc_X1_complete, by decide +kernel, by decide +kernel, by decide +kernel⟩
theorem wc_X1_proxyAt : Cond.code yX1_proxyAt cX1_proxyAt 2 (some (.object "ShelfFilters$Proxy")) ∈ gTbl := gTbl_of (List.mem_of_getElem? (i := 297) (by decide +kernel)) (by decide +kernel)
theorem pk_X1_proxyAt : MPI yX1_proxyAt cX1_proxyAt 2 (some (.object "ShelfFilters$Proxy")) 1 := ⟨gTbl_of (List.mem_of_getElem? (i := 295) (by decide +kernel)) (by decide +kernel), gTbl_of (List.mem_of_getElem? (i := 296) (by decide +kernel)) (by decide +kernel), in_X1, wc_X1_proxyAt, by decide +kernel, by decide +kernel, by decide +kernel⟩
theorem wc_X1_anyRoom : Cond.code yX1_anyRoom cX1_anyRoom 3 (some .boolean) ∈ gTbl := gTbl_of (List.mem_of_getElem? (i := 423) (by decide +kernel)) (by decide +kernel)
theorem pk_X1_anyRoom : MPI yX1_anyRoom cX1_anyRoom 3 (some .boolean) 0 := ⟨gTbl_of (List.mem_of_getElem? (i := 421) (by decide +kernel)) (by decide +kernel), gTbl_of (List.mem_of_getElem? (i := 422) (by decide +kernel)) (by decide +kernel), in_X1, wc_X1_anyRoom, by decide +kernel, by decide +kernel, by decide +kernel⟩
theorem wc_X1_cost : Cond.code yX1_cost cX1_cost 1 (some .int) ∈ gTbl := gTbl_of (List.mem_of_getElem? (i := 648) (by decide +kernel)) (by decide +kernel)
theorem pk_X1_cost : MPI yX1_cost cX1_cost 1 (some .int) 0 := ⟨gTbl_of (List.mem_of_getElem? (i := 646) (by decide +kernel)) (by decide +kernel), gTbl_of (List.mem_of_getElem? (i := 647) (by decide +kernel)) (by decide +kernel), in_X1, wc_X1_cost, by decide +kernel, by decide +kernel, by decide +kernel⟩
theorem wc_X1_allPages : Cond.code yX1_allPages cX1_allPages 4 (some .int) ∈ gTbl := gTbl_of (List.mem_of_getElem? (i := 771) (by decide +kernel)) (by decide +kernel)
theorem pk_X1_allPages : MPI yX1_allPages cX1_allPages 4 (some .int) 0 := ⟨gTbl_of (List.mem_of_getElem? (i := 769) (by decide +kernel)) (by decide +kernel), gTbl_of (List.mem_of_getElem? (i := 770) (by decide +kernel)) (by decide +kernel), in_X1, wc_X1_allPages, by decide +kernel, by decide +kernel, by decide +kernel⟩
theorem wc_X1_holders : Cond.code yX1_holders cX1_holders 5 (some .int) ∈ gTbl := gTbl_of (List.mem_of_getElem? (i := 724) (by decide +kernel)) (by decide +kernel)
theorem pk_X1_holders : MPI yX1_holders cX1_holders 5 (some .int) 1 := ⟨gTbl_of (List.mem_of_getElem? (i := 722) (by decide +kernel)) (by decide +kernel), gTbl_of (List.mem_of_getElem? (i := 723) (by decide +kernel)) (by decide +kernel), in_X1, wc_X1_holders, by decide +kernel, by decide +kernel, by decide +kernel⟩
theorem wc_X1_isSo : Cond.code yX1_isSo cX1_isSo 5 (some .boolean) ∈ gTbl := gTbl_of (List.mem_of_getElem? (i := 528) (by decide +kernel)) (by decide +kernel)
theorem pk_X1_isSo : MPI yX1_isSo cX1_isSo 5 (some .boolean) 3 := ⟨gTbl_of (List.mem_of_getElem? (i := 526) (by decide +kernel)) (by decide +kernel), gTbl_of (List.mem_of_getElem? (i := 527) (by decide +kernel)) (by decide +kernel), in_X1, wc_X1_isSo, by decide +kernel, by decide +kernel, by decide +kernel⟩
theorem wc_X1_claimed : Cond.code yX1_claimed cX1_claimed 2 (some .int) ∈ gTbl := gTbl_of (List.mem_of_getElem? (i := 485) (by decide +kernel)) (by decide +kernel)
theorem pk_X1_claimed : MPI yX1_claimed cX1_claimed 2 (some .int) 1 := ⟨gTbl_of (List.mem_of_getElem? (i := 483) (by decide +kernel)) (by decide +kernel), gTbl_of (List.mem_of_getElem? (i := 484) (by decide +kernel)) (by decide +kernel), in_X1, wc_X1_claimed, by decide +kernel, by decide +kernel, by decide +kernel⟩
theorem wc_X1_wrongPages : Cond.code yX1_wrongPages cX1_wrongPages 5 (some .int) ∈ gTbl := gTbl_of (List.mem_of_getElem? (i := 629) (by decide +kernel)) (by decide +kernel)
theorem pk_X1_wrongPages : MPI yX1_wrongPages cX1_wrongPages 5 (some .int) 2 := ⟨gTbl_of (List.mem_of_getElem? (i := 627) (by decide +kernel)) (by decide +kernel), gTbl_of (List.mem_of_getElem? (i := 628) (by decide +kernel)) (by decide +kernel), in_X1, wc_X1_wrongPages, by decide +kernel, by decide +kernel, by decide +kernel⟩
theorem wc_X1_request : Cond.code yX1_request cX1_request 5 (some .int) ∈ gTbl := gTbl_of (List.mem_of_getElem? (i := 549) (by decide +kernel)) (by decide +kernel)
theorem pk_X1_request : MPI yX1_request cX1_request 5 (some .int) 2 := ⟨gTbl_of (List.mem_of_getElem? (i := 547) (by decide +kernel)) (by decide +kernel), gTbl_of (List.mem_of_getElem? (i := 548) (by decide +kernel)) (by decide +kernel), in_X1, wc_X1_request, by decide +kernel, by decide +kernel, by decide +kernel⟩
theorem wc_X1_searchOthers : Cond.code yX1_searchOthers cX1_searchOthers 5 (some .int) ∈ gTbl := gTbl_of (List.mem_of_getElem? (i := 565) (by decide +kernel)) (by decide +kernel)
theorem pk_X1_searchOthers : MPI yX1_searchOthers cX1_searchOthers 5 (some .int) 2 := ⟨gTbl_of (List.mem_of_getElem? (i := 564) (by decide +kernel)) (by decide +kernel), gTbl_of (List.mem_of_getElem? (i := 11) (by decide +kernel)) (by decide +kernel), in_X1, wc_X1_searchOthers, by decide +kernel, by decide +kernel, by decide +kernel⟩
theorem wc_X1_addPage : Cond.code yX1_addPage cX1_addPage 3 none ∈ gTbl := gTbl_of (List.mem_of_getElem? (i := 575) (by decide +kernel)) (by decide +kernel)
theorem pk_X1_addPage : MPI yX1_addPage cX1_addPage 3 none 2 := ⟨gTbl_of (List.mem_of_getElem? (i := 574) (by decide +kernel)) (by decide +kernel), gTbl_of (List.mem_of_getElem? (i := 13) (by decide +kernel)) (by decide +kernel), in_X1, wc_X1_addPage, by decide +kernel, by decide +kernel, by decide +kernel⟩
theorem wc_X1_removePage : Cond.code yX1_removePage cX1_removePage 3 none ∈ gTbl := gTbl_of (List.mem_of_getElem? (i := 569) (by decide +kernel)) (by decide +kernel)
theorem pk_X1_removePage : MPI yX1_removePage cX1_removePage 3 none 2 := ⟨gTbl_of (List.mem_of_getElem? (i := 568) (by decide +kernel)) (by decide +kernel), gTbl_of (List.mem_of_getElem? (i := 12) (by decide +kernel)) (by decide +kernel), in_X1, wc_X1_removePage, by decide +kernel, by decide +kernel, by decide +kernel⟩
theorem wc_X1_tally : Cond.code yX1_tally cX1_tally 5 none ∈ gTbl := gTbl_of (List.mem_of_getElem? (i := 313) (by decide +kernel)) (by decide +kernel)
theorem pk_X1_tally : MPI yX1_tally cX1_tally 5 none 3 := ⟨gTbl_of (List.mem_of_getElem? (i := 312) (by decide +kernel)) (by decide +kernel), gTbl_of (List.mem_of_getElem? (i := 2) (by decide +kernel)) (by decide +kernel), in_X1, wc_X1_tally, by decide +kernel, by decide +kernel, by decide +kernel⟩
theorem wc_X1_discard : Cond.code yX1_discard cX1_discard 3 (some .boolean) ∈ gTbl := gTbl_of (List.mem_of_getElem? (i := 589) (by decide +kernel)) (by decide +kernel)
theorem pk_X1_discard : MPI yX1_discard cX1_discard 3 (some .boolean) 2 := ⟨gTbl_of (List.mem_of_getElem? (i := 587) (by decide +kernel)) (by decide +kernel), gTbl_of (List.mem_of_getElem? (i := 588) (by decide +kernel)) (by decide +kernel), in_X1, wc_X1_discard, by decide +kernel, by decide +kernel, by decide +kernel⟩
theorem wc_X1_spread : Cond.code yX1_spread cX1_spread 2 (some .boolean) ∈ gTbl := gTbl_of (List.mem_of_getElem? (i := 325) (by decide +kernel)) (by decide +kernel)
theorem pk_X1_spread : MPI yX1_spread cX1_spread 2 (some .boolean) 1 := ⟨gTbl_of (List.mem_of_getElem? (i := 323) (by decide +kernel)) (by decide +kernel), gTbl_of (List.mem_of_getElem? (i := 324) (by decide +kernel)) (by decide +kernel), in_X1, wc_X1_spread, by decide +kernel, by decide +kernel, by decide +kernel⟩
theorem wc_X1_spreadDue : Cond.code yX1_spreadDue cX1_spreadDue 3 none ∈ gTbl := gTbl_of (List.mem_of_getElem? (i := 580) (by decide +kernel)) (by decide +kernel)
theorem pk_X1_spreadDue : MPI yX1_spreadDue cX1_spreadDue 3 none 0 := ⟨gTbl_of (List.mem_of_getElem? (i := 578) (by decide +kernel)) (by decide +kernel), gTbl_of (List.mem_of_getElem? (i := 579) (by decide +kernel)) (by decide +kernel), in_X1, wc_X1_spreadDue, by decide +kernel, by decide +kernel, by decide +kernel⟩
theorem wc_X1_adopt : Cond.code yX1_adopt cX1_adopt 4 (some .boolean) ∈ gTbl := gTbl_of (List.mem_of_getElem? (i := 289) (by decide +kernel)) (by decide +kernel)
theorem pk_X1_adopt : MPI yX1_adopt cX1_adopt 4 (some .boolean) 1 := ⟨gTbl_of (List.mem_of_getElem? (i := 287) (by decide +kernel)) (by decide +kernel), gTbl_of (List.mem_of_getElem? (i := 288) (by decide +kernel)) (by decide +kernel), in_X1, wc_X1_adopt, by decide +kernel, by decide +kernel, by decide +kernel⟩
theorem wc_X1_rebuild : Cond.code yX1_rebuild cX1_rebuild 3 none ∈ gTbl := gTbl_of (List.mem_of_getElem? (i := 301) (by decide +kernel)) (by decide +kernel)
theorem pk_X1_rebuild : MPI yX1_rebuild cX1_rebuild 3 none 1 := ⟨gTbl_of (List.mem_of_getElem? (i := 300) (by decide +kernel)) (by decide +kernel), gTbl_of (List.mem_of_getElem? (i := 1) (by decide +kernel)) (by decide +kernel), in_X1, wc_X1_rebuild, by decide +kernel, by decide +kernel, by decide +kernel⟩
theorem wc_X1_servesWell : Cond.code yX1_servesWell cX1_servesWell 7 (some .boolean) ∈ gTbl := gTbl_of (List.mem_of_getElem? (i := 738) (by decide +kernel)) (by decide +kernel)
theorem pk_X1_servesWell : MPI yX1_servesWell cX1_servesWell 7 (some .boolean) 3 := ⟨gTbl_of (List.mem_of_getElem? (i := 736) (by decide +kernel)) (by decide +kernel), gTbl_of (List.mem_of_getElem? (i := 737) (by decide +kernel)) (by decide +kernel), in_X1, wc_X1_servesWell, by decide +kernel, by decide +kernel, by decide +kernel⟩
theorem wc_X2_init : Cond.code yX2_init cX2_init 1 none ∈ gTbl := gTbl_of (List.mem_of_getElem? (i := 256) (by decide +kernel)) (by decide +kernel)
theorem wi_X2_init : Cond.instanceMethod yX2_init ∈ gTbl := gTbl_of (List.mem_of_getElem? (i := 255) (by decide +kernel)) (by decide +kernel)
theorem wc_X2_take : Cond.code yX2_take cX2_take 2 none ∈ gTbl := gTbl_of (List.mem_of_getElem? (i := 672) (by decide +kernel)) (by decide +kernel)
theorem pk_X2_take : MPI yX2_take cX2_take 2 none 1 := ⟨gTbl_of (List.mem_of_getElem? (i := 670) (by decide +kernel)) (by decide +kernel), gTbl_of (List.mem_of_getElem? (i := 671) (by decide +kernel)) (by decide +kernel), in_X2, wc_X2_take, by decide +kernel, by decide +kernel, by decide +kernel⟩
theorem wc_X2_pageAt : Cond.code yX2_pageAt cX2_pageAt 2 (some .int) ∈ gTbl := gTbl_of (List.mem_of_getElem? (i := 668) (by decide +kernel)) (by decide +kernel)
theorem pk_X2_pageAt : MPI yX2_pageAt cX2_pageAt 2 (some .int) 1 := ⟨gTbl_of (List.mem_of_getElem? (i := 666) (by decide +kernel)) (by decide +kernel), gTbl_of (List.mem_of_getElem? (i := 667) (by decide +kernel)) (by decide +kernel), in_X2, wc_X2_pageAt, by decide +kernel, by decide +kernel, by decide +kernel⟩
theorem wc_X2_begin : Cond.code yX2_begin cX2_begin 3 none ∈ gTbl := gTbl_of (List.mem_of_getElem? (i := 660) (by decide +kernel)) (by decide +kernel)
theorem pk_X2_begin : MPI yX2_begin cX2_begin 3 none 1 := ⟨gTbl_of (List.mem_of_getElem? (i := 658) (by decide +kernel)) (by decide +kernel), gTbl_of (List.mem_of_getElem? (i := 659) (by decide +kernel)) (by decide +kernel), in_X2, wc_X2_begin, by decide +kernel, by decide +kernel, by decide +kernel⟩
theorem wc_X2_advance : Cond.code yX2_advance cX2_advance 5 (some .boolean) ∈ gTbl := gTbl_of (List.mem_of_getElem? (i := 677) (by decide +kernel)) (by decide +kernel)
theorem pk_X2_advance : MPI yX2_advance cX2_advance 5 (some .boolean) 0 := ⟨gTbl_of (List.mem_of_getElem? (i := 675) (by decide +kernel)) (by decide +kernel), gTbl_of (List.mem_of_getElem? (i := 676) (by decide +kernel)) (by decide +kernel), in_X2, wc_X2_advance, by decide +kernel, by decide +kernel, by decide +kernel⟩
theorem wc_X2_swap : Cond.code yX2_swap cX2_swap 4 none ∈ gTbl := gTbl_of (List.mem_of_getElem? (i := 682) (by decide +kernel)) (by decide +kernel)
theorem pk_X2_swap : MPI yX2_swap cX2_swap 4 none 2 := ⟨gTbl_of (List.mem_of_getElem? (i := 681) (by decide +kernel)) (by decide +kernel), gTbl_of (List.mem_of_getElem? (i := 16) (by decide +kernel)) (by decide +kernel), in_X2, wc_X2_swap, by decide +kernel, by decide +kernel, by decide +kernel⟩
theorem wc_X3_init : Cond.code yX3_init cX3_init 2 none ∈ gTbl := gTbl_of (List.mem_of_getElem? (i := 215) (by decide +kernel)) (by decide +kernel)
theorem wi_X3_init : Cond.instanceMethod yX3_init ∈ gTbl := gTbl_of (List.mem_of_getElem? (i := 214) (by decide +kernel)) (by decide +kernel)
theorem wc_X3_forget : Cond.code yX3_forget cX3_forget 1 none ∈ gTbl := gTbl_of (List.mem_of_getElem? (i := 476) (by decide +kernel)) (by decide +kernel)
theorem pk_X3_forget : MPI yX3_forget cX3_forget 1 none 0 := ⟨gTbl_of (List.mem_of_getElem? (i := 474) (by decide +kernel)) (by decide +kernel), gTbl_of (List.mem_of_getElem? (i := 475) (by decide +kernel)) (by decide +kernel), in_X3, wc_X3_forget, by decide +kernel, by decide +kernel, by decide +kernel⟩
theorem wc_X3_record : Cond.code yX3_record cX3_record 3 none ∈ gTbl := gTbl_of (List.mem_of_getElem? (i := 538) (by decide +kernel)) (by decide +kernel)
theorem pk_X3_record : MPI yX3_record cX3_record 3 none 1 := ⟨gTbl_of (List.mem_of_getElem? (i := 536) (by decide +kernel)) (by decide +kernel), gTbl_of (List.mem_of_getElem? (i := 537) (by decide +kernel)) (by decide +kernel), in_X3, wc_X3_record, by decide +kernel, by decide +kernel, by decide +kernel⟩
theorem wc_X3_restore : Cond.code yX3_restore cX3_restore 4 (some .boolean) ∈ gTbl := gTbl_of (List.mem_of_getElem? (i := 612) (by decide +kernel)) (by decide +kernel)
theorem pk_X3_restore : MPI yX3_restore cX3_restore 4 (some .boolean) 1 := ⟨gTbl_of (List.mem_of_getElem? (i := 610) (by decide +kernel)) (by decide +kernel), gTbl_of (List.mem_of_getElem? (i := 611) (by decide +kernel)) (by decide +kernel), in_X3, wc_X3_restore, by decide +kernel, by decide +kernel, by decide +kernel⟩
theorem wc_X4_init : Cond.code yX4_init cX4_init 1 none ∈ gTbl := gTbl_of (List.mem_of_getElem? (i := 127) (by decide +kernel)) (by decide +kernel)
theorem wi_X4_init : Cond.instanceMethod yX4_init ∈ gTbl := gTbl_of (List.mem_of_getElem? (i := 126) (by decide +kernel)) (by decide +kernel)
theorem wc_X4_take : Cond.code yX4_take cX4_take 2 none ∈ gTbl := gTbl_of (List.mem_of_getElem? (i := 471) (by decide +kernel)) (by decide +kernel)
theorem pk_X4_take : MPI yX4_take cX4_take 2 none 1 := ⟨gTbl_of (List.mem_of_getElem? (i := 469) (by decide +kernel)) (by decide +kernel), gTbl_of (List.mem_of_getElem? (i := 470) (by decide +kernel)) (by decide +kernel), in_X4, wc_X4_take, by decide +kernel, by decide +kernel, by decide +kernel⟩
theorem wc_X4_begin : Cond.code yX4_begin cX4_begin 3 none ∈ gTbl := gTbl_of (List.mem_of_getElem? (i := 418) (by decide +kernel)) (by decide +kernel)
theorem pk_X4_begin : MPI yX4_begin cX4_begin 3 none 2 := ⟨gTbl_of (List.mem_of_getElem? (i := 416) (by decide +kernel)) (by decide +kernel), gTbl_of (List.mem_of_getElem? (i := 417) (by decide +kernel)) (by decide +kernel), in_X4, wc_X4_begin, by decide +kernel, by decide +kernel, by decide +kernel⟩
theorem wc_X4_clearCounters : Cond.code yX4_clearCounters cX4_clearCounters 2 none ∈ gTbl := gTbl_of (List.mem_of_getElem? (i := 305) (by decide +kernel)) (by decide +kernel)
theorem pk_X4_clearCounters : MPI yX4_clearCounters cX4_clearCounters 2 none 0 := ⟨gTbl_of (List.mem_of_getElem? (i := 303) (by decide +kernel)) (by decide +kernel), gTbl_of (List.mem_of_getElem? (i := 304) (by decide +kernel)) (by decide +kernel), in_X4, wc_X4_clearCounters, by decide +kernel, by decide +kernel, by decide +kernel⟩
theorem wc_X4_hasRoom : Cond.code yX4_hasRoom cX4_hasRoom 1 (some .boolean) ∈ gTbl := gTbl_of (List.mem_of_getElem? (i := 427) (by decide +kernel)) (by decide +kernel)
theorem pk_X4_hasRoom : MPI yX4_hasRoom cX4_hasRoom 1 (some .boolean) 0 := ⟨gTbl_of (List.mem_of_getElem? (i := 425) (by decide +kernel)) (by decide +kernel), gTbl_of (List.mem_of_getElem? (i := 426) (by decide +kernel)) (by decide +kernel), in_X4, wc_X4_hasRoom, by decide +kernel, by decide +kernel, by decide +kernel⟩
theorem wc_X4_pageAt : Cond.code yX4_pageAt cX4_pageAt 2 (some .int) ∈ gTbl := gTbl_of (List.mem_of_getElem? (i := 309) (by decide +kernel)) (by decide +kernel)
theorem pk_X4_pageAt : MPI yX4_pageAt cX4_pageAt 2 (some .int) 1 := ⟨gTbl_of (List.mem_of_getElem? (i := 307) (by decide +kernel)) (by decide +kernel), gTbl_of (List.mem_of_getElem? (i := 308) (by decide +kernel)) (by decide +kernel), in_X4, wc_X4_pageAt, by decide +kernel, by decide +kernel, by decide +kernel⟩
theorem wc_X4_placeOf : Cond.code yX4_placeOf cX4_placeOf 3 (some .int) ∈ gTbl := gTbl_of (List.mem_of_getElem? (i := 447) (by decide +kernel)) (by decide +kernel)
theorem pk_X4_placeOf : MPI yX4_placeOf cX4_placeOf 3 (some .int) 1 := ⟨gTbl_of (List.mem_of_getElem? (i := 445) (by decide +kernel)) (by decide +kernel), gTbl_of (List.mem_of_getElem? (i := 446) (by decide +kernel)) (by decide +kernel), in_X4, wc_X4_placeOf, by decide +kernel, by decide +kernel, by decide +kernel⟩
theorem wc_X4_has : Cond.code yX4_has cX4_has 2 (some .boolean) ∈ gTbl := gTbl_of (List.mem_of_getElem? (i := 443) (by decide +kernel)) (by decide +kernel)
theorem pk_X4_has : MPI yX4_has cX4_has 2 (some .boolean) 1 := ⟨gTbl_of (List.mem_of_getElem? (i := 441) (by decide +kernel)) (by decide +kernel), gTbl_of (List.mem_of_getElem? (i := 442) (by decide +kernel)) (by decide +kernel), in_X4, wc_X4_has, by decide +kernel, by decide +kernel, by decide +kernel⟩
theorem wc_X4_shelfSet : Cond.code yX4_shelfSet cX4_shelfSet 3 (some .int) ∈ gTbl := gTbl_of (List.mem_of_getElem? (i := 498) (by decide +kernel)) (by decide +kernel)
theorem pk_X4_shelfSet : MPI yX4_shelfSet cX4_shelfSet 3 (some .int) 0 := ⟨gTbl_of (List.mem_of_getElem? (i := 496) (by decide +kernel)) (by decide +kernel), gTbl_of (List.mem_of_getElem? (i := 497) (by decide +kernel)) (by decide +kernel), in_X4, wc_X4_shelfSet, by decide +kernel, by decide +kernel, by decide +kernel⟩
theorem wc_X4_addOldest : Cond.code yX4_addOldest cX4_addOldest 2 none ∈ gTbl := gTbl_of (List.mem_of_getElem? (i := 451) (by decide +kernel)) (by decide +kernel)
theorem pk_X4_addOldest : MPI yX4_addOldest cX4_addOldest 2 none 1 := ⟨gTbl_of (List.mem_of_getElem? (i := 449) (by decide +kernel)) (by decide +kernel), gTbl_of (List.mem_of_getElem? (i := 450) (by decide +kernel)) (by decide +kernel), in_X4, wc_X4_addOldest, by decide +kernel, by decide +kernel, by decide +kernel⟩
theorem wc_X4_addNewest : Cond.code yX4_addNewest cX4_addNewest 3 none ∈ gTbl := gTbl_of (List.mem_of_getElem? (i := 561) (by decide +kernel)) (by decide +kernel)
theorem pk_X4_addNewest : MPI yX4_addNewest cX4_addNewest 3 none 1 := ⟨gTbl_of (List.mem_of_getElem? (i := 559) (by decide +kernel)) (by decide +kernel), gTbl_of (List.mem_of_getElem? (i := 560) (by decide +kernel)) (by decide +kernel), in_X4, wc_X4_addNewest, by decide +kernel, by decide +kernel, by decide +kernel⟩
theorem wc_X4_removeAt : Cond.code yX4_removeAt cX4_removeAt 3 none ∈ gTbl := gTbl_of (List.mem_of_getElem? (i := 557) (by decide +kernel)) (by decide +kernel)
theorem pk_X4_removeAt : MPI yX4_removeAt cX4_removeAt 3 none 1 := ⟨gTbl_of (List.mem_of_getElem? (i := 555) (by decide +kernel)) (by decide +kernel), gTbl_of (List.mem_of_getElem? (i := 556) (by decide +kernel)) (by decide +kernel), in_X4, wc_X4_removeAt, by decide +kernel, by decide +kernel, by decide +kernel⟩
theorem wc_X4_renew : Cond.code yX4_renew cX4_renew 2 none ∈ gTbl := gTbl_of (List.mem_of_getElem? (i := 553) (by decide +kernel)) (by decide +kernel)
theorem pk_X4_renew : MPI yX4_renew cX4_renew 2 none 1 := ⟨gTbl_of (List.mem_of_getElem? (i := 551) (by decide +kernel)) (by decide +kernel), gTbl_of (List.mem_of_getElem? (i := 552) (by decide +kernel)) (by decide +kernel), in_X4, wc_X4_renew, by decide +kernel, by decide +kernel, by decide +kernel⟩
theorem wc_X4_move : Cond.code yX4_move cX4_move 3 none ∈ gTbl := gTbl_of (List.mem_of_getElem? (i := 321) (by decide +kernel)) (by decide +kernel)
theorem pk_X4_move : MPI yX4_move cX4_move 3 none 2 := ⟨gTbl_of (List.mem_of_getElem? (i := 319) (by decide +kernel)) (by decide +kernel), gTbl_of (List.mem_of_getElem? (i := 320) (by decide +kernel)) (by decide +kernel), in_X4, wc_X4_move, by decide +kernel, by decide +kernel, by decide +kernel⟩
theorem wc_X4_filterSet : Cond.code yX4_filterSet cX4_filterSet 3 (some .int) ∈ gTbl := gTbl_of (List.mem_of_getElem? (i := 329) (by decide +kernel)) (by decide +kernel)
theorem pk_X4_filterSet : MPI yX4_filterSet cX4_filterSet 3 (some .int) 0 := ⟨gTbl_of (List.mem_of_getElem? (i := 327) (by decide +kernel)) (by decide +kernel), gTbl_of (List.mem_of_getElem? (i := 328) (by decide +kernel)) (by decide +kernel), in_X4, wc_X4_filterSet, by decide +kernel, by decide +kernel, by decide +kernel⟩
theorem wc_X5_init : Cond.code yX5_init cX5_init 1 none ∈ gTbl := gTbl_of (List.mem_of_getElem? (i := 235) (by decide +kernel)) (by decide +kernel)
theorem wi_X5_init : Cond.instanceMethod yX5_init ∈ gTbl := gTbl_of (List.mem_of_getElem? (i := 234) (by decide +kernel)) (by decide +kernel)
theorem wc_X5_add : Cond.code yX5_add cX5_add 4 (some .boolean) ∈ gTbl := gTbl_of (List.mem_of_getElem? (i := 698) (by decide +kernel)) (by decide +kernel)
theorem pk_X5_add : MPI yX5_add cX5_add 4 (some .boolean) 3 := ⟨gTbl_of (List.mem_of_getElem? (i := 696) (by decide +kernel)) (by decide +kernel), gTbl_of (List.mem_of_getElem? (i := 697) (by decide +kernel)) (by decide +kernel), in_X5, wc_X5_add, by decide +kernel, by decide +kernel, by decide +kernel⟩
theorem wc_X5_agreeing : Cond.code yX5_agreeing cX5_agreeing 4 (some .int) ∈ gTbl := gTbl_of (List.mem_of_getElem? (i := 710) (by decide +kernel)) (by decide +kernel)
theorem pk_X5_agreeing : MPI yX5_agreeing cX5_agreeing 4 (some .int) 1 := ⟨gTbl_of (List.mem_of_getElem? (i := 708) (by decide +kernel)) (by decide +kernel), gTbl_of (List.mem_of_getElem? (i := 709) (by decide +kernel)) (by decide +kernel), in_X5, wc_X5_agreeing, by decide +kernel, by decide +kernel, by decide +kernel⟩
theorem wc_X5_agrees : Cond.code yX5_agrees cX5_agrees 5 (some .boolean) ∈ gTbl := gTbl_of (List.mem_of_getElem? (i := 714) (by decide +kernel)) (by decide +kernel)
theorem pk_X5_agrees : MPI yX5_agrees cX5_agrees 5 (some .boolean) 2 := ⟨gTbl_of (List.mem_of_getElem? (i := 713) (by decide +kernel)) (by decide +kernel), gTbl_of (List.mem_of_getElem? (i := 17) (by decide +kernel)) (by decide +kernel), in_X5, wc_X5_agrees, by decide +kernel, by decide +kernel, by decide +kernel⟩
theorem wc_X6_init : Cond.code yX6_init cX6_init 1 none ∈ gTbl := gTbl_of (List.mem_of_getElem? (i := 80) (by decide +kernel)) (by decide +kernel)
theorem wi_X6_init : Cond.instanceMethod yX6_init ∈ gTbl := gTbl_of (List.mem_of_getElem? (i := 79) (by decide +kernel)) (by decide +kernel)
theorem wc_X6_append : Cond.code yX6_append cX6_append 2 (some .boolean) ∈ gTbl := gTbl_of (List.mem_of_getElem? (i := 368) (by decide +kernel)) (by decide +kernel)
theorem pk_X6_append : MPI yX6_append cX6_append 2 (some .boolean) 1 := ⟨gTbl_of (List.mem_of_getElem? (i := 366) (by decide +kernel)) (by decide +kernel), gTbl_of (List.mem_of_getElem? (i := 367) (by decide +kernel)) (by decide +kernel), in_X6, wc_X6_append, by decide +kernel, by decide +kernel, by decide +kernel⟩
theorem wc_X6_read : Cond.code yX6_read cX6_read 2 (some .int) ∈ gTbl := gTbl_of (List.mem_of_getElem? (i := 380) (by decide +kernel)) (by decide +kernel)
theorem pk_X6_read : MPI yX6_read cX6_read 2 (some .int) 0 := ⟨gTbl_of (List.mem_of_getElem? (i := 378) (by decide +kernel)) (by decide +kernel), gTbl_of (List.mem_of_getElem? (i := 379) (by decide +kernel)) (by decide +kernel), in_X6, wc_X6_read, by decide +kernel, by decide +kernel, by decide +kernel⟩
theorem wc_X6_letter : Cond.code yX6_letter cX6_letter 1 (some .int) ∈ gTbl := gTbl_of (List.mem_of_getElem? (i := 392) (by decide +kernel)) (by decide +kernel)
theorem pk_X6_letter : MPI yX6_letter cX6_letter 1 (some .int) 0 := ⟨gTbl_of (List.mem_of_getElem? (i := 391) (by decide +kernel)) (by decide +kernel), gTbl_of (List.mem_of_getElem? (i := 5) (by decide +kernel)) (by decide +kernel), in_X6, wc_X6_letter, by decide +kernel, by decide +kernel, by decide +kernel⟩
theorem wc_X6_pass : Cond.code yX6_pass cX6_pass 2 (some .boolean) ∈ gTbl := gTbl_of (List.mem_of_getElem? (i := 388) (by decide +kernel)) (by decide +kernel)
theorem pk_X6_pass : MPI yX6_pass cX6_pass 2 (some .boolean) 1 := ⟨gTbl_of (List.mem_of_getElem? (i := 387) (by decide +kernel)) (by decide +kernel), gTbl_of (List.mem_of_getElem? (i := 4) (by decide +kernel)) (by decide +kernel), in_X6, wc_X6_pass, by decide +kernel, by decide +kernel, by decide +kernel⟩
theorem wc_X6_passDigit : Cond.code yX6_passDigit cX6_passDigit 4 (some .boolean) ∈ gTbl := gTbl_of (List.mem_of_getElem? (i := 396) (by decide +kernel)) (by decide +kernel)
theorem pk_X6_passDigit : MPI yX6_passDigit cX6_passDigit 4 (some .boolean) 2 := ⟨gTbl_of (List.mem_of_getElem? (i := 395) (by decide +kernel)) (by decide +kernel), gTbl_of (List.mem_of_getElem? (i := 6) (by decide +kernel)) (by decide +kernel), in_X6, wc_X6_passDigit, by decide +kernel, by decide +kernel, by decide +kernel⟩
theorem wc_X6_readHead : Cond.code yX6_readHead cX6_readHead 3 (some .boolean) ∈ gTbl := gTbl_of (List.mem_of_getElem? (i := 384) (by decide +kernel)) (by decide +kernel)
theorem pk_X6_readHead : MPI yX6_readHead cX6_readHead 3 (some .boolean) 0 := ⟨gTbl_of (List.mem_of_getElem? (i := 383) (by decide +kernel)) (by decide +kernel), gTbl_of (List.mem_of_getElem? (i := 3) (by decide +kernel)) (by decide +kernel), in_X6, wc_X6_readHead, by decide +kernel, by decide +kernel, by decide +kernel⟩
theorem wc_X6_readPart : Cond.code yX6_readPart cX6_readPart 1 (some .boolean) ∈ gTbl := gTbl_of (List.mem_of_getElem? (i := 401) (by decide +kernel)) (by decide +kernel)
theorem pk_X6_readPart : MPI yX6_readPart cX6_readPart 1 (some .boolean) 0 := ⟨gTbl_of (List.mem_of_getElem? (i := 400) (by decide +kernel)) (by decide +kernel), gTbl_of (List.mem_of_getElem? (i := 7) (by decide +kernel)) (by decide +kernel), in_X6, wc_X6_readPart, by decide +kernel, by decide +kernel, by decide +kernel⟩
theorem wc_X6_readFamily : Cond.code yX6_readFamily cX6_readFamily 2 (some .boolean) ∈ gTbl := gTbl_of (List.mem_of_getElem? (i := 405) (by decide +kernel)) (by decide +kernel)
theorem pk_X6_readFamily : MPI yX6_readFamily cX6_readFamily 2 (some .boolean) 0 := ⟨gTbl_of (List.mem_of_getElem? (i := 404) (by decide +kernel)) (by decide +kernel), gTbl_of (List.mem_of_getElem? (i := 8) (by decide +kernel)) (by decide +kernel), in_X6, wc_X6_readFamily, by decide +kernel, by decide +kernel, by decide +kernel⟩
theorem wc_X6_readProxy : Cond.code yX6_readProxy cX6_readProxy 2 (some .boolean) ∈ gTbl := gTbl_of (List.mem_of_getElem? (i := 410) (by decide +kernel)) (by decide +kernel)
theorem pk_X6_readProxy : MPI yX6_readProxy cX6_readProxy 2 (some .boolean) 0 := ⟨gTbl_of (List.mem_of_getElem? (i := 409) (by decide +kernel)) (by decide +kernel), gTbl_of (List.mem_of_getElem? (i := 9) (by decide +kernel)) (by decide +kernel), in_X6, wc_X6_readProxy, by decide +kernel, by decide +kernel, by decide +kernel⟩
theorem wc_X6_readShelved : Cond.code yX6_readShelved cX6_readShelved 4 (some .boolean) ∈ gTbl := gTbl_of (List.mem_of_getElem? (i := 431) (by decide +kernel)) (by decide +kernel)
theorem pk_X6_readShelved : MPI yX6_readShelved cX6_readShelved 4 (some .boolean) 0 := ⟨gTbl_of (List.mem_of_getElem? (i := 430) (by decide +kernel)) (by decide +kernel), gTbl_of (List.mem_of_getElem? (i := 10) (by decide +kernel)) (by decide +kernel), in_X6, wc_X6_readShelved, by decide +kernel, by decide +kernel, by decide +kernel⟩
theorem wc_X6_mayBegin : Cond.code yX6_mayBegin cX6_mayBegin 3 (some .boolean) ∈ gTbl := gTbl_of (List.mem_of_getElem? (i := 436) (by decide +kernel)) (by decide +kernel)
theorem pk_X6_mayBegin : MPS yX6_mayBegin cX6_mayBegin 3 (some .boolean) 2 := ⟨gTbl_of (List.mem_of_getElem? (i := 435) (by decide +kernel)) (by decide +kernel), in_X6, wc_X6_mayBegin, by decide +kernel, by decide +kernel, by decide +kernel⟩
theorem wc_X7_init : Cond.code yX7_init cX7_init 2 none ∈ gTbl := gTbl_of (List.mem_of_getElem? (i := 72) (by decide +kernel)) (by decide +kernel)
theorem wi_X7_init : Cond.instanceMethod yX7_init ∈ gTbl := gTbl_of (List.mem_of_getElem? (i := 71) (by decide +kernel)) (by decide +kernel)
theorem wc_X7_write : Cond.code yX7_write cX7_write 2 (some .int) ∈ gTbl := gTbl_of (List.mem_of_getElem? (i := 364) (by decide +kernel)) (by decide +kernel)
theorem pk_X7_write : MPI yX7_write cX7_write 2 (some .int) 1 := ⟨gTbl_of (List.mem_of_getElem? (i := 362) (by decide +kernel)) (by decide +kernel), gTbl_of (List.mem_of_getElem? (i := 363) (by decide +kernel)) (by decide +kernel), in_X7, wc_X7_write, by decide +kernel, by decide +kernel, by decide +kernel⟩
theorem wc_X7_wipe : Cond.code yX7_wipe cX7_wipe 2 (some .int) ∈ gTbl := gTbl_of (List.mem_of_getElem? (i := 372) (by decide +kernel)) (by decide +kernel)
theorem pk_X7_wipe : MPI yX7_wipe cX7_wipe 2 (some .int) 0 := ⟨gTbl_of (List.mem_of_getElem? (i := 370) (by decide +kernel)) (by decide +kernel), gTbl_of (List.mem_of_getElem? (i := 371) (by decide +kernel)) (by decide +kernel), in_X7, wc_X7_wipe, by decide +kernel, by decide +kernel, by decide +kernel⟩
theorem wc_X7_fault : Cond.code yX7_fault cX7_fault 1 (some .int) ∈ gTbl := gTbl_of (List.mem_of_getElem? (i := 376) (by decide +kernel)) (by decide +kernel)
theorem pk_X7_fault : MPI yX7_fault cX7_fault 1 (some .int) 0 := ⟨gTbl_of (List.mem_of_getElem? (i := 374) (by decide +kernel)) (by decide +kernel), gTbl_of (List.mem_of_getElem? (i := 375) (by decide +kernel)) (by decide +kernel), in_X7, wc_X7_fault, by decide +kernel, by decide +kernel, by decide +kernel⟩
theorem wc_X7_net : Cond.code yX7_net cX7_net 2 (some .int) ∈ gTbl := gTbl_of (List.mem_of_getElem? (i := 456) (by decide +kernel)) (by decide +kernel)
theorem pk_X7_net : MPI yX7_net cX7_net 2 (some .int) 0 := ⟨gTbl_of (List.mem_of_getElem? (i := 454) (by decide +kernel)) (by decide +kernel), gTbl_of (List.mem_of_getElem? (i := 455) (by decide +kernel)) (by decide +kernel), in_X7, wc_X7_net, by decide +kernel, by decide +kernel, by decide +kernel⟩
theorem wc_X7_proxy : Cond.code yX7_proxy cX7_proxy 4 (some .int) ∈ gTbl := gTbl_of (List.mem_of_getElem? (i := 480) (by decide +kernel)) (by decide +kernel)
theorem pk_X7_proxy : MPI yX7_proxy cX7_proxy 4 (some .int) 2 := ⟨gTbl_of (List.mem_of_getElem? (i := 478) (by decide +kernel)) (by decide +kernel), gTbl_of (List.mem_of_getElem? (i := 479) (by decide +kernel)) (by decide +kernel), in_X7, wc_X7_proxy, by decide +kernel, by decide +kernel, by decide +kernel⟩
theorem wc_X7_page : Cond.code yX7_page cX7_page 4 (some .int) ∈ gTbl := gTbl_of (List.mem_of_getElem? (i := 508) (by decide +kernel)) (by decide +kernel)
theorem pk_X7_page : MPI yX7_page cX7_page 4 (some .int) 2 := ⟨gTbl_of (List.mem_of_getElem? (i := 506) (by decide +kernel)) (by decide +kernel), gTbl_of (List.mem_of_getElem? (i := 507) (by decide +kernel)) (by decide +kernel), in_X7, wc_X7_page, by decide +kernel, by decide +kernel, by decide +kernel⟩
theorem wc_X7_counter : Cond.code yX7_counter cX7_counter 4 (some .int) ∈ gTbl := gTbl_of (List.mem_of_getElem? (i := 513) (by decide +kernel)) (by decide +kernel)
theorem pk_X7_counter : MPI yX7_counter cX7_counter 4 (some .int) 2 := ⟨gTbl_of (List.mem_of_getElem? (i := 511) (by decide +kernel)) (by decide +kernel), gTbl_of (List.mem_of_getElem? (i := 512) (by decide +kernel)) (by decide +kernel), in_X7, wc_X7_counter, by decide +kernel, by decide +kernel, by decide +kernel⟩
theorem wc_X7_hash : Cond.code yX7_hash cX7_hash 4 (some .int) ∈ gTbl := gTbl_of (List.mem_of_getElem? (i := 517) (by decide +kernel)) (by decide +kernel)
theorem pk_X7_hash : MPI yX7_hash cX7_hash 4 (some .int) 3 := ⟨gTbl_of (List.mem_of_getElem? (i := 515) (by decide +kernel)) (by decide +kernel), gTbl_of (List.mem_of_getElem? (i := 516) (by decide +kernel)) (by decide +kernel), in_X7, wc_X7_hash, by decide +kernel, by decide +kernel, by decide +kernel⟩
theorem wc_X7_says : Cond.code yX7_says cX7_says 5 (some .int) ∈ gTbl := gTbl_of (List.mem_of_getElem? (i := 524) (by decide +kernel)) (by decide +kernel)
theorem pk_X7_says : MPI yX7_says cX7_says 5 (some .int) 3 := ⟨gTbl_of (List.mem_of_getElem? (i := 522) (by decide +kernel)) (by decide +kernel), gTbl_of (List.mem_of_getElem? (i := 523) (by decide +kernel)) (by decide +kernel), in_X7, wc_X7_says, by decide +kernel, by decide +kernel, by decide +kernel⟩
theorem wc_X7_ask : Cond.code yX7_ask cX7_ask 3 (some .int) ∈ gTbl := gTbl_of (List.mem_of_getElem? (i := 534) (by decide +kernel)) (by decide +kernel)
theorem pk_X7_ask : MPI yX7_ask cX7_ask 3 (some .int) 2 := ⟨gTbl_of (List.mem_of_getElem? (i := 532) (by decide +kernel)) (by decide +kernel), gTbl_of (List.mem_of_getElem? (i := 533) (by decide +kernel)) (by decide +kernel), in_X7, wc_X7_ask, by decide +kernel, by decide +kernel, by decide +kernel⟩
theorem wc_X7_drop : Cond.code yX7_drop cX7_drop 4 (some .int) ∈ gTbl := gTbl_of (List.mem_of_getElem? (i := 584) (by decide +kernel)) (by decide +kernel)
theorem pk_X7_drop : MPI yX7_drop cX7_drop 4 (some .int) 2 := ⟨gTbl_of (List.mem_of_getElem? (i := 582) (by decide +kernel)) (by decide +kernel), gTbl_of (List.mem_of_getElem? (i := 583) (by decide +kernel)) (by decide +kernel), in_X7, wc_X7_drop, by decide +kernel, by decide +kernel, by decide +kernel⟩
theorem wc_X7_send : Cond.code yX7_send cX7_send 3 (some .int) ∈ gTbl := gTbl_of (List.mem_of_getElem? (i := 593) (by decide +kernel)) (by decide +kernel)
theorem pk_X7_send : MPI yX7_send cX7_send 3 (some .int) 1 := ⟨gTbl_of (List.mem_of_getElem? (i := 591) (by decide +kernel)) (by decide +kernel), gTbl_of (List.mem_of_getElem? (i := 592) (by decide +kernel)) (by decide +kernel), in_X7, wc_X7_send, by decide +kernel, by decide +kernel, by decide +kernel⟩
theorem wc_X7_threshold : Cond.code yX7_threshold cX7_threshold 5 (some .int) ∈ gTbl := gTbl_of (List.mem_of_getElem? (i := 598) (by decide +kernel)) (by decide +kernel)
theorem pk_X7_threshold : MPI yX7_threshold cX7_threshold 5 (some .int) 2 := ⟨gTbl_of (List.mem_of_getElem? (i := 596) (by decide +kernel)) (by decide +kernel), gTbl_of (List.mem_of_getElem? (i := 597) (by decide +kernel)) (by decide +kernel), in_X7, wc_X7_threshold, by decide +kernel, by decide +kernel, by decide +kernel⟩
theorem wc_X7_use : Cond.code yX7_use cX7_use 3 (some .int) ∈ gTbl := gTbl_of (List.mem_of_getElem? (i := 603) (by decide +kernel)) (by decide +kernel)
theorem pk_X7_use : MPI yX7_use cX7_use 3 (some .int) 1 := ⟨gTbl_of (List.mem_of_getElem? (i := 601) (by decide +kernel)) (by decide +kernel), gTbl_of (List.mem_of_getElem? (i := 602) (by decide +kernel)) (by decide +kernel), in_X7, wc_X7_use, by decide +kernel, by decide +kernel, by decide +kernel⟩
theorem wc_X7_undo : Cond.code yX7_undo cX7_undo 1 (some .int) ∈ gTbl := gTbl_of (List.mem_of_getElem? (i := 608) (by decide +kernel)) (by decide +kernel)
theorem pk_X7_undo : MPI yX7_undo cX7_undo 1 (some .int) 0 := ⟨gTbl_of (List.mem_of_getElem? (i := 606) (by decide +kernel)) (by decide +kernel), gTbl_of (List.mem_of_getElem? (i := 607) (by decide +kernel)) (by decide +kernel), in_X7, wc_X7_undo, by decide +kernel, by decide +kernel, by decide +kernel⟩
theorem wc_X7_weight : Cond.code yX7_weight cX7_weight 6 (some .int) ∈ gTbl := gTbl_of (List.mem_of_getElem? (i := 616) (by decide +kernel)) (by decide +kernel)
theorem pk_X7_weight : MPI yX7_weight cX7_weight 6 (some .int) 1 := ⟨gTbl_of (List.mem_of_getElem? (i := 614) (by decide +kernel)) (by decide +kernel), gTbl_of (List.mem_of_getElem? (i := 615) (by decide +kernel)) (by decide +kernel), in_X7, wc_X7_weight, by decide +kernel, by decide +kernel, by decide +kernel⟩
theorem wc_X7_best : Cond.code yX7_best cX7_best 8 (some .int) ∈ gTbl := gTbl_of (List.mem_of_getElem? (i := 625) (by decide +kernel)) (by decide +kernel)
theorem pk_X7_best : MPI yX7_best cX7_best 8 (some .int) 2 := ⟨gTbl_of (List.mem_of_getElem? (i := 623) (by decide +kernel)) (by decide +kernel), gTbl_of (List.mem_of_getElem? (i := 624) (by decide +kernel)) (by decide +kernel), in_X7, wc_X7_best, by decide +kernel, by decide +kernel, by decide +kernel⟩
theorem wc_X7_plan : Cond.code yX7_plan cX7_plan 8 (some .int) ∈ gTbl := gTbl_of (List.mem_of_getElem? (i := 639) (by decide +kernel)) (by decide +kernel)
theorem pk_X7_plan : MPI yX7_plan cX7_plan 8 (some .int) 3 := ⟨gTbl_of (List.mem_of_getElem? (i := 637) (by decide +kernel)) (by decide +kernel), gTbl_of (List.mem_of_getElem? (i := 638) (by decide +kernel)) (by decide +kernel), in_X7, wc_X7_plan, by decide +kernel, by decide +kernel, by decide +kernel⟩
theorem wc_X7_order : Cond.code yX7_order cX7_order 6 (some .int) ∈ gTbl := gTbl_of (List.mem_of_getElem? (i := 652) (by decide +kernel)) (by decide +kernel)
theorem pk_X7_order : MPI yX7_order cX7_order 6 (some .int) 3 := ⟨gTbl_of (List.mem_of_getElem? (i := 650) (by decide +kernel)) (by decide +kernel), gTbl_of (List.mem_of_getElem? (i := 651) (by decide +kernel)) (by decide +kernel), in_X7, wc_X7_order, by decide +kernel, by decide +kernel, by decide +kernel⟩
theorem wc_X7_judge : Cond.code yX7_judge cX7_judge 7 (some .int) ∈ gTbl := gTbl_of (List.mem_of_getElem? (i := 686) (by decide +kernel)) (by decide +kernel)
theorem pk_X7_judge : MPI yX7_judge cX7_judge 7 (some .int) 2 := ⟨gTbl_of (List.mem_of_getElem? (i := 684) (by decide +kernel)) (by decide +kernel), gTbl_of (List.mem_of_getElem? (i := 685) (by decide +kernel)) (by decide +kernel), in_X7, wc_X7_judge, by decide +kernel, by decide +kernel, by decide +kernel⟩
theorem wc_X7_see : Cond.code yX7_see cX7_see 4 (some .int) ∈ gTbl := gTbl_of (List.mem_of_getElem? (i := 694) (by decide +kernel)) (by decide +kernel)
theorem pk_X7_see : MPI yX7_see cX7_see 4 (some .int) 3 := ⟨gTbl_of (List.mem_of_getElem? (i := 692) (by decide +kernel)) (by decide +kernel), gTbl_of (List.mem_of_getElem? (i := 693) (by decide +kernel)) (by decide +kernel), in_X7, wc_X7_see, by decide +kernel, by decide +kernel, by decide +kernel⟩
theorem wc_X7_unsee : Cond.code yX7_unsee cX7_unsee 2 (some .int) ∈ gTbl := gTbl_of (List.mem_of_getElem? (i := 702) (by decide +kernel)) (by decide +kernel)
theorem pk_X7_unsee : MPI yX7_unsee cX7_unsee 2 (some .int) 0 := ⟨gTbl_of (List.mem_of_getElem? (i := 700) (by decide +kernel)) (by decide +kernel), gTbl_of (List.mem_of_getElem? (i := 701) (by decide +kernel)) (by decide +kernel), in_X7, wc_X7_unsee, by decide +kernel, by decide +kernel, by decide +kernel⟩
theorem wc_X7_which : Cond.code yX7_which cX7_which 1 (some .int) ∈ gTbl := gTbl_of (List.mem_of_getElem? (i := 706) (by decide +kernel)) (by decide +kernel)
theorem pk_X7_which : MPI yX7_which cX7_which 1 (some .int) 0 := ⟨gTbl_of (List.mem_of_getElem? (i := 704) (by decide +kernel)) (by decide +kernel), gTbl_of (List.mem_of_getElem? (i := 705) (by decide +kernel)) (by decide +kernel), in_X7, wc_X7_which, by decide +kernel, by decide +kernel, by decide +kernel⟩
theorem wc_X7_share : Cond.code yX7_share cX7_share 7 (some .int) ∈ gTbl := gTbl_of (List.mem_of_getElem? (i := 720) (by decide +kernel)) (by decide +kernel)
theorem pk_X7_share : MPI yX7_share cX7_share 7 (some .int) 2 := ⟨gTbl_of (List.mem_of_getElem? (i := 718) (by decide +kernel)) (by decide +kernel), gTbl_of (List.mem_of_getElem? (i := 719) (by decide +kernel)) (by decide +kernel), in_X7, wc_X7_share, by decide +kernel, by decide +kernel, by decide +kernel⟩
theorem wc_X7_lost : Cond.code yX7_lost cX7_lost 9 (some .int) ∈ gTbl := gTbl_of (List.mem_of_getElem? (i := 734) (by decide +kernel)) (by decide +kernel)
theorem pk_X7_lost : MPI yX7_lost cX7_lost 9 (some .int) 4 := ⟨gTbl_of (List.mem_of_getElem? (i := 732) (by decide +kernel)) (by decide +kernel), gTbl_of (List.mem_of_getElem? (i := 733) (by decide +kernel)) (by decide +kernel), in_X7, wc_X7_lost, by decide +kernel, by decide +kernel, by decide +kernel⟩
theorem wc_X7_seed : Cond.code yX7_seed cX7_seed 5 (some .long) ∈ gTbl := gTbl_of (List.mem_of_getElem? (i := 748) (by decide +kernel)) (by decide +kernel)
theorem pk_X7_seed : MPI yX7_seed cX7_seed 5 (some .long) 1 := ⟨gTbl_of (List.mem_of_getElem? (i := 746) (by decide +kernel)) (by decide +kernel), gTbl_of (List.mem_of_getElem? (i := 747) (by decide +kernel)) (by decide +kernel), in_X7, wc_X7_seed, by decide +kernel, by decide +kernel, by decide +kernel⟩
theorem wc_X7_drawn : Cond.code yX7_drawn cX7_drawn 4 (some .int) ∈ gTbl := gTbl_of (List.mem_of_getElem? (i := 752) (by decide +kernel)) (by decide +kernel)
theorem pk_X7_drawn : MPI yX7_drawn cX7_drawn 4 (some .int) 1 := ⟨gTbl_of (List.mem_of_getElem? (i := 750) (by decide +kernel)) (by decide +kernel), gTbl_of (List.mem_of_getElem? (i := 751) (by decide +kernel)) (by decide +kernel), in_X7, wc_X7_drawn, by decide +kernel, by decide +kernel, by decide +kernel⟩
theorem wc_X7_keep : Cond.code yX7_keep cX7_keep 3 (some .int) ∈ gTbl := gTbl_of (List.mem_of_getElem? (i := 758) (by decide +kernel)) (by decide +kernel)
theorem pk_X7_keep : MPI yX7_keep cX7_keep 3 (some .int) 1 := ⟨gTbl_of (List.mem_of_getElem? (i := 756) (by decide +kernel)) (by decide +kernel), gTbl_of (List.mem_of_getElem? (i := 757) (by decide +kernel)) (by decide +kernel), in_X7, wc_X7_keep, by decide +kernel, by decide +kernel, by decide +kernel⟩
theorem wc_X7_again : Cond.code yX7_again cX7_again 3 (some .int) ∈ gTbl := gTbl_of (List.mem_of_getElem? (i := 763) (by decide +kernel)) (by decide +kernel)
theorem pk_X7_again : MPI yX7_again cX7_again 3 (some .int) 1 := ⟨gTbl_of (List.mem_of_getElem? (i := 761) (by decide +kernel)) (by decide +kernel), gTbl_of (List.mem_of_getElem? (i := 762) (by decide +kernel)) (by decide +kernel), in_X7, wc_X7_again, by decide +kernel, by decide +kernel, by decide +kernel⟩
theorem wc_X7_count : Cond.code yX7_count cX7_count 2 (some .int) ∈ gTbl := gTbl_of (List.mem_of_getElem? (i := 767) (by decide +kernel)) (by decide +kernel)
theorem pk_X7_count : MPI yX7_count cX7_count 2 (some .int) 1 := ⟨gTbl_of (List.mem_of_getElem? (i := 765) (by decide +kernel)) (by decide +kernel), gTbl_of (List.mem_of_getElem? (i := 766) (by decide +kernel)) (by decide +kernel), in_X7, wc_X7_count, by decide +kernel, by decide +kernel, by decide +kernel⟩
theorem wc_X7_isPage : Cond.code yX7_isPage cX7_isPage 1 (some .boolean) ∈ gTbl := gTbl_of (List.mem_of_getElem? (i := 439) (by decide +kernel)) (by decide +kernel)
theorem pk_X7_isPage : MPS yX7_isPage cX7_isPage 1 (some .boolean) 1 := ⟨gTbl_of (List.mem_of_getElem? (i := 438) (by decide +kernel)) (by decide +kernel), in_X7, wc_X7_isPage, by decide +kernel, by decide +kernel, by decide +kernel⟩
theorem wc_X7_netAt : Cond.code yX7_netAt cX7_netAt 2 (some (.object "ShelfFilters$Net")) ∈ gTbl := gTbl_of (List.mem_of_getElem? (i := 541) (by decide +kernel)) (by decide +kernel)
theorem pk_X7_netAt : MPS yX7_netAt cX7_netAt 2 (some (.object "ShelfFilters$Net")) 2 := ⟨gTbl_of (List.mem_of_getElem? (i := 540) (by decide +kernel)) (by decide +kernel), in_X7, wc_X7_netAt, by decide +kernel, by decide +kernel, by decide +kernel⟩
theorem wc_X7_copyRow : Cond.code yX7_copyRow cX7_copyRow 3 none ∈ gTbl := gTbl_of (List.mem_of_getElem? (i := 467) (by decide +kernel)) (by decide +kernel)
theorem pk_X7_copyRow : MPS yX7_copyRow cX7_copyRow 3 none 2 := ⟨gTbl_of (List.mem_of_getElem? (i := 466) (by decide +kernel)) (by decide +kernel), in_X7, wc_X7_copyRow, by decide +kernel, by decide +kernel, by decide +kernel⟩
theorem wc_X7_powerOfTen : Cond.code yX7_powerOfTen cX7_powerOfTen 4 (some .long) ∈ gTbl := gTbl_of (List.mem_of_getElem? (i := 642) (by decide +kernel)) (by decide +kernel)
theorem pk_X7_powerOfTen : MPS yX7_powerOfTen cX7_powerOfTen 4 (some .long) 1 := ⟨gTbl_of (List.mem_of_getElem? (i := 641) (by decide +kernel)) (by decide +kernel), in_X7, wc_X7_powerOfTen, by decide +kernel, by decide +kernel, by decide +kernel⟩
theorem wc_X7_floatBits : Cond.code yX7_floatBits cX7_floatBits 3 (some .int) ∈ gTbl := gTbl_of (List.mem_of_getElem? (i := 620) (by decide +kernel)) (by decide +kernel)
theorem pk_X7_floatBits : MPS yX7_floatBits cX7_floatBits 3 (some .int) 1 := ⟨gTbl_of (List.mem_of_getElem? (i := 619) (by decide +kernel)) (by decide +kernel), in_X7, wc_X7_floatBits, by decide +kernel, by decide +kernel, by decide +kernel⟩
theorem wc_X7_ofFraction : Cond.code yX7_ofFraction cX7_ofFraction 4 (some .int) ∈ gTbl := gTbl_of (List.mem_of_getElem? (i := 727) (by decide +kernel)) (by decide +kernel)
theorem pk_X7_ofFraction : MPS yX7_ofFraction cX7_ofFraction 4 (some .int) 3 := ⟨gTbl_of (List.mem_of_getElem? (i := 726) (by decide +kernel)) (by decide +kernel), in_X7, wc_X7_ofFraction, by decide +kernel, by decide +kernel, by decide +kernel⟩
theorem wc_X7_commonDivisor : Cond.code yX7_commonDivisor cX7_commonDivisor 6 (some .int) ∈ gTbl := gTbl_of (List.mem_of_getElem? (i := 730) (by decide +kernel)) (by decide +kernel)
theorem pk_X7_commonDivisor : MPS yX7_commonDivisor cX7_commonDivisor 6 (some .int) 2 := ⟨gTbl_of (List.mem_of_getElem? (i := 729) (by decide +kernel)) (by decide +kernel), in_X7, wc_X7_commonDivisor, by decide +kernel, by decide +kernel, by decide +kernel⟩
theorem wc_X7_wayWeight : Cond.code yX7_wayWeight cX7_wayWeight 5 (some .int) ∈ gTbl := gTbl_of (List.mem_of_getElem? (i := 744) (by decide +kernel)) (by decide +kernel)
theorem pk_X7_wayWeight : MPI yX7_wayWeight cX7_wayWeight 5 (some .int) 2 := ⟨gTbl_of (List.mem_of_getElem? (i := 743) (by decide +kernel)) (by decide +kernel), gTbl_of (List.mem_of_getElem? (i := 18) (by decide +kernel)) (by decide +kernel), in_X7, wc_X7_wayWeight, by decide +kernel, by decide +kernel, by decide +kernel⟩
theorem wc_X7_findCheapest : Cond.code yX7_findCheapest cX7_findCheapest 7 (some .int) ∈ gTbl := gTbl_of (List.mem_of_getElem? (i := 656) (by decide +kernel)) (by decide +kernel)
theorem pk_X7_findCheapest : MPI yX7_findCheapest cX7_findCheapest 7 (some .int) 2 := ⟨gTbl_of (List.mem_of_getElem? (i := 655) (by decide +kernel)) (by decide +kernel), gTbl_of (List.mem_of_getElem? (i := 14) (by decide +kernel)) (by decide +kernel), in_X7, wc_X7_findCheapest, by decide +kernel, by decide +kernel, by decide +kernel⟩
theorem wc_X7_triedCost : Cond.code yX7_triedCost cX7_triedCost 3 (some .int) ∈ gTbl := gTbl_of (List.mem_of_getElem? (i := 664) (by decide +kernel)) (by decide +kernel)
theorem pk_X7_triedCost : MPI yX7_triedCost cX7_triedCost 3 (some .int) 1 := ⟨gTbl_of (List.mem_of_getElem? (i := 663) (by decide +kernel)) (by decide +kernel), gTbl_of (List.mem_of_getElem? (i := 15) (by decide +kernel)) (by decide +kernel), in_X7, wc_X7_triedCost, by decide +kernel, by decide +kernel, by decide +kernel⟩
theorem wc_X7_holds : Cond.code yX7_holds cX7_holds 7 (some .boolean) ∈ gTbl := gTbl_of (List.mem_of_getElem? (i := 690) (by decide +kernel)) (by decide +kernel)
theorem pk_X7_holds : MPS yX7_holds cX7_holds 7 (some .boolean) 2 := ⟨gTbl_of (List.mem_of_getElem? (i := 689) (by decide +kernel)) (by decide +kernel), in_X7, wc_X7_holds, by decide +kernel, by decide +kernel, by decide +kernel⟩
theorem wc_X8_init : Cond.code yX8_init cX8_init 1 none ∈ gTbl := gTbl_of (List.mem_of_getElem? (i := 776) (by decide +kernel)) (by decide +kernel)
theorem wi_X8_init : Cond.instanceMethod yX8_init ∈ gTbl := gTbl_of (List.mem_of_getElem? (i := 775) (by decide +kernel)) (by decide +kernel)
theorem wc_X8_in : Cond.code yX8_in cX8_in 6 (some .boolean) ∈ gTbl := gTbl_of (List.mem_of_getElem? (i := 885) (by decide +kernel)) (by decide +kernel)
theorem pk_X8_in : MPS yX8_in cX8_in 6 (some .boolean) 3 := ⟨gTbl_of (List.mem_of_getElem? (i := 884) (by decide +kernel)) (by decide +kernel), in_X8, wc_X8_in, by decide +kernel, by decide +kernel, by decide +kernel⟩
theorem wc_X8_has : Cond.code yX8_has cX8_has 2 (some .boolean) ∈ gTbl := gTbl_of (List.mem_of_getElem? (i := 976) (by decide +kernel)) (by decide +kernel)
theorem pk_X8_has : MPS yX8_has cX8_has 2 (some .boolean) 2 := ⟨gTbl_of (List.mem_of_getElem? (i := 975) (by decide +kernel)) (by decide +kernel), in_X8, wc_X8_has, by decide +kernel, by decide +kernel, by decide +kernel⟩
theorem wc_X8_ones : Cond.code yX8_ones cX8_ones 3 (some .int) ∈ gTbl := gTbl_of (List.mem_of_getElem? (i := 1075) (by decide +kernel)) (by decide +kernel)
theorem pk_X8_ones : MPS yX8_ones cX8_ones 3 (some .int) 1 := ⟨gTbl_of (List.mem_of_getElem? (i := 1074) (by decide +kernel)) (by decide +kernel), in_X8, wc_X8_ones, by decide +kernel, by decide +kernel, by decide +kernel⟩
theorem wc_X8_power : Cond.code yX8_power cX8_power 4 (some .int) ∈ gTbl := gTbl_of (List.mem_of_getElem? (i := 1101) (by decide +kernel)) (by decide +kernel)
theorem pk_X8_power : MPS yX8_power cX8_power 4 (some .int) 2 := ⟨gTbl_of (List.mem_of_getElem? (i := 1100) (by decide +kernel)) (by decide +kernel), in_X8, wc_X8_power, by decide +kernel, by decide +kernel, by decide +kernel⟩
theorem wc_X8_layTrial : Cond.code yX8_layTrial cX8_layTrial 2 none ∈ gTbl := gTbl_of (List.mem_of_getElem? (i := 1105) (by decide +kernel)) (by decide +kernel)
theorem pk_X8_layTrial : MPI yX8_layTrial cX8_layTrial 2 none 0 := ⟨gTbl_of (List.mem_of_getElem? (i := 1104) (by decide +kernel)) (by decide +kernel), gTbl_of (List.mem_of_getElem? (i := 47) (by decide +kernel)) (by decide +kernel), in_X8, wc_X8_layTrial, by decide +kernel, by decide +kernel, by decide +kernel⟩
theorem wc_X8_noProxy : Cond.code yX8_noProxy cX8_noProxy 2 (some .boolean) ∈ gTbl := gTbl_of (List.mem_of_getElem? (i := 966) (by decide +kernel)) (by decide +kernel)
theorem pk_X8_noProxy : MPI yX8_noProxy cX8_noProxy 2 (some .boolean) 1 := ⟨gTbl_of (List.mem_of_getElem? (i := 965) (by decide +kernel)) (by decide +kernel), gTbl_of (List.mem_of_getElem? (i := 33) (by decide +kernel)) (by decide +kernel), in_X8, wc_X8_noProxy, by decide +kernel, by decide +kernel, by decide +kernel⟩
theorem wc_X8_noPage : Cond.code yX8_noPage cX8_noPage 1 (some .boolean) ∈ gTbl := gTbl_of (List.mem_of_getElem? (i := 1004) (by decide +kernel)) (by decide +kernel)
theorem pk_X8_noPage : MPS yX8_noPage cX8_noPage 1 (some .boolean) 1 := ⟨gTbl_of (List.mem_of_getElem? (i := 1003) (by decide +kernel)) (by decide +kernel), in_X8, wc_X8_noPage, by decide +kernel, by decide +kernel, by decide +kernel⟩
theorem wc_X8_write : Cond.code yX8_write cX8_write 2 (some .int) ∈ gTbl := gTbl_of (List.mem_of_getElem? (i := 881) (by decide +kernel)) (by decide +kernel)
theorem pk_X8_write : MPI yX8_write cX8_write 2 (some .int) 1 := ⟨gTbl_of (List.mem_of_getElem? (i := 879) (by decide +kernel)) (by decide +kernel), gTbl_of (List.mem_of_getElem? (i := 880) (by decide +kernel)) (by decide +kernel), in_X8, wc_X8_write, by decide +kernel, by decide +kernel, by decide +kernel⟩
theorem wc_X8_wipe : Cond.code yX8_wipe cX8_wipe 2 (some .int) ∈ gTbl := gTbl_of (List.mem_of_getElem? (i := 889) (by decide +kernel)) (by decide +kernel)
theorem pk_X8_wipe : MPI yX8_wipe cX8_wipe 2 (some .int) 0 := ⟨gTbl_of (List.mem_of_getElem? (i := 887) (by decide +kernel)) (by decide +kernel), gTbl_of (List.mem_of_getElem? (i := 888) (by decide +kernel)) (by decide +kernel), in_X8, wc_X8_wipe, by decide +kernel, by decide +kernel, by decide +kernel⟩
theorem wc_X8_isFigure : Cond.code yX8_isFigure cX8_isFigure 4 (some .boolean) ∈ gTbl := gTbl_of (List.mem_of_getElem? (i := 905) (by decide +kernel)) (by decide +kernel)
theorem pk_X8_isFigure : MPI yX8_isFigure cX8_isFigure 4 (some .boolean) 2 := ⟨gTbl_of (List.mem_of_getElem? (i := 904) (by decide +kernel)) (by decide +kernel), gTbl_of (List.mem_of_getElem? (i := 21) (by decide +kernel)) (by decide +kernel), in_X8, wc_X8_isFigure, by decide +kernel, by decide +kernel, by decide +kernel⟩
theorem wc_X8_taken : Cond.code yX8_taken cX8_taken 2 (some .int) ∈ gTbl := gTbl_of (List.mem_of_getElem? (i := 909) (by decide +kernel)) (by decide +kernel)
theorem pk_X8_taken : MPI yX8_taken cX8_taken 2 (some .int) 1 := ⟨gTbl_of (List.mem_of_getElem? (i := 908) (by decide +kernel)) (by decide +kernel), gTbl_of (List.mem_of_getElem? (i := 22) (by decide +kernel)) (by decide +kernel), in_X8, wc_X8_taken, by decide +kernel, by decide +kernel, by decide +kernel⟩
theorem wc_X8_readHead : Cond.code yX8_readHead cX8_readHead 2 (some .boolean) ∈ gTbl := gTbl_of (List.mem_of_getElem? (i := 901) (by decide +kernel)) (by decide +kernel)
theorem pk_X8_readHead : MPI yX8_readHead cX8_readHead 2 (some .boolean) 0 := ⟨gTbl_of (List.mem_of_getElem? (i := 900) (by decide +kernel)) (by decide +kernel), gTbl_of (List.mem_of_getElem? (i := 20) (by decide +kernel)) (by decide +kernel), in_X8, wc_X8_readHead, by decide +kernel, by decide +kernel, by decide +kernel⟩
theorem wc_X8_readFamily : Cond.code yX8_readFamily cX8_readFamily 1 (some .boolean) ∈ gTbl := gTbl_of (List.mem_of_getElem? (i := 917) (by decide +kernel)) (by decide +kernel)
theorem pk_X8_readFamily : MPI yX8_readFamily cX8_readFamily 1 (some .boolean) 0 := ⟨gTbl_of (List.mem_of_getElem? (i := 916) (by decide +kernel)) (by decide +kernel), gTbl_of (List.mem_of_getElem? (i := 24) (by decide +kernel)) (by decide +kernel), in_X8, wc_X8_readFamily, by decide +kernel, by decide +kernel, by decide +kernel⟩
theorem wc_X8_readProxy : Cond.code yX8_readProxy cX8_readProxy 1 (some .boolean) ∈ gTbl := gTbl_of (List.mem_of_getElem? (i := 921) (by decide +kernel)) (by decide +kernel)
theorem pk_X8_readProxy : MPI yX8_readProxy cX8_readProxy 1 (some .boolean) 0 := ⟨gTbl_of (List.mem_of_getElem? (i := 920) (by decide +kernel)) (by decide +kernel), gTbl_of (List.mem_of_getElem? (i := 25) (by decide +kernel)) (by decide +kernel), in_X8, wc_X8_readProxy, by decide +kernel, by decide +kernel, by decide +kernel⟩
theorem wc_X8_hasRoom : Cond.code yX8_hasRoom cX8_hasRoom 2 (some .boolean) ∈ gTbl := gTbl_of (List.mem_of_getElem? (i := 929) (by decide +kernel)) (by decide +kernel)
theorem pk_X8_hasRoom : MPI yX8_hasRoom cX8_hasRoom 2 (some .boolean) 1 := ⟨gTbl_of (List.mem_of_getElem? (i := 928) (by decide +kernel)) (by decide +kernel), gTbl_of (List.mem_of_getElem? (i := 27) (by decide +kernel)) (by decide +kernel), in_X8, wc_X8_hasRoom, by decide +kernel, by decide +kernel, by decide +kernel⟩
theorem wc_X8_mayCome : Cond.code yX8_mayCome cX8_mayCome 7 (some .boolean) ∈ gTbl := gTbl_of (List.mem_of_getElem? (i := 934) (by decide +kernel)) (by decide +kernel)
theorem pk_X8_mayCome : MPI yX8_mayCome cX8_mayCome 7 (some .boolean) 3 := ⟨gTbl_of (List.mem_of_getElem? (i := 933) (by decide +kernel)) (by decide +kernel), gTbl_of (List.mem_of_getElem? (i := 28) (by decide +kernel)) (by decide +kernel), in_X8, wc_X8_mayCome, by decide +kernel, by decide +kernel, by decide +kernel⟩
theorem wc_X8_readShelf : Cond.code yX8_readShelf cX8_readShelf 4 (some .boolean) ∈ gTbl := gTbl_of (List.mem_of_getElem? (i := 925) (by decide +kernel)) (by decide +kernel)
theorem pk_X8_readShelf : MPI yX8_readShelf cX8_readShelf 4 (some .boolean) 0 := ⟨gTbl_of (List.mem_of_getElem? (i := 924) (by decide +kernel)) (by decide +kernel), gTbl_of (List.mem_of_getElem? (i := 26) (by decide +kernel)) (by decide +kernel), in_X8, wc_X8_readShelf, by decide +kernel, by decide +kernel, by decide +kernel⟩
theorem wc_X8_readPart : Cond.code yX8_readPart cX8_readPart 1 (some .boolean) ∈ gTbl := gTbl_of (List.mem_of_getElem? (i := 913) (by decide +kernel)) (by decide +kernel)
theorem pk_X8_readPart : MPI yX8_readPart cX8_readPart 1 (some .boolean) 0 := ⟨gTbl_of (List.mem_of_getElem? (i := 912) (by decide +kernel)) (by decide +kernel), gTbl_of (List.mem_of_getElem? (i := 23) (by decide +kernel)) (by decide +kernel), in_X8, wc_X8_readPart, by decide +kernel, by decide +kernel, by decide +kernel⟩
theorem wc_X8_readNet : Cond.code yX8_readNet cX8_readNet 2 (some .int) ∈ gTbl := gTbl_of (List.mem_of_getElem? (i := 897) (by decide +kernel)) (by decide +kernel)
theorem pk_X8_readNet : MPI yX8_readNet cX8_readNet 2 (some .int) 0 := ⟨gTbl_of (List.mem_of_getElem? (i := 896) (by decide +kernel)) (by decide +kernel), gTbl_of (List.mem_of_getElem? (i := 19) (by decide +kernel)) (by decide +kernel), in_X8, wc_X8_readNet, by decide +kernel, by decide +kernel, by decide +kernel⟩
theorem wc_X8_fault : Cond.code yX8_fault cX8_fault 1 (some .int) ∈ gTbl := gTbl_of (List.mem_of_getElem? (i := 893) (by decide +kernel)) (by decide +kernel)
theorem pk_X8_fault : MPI yX8_fault cX8_fault 1 (some .int) 0 := ⟨gTbl_of (List.mem_of_getElem? (i := 891) (by decide +kernel)) (by decide +kernel), gTbl_of (List.mem_of_getElem? (i := 892) (by decide +kernel)) (by decide +kernel), in_X8, wc_X8_fault, by decide +kernel, by decide +kernel, by decide +kernel⟩
theorem wc_X8_net : Cond.code yX8_net cX8_net 2 (some .int) ∈ gTbl := gTbl_of (List.mem_of_getElem? (i := 942) (by decide +kernel)) (by decide +kernel)
theorem pk_X8_net : MPI yX8_net cX8_net 2 (some .int) 0 := ⟨gTbl_of (List.mem_of_getElem? (i := 940) (by decide +kernel)) (by decide +kernel), gTbl_of (List.mem_of_getElem? (i := 941) (by decide +kernel)) (by decide +kernel), in_X8, wc_X8_net, by decide +kernel, by decide +kernel, by decide +kernel⟩
theorem wc_X8_hashOf : Cond.code yX8_hashOf cX8_hashOf 4 (some .int) ∈ gTbl := gTbl_of (List.mem_of_getElem? (i := 954) (by decide +kernel)) (by decide +kernel)
theorem pk_X8_hashOf : MPI yX8_hashOf cX8_hashOf 4 (some .int) 3 := ⟨gTbl_of (List.mem_of_getElem? (i := 953) (by decide +kernel)) (by decide +kernel), gTbl_of (List.mem_of_getElem? (i := 31) (by decide +kernel)) (by decide +kernel), in_X8, wc_X8_hashOf, by decide +kernel, by decide +kernel, by decide +kernel⟩
theorem wc_X8_filterOf : Cond.code yX8_filterOf cX8_filterOf 5 (some .int) ∈ gTbl := gTbl_of (List.mem_of_getElem? (i := 958) (by decide +kernel)) (by decide +kernel)
theorem pk_X8_filterOf : MPI yX8_filterOf cX8_filterOf 5 (some .int) 2 := ⟨gTbl_of (List.mem_of_getElem? (i := 957) (by decide +kernel)) (by decide +kernel), gTbl_of (List.mem_of_getElem? (i := 32) (by decide +kernel)) (by decide +kernel), in_X8, wc_X8_filterOf, by decide +kernel, by decide +kernel, by decide +kernel⟩
theorem wc_X8_isSaid : Cond.code yX8_isSaid cX8_isSaid 6 (some .boolean) ∈ gTbl := gTbl_of (List.mem_of_getElem? (i := 980) (by decide +kernel)) (by decide +kernel)
theorem pk_X8_isSaid : MPI yX8_isSaid cX8_isSaid 6 (some .boolean) 3 := ⟨gTbl_of (List.mem_of_getElem? (i := 979) (by decide +kernel)) (by decide +kernel), gTbl_of (List.mem_of_getElem? (i := 35) (by decide +kernel)) (by decide +kernel), in_X8, wc_X8_isSaid, by decide +kernel, by decide +kernel, by decide +kernel⟩
theorem wc_X8_summarySays : Cond.code yX8_summarySays cX8_summarySays 4 (some .boolean) ∈ gTbl := gTbl_of (List.mem_of_getElem? (i := 988) (by decide +kernel)) (by decide +kernel)
theorem pk_X8_summarySays : MPI yX8_summarySays cX8_summarySays 4 (some .boolean) 3 := ⟨gTbl_of (List.mem_of_getElem? (i := 987) (by decide +kernel)) (by decide +kernel), gTbl_of (List.mem_of_getElem? (i := 37) (by decide +kernel)) (by decide +kernel), in_X8, wc_X8_summarySays, by decide +kernel, by decide +kernel, by decide +kernel⟩
theorem wc_X8_tally : Cond.code yX8_tally cX8_tally 7 none ∈ gTbl := gTbl_of (List.mem_of_getElem? (i := 950) (by decide +kernel)) (by decide +kernel)
theorem pk_X8_tally : MPI yX8_tally cX8_tally 7 none 4 := ⟨gTbl_of (List.mem_of_getElem? (i := 949) (by decide +kernel)) (by decide +kernel), gTbl_of (List.mem_of_getElem? (i := 30) (by decide +kernel)) (by decide +kernel), in_X8, wc_X8_tally, by decide +kernel, by decide +kernel, by decide +kernel⟩
theorem wc_X8_makeAnew : Cond.code yX8_makeAnew cX8_makeAnew 4 none ∈ gTbl := gTbl_of (List.mem_of_getElem? (i := 946) (by decide +kernel)) (by decide +kernel)
theorem pk_X8_makeAnew : MPI yX8_makeAnew cX8_makeAnew 4 none 2 := ⟨gTbl_of (List.mem_of_getElem? (i := 945) (by decide +kernel)) (by decide +kernel), gTbl_of (List.mem_of_getElem? (i := 29) (by decide +kernel)) (by decide +kernel), in_X8, wc_X8_makeAnew, by decide +kernel, by decide +kernel, by decide +kernel⟩
theorem wc_X8_placeOf : Cond.code yX8_placeOf cX8_placeOf 5 (some .int) ∈ gTbl := gTbl_of (List.mem_of_getElem? (i := 937) (by decide +kernel)) (by decide +kernel)
theorem pk_X8_placeOf : MPS yX8_placeOf cX8_placeOf 5 (some .int) 3 := ⟨gTbl_of (List.mem_of_getElem? (i := 936) (by decide +kernel)) (by decide +kernel), in_X8, wc_X8_placeOf, by decide +kernel, by decide +kernel, by decide +kernel⟩
theorem wc_X8_freshen : Cond.code yX8_freshen cX8_freshen 5 none ∈ gTbl := gTbl_of (List.mem_of_getElem? (i := 1024) (by decide +kernel)) (by decide +kernel)
theorem pk_X8_freshen : MPS yX8_freshen cX8_freshen 5 none 3 := ⟨gTbl_of (List.mem_of_getElem? (i := 1023) (by decide +kernel)) (by decide +kernel), in_X8, wc_X8_freshen, by decide +kernel, by decide +kernel, by decide +kernel⟩
theorem wc_X8_goOut : Cond.code yX8_goOut cX8_goOut 5 none ∈ gTbl := gTbl_of (List.mem_of_getElem? (i := 1040) (by decide +kernel)) (by decide +kernel)
theorem pk_X8_goOut : MPI yX8_goOut cX8_goOut 5 none 3 := ⟨gTbl_of (List.mem_of_getElem? (i := 1039) (by decide +kernel)) (by decide +kernel), gTbl_of (List.mem_of_getElem? (i := 43) (by decide +kernel)) (by decide +kernel), in_X8, wc_X8_goOut, by decide +kernel, by decide +kernel, by decide +kernel⟩
theorem wc_X8_comeTo : Cond.code yX8_comeTo cX8_comeTo 4 none ∈ gTbl := gTbl_of (List.mem_of_getElem? (i := 1036) (by decide +kernel)) (by decide +kernel)
theorem pk_X8_comeTo : MPI yX8_comeTo cX8_comeTo 4 none 3 := ⟨gTbl_of (List.mem_of_getElem? (i := 1035) (by decide +kernel)) (by decide +kernel), gTbl_of (List.mem_of_getElem? (i := 42) (by decide +kernel)) (by decide +kernel), in_X8, wc_X8_comeTo, by decide +kernel, by decide +kernel, by decide +kernel⟩
theorem wc_X8_sendOn : Cond.code yX8_sendOn cX8_sendOn 3 none ∈ gTbl := gTbl_of (List.mem_of_getElem? (i := 1032) (by decide +kernel)) (by decide +kernel)
theorem pk_X8_sendOn : MPI yX8_sendOn cX8_sendOn 3 none 2 := ⟨gTbl_of (List.mem_of_getElem? (i := 1031) (by decide +kernel)) (by decide +kernel), gTbl_of (List.mem_of_getElem? (i := 41) (by decide +kernel)) (by decide +kernel), in_X8, wc_X8_sendOn, by decide +kernel, by decide +kernel, by decide +kernel⟩
theorem wc_X8_sendDue : Cond.code yX8_sendDue cX8_sendDue 3 none ∈ gTbl := gTbl_of (List.mem_of_getElem? (i := 1028) (by decide +kernel)) (by decide +kernel)
theorem pk_X8_sendDue : MPI yX8_sendDue cX8_sendDue 3 none 1 := ⟨gTbl_of (List.mem_of_getElem? (i := 1027) (by decide +kernel)) (by decide +kernel), gTbl_of (List.mem_of_getElem? (i := 40) (by decide +kernel)) (by decide +kernel), in_X8, wc_X8_sendDue, by decide +kernel, by decide +kernel, by decide +kernel⟩
theorem wc_X8_askOn : Cond.code yX8_askOn cX8_askOn 8 (some .int) ∈ gTbl := gTbl_of (List.mem_of_getElem? (i := 1021) (by decide +kernel)) (by decide +kernel)
theorem pk_X8_askOn : MPI yX8_askOn cX8_askOn 8 (some .int) 3 := ⟨gTbl_of (List.mem_of_getElem? (i := 1020) (by decide +kernel)) (by decide +kernel), gTbl_of (List.mem_of_getElem? (i := 39) (by decide +kernel)) (by decide +kernel), in_X8, wc_X8_askOn, by decide +kernel, by decide +kernel, by decide +kernel⟩
theorem wc_X8_dropOn : Cond.code yX8_dropOn cX8_dropOn 4 none ∈ gTbl := gTbl_of (List.mem_of_getElem? (i := 1048) (by decide +kernel)) (by decide +kernel)
theorem pk_X8_dropOn : MPI yX8_dropOn cX8_dropOn 4 none 3 := ⟨gTbl_of (List.mem_of_getElem? (i := 1047) (by decide +kernel)) (by decide +kernel), gTbl_of (List.mem_of_getElem? (i := 44) (by decide +kernel)) (by decide +kernel), in_X8, wc_X8_dropOn, by decide +kernel, by decide +kernel, by decide +kernel⟩
theorem wc_X8_useOn : Cond.code yX8_useOn cX8_useOn 4 none ∈ gTbl := gTbl_of (List.mem_of_getElem? (i := 1064) (by decide +kernel)) (by decide +kernel)
theorem pk_X8_useOn : MPI yX8_useOn cX8_useOn 4 none 2 := ⟨gTbl_of (List.mem_of_getElem? (i := 1063) (by decide +kernel)) (by decide +kernel), gTbl_of (List.mem_of_getElem? (i := 45) (by decide +kernel)) (by decide +kernel), in_X8, wc_X8_useOn, by decide +kernel, by decide +kernel, by decide +kernel⟩
theorem wc_X8_shelfOf : Cond.code yX8_shelfOf cX8_shelfOf 4 (some .int) ∈ gTbl := gTbl_of (List.mem_of_getElem? (i := 969) (by decide +kernel)) (by decide +kernel)
theorem pk_X8_shelfOf : MPS yX8_shelfOf cX8_shelfOf 4 (some .int) 2 := ⟨gTbl_of (List.mem_of_getElem? (i := 968) (by decide +kernel)) (by decide +kernel), in_X8, wc_X8_shelfOf, by decide +kernel, by decide +kernel, by decide +kernel⟩
theorem wc_X8_falseOnes : Cond.code yX8_falseOnes cX8_falseOnes 6 (some .int) ∈ gTbl := gTbl_of (List.mem_of_getElem? (i := 973) (by decide +kernel)) (by decide +kernel)
theorem pk_X8_falseOnes : MPI yX8_falseOnes cX8_falseOnes 6 (some .int) 3 := ⟨gTbl_of (List.mem_of_getElem? (i := 972) (by decide +kernel)) (by decide +kernel), gTbl_of (List.mem_of_getElem? (i := 34) (by decide +kernel)) (by decide +kernel), in_X8, wc_X8_falseOnes, by decide +kernel, by decide +kernel, by decide +kernel⟩
theorem wc_X8_denied : Cond.code yX8_denied cX8_denied 4 (some .int) ∈ gTbl := gTbl_of (List.mem_of_getElem? (i := 984) (by decide +kernel)) (by decide +kernel)
theorem pk_X8_denied : MPI yX8_denied cX8_denied 4 (some .int) 1 := ⟨gTbl_of (List.mem_of_getElem? (i := 983) (by decide +kernel)) (by decide +kernel), gTbl_of (List.mem_of_getElem? (i := 36) (by decide +kernel)) (by decide +kernel), in_X8, wc_X8_denied, by decide +kernel, by decide +kernel, by decide +kernel⟩
theorem wc_X8_proxy : Cond.code yX8_proxy cX8_proxy 4 (some .int) ∈ gTbl := gTbl_of (List.mem_of_getElem? (i := 962) (by decide +kernel)) (by decide +kernel)
theorem pk_X8_proxy : MPI yX8_proxy cX8_proxy 4 (some .int) 2 := ⟨gTbl_of (List.mem_of_getElem? (i := 960) (by decide +kernel)) (by decide +kernel), gTbl_of (List.mem_of_getElem? (i := 961) (by decide +kernel)) (by decide +kernel), in_X8, wc_X8_proxy, by decide +kernel, by decide +kernel, by decide +kernel⟩
theorem wc_X8_page : Cond.code yX8_page cX8_page 3 (some .int) ∈ gTbl := gTbl_of (List.mem_of_getElem? (i := 992) (by decide +kernel)) (by decide +kernel)
theorem pk_X8_page : MPI yX8_page cX8_page 3 (some .int) 2 := ⟨gTbl_of (List.mem_of_getElem? (i := 990) (by decide +kernel)) (by decide +kernel), gTbl_of (List.mem_of_getElem? (i := 991) (by decide +kernel)) (by decide +kernel), in_X8, wc_X8_page, by decide +kernel, by decide +kernel, by decide +kernel⟩
theorem wc_X8_counter : Cond.code yX8_counter cX8_counter 3 (some .int) ∈ gTbl := gTbl_of (List.mem_of_getElem? (i := 997) (by decide +kernel)) (by decide +kernel)
theorem pk_X8_counter : MPI yX8_counter cX8_counter 3 (some .int) 2 := ⟨gTbl_of (List.mem_of_getElem? (i := 995) (by decide +kernel)) (by decide +kernel), gTbl_of (List.mem_of_getElem? (i := 996) (by decide +kernel)) (by decide +kernel), in_X8, wc_X8_counter, by decide +kernel, by decide +kernel, by decide +kernel⟩
theorem wc_X8_hash : Cond.code yX8_hash cX8_hash 4 (some .int) ∈ gTbl := gTbl_of (List.mem_of_getElem? (i := 1001) (by decide +kernel)) (by decide +kernel)
theorem pk_X8_hash : MPI yX8_hash cX8_hash 4 (some .int) 3 := ⟨gTbl_of (List.mem_of_getElem? (i := 999) (by decide +kernel)) (by decide +kernel), gTbl_of (List.mem_of_getElem? (i := 1000) (by decide +kernel)) (by decide +kernel), in_X8, wc_X8_hash, by decide +kernel, by decide +kernel, by decide +kernel⟩
theorem wc_X8_says : Cond.code yX8_says cX8_says 4 (some .int) ∈ gTbl := gTbl_of (List.mem_of_getElem? (i := 1009) (by decide +kernel)) (by decide +kernel)
theorem pk_X8_says : MPI yX8_says cX8_says 4 (some .int) 3 := ⟨gTbl_of (List.mem_of_getElem? (i := 1007) (by decide +kernel)) (by decide +kernel), gTbl_of (List.mem_of_getElem? (i := 1008) (by decide +kernel)) (by decide +kernel), in_X8, wc_X8_says, by decide +kernel, by decide +kernel, by decide +kernel⟩
theorem wc_X8_note : Cond.code yX8_note cX8_note 2 none ∈ gTbl := gTbl_of (List.mem_of_getElem? (i := 1017) (by decide +kernel)) (by decide +kernel)
theorem pk_X8_note : MPI yX8_note cX8_note 2 none 0 := ⟨gTbl_of (List.mem_of_getElem? (i := 1016) (by decide +kernel)) (by decide +kernel), gTbl_of (List.mem_of_getElem? (i := 38) (by decide +kernel)) (by decide +kernel), in_X8, wc_X8_note, by decide +kernel, by decide +kernel, by decide +kernel⟩
theorem wc_X8_ask : Cond.code yX8_ask cX8_ask 3 (some .int) ∈ gTbl := gTbl_of (List.mem_of_getElem? (i := 1013) (by decide +kernel)) (by decide +kernel)
theorem pk_X8_ask : MPI yX8_ask cX8_ask 3 (some .int) 2 := ⟨gTbl_of (List.mem_of_getElem? (i := 1011) (by decide +kernel)) (by decide +kernel), gTbl_of (List.mem_of_getElem? (i := 1012) (by decide +kernel)) (by decide +kernel), in_X8, wc_X8_ask, by decide +kernel, by decide +kernel, by decide +kernel⟩
theorem wc_X8_drop : Cond.code yX8_drop cX8_drop 4 (some .int) ∈ gTbl := gTbl_of (List.mem_of_getElem? (i := 1044) (by decide +kernel)) (by decide +kernel)
theorem pk_X8_drop : MPI yX8_drop cX8_drop 4 (some .int) 2 := ⟨gTbl_of (List.mem_of_getElem? (i := 1042) (by decide +kernel)) (by decide +kernel), gTbl_of (List.mem_of_getElem? (i := 1043) (by decide +kernel)) (by decide +kernel), in_X8, wc_X8_drop, by decide +kernel, by decide +kernel, by decide +kernel⟩
theorem wc_X8_send : Cond.code yX8_send cX8_send 2 (some .int) ∈ gTbl := gTbl_of (List.mem_of_getElem? (i := 1052) (by decide +kernel)) (by decide +kernel)
theorem pk_X8_send : MPI yX8_send cX8_send 2 (some .int) 1 := ⟨gTbl_of (List.mem_of_getElem? (i := 1050) (by decide +kernel)) (by decide +kernel), gTbl_of (List.mem_of_getElem? (i := 1051) (by decide +kernel)) (by decide +kernel), in_X8, wc_X8_send, by decide +kernel, by decide +kernel, by decide +kernel⟩
theorem wc_X8_threshold : Cond.code yX8_threshold cX8_threshold 4 (some .int) ∈ gTbl := gTbl_of (List.mem_of_getElem? (i := 1056) (by decide +kernel)) (by decide +kernel)
theorem pk_X8_threshold : MPI yX8_threshold cX8_threshold 4 (some .int) 2 := ⟨gTbl_of (List.mem_of_getElem? (i := 1054) (by decide +kernel)) (by decide +kernel), gTbl_of (List.mem_of_getElem? (i := 1055) (by decide +kernel)) (by decide +kernel), in_X8, wc_X8_threshold, by decide +kernel, by decide +kernel, by decide +kernel⟩
theorem wc_X8_use : Cond.code yX8_use cX8_use 3 (some .int) ∈ gTbl := gTbl_of (List.mem_of_getElem? (i := 1060) (by decide +kernel)) (by decide +kernel)
theorem pk_X8_use : MPI yX8_use cX8_use 3 (some .int) 1 := ⟨gTbl_of (List.mem_of_getElem? (i := 1058) (by decide +kernel)) (by decide +kernel), gTbl_of (List.mem_of_getElem? (i := 1059) (by decide +kernel)) (by decide +kernel), in_X8, wc_X8_use, by decide +kernel, by decide +kernel, by decide +kernel⟩
theorem wc_X8_undo : Cond.code yX8_undo cX8_undo 2 (some .int) ∈ gTbl := gTbl_of (List.mem_of_getElem? (i := 1068) (by decide +kernel)) (by decide +kernel)
theorem pk_X8_undo : MPI yX8_undo cX8_undo 2 (some .int) 0 := ⟨gTbl_of (List.mem_of_getElem? (i := 1066) (by decide +kernel)) (by decide +kernel), gTbl_of (List.mem_of_getElem? (i := 1067) (by decide +kernel)) (by decide +kernel), in_X8, wc_X8_undo, by decide +kernel, by decide +kernel, by decide +kernel⟩
theorem wc_X8_weight : Cond.code yX8_weight cX8_weight 3 (some .int) ∈ gTbl := gTbl_of (List.mem_of_getElem? (i := 1072) (by decide +kernel)) (by decide +kernel)
theorem pk_X8_weight : MPI yX8_weight cX8_weight 3 (some .int) 1 := ⟨gTbl_of (List.mem_of_getElem? (i := 1070) (by decide +kernel)) (by decide +kernel), gTbl_of (List.mem_of_getElem? (i := 1071) (by decide +kernel)) (by decide +kernel), in_X8, wc_X8_weight, by decide +kernel, by decide +kernel, by decide +kernel⟩
theorem wc_X8_madeBy : Cond.code yX8_madeBy cX8_madeBy 6 (some .int) ∈ gTbl := gTbl_of (List.mem_of_getElem? (i := 1093) (by decide +kernel)) (by decide +kernel)
theorem pk_X8_madeBy : MPI yX8_madeBy cX8_madeBy 6 (some .int) 2 := ⟨gTbl_of (List.mem_of_getElem? (i := 1092) (by decide +kernel)) (by decide +kernel), gTbl_of (List.mem_of_getElem? (i := 46) (by decide +kernel)) (by decide +kernel), in_X8, wc_X8_madeBy, by decide +kernel, by decide +kernel, by decide +kernel⟩
theorem wc_X8_best : Cond.code yX8_best cX8_best 8 (some .int) ∈ gTbl := gTbl_of (List.mem_of_getElem? (i := 1089) (by decide +kernel)) (by decide +kernel)
theorem pk_X8_best : MPI yX8_best cX8_best 8 (some .int) 2 := ⟨gTbl_of (List.mem_of_getElem? (i := 1087) (by decide +kernel)) (by decide +kernel), gTbl_of (List.mem_of_getElem? (i := 1088) (by decide +kernel)) (by decide +kernel), in_X8, wc_X8_best, by decide +kernel, by decide +kernel, by decide +kernel⟩
theorem wc_X8_costOf : Cond.code yX8_costOf cX8_costOf 1 (some .int) ∈ gTbl := gTbl_of (List.mem_of_getElem? (i := 1108) (by decide +kernel)) (by decide +kernel)
theorem pk_X8_costOf : MPS yX8_costOf cX8_costOf 1 (some .int) 1 := ⟨gTbl_of (List.mem_of_getElem? (i := 1107) (by decide +kernel)) (by decide +kernel), in_X8, wc_X8_costOf, by decide +kernel, by decide +kernel, by decide +kernel⟩
theorem wc_X8_plan : Cond.code yX8_plan cX8_plan 5 (some .int) ∈ gTbl := gTbl_of (List.mem_of_getElem? (i := 1097) (by decide +kernel)) (by decide +kernel)
theorem pk_X8_plan : MPI yX8_plan cX8_plan 5 (some .int) 3 := ⟨gTbl_of (List.mem_of_getElem? (i := 1095) (by decide +kernel)) (by decide +kernel), gTbl_of (List.mem_of_getElem? (i := 1096) (by decide +kernel)) (by decide +kernel), in_X8, wc_X8_plan, by decide +kernel, by decide +kernel, by decide +kernel⟩
theorem wc_X8_layOrder : Cond.code yX8_layOrder cX8_layOrder 10 none ∈ gTbl := gTbl_of (List.mem_of_getElem? (i := 1121) (by decide +kernel)) (by decide +kernel)
theorem pk_X8_layOrder : MPI yX8_layOrder cX8_layOrder 10 none 3 := ⟨gTbl_of (List.mem_of_getElem? (i := 1120) (by decide +kernel)) (by decide +kernel), gTbl_of (List.mem_of_getElem? (i := 49) (by decide +kernel)) (by decide +kernel), in_X8, wc_X8_layOrder, by decide +kernel, by decide +kernel, by decide +kernel⟩
theorem wc_X8_layBest : Cond.code yX8_layBest cX8_layBest 8 none ∈ gTbl := gTbl_of (List.mem_of_getElem? (i := 1117) (by decide +kernel)) (by decide +kernel)
theorem pk_X8_layBest : MPI yX8_layBest cX8_layBest 8 none 2 := ⟨gTbl_of (List.mem_of_getElem? (i := 1116) (by decide +kernel)) (by decide +kernel), gTbl_of (List.mem_of_getElem? (i := 48) (by decide +kernel)) (by decide +kernel), in_X8, wc_X8_layBest, by decide +kernel, by decide +kernel, by decide +kernel⟩
theorem wc_X8_order : Cond.code yX8_order cX8_order 5 (some .int) ∈ gTbl := gTbl_of (List.mem_of_getElem? (i := 1112) (by decide +kernel)) (by decide +kernel)
theorem pk_X8_order : MPI yX8_order cX8_order 5 (some .int) 3 := ⟨gTbl_of (List.mem_of_getElem? (i := 1110) (by decide +kernel)) (by decide +kernel), gTbl_of (List.mem_of_getElem? (i := 1111) (by decide +kernel)) (by decide +kernel), in_X8, wc_X8_order, by decide +kernel, by decide +kernel, by decide +kernel⟩
theorem wc_X8_does : Cond.code yX8_does cX8_does 7 (some .boolean) ∈ gTbl := gTbl_of (List.mem_of_getElem? (i := 1133) (by decide +kernel)) (by decide +kernel)
theorem pk_X8_does : MPI yX8_does cX8_does 7 (some .boolean) 1 := ⟨gTbl_of (List.mem_of_getElem? (i := 1132) (by decide +kernel)) (by decide +kernel), gTbl_of (List.mem_of_getElem? (i := 50) (by decide +kernel)) (by decide +kernel), in_X8, wc_X8_does, by decide +kernel, by decide +kernel, by decide +kernel⟩
theorem wc_X8_longPower : Cond.code yX8_longPower cX8_longPower 6 (some .long) ∈ gTbl := gTbl_of (List.mem_of_getElem? (i := 1129) (by decide +kernel)) (by decide +kernel)
theorem pk_X8_longPower : MPS yX8_longPower cX8_longPower 6 (some .long) 2 := ⟨gTbl_of (List.mem_of_getElem? (i := 1128) (by decide +kernel)) (by decide +kernel), in_X8, wc_X8_longPower, by decide +kernel, by decide +kernel, by decide +kernel⟩
theorem wc_X8_judge : Cond.code yX8_judge cX8_judge 5 (some .int) ∈ gTbl := gTbl_of (List.mem_of_getElem? (i := 1125) (by decide +kernel)) (by decide +kernel)
theorem pk_X8_judge : MPI yX8_judge cX8_judge 5 (some .int) 2 := ⟨gTbl_of (List.mem_of_getElem? (i := 1123) (by decide +kernel)) (by decide +kernel), gTbl_of (List.mem_of_getElem? (i := 1124) (by decide +kernel)) (by decide +kernel), in_X8, wc_X8_judge, by decide +kernel, by decide +kernel, by decide +kernel⟩
theorem wc_X8_see : Cond.code yX8_see cX8_see 4 (some .int) ∈ gTbl := gTbl_of (List.mem_of_getElem? (i := 1137) (by decide +kernel)) (by decide +kernel)
theorem pk_X8_see : MPI yX8_see cX8_see 4 (some .int) 3 := ⟨gTbl_of (List.mem_of_getElem? (i := 1135) (by decide +kernel)) (by decide +kernel), gTbl_of (List.mem_of_getElem? (i := 1136) (by decide +kernel)) (by decide +kernel), in_X8, wc_X8_see, by decide +kernel, by decide +kernel, by decide +kernel⟩
theorem wc_X8_unsee : Cond.code yX8_unsee cX8_unsee 2 (some .int) ∈ gTbl := gTbl_of (List.mem_of_getElem? (i := 1142) (by decide +kernel)) (by decide +kernel)
theorem pk_X8_unsee : MPI yX8_unsee cX8_unsee 2 (some .int) 0 := ⟨gTbl_of (List.mem_of_getElem? (i := 1140) (by decide +kernel)) (by decide +kernel), gTbl_of (List.mem_of_getElem? (i := 1141) (by decide +kernel)) (by decide +kernel), in_X8, wc_X8_unsee, by decide +kernel, by decide +kernel, by decide +kernel⟩
theorem wc_X8_isSo : Cond.code yX8_isSo cX8_isSo 5 (some .boolean) ∈ gTbl := gTbl_of (List.mem_of_getElem? (i := 1150) (by decide +kernel)) (by decide +kernel)
theorem pk_X8_isSo : MPI yX8_isSo cX8_isSo 5 (some .boolean) 2 := ⟨gTbl_of (List.mem_of_getElem? (i := 1149) (by decide +kernel)) (by decide +kernel), gTbl_of (List.mem_of_getElem? (i := 51) (by decide +kernel)) (by decide +kernel), in_X8, wc_X8_isSo, by decide +kernel, by decide +kernel, by decide +kernel⟩
theorem wc_X8_which : Cond.code yX8_which cX8_which 5 (some .int) ∈ gTbl := gTbl_of (List.mem_of_getElem? (i := 1146) (by decide +kernel)) (by decide +kernel)
theorem pk_X8_which : MPI yX8_which cX8_which 5 (some .int) 0 := ⟨gTbl_of (List.mem_of_getElem? (i := 1144) (by decide +kernel)) (by decide +kernel), gTbl_of (List.mem_of_getElem? (i := 1145) (by decide +kernel)) (by decide +kernel), in_X8, wc_X8_which, by decide +kernel, by decide +kernel, by decide +kernel⟩
theorem wc_X8_divisor : Cond.code yX8_divisor cX8_divisor 5 (some .int) ∈ gTbl := gTbl_of (List.mem_of_getElem? (i := 1167) (by decide +kernel)) (by decide +kernel)
theorem pk_X8_divisor : MPS yX8_divisor cX8_divisor 5 (some .int) 2 := ⟨gTbl_of (List.mem_of_getElem? (i := 1166) (by decide +kernel)) (by decide +kernel), in_X8, wc_X8_divisor, by decide +kernel, by decide +kernel, by decide +kernel⟩
theorem wc_X8_fraction : Cond.code yX8_fraction cX8_fraction 4 (some .int) ∈ gTbl := gTbl_of (List.mem_of_getElem? (i := 1164) (by decide +kernel)) (by decide +kernel)
theorem pk_X8_fraction : MPS yX8_fraction cX8_fraction 4 (some .int) 3 := ⟨gTbl_of (List.mem_of_getElem? (i := 1163) (by decide +kernel)) (by decide +kernel), in_X8, wc_X8_fraction, by decide +kernel, by decide +kernel, by decide +kernel⟩
theorem wc_X8_factorial : Cond.code yX8_factorial cX8_factorial 3 (some .int) ∈ gTbl := gTbl_of (List.mem_of_getElem? (i := 1157) (by decide +kernel)) (by decide +kernel)
theorem pk_X8_factorial : MPS yX8_factorial cX8_factorial 3 (some .int) 1 := ⟨gTbl_of (List.mem_of_getElem? (i := 1156) (by decide +kernel)) (by decide +kernel), in_X8, wc_X8_factorial, by decide +kernel, by decide +kernel, by decide +kernel⟩
theorem wc_X8_hadBy : Cond.code yX8_hadBy cX8_hadBy 4 (some .int) ∈ gTbl := gTbl_of (List.mem_of_getElem? (i := 1161) (by decide +kernel)) (by decide +kernel)
theorem pk_X8_hadBy : MPI yX8_hadBy cX8_hadBy 4 (some .int) 1 := ⟨gTbl_of (List.mem_of_getElem? (i := 1160) (by decide +kernel)) (by decide +kernel), gTbl_of (List.mem_of_getElem? (i := 52) (by decide +kernel)) (by decide +kernel), in_X8, wc_X8_hadBy, by decide +kernel, by decide +kernel, by decide +kernel⟩
theorem wc_X8_share : Cond.code yX8_share cX8_share 6 (some .int) ∈ gTbl := gTbl_of (List.mem_of_getElem? (i := 1154) (by decide +kernel)) (by decide +kernel)
theorem pk_X8_share : MPI yX8_share cX8_share 6 (some .int) 2 := ⟨gTbl_of (List.mem_of_getElem? (i := 1152) (by decide +kernel)) (by decide +kernel), gTbl_of (List.mem_of_getElem? (i := 1153) (by decide +kernel)) (by decide +kernel), in_X8, wc_X8_share, by decide +kernel, by decide +kernel, by decide +kernel⟩
theorem wc_X8_isRight : Cond.code yX8_isRight cX8_isRight 7 (some .boolean) ∈ gTbl := gTbl_of (List.mem_of_getElem? (i := 1176) (by decide +kernel)) (by decide +kernel)
theorem pk_X8_isRight : MPI yX8_isRight cX8_isRight 7 (some .boolean) 3 := ⟨gTbl_of (List.mem_of_getElem? (i := 1175) (by decide +kernel)) (by decide +kernel), gTbl_of (List.mem_of_getElem? (i := 53) (by decide +kernel)) (by decide +kernel), in_X8, wc_X8_isRight, by decide +kernel, by decide +kernel, by decide +kernel⟩
theorem wc_X8_lost : Cond.code yX8_lost cX8_lost 7 (some .int) ∈ gTbl := gTbl_of (List.mem_of_getElem? (i := 1171) (by decide +kernel)) (by decide +kernel)
theorem pk_X8_lost : MPI yX8_lost cX8_lost 7 (some .int) 4 := ⟨gTbl_of (List.mem_of_getElem? (i := 1169) (by decide +kernel)) (by decide +kernel), gTbl_of (List.mem_of_getElem? (i := 1170) (by decide +kernel)) (by decide +kernel), in_X8, wc_X8_lost, by decide +kernel, by decide +kernel, by decide +kernel⟩
theorem wc_X8_seed : Cond.code yX8_seed cX8_seed 5 (some .long) ∈ gTbl := gTbl_of (List.mem_of_getElem? (i := 1180) (by decide +kernel)) (by decide +kernel)
theorem pk_X8_seed : MPI yX8_seed cX8_seed 5 (some .long) 1 := ⟨gTbl_of (List.mem_of_getElem? (i := 1178) (by decide +kernel)) (by decide +kernel), gTbl_of (List.mem_of_getElem? (i := 1179) (by decide +kernel)) (by decide +kernel), in_X8, wc_X8_seed, by decide +kernel, by decide +kernel, by decide +kernel⟩
theorem wc_X8_drawn : Cond.code yX8_drawn cX8_drawn 4 (some .int) ∈ gTbl := gTbl_of (List.mem_of_getElem? (i := 1184) (by decide +kernel)) (by decide +kernel)
theorem pk_X8_drawn : MPI yX8_drawn cX8_drawn 4 (some .int) 1 := ⟨gTbl_of (List.mem_of_getElem? (i := 1182) (by decide +kernel)) (by decide +kernel), gTbl_of (List.mem_of_getElem? (i := 1183) (by decide +kernel)) (by decide +kernel), in_X8, wc_X8_drawn, by decide +kernel, by decide +kernel, by decide +kernel⟩
theorem wc_X8_keep : Cond.code yX8_keep cX8_keep 3 (some .int) ∈ gTbl := gTbl_of (List.mem_of_getElem? (i := 1191) (by decide +kernel)) (by decide +kernel)
theorem pk_X8_keep : MPI yX8_keep cX8_keep 3 (some .int) 1 := ⟨gTbl_of (List.mem_of_getElem? (i := 1189) (by decide +kernel)) (by decide +kernel), gTbl_of (List.mem_of_getElem? (i := 1190) (by decide +kernel)) (by decide +kernel), in_X8, wc_X8_keep, by decide +kernel, by decide +kernel, by decide +kernel⟩
theorem wc_X8_again : Cond.code yX8_again cX8_again 3 (some .int) ∈ gTbl := gTbl_of (List.mem_of_getElem? (i := 1195) (by decide +kernel)) (by decide +kernel)
theorem pk_X8_again : MPI yX8_again cX8_again 3 (some .int) 1 := ⟨gTbl_of (List.mem_of_getElem? (i := 1193) (by decide +kernel)) (by decide +kernel), gTbl_of (List.mem_of_getElem? (i := 1194) (by decide +kernel)) (by decide +kernel), in_X8, wc_X8_again, by decide +kernel, by decide +kernel, by decide +kernel⟩
theorem wc_X8_onShelves : Cond.code yX8_onShelves cX8_onShelves 3 (some .int) ∈ gTbl := gTbl_of (List.mem_of_getElem? (i := 1203) (by decide +kernel)) (by decide +kernel)
theorem pk_X8_onShelves : MPI yX8_onShelves cX8_onShelves 3 (some .int) 0 := ⟨gTbl_of (List.mem_of_getElem? (i := 1202) (by decide +kernel)) (by decide +kernel), gTbl_of (List.mem_of_getElem? (i := 54) (by decide +kernel)) (by decide +kernel), in_X8, wc_X8_onShelves, by decide +kernel, by decide +kernel, by decide +kernel⟩
theorem wc_X8_count : Cond.code yX8_count cX8_count 2 (some .int) ∈ gTbl := gTbl_of (List.mem_of_getElem? (i := 1199) (by decide +kernel)) (by decide +kernel)
theorem pk_X8_count : MPI yX8_count cX8_count 2 (some .int) 1 := ⟨gTbl_of (List.mem_of_getElem? (i := 1197) (by decide +kernel)) (by decide +kernel), gTbl_of (List.mem_of_getElem? (i := 1198) (by decide +kernel)) (by decide +kernel), in_X8, wc_X8_count, by decide +kernel, by decide +kernel, by decide +kernel⟩
theorem wc_Jxf58ca_isNaN_12338 : Cond.code yJxf58ca_isNaN_12338 cJxf58ca_isNaN_12338 1 (some .boolean) ∈ gTbl := gTbl_of (List.mem_of_getElem? (i := 1081) (by decide +kernel)) (by decide +kernel)
theorem pk_Jxf58ca_isNaN_12338 : MPS yJxf58ca_isNaN_12338 cJxf58ca_isNaN_12338 1 (some .boolean) 1 := ⟨gTbl_of (List.mem_of_getElem? (i := 1080) (by decide +kernel)) (by decide +kernel), in_Jxf58ca, wc_Jxf58ca_isNaN_12338, by decide +kernel, by decide +kernel, by decide +kernel⟩
theorem wc_Jxf58ca_floatToIntBits_5c35a : Cond.code yJxf58ca_floatToIntBits_5c35a cJxf58ca_floatToIntBits_5c35a 1 (some .int) ∈ gTbl := gTbl_of (List.mem_of_getElem? (i := 1078) (by decide +kernel)) (by decide +kernel)
theorem pk_Jxf58ca_floatToIntBits_5c35a : MPS yJxf58ca_floatToIntBits_5c35a cJxf58ca_floatToIntBits_5c35a 1 (some .int) 1 := ⟨gTbl_of (List.mem_of_getElem? (i := 1077) (by decide +kernel)) (by decide +kernel), in_Jxf58ca, wc_Jxf58ca_floatToIntBits_5c35a, by decide +kernel, by decide +kernel, by decide +kernel⟩
theorem wc_J6_bitCount_0f7a4 : Cond.code yJ6_bitCount_0f7a4 cJ6_bitCount_0f7a4 1 (some .int) ∈ gTbl := gTbl_of (List.mem_of_getElem? (i := 501) (by decide +kernel)) (by decide +kernel)
theorem pk_J6_bitCount_0f7a4 : MPS yJ6_bitCount_0f7a4 cJ6_bitCount_0f7a4 1 (some .int) 1 := ⟨gTbl_of (List.mem_of_getElem? (i := 500) (by decide +kernel)) (by decide +kernel), in_J6, wc_J6_bitCount_0f7a4, by decide +kernel, by decide +kernel, by decide +kernel⟩
theorem wc_J9_min_7cf53 : Cond.code yJ9_min_7cf53 cJ9_min_7cf53 2 (some .int) ∈ gTbl := gTbl_of (List.mem_of_getElem? (i := 545) (by decide +kernel)) (by decide +kernel)
theorem pk_J9_min_7cf53 : MPS yJ9_min_7cf53 cJ9_min_7cf53 2 (some .int) 2 := ⟨gTbl_of (List.mem_of_getElem? (i := 544) (by decide +kernel)) (by decide +kernel), in_J9, wc_J9_min_7cf53, by decide +kernel, by decide +kernel, by decide +kernel⟩
theorem st_floatToRawIntBits : Cond.static ⟨"java/lang/Float", "floatToRawIntBits", "(F)I"⟩ ∈ gTbl := gTbl_of (List.mem_of_getElem? (i := 1083) (by decide +kernel)) (by decide +kernel)
theorem oi_inst : Cond.instanceMethod objectInit ∈ gTbl := gTbl_of (List.mem_of_getElem? (i := 74) (by decide +kernel)) (by decide +kernel)
theorem oi_code : Cond.code objectInit ⟨#[0xb1]⟩ 1 none ∈ gTbl := gTbl_of (List.mem_of_getElem? (i := 75) (by decide +kernel)) (by decide +kernel)
theorem cp_0 : CPk 0 RX0 TX0 6 tyX0 := ⟨rfl, fun w h => gTbl_of ((show ∀ w ∈ u_ws RX0 TX0 6, w ∈ lw_tbl by decide +kernel) w h) ((show ∀ w ∈ u_ws RX0 TX0 6, goodWord w = true by decide +kernel) w h), tyX0_ok, nmX0⟩
theorem iw_0 : ∀ w ∈ wsX00, w ∈ gTbl := cp_0.2.1
theorem cp_1 : CPk 1 RX1 TX1 7 tyX1 := ⟨rfl, fun w h => gTbl_of ((show ∀ w ∈ u_ws RX1 TX1 7, w ∈ lw_tbl by decide +kernel) w h) ((show ∀ w ∈ u_ws RX1 TX1 7, goodWord w = true by decide +kernel) w h), tyX1_ok, nmX1⟩
theorem iw_1 : ∀ w ∈ wsX10, w ∈ gTbl := cp_1.2.1
theorem cp_2 : CPk 2 RX2 TX2 2 tyX2 := ⟨rfl, fun w h => gTbl_of ((show ∀ w ∈ u_ws RX2 TX2 2, w ∈ lw_tbl by decide +kernel) w h) ((show ∀ w ∈ u_ws RX2 TX2 2, goodWord w = true by decide +kernel) w h), tyX2_ok, nmX2⟩
theorem iw_2 : ∀ w ∈ wsX20, w ∈ gTbl := cp_2.2.1
theorem cp_3 : CPk 3 RX3 TX3 3 tyX3 := ⟨rfl, fun w h => gTbl_of ((show ∀ w ∈ u_ws RX3 TX3 3, w ∈ lw_tbl by decide +kernel) w h) ((show ∀ w ∈ u_ws RX3 TX3 3, goodWord w = true by decide +kernel) w h), tyX3_ok, nmX3⟩
theorem iw_3 : ∀ w ∈ wsX30, w ∈ gTbl := cp_3.2.1
theorem cp_4 : CPk 4 RX4 TX4 7 tyX4 := ⟨rfl, fun w h => gTbl_of ((show ∀ w ∈ u_ws RX4 TX4 7, w ∈ lw_tbl by decide +kernel) w h) ((show ∀ w ∈ u_ws RX4 TX4 7, goodWord w = true by decide +kernel) w h), tyX4_ok, nmX4⟩
theorem iw_4 : ∀ w ∈ wsX40, w ∈ gTbl := cp_4.2.1
theorem cp_5 : CPk 5 RX5 TX5 4 tyX5 := ⟨rfl, fun w h => gTbl_of ((show ∀ w ∈ u_ws RX5 TX5 4, w ∈ lw_tbl by decide +kernel) w h) ((show ∀ w ∈ u_ws RX5 TX5 4, goodWord w = true by decide +kernel) w h), tyX5_ok, nmX5⟩
theorem iw_5 : ∀ w ∈ wsX50, w ∈ gTbl := cp_5.2.1
theorem cp_6 : CPk 6 RX6 TX6 5 tyX6 := ⟨rfl, fun w h => gTbl_of ((show ∀ w ∈ u_ws RX6 TX6 5, w ∈ lw_tbl by decide +kernel) w h) ((show ∀ w ∈ u_ws RX6 TX6 5, goodWord w = true by decide +kernel) w h), tyX6_ok, nmX6⟩
theorem iw_6 : ∀ w ∈ wsX60, w ∈ gTbl := cp_6.2.1
theorem cp_7 : CPk 7 RX7 TX7 10 tyX7 := ⟨rfl, fun w h => gTbl_of ((show ∀ w ∈ u_ws RX7 TX7 10, w ∈ lw_tbl by decide +kernel) w h) ((show ∀ w ∈ u_ws RX7 TX7 10, goodWord w = true by decide +kernel) w h), tyX7_ok, nmX7⟩
theorem iw_7 : ∀ w ∈ wsX70, w ∈ gTbl := cp_7.2.1
theorem cp_8 : CPk 8 RX8 TX8 33 tyX8 := ⟨rfl, fun w h => gTbl_of ((show ∀ w ∈ u_ws RX8 TX8 33, w ∈ lw_tbl by decide +kernel) w h) ((show ∀ w ∈ u_ws RX8 TX8 33, goodWord w = true by decide +kernel) w h), tyX8_ok, nmX8⟩
theorem iw_8 : ∀ w ∈ wsX80, w ∈ gTbl := cp_8.2.1
