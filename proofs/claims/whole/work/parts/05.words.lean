theorem gw_code {y : MethodName} {c : ByteArray} {n : Nat} {r : Option FieldType} (h : Cond.code y c n r ∈ tables_1) : Cond.code y c n r ∈ GW := gw_t h rfl
theorem mF_RX6_10 : Cond.fieldLink RX6 10 RX6 "rules" "LNothingLeft$Rules;" ∈ GW := gw_t (List.mem_of_getElem? (i := 344) (by decide +kernel)) (by decide +kernel)
theorem mF_RX6_16 : Cond.fieldLink RX6 16 RX6 "otherRules" "LNothingLeft$Rules;" ∈ GW := gw_t (List.mem_of_getElem? (i := 345) (by decide +kernel)) (by decide +kernel)
theorem mF_RX6_22 : Cond.fieldLink RX6 22 RX6 "reader" "LNothingLeft$Reader;" ∈ GW := gw_t (List.mem_of_getElem? (i := 346) (by decide +kernel)) (by decide +kernel)
theorem mF_RX6_26 : Cond.fieldLink RX6 26 RX6 "textFault" "I" ∈ GW := gw_t (List.mem_of_getElem? (i := 347) (by decide +kernel)) (by decide +kernel)
theorem mF_RX6_33 : Cond.fieldLink RX6 33 RX6 "kitchen" "LNothingLeft$Kitchen;" ∈ GW := gw_t (List.mem_of_getElem? (i := 348) (by decide +kernel)) (by decide +kernel)
theorem mF_RX6_37 : Cond.fieldLink RX6 37 RX6 "images" "[LNothingLeft$Kitchen;" ∈ GW := gw_t (List.mem_of_getElem? (i := 349) (by decide +kernel)) (by decide +kernel)
theorem mF_RX6_41 : Cond.fieldLink RX6 41 RX6 "imageKept" "[Z" ∈ GW := gw_t (List.mem_of_getElem? (i := 350) (by decide +kernel)) (by decide +kernel)
theorem mF_RX6_45 : Cond.fieldLink RX6 45 RX6 "rowByHand" "[I" ∈ GW := gw_t (List.mem_of_getElem? (i := 351) (by decide +kernel)) (by decide +kernel)
theorem mF_RX6_49 : Cond.fieldLink RX6 49 RX6 "rowDays" "I" ∈ GW := gw_t (List.mem_of_getElem? (i := 352) (by decide +kernel)) (by decide +kernel)
theorem mF_RX6_55 : Cond.fieldLink RX6 55 RX6 "walk" "LNothingLeft$Walk;" ∈ GW := gw_t (List.mem_of_getElem? (i := 353) (by decide +kernel)) (by decide +kernel)
theorem mF_RX6_62 : Cond.fieldLink RX6 62 RX6 "search" "LNothingLeft$Search;" ∈ GW := gw_t (List.mem_of_getElem? (i := 354) (by decide +kernel)) (by decide +kernel)
theorem mF_RX6_69 : Cond.fieldLink RX6 69 RX6 "sheets" "LNothingLeft$Sheets;" ∈ GW := gw_t (List.mem_of_getElem? (i := 355) (by decide +kernel)) (by decide +kernel)
theorem mF_RX6_73 : Cond.fieldLink RX6 73 RX6 "tornFault" "I" ∈ GW := gw_t (List.mem_of_getElem? (i := 356) (by decide +kernel)) (by decide +kernel)
theorem mF_RX6_76 : Cond.fieldLink RX6 76 RX1 "length" "I" ∈ GW := gw_t (List.mem_of_getElem? (i := 137) (by decide +kernel)) (by decide +kernel)
theorem mF_RX6_79 : Cond.fieldLink RX6 79 RX1 "tape" "[B" ∈ GW := gw_t (List.mem_of_getElem? (i := 136) (by decide +kernel)) (by decide +kernel)
theorem mF_RX6_87 : Cond.fieldLink RX6 87 RX1 "faultFound" "I" ∈ GW := gw_t (List.mem_of_getElem? (i := 142) (by decide +kernel)) (by decide +kernel)
theorem mF_RX6_90 : Cond.fieldLink RX6 90 RX1 "faultPlace" "I" ∈ GW := gw_t (List.mem_of_getElem? (i := 144) (by decide +kernel)) (by decide +kernel)
theorem mF_RX6_93 : Cond.fieldLink RX6 93 RX1 "told" "LNothingLeft$Rules;" ∈ GW := gw_t (List.mem_of_getElem? (i := 140) (by decide +kernel)) (by decide +kernel)
theorem mF_RX6_107 : Cond.fieldLink RX6 107 RX2 "keeps" "[I" ∈ GW := gw_t (List.mem_of_getElem? (i := 42) (by decide +kernel)) (by decide +kernel)
theorem mF_RX6_110 : Cond.fieldLink RX6 110 RX2 "pack" "[I" ∈ GW := gw_t (List.mem_of_getElem? (i := 46) (by decide +kernel)) (by decide +kernel)
theorem mF_RX6_113 : Cond.fieldLink RX6 113 RX2 "price" "[I" ∈ GW := gw_t (List.mem_of_getElem? (i := 50) (by decide +kernel)) (by decide +kernel)
theorem mF_RX6_119 : Cond.fieldLink RX6 119 RX2 "leaves" "[I" ∈ GW := gw_t (List.mem_of_getElem? (i := 77) (by decide +kernel)) (by decide +kernel)
theorem mF_RX6_122 : Cond.fieldLink RX6 122 RX2 "wants" "[I" ∈ GW := gw_t (List.mem_of_getElem? (i := 74) (by decide +kernel)) (by decide +kernel)
theorem mF_RX6_125 : Cond.fieldLink RX6 125 RX2 "kind" "[I" ∈ GW := gw_t (List.mem_of_getElem? (i := 58) (by decide +kernel)) (by decide +kernel)
theorem mF_RX6_128 : Cond.fieldLink RX6 128 RX2 "likes" "[I" ∈ GW := gw_t (List.mem_of_getElem? (i := 62) (by decide +kernel)) (by decide +kernel)
theorem mF_RX6_131 : Cond.fieldLink RX6 131 RX2 "wont" "[I" ∈ GW := gw_t (List.mem_of_getElem? (i := 66) (by decide +kernel)) (by decide +kernel)
theorem mF_RX6_134 : Cond.fieldLink RX6 134 RX2 "soupUnits" "[I" ∈ GW := gw_t (List.mem_of_getElem? (i := 69) (by decide +kernel)) (by decide +kernel)
theorem mF_RX6_141 : Cond.fieldLink RX6 141 RX2 "chances" "[I" ∈ GW := gw_t (List.mem_of_getElem? (i := 91) (by decide +kernel)) (by decide +kernel)
theorem mF_RX6_144 : Cond.fieldLink RX6 144 RX2 "daysBetween" "I" ∈ GW := gw_t (List.mem_of_getElem? (i := 81) (by decide +kernel)) (by decide +kernel)
theorem mF_RX6_147 : Cond.fieldLink RX6 147 RX2 "shops" "I" ∈ GW := gw_t (List.mem_of_getElem? (i := 85) (by decide +kernel)) (by decide +kernel)
theorem mF_RX6_150 : Cond.fieldLink RX6 150 RX2 "outs" "I" ∈ GW := gw_t (List.mem_of_getElem? (i := 88) (by decide +kernel)) (by decide +kernel)
theorem mF_RX6_157 : Cond.fieldLink RX6 157 RX0 "units" "[I" ∈ GW := gw_t (List.mem_of_getElem? (i := 193) (by decide +kernel)) (by decide +kernel)
theorem mF_RX6_174 : Cond.fieldLink RX6 174 RX0 "eatenToday" "I" ∈ GW := gw_t (List.mem_of_getElem? (i := 201) (by decide +kernel)) (by decide +kernel)
theorem mF_RX6_184 : Cond.fieldLink RX6 184 RX0 "date" "I" ∈ GW := gw_t (List.mem_of_getElem? (i := 199) (by decide +kernel)) (by decide +kernel)
theorem mF_RX6_187 : Cond.fieldLink RX6 187 RX0 "paid" "I" ∈ GW := gw_t (List.mem_of_getElem? (i := 204) (by decide +kernel)) (by decide +kernel)
theorem mF_RX6_190 : Cond.fieldLink RX6 190 RX0 "thrown" "I" ∈ GW := gw_t (List.mem_of_getElem? (i := 207) (by decide +kernel)) (by decide +kernel)
theorem mF_RX6_193 : Cond.fieldLink RX6 193 RX0 "liked" "I" ∈ GW := gw_t (List.mem_of_getElem? (i := 211) (by decide +kernel)) (by decide +kernel)
theorem mF_RX6_199 : Cond.fieldLink RX6 199 RX0 "eatenLast" "[I" ∈ GW := gw_t (List.mem_of_getElem? (i := 195) (by decide +kernel)) (by decide +kernel)
theorem mF_RX6_213 : Cond.fieldLink RX6 213 RX5 "why" "I" ∈ GW := gw_t (List.mem_of_getElem? (i := 242) (by decide +kernel)) (by decide +kernel)
theorem mF_RX6_216 : Cond.fieldLink RX6 216 RX5 "behind" "LNothingLeft$Kitchen;" ∈ GW := gw_t (List.mem_of_getElem? (i := 240) (by decide +kernel)) (by decide +kernel)
theorem mF_RX6_246 : Cond.fieldLink RX6 246 RX3 "rows" "I" ∈ GW := gw_t (List.mem_of_getElem? (i := 263) (by decide +kernel)) (by decide +kernel)
theorem mF_RX6_249 : Cond.fieldLink RX6 249 RX3 "bestThrown" "I" ∈ GW := gw_t (List.mem_of_getElem? (i := 268) (by decide +kernel)) (by decide +kernel)
theorem mF_RX6_252 : Cond.fieldLink RX6 252 RX3 "bestPaid" "I" ∈ GW := gw_t (List.mem_of_getElem? (i := 270) (by decide +kernel)) (by decide +kernel)
theorem mF_RX6_255 : Cond.fieldLink RX6 255 RX3 "bestLiked" "I" ∈ GW := gw_t (List.mem_of_getElem? (i := 272) (by decide +kernel)) (by decide +kernel)
theorem mF_RX6_258 : Cond.fieldLink RX6 258 RX3 "rowsAsGood" "I" ∈ GW := gw_t (List.mem_of_getElem? (i := 266) (by decide +kernel)) (by decide +kernel)
theorem mF_RX6_261 : Cond.fieldLink RX6 261 RX3 "bestRow" "[I" ∈ GW := gw_t (List.mem_of_getElem? (i := 274) (by decide +kernel)) (by decide +kernel)
theorem mF_RX6_264 : Cond.fieldLink RX6 264 RX3 "fairestFed" "I" ∈ GW := gw_t (List.mem_of_getElem? (i := 277) (by decide +kernel)) (by decide +kernel)
theorem mF_RX6_267 : Cond.fieldLink RX6 267 RX3 "fairestRow" "[I" ∈ GW := gw_t (List.mem_of_getElem? (i := 279) (by decide +kernel)) (by decide +kernel)
theorem mF_RX6_270 : Cond.fieldLink RX6 270 RX3 "surestWeight" "I" ∈ GW := gw_t (List.mem_of_getElem? (i := 281) (by decide +kernel)) (by decide +kernel)
theorem mF_RX6_273 : Cond.fieldLink RX6 273 RX3 "surestRow" "[I" ∈ GW := gw_t (List.mem_of_getElem? (i := 283) (by decide +kernel)) (by decide +kernel)
theorem mF_RX6_276 : Cond.fieldLink RX6 276 RX3 "rowsClosing" "I" ∈ GW := gw_t (List.mem_of_getElem? (i := 285) (by decide +kernel)) (by decide +kernel)
theorem mF_RX6_279 : Cond.fieldLink RX6 279 RX3 "suppersClosing" "I" ∈ GW := gw_t (List.mem_of_getElem? (i := 287) (by decide +kernel)) (by decide +kernel)
theorem mF_RX6_282 : Cond.fieldLink RX6 282 RX2 "suppers" "I" ∈ GW := gw_t (List.mem_of_getElem? (i := 56) (by decide +kernel)) (by decide +kernel)
theorem mF_RX6_285 : Cond.fieldLink RX6 285 RX3 "closingRow" "[I" ∈ GW := gw_t (List.mem_of_getElem? (i := 289) (by decide +kernel)) (by decide +kernel)
theorem mF_RX6_292 : Cond.fieldLink RX6 292 RX2 "things" "I" ∈ GW := gw_t (List.mem_of_getElem? (i := 40) (by decide +kernel)) (by decide +kernel)
theorem mF_RX6_308 : Cond.fieldLink RX6 308 RX4 "cellCount" "[I" ∈ GW := gw_t (List.mem_of_getElem? (i := 335) (by decide +kernel)) (by decide +kernel)
theorem mF_RX0_9 : Cond.fieldLink RX0 9 RX0 "units" "[I" ∈ GW := gw_t (List.mem_of_getElem? (i := 192) (by decide +kernel)) (by decide +kernel)
theorem mF_RX0_15 : Cond.fieldLink RX0 15 RX0 "eatenLast" "[I" ∈ GW := gw_t (List.mem_of_getElem? (i := 194) (by decide +kernel)) (by decide +kernel)
theorem mF_RX0_18 : Cond.fieldLink RX0 18 RX0 "taken" "[I" ∈ GW := gw_t (List.mem_of_getElem? (i := 212) (by decide +kernel)) (by decide +kernel)
theorem mF_RX0_24 : Cond.fieldLink RX0 24 RX0 "date" "I" ∈ GW := gw_t (List.mem_of_getElem? (i := 196) (by decide +kernel)) (by decide +kernel)
theorem mF_RX0_28 : Cond.fieldLink RX0 28 RX0 "eatenToday" "I" ∈ GW := gw_t (List.mem_of_getElem? (i := 200) (by decide +kernel)) (by decide +kernel)
theorem mF_RX0_34 : Cond.fieldLink RX0 34 RX0 "paid" "I" ∈ GW := gw_t (List.mem_of_getElem? (i := 202) (by decide +kernel)) (by decide +kernel)
theorem mF_RX0_37 : Cond.fieldLink RX0 37 RX0 "thrown" "I" ∈ GW := gw_t (List.mem_of_getElem? (i := 205) (by decide +kernel)) (by decide +kernel)
theorem mF_RX0_40 : Cond.fieldLink RX0 40 RX0 "liked" "I" ∈ GW := gw_t (List.mem_of_getElem? (i := 209) (by decide +kernel)) (by decide +kernel)
theorem mF_RX0_59 : Cond.fieldLink RX0 59 RX2 "daysBetween" "I" ∈ GW := gw_t (List.mem_of_getElem? (i := 82) (by decide +kernel)) (by decide +kernel)
theorem mF_RX0_62 : Cond.fieldLink RX0 62 RX2 "things" "I" ∈ GW := gw_t (List.mem_of_getElem? (i := 39) (by decide +kernel)) (by decide +kernel)
theorem mF_RX0_73 : Cond.fieldLink RX0 73 RX2 "kind" "[I" ∈ GW := gw_t (List.mem_of_getElem? (i := 59) (by decide +kernel)) (by decide +kernel)
theorem mF_RX0_98 : Cond.fieldLink RX0 98 RX2 "pack" "[I" ∈ GW := gw_t (List.mem_of_getElem? (i := 47) (by decide +kernel)) (by decide +kernel)
theorem mF_RX0_118 : Cond.fieldLink RX0 118 RX2 "leaves" "[I" ∈ GW := gw_t (List.mem_of_getElem? (i := 78) (by decide +kernel)) (by decide +kernel)
theorem mF_RX0_121 : Cond.fieldLink RX0 121 RX2 "price" "[I" ∈ GW := gw_t (List.mem_of_getElem? (i := 52) (by decide +kernel)) (by decide +kernel)
theorem mF_RX0_124 : Cond.fieldLink RX0 124 RX2 "likes" "[I" ∈ GW := gw_t (List.mem_of_getElem? (i := 63) (by decide +kernel)) (by decide +kernel)
theorem mF_RX0_127 : Cond.fieldLink RX0 127 RX2 "keeps" "[I" ∈ GW := gw_t (List.mem_of_getElem? (i := 44) (by decide +kernel)) (by decide +kernel)
theorem mF_RX1_9 : Cond.fieldLink RX1 9 RX1 "tape" "[B" ∈ GW := gw_t (List.mem_of_getElem? (i := 135) (by decide +kernel)) (by decide +kernel)
theorem mF_RX1_18 : Cond.fieldLink RX1 18 RX1 "told" "LNothingLeft$Rules;" ∈ GW := gw_t (List.mem_of_getElem? (i := 139) (by decide +kernel)) (by decide +kernel)
theorem mF_RX1_22 : Cond.fieldLink RX1 22 RX1 "firstUse" "[I" ∈ GW := gw_t (List.mem_of_getElem? (i := 151) (by decide +kernel)) (by decide +kernel)
theorem mF_RX1_33 : Cond.fieldLink RX1 33 RX1 "token" "I" ∈ GW := gw_t (List.mem_of_getElem? (i := 146) (by decide +kernel)) (by decide +kernel)
theorem mF_RX1_40 : Cond.fieldLink RX1 40 RX1 "faultFound" "I" ∈ GW := gw_t (List.mem_of_getElem? (i := 141) (by decide +kernel)) (by decide +kernel)
theorem mF_RX1_46 : Cond.fieldLink RX1 46 RX1 "at" "I" ∈ GW := gw_t (List.mem_of_getElem? (i := 145) (by decide +kernel)) (by decide +kernel)
theorem mF_RX1_49 : Cond.fieldLink RX1 49 RX1 "againTold" "Z" ∈ GW := gw_t (List.mem_of_getElem? (i := 149) (by decide +kernel)) (by decide +kernel)
theorem mF_RX1_53 : Cond.fieldLink RX1 53 RX1 "shopTold" "Z" ∈ GW := gw_t (List.mem_of_getElem? (i := 150) (by decide +kernel)) (by decide +kernel)
theorem mF_RX1_59 : Cond.fieldLink RX1 59 RX1 "faultPlace" "I" ∈ GW := gw_t (List.mem_of_getElem? (i := 143) (by decide +kernel)) (by decide +kernel)
theorem mF_RX1_62 : Cond.fieldLink RX1 62 RX2 "things" "I" ∈ GW := gw_t (List.mem_of_getElem? (i := 38) (by decide +kernel)) (by decide +kernel)
theorem mF_RX1_69 : Cond.fieldLink RX1 69 RX1 "length" "I" ∈ GW := gw_t (List.mem_of_getElem? (i := 138) (by decide +kernel)) (by decide +kernel)
theorem mF_RX1_72 : Cond.fieldLink RX1 72 RX1 "start" "I" ∈ GW := gw_t (List.mem_of_getElem? (i := 147) (by decide +kernel)) (by decide +kernel)
theorem mF_RX1_75 : Cond.fieldLink RX1 75 RX1 "number" "I" ∈ GW := gw_t (List.mem_of_getElem? (i := 148) (by decide +kernel)) (by decide +kernel)
theorem mF_RX1_140 : Cond.fieldLink RX1 140 RX2 "keeps" "[I" ∈ GW := gw_t (List.mem_of_getElem? (i := 43) (by decide +kernel)) (by decide +kernel)
theorem mF_RX1_143 : Cond.fieldLink RX1 143 RX2 "pack" "[I" ∈ GW := gw_t (List.mem_of_getElem? (i := 48) (by decide +kernel)) (by decide +kernel)
theorem mF_RX1_146 : Cond.fieldLink RX1 146 RX2 "price" "[I" ∈ GW := gw_t (List.mem_of_getElem? (i := 51) (by decide +kernel)) (by decide +kernel)
theorem mF_RX1_152 : Cond.fieldLink RX1 152 RX2 "suppers" "I" ∈ GW := gw_t (List.mem_of_getElem? (i := 55) (by decide +kernel)) (by decide +kernel)
theorem mF_RX1_155 : Cond.fieldLink RX1 155 RX2 "kind" "[I" ∈ GW := gw_t (List.mem_of_getElem? (i := 60) (by decide +kernel)) (by decide +kernel)
theorem mF_RX1_161 : Cond.fieldLink RX1 161 RX2 "wants" "[I" ∈ GW := gw_t (List.mem_of_getElem? (i := 75) (by decide +kernel)) (by decide +kernel)
theorem mF_RX1_170 : Cond.fieldLink RX1 170 RX2 "leaves" "[I" ∈ GW := gw_t (List.mem_of_getElem? (i := 79) (by decide +kernel)) (by decide +kernel)
theorem mF_RX1_182 : Cond.fieldLink RX1 182 RX2 "soupUnits" "[I" ∈ GW := gw_t (List.mem_of_getElem? (i := 70) (by decide +kernel)) (by decide +kernel)
theorem mF_RX1_188 : Cond.fieldLink RX1 188 RX2 "soupThings" "[I" ∈ GW := gw_t (List.mem_of_getElem? (i := 72) (by decide +kernel)) (by decide +kernel)
theorem mF_RX1_202 : Cond.fieldLink RX1 202 RX2 "likes" "[I" ∈ GW := gw_t (List.mem_of_getElem? (i := 64) (by decide +kernel)) (by decide +kernel)
theorem mF_RX1_205 : Cond.fieldLink RX1 205 RX2 "wont" "[I" ∈ GW := gw_t (List.mem_of_getElem? (i := 67) (by decide +kernel)) (by decide +kernel)
theorem mF_RX1_207 : Cond.fieldLink RX1 207 RX2 "daysBetween" "I" ∈ GW := gw_t (List.mem_of_getElem? (i := 83) (by decide +kernel)) (by decide +kernel)
theorem mF_RX1_210 : Cond.fieldLink RX1 210 RX2 "shops" "I" ∈ GW := gw_t (List.mem_of_getElem? (i := 86) (by decide +kernel)) (by decide +kernel)
theorem mF_RX1_216 : Cond.fieldLink RX1 216 RX2 "outs" "I" ∈ GW := gw_t (List.mem_of_getElem? (i := 89) (by decide +kernel)) (by decide +kernel)
theorem mF_RX1_219 : Cond.fieldLink RX1 219 RX2 "chances" "[I" ∈ GW := gw_t (List.mem_of_getElem? (i := 92) (by decide +kernel)) (by decide +kernel)
theorem mF_RX2_9 : Cond.fieldLink RX2 9 RX2 "keeps" "[I" ∈ GW := gw_t (List.mem_of_getElem? (i := 41) (by decide +kernel)) (by decide +kernel)
theorem mF_RX2_15 : Cond.fieldLink RX2 15 RX2 "pack" "[I" ∈ GW := gw_t (List.mem_of_getElem? (i := 45) (by decide +kernel)) (by decide +kernel)
theorem mF_RX2_18 : Cond.fieldLink RX2 18 RX2 "price" "[I" ∈ GW := gw_t (List.mem_of_getElem? (i := 49) (by decide +kernel)) (by decide +kernel)
theorem mF_RX2_21 : Cond.fieldLink RX2 21 RX2 "kind" "[I" ∈ GW := gw_t (List.mem_of_getElem? (i := 57) (by decide +kernel)) (by decide +kernel)
theorem mF_RX2_24 : Cond.fieldLink RX2 24 RX2 "likes" "[I" ∈ GW := gw_t (List.mem_of_getElem? (i := 61) (by decide +kernel)) (by decide +kernel)
theorem mF_RX2_27 : Cond.fieldLink RX2 27 RX2 "wont" "[I" ∈ GW := gw_t (List.mem_of_getElem? (i := 65) (by decide +kernel)) (by decide +kernel)
theorem mF_RX2_30 : Cond.fieldLink RX2 30 RX2 "soupUnits" "[I" ∈ GW := gw_t (List.mem_of_getElem? (i := 68) (by decide +kernel)) (by decide +kernel)
theorem mF_RX2_33 : Cond.fieldLink RX2 33 RX2 "soupThings" "[I" ∈ GW := gw_t (List.mem_of_getElem? (i := 71) (by decide +kernel)) (by decide +kernel)
theorem mF_RX2_36 : Cond.fieldLink RX2 36 RX2 "wants" "[I" ∈ GW := gw_t (List.mem_of_getElem? (i := 73) (by decide +kernel)) (by decide +kernel)
theorem mF_RX2_39 : Cond.fieldLink RX2 39 RX2 "leaves" "[I" ∈ GW := gw_t (List.mem_of_getElem? (i := 76) (by decide +kernel)) (by decide +kernel)
theorem mF_RX2_42 : Cond.fieldLink RX2 42 RX2 "chances" "[I" ∈ GW := gw_t (List.mem_of_getElem? (i := 90) (by decide +kernel)) (by decide +kernel)
theorem mF_RX2_48 : Cond.fieldLink RX2 48 RX2 "things" "I" ∈ GW := gw_t (List.mem_of_getElem? (i := 37) (by decide +kernel)) (by decide +kernel)
theorem mF_RX2_52 : Cond.fieldLink RX2 52 RX2 "suppers" "I" ∈ GW := gw_t (List.mem_of_getElem? (i := 53) (by decide +kernel)) (by decide +kernel)
theorem mF_RX2_59 : Cond.fieldLink RX2 59 RX2 "daysBetween" "I" ∈ GW := gw_t (List.mem_of_getElem? (i := 80) (by decide +kernel)) (by decide +kernel)
theorem mF_RX2_62 : Cond.fieldLink RX2 62 RX2 "shops" "I" ∈ GW := gw_t (List.mem_of_getElem? (i := 84) (by decide +kernel)) (by decide +kernel)
theorem mF_RX2_65 : Cond.fieldLink RX2 65 RX2 "outs" "I" ∈ GW := gw_t (List.mem_of_getElem? (i := 87) (by decide +kernel)) (by decide +kernel)
theorem mF_RX2_91 : Cond.fieldLink RX2 91 RX0 "thrown" "I" ∈ GW := gw_t (List.mem_of_getElem? (i := 208) (by decide +kernel)) (by decide +kernel)
theorem mF_RX3_12 : Cond.fieldLink RX3 12 RX3 "steps" "[LNothingLeft$Kitchen;" ∈ GW := gw_t (List.mem_of_getElem? (i := 259) (by decide +kernel)) (by decide +kernel)
theorem mF_RX3_18 : Cond.fieldLink RX3 18 RX3 "places" "[I" ∈ GW := gw_t (List.mem_of_getElem? (i := 260) (by decide +kernel)) (by decide +kernel)
theorem mF_RX3_25 : Cond.fieldLink RX3 25 RX3 "walk" "LNothingLeft$Walk;" ∈ GW := gw_t (List.mem_of_getElem? (i := 261) (by decide +kernel)) (by decide +kernel)
theorem mF_RX3_29 : Cond.fieldLink RX3 29 RX3 "bestRow" "[I" ∈ GW := gw_t (List.mem_of_getElem? (i := 273) (by decide +kernel)) (by decide +kernel)
theorem mF_RX3_32 : Cond.fieldLink RX3 32 RX3 "fairestRow" "[I" ∈ GW := gw_t (List.mem_of_getElem? (i := 278) (by decide +kernel)) (by decide +kernel)
theorem mF_RX3_35 : Cond.fieldLink RX3 35 RX3 "surestRow" "[I" ∈ GW := gw_t (List.mem_of_getElem? (i := 282) (by decide +kernel)) (by decide +kernel)
theorem mF_RX3_38 : Cond.fieldLink RX3 38 RX3 "closingRow" "[I" ∈ GW := gw_t (List.mem_of_getElem? (i := 288) (by decide +kernel)) (by decide +kernel)
theorem mF_RX3_69 : Cond.fieldLink RX3 69 RX3 "rows" "I" ∈ GW := gw_t (List.mem_of_getElem? (i := 262) (by decide +kernel)) (by decide +kernel)
theorem mF_RX3_73 : Cond.fieldLink RX3 73 RX3 "surestWeight" "I" ∈ GW := gw_t (List.mem_of_getElem? (i := 280) (by decide +kernel)) (by decide +kernel)
theorem mF_RX3_76 : Cond.fieldLink RX3 76 RX3 "rowsClosing" "I" ∈ GW := gw_t (List.mem_of_getElem? (i := 284) (by decide +kernel)) (by decide +kernel)
theorem mF_RX3_79 : Cond.fieldLink RX3 79 RX3 "suppersClosing" "I" ∈ GW := gw_t (List.mem_of_getElem? (i := 286) (by decide +kernel)) (by decide +kernel)
theorem mF_RX3_82 : Cond.fieldLink RX3 82 RX0 "date" "I" ∈ GW := gw_t (List.mem_of_getElem? (i := 198) (by decide +kernel)) (by decide +kernel)
theorem mF_RX3_91 : Cond.fieldLink RX3 91 RX2 "suppers" "I" ∈ GW := gw_t (List.mem_of_getElem? (i := 54) (by decide +kernel)) (by decide +kernel)
theorem mF_RX3_108 : Cond.fieldLink RX3 108 RX0 "thrown" "I" ∈ GW := gw_t (List.mem_of_getElem? (i := 206) (by decide +kernel)) (by decide +kernel)
theorem mF_RX3_113 : Cond.fieldLink RX3 113 RX0 "paid" "I" ∈ GW := gw_t (List.mem_of_getElem? (i := 203) (by decide +kernel)) (by decide +kernel)
theorem mF_RX3_116 : Cond.fieldLink RX3 116 RX0 "liked" "I" ∈ GW := gw_t (List.mem_of_getElem? (i := 210) (by decide +kernel)) (by decide +kernel)
theorem mF_RX3_138 : Cond.fieldLink RX3 138 RX3 "bestRank" "J" ∈ GW := gw_t (List.mem_of_getElem? (i := 264) (by decide +kernel)) (by decide +kernel)
theorem mF_RX3_142 : Cond.fieldLink RX3 142 RX3 "rowsAsGood" "I" ∈ GW := gw_t (List.mem_of_getElem? (i := 265) (by decide +kernel)) (by decide +kernel)
theorem mF_RX3_145 : Cond.fieldLink RX3 145 RX3 "bestThrown" "I" ∈ GW := gw_t (List.mem_of_getElem? (i := 267) (by decide +kernel)) (by decide +kernel)
theorem mF_RX3_148 : Cond.fieldLink RX3 148 RX3 "bestPaid" "I" ∈ GW := gw_t (List.mem_of_getElem? (i := 269) (by decide +kernel)) (by decide +kernel)
theorem mF_RX3_151 : Cond.fieldLink RX3 151 RX3 "bestLiked" "I" ∈ GW := gw_t (List.mem_of_getElem? (i := 271) (by decide +kernel)) (by decide +kernel)
theorem mF_RX3_160 : Cond.fieldLink RX3 160 RX3 "fairestFed" "I" ∈ GW := gw_t (List.mem_of_getElem? (i := 276) (by decide +kernel)) (by decide +kernel)
theorem mF_RX3_163 : Cond.fieldLink RX3 163 RX3 "fairestRank" "J" ∈ GW := gw_t (List.mem_of_getElem? (i := 275) (by decide +kernel)) (by decide +kernel)
theorem mF_RX4_9 : Cond.fieldLink RX4 9 RX4 "laneOf" "[I" ∈ GW := gw_t (List.mem_of_getElem? (i := 333) (by decide +kernel)) (by decide +kernel)
theorem mF_RX4_15 : Cond.fieldLink RX4 15 RX4 "cellCount" "[I" ∈ GW := gw_t (List.mem_of_getElem? (i := 334) (by decide +kernel)) (by decide +kernel)
theorem mF_RX4_18 : Cond.fieldLink RX4 18 RX4 "cells" "[I" ∈ GW := gw_t (List.mem_of_getElem? (i := 336) (by decide +kernel)) (by decide +kernel)
theorem mF_RX5_12 : Cond.fieldLink RX5 12 RX5 "behind" "LNothingLeft$Kitchen;" ∈ GW := gw_t (List.mem_of_getElem? (i := 239) (by decide +kernel)) (by decide +kernel)
theorem mF_RX5_22 : Cond.fieldLink RX5 22 RX5 "why" "I" ∈ GW := gw_t (List.mem_of_getElem? (i := 241) (by decide +kernel)) (by decide +kernel)
theorem mF_RX5_37 : Cond.fieldLink RX5 37 RX0 "date" "I" ∈ GW := gw_t (List.mem_of_getElem? (i := 197) (by decide +kernel)) (by decide +kernel)
theorem mF_RX7_7 : Cond.fieldLink RX7 7 RX7 "thing" "[I" ∈ GW := gw_t (List.mem_of_getElem? (i := 957) (by decide +kernel)) (by decide +kernel)
theorem mF_RX7_13 : Cond.fieldLink RX7 13 RX7 "supper" "[I" ∈ GW := gw_t (List.mem_of_getElem? (i := 959) (by decide +kernel)) (by decide +kernel)
theorem mF_RX7_16 : Cond.fieldLink RX7 16 RX7 "wants" "[I" ∈ GW := gw_t (List.mem_of_getElem? (i := 960) (by decide +kernel)) (by decide +kernel)
theorem mF_RX7_19 : Cond.fieldLink RX7 19 RX7 "leaves" "[I" ∈ GW := gw_t (List.mem_of_getElem? (i := 961) (by decide +kernel)) (by decide +kernel)
theorem mF_RX7_22 : Cond.fieldLink RX7 22 RX7 "chance" "[I" ∈ GW := gw_t (List.mem_of_getElem? (i := 965) (by decide +kernel)) (by decide +kernel)
theorem mF_RX7_25 : Cond.fieldLink RX7 25 RX7 "dThing" "[I" ∈ GW := gw_t (List.mem_of_getElem? (i := 967) (by decide +kernel)) (by decide +kernel)
theorem mF_RX7_28 : Cond.fieldLink RX7 28 RX7 "dSupper" "[I" ∈ GW := gw_t (List.mem_of_getElem? (i := 969) (by decide +kernel)) (by decide +kernel)
theorem mF_RX7_31 : Cond.fieldLink RX7 31 RX7 "dWants" "[I" ∈ GW := gw_t (List.mem_of_getElem? (i := 970) (by decide +kernel)) (by decide +kernel)
theorem mF_RX7_34 : Cond.fieldLink RX7 34 RX7 "dLeaves" "[I" ∈ GW := gw_t (List.mem_of_getElem? (i := 971) (by decide +kernel)) (by decide +kernel)
theorem mF_RX7_37 : Cond.fieldLink RX7 37 RX7 "dChance" "[I" ∈ GW := gw_t (List.mem_of_getElem? (i := 975) (by decide +kernel)) (by decide +kernel)
theorem mF_RX7_40 : Cond.fieldLink RX7 40 RX7 "usedThing" "[I" ∈ GW := gw_t (List.mem_of_getElem? (i := 979) (by decide +kernel)) (by decide +kernel)
theorem mF_RX7_43 : Cond.fieldLink RX7 43 RX7 "usedAt" "[I" ∈ GW := gw_t (List.mem_of_getElem? (i := 980) (by decide +kernel)) (by decide +kernel)
theorem mF_RX7_46 : Cond.fieldLink RX7 46 RX7 "tape" "[I" ∈ GW := gw_t (List.mem_of_getElem? (i := 981) (by decide +kernel)) (by decide +kernel)
theorem mF_RX7_49 : Cond.fieldLink RX7 49 RX7 "st" "[I" ∈ GW := gw_t (List.mem_of_getElem? (i := 989) (by decide +kernel)) (by decide +kernel)
theorem mF_RX7_52 : Cond.fieldLink RX7 52 RX7 "isKept" "[Z" ∈ GW := gw_t (List.mem_of_getElem? (i := 990) (by decide +kernel)) (by decide +kernel)
theorem mF_RX7_56 : Cond.fieldLink RX7 56 RX7 "taken" "[I" ∈ GW := gw_t (List.mem_of_getElem? (i := 991) (by decide +kernel)) (by decide +kernel)
theorem mF_RX7_59 : Cond.fieldLink RX7 59 RX7 "bought" "[I" ∈ GW := gw_t (List.mem_of_getElem? (i := 992) (by decide +kernel)) (by decide +kernel)
theorem mF_RX7_62 : Cond.fieldLink RX7 62 RX7 "row" "[I" ∈ GW := gw_t (List.mem_of_getElem? (i := 994) (by decide +kernel)) (by decide +kernel)
theorem mF_RX7_65 : Cond.fieldLink RX7 65 RX7 "pick" "[I" ∈ GW := gw_t (List.mem_of_getElem? (i := 996) (by decide +kernel)) (by decide +kernel)
theorem mF_RX7_68 : Cond.fieldLink RX7 68 RX7 "bestPick" "[I" ∈ GW := gw_t (List.mem_of_getElem? (i := 998) (by decide +kernel)) (by decide +kernel)
theorem mF_RX7_71 : Cond.fieldLink RX7 71 RX7 "keptRow" "[I" ∈ GW := gw_t (List.mem_of_getElem? (i := 1005) (by decide +kernel)) (by decide +kernel)
theorem mF_RX7_74 : Cond.fieldLink RX7 74 RX7 "lanes" "[I" ∈ GW := gw_t (List.mem_of_getElem? (i := 1008) (by decide +kernel)) (by decide +kernel)
theorem mF_RX7_77 : Cond.fieldLink RX7 77 RX7 "sizes" "[I" ∈ GW := gw_t (List.mem_of_getElem? (i := 1009) (by decide +kernel)) (by decide +kernel)
theorem mF_RX7_80 : Cond.fieldLink RX7 80 RX7 "cells" "[I" ∈ GW := gw_t (List.mem_of_getElem? (i := 1010) (by decide +kernel)) (by decide +kernel)
theorem mF_RX7_89 : Cond.fieldLink RX7 89 RX7 "dThings" "I" ∈ GW := gw_t (List.mem_of_getElem? (i := 966) (by decide +kernel)) (by decide +kernel)
theorem mF_RX7_93 : Cond.fieldLink RX7 93 RX7 "dSuppers" "I" ∈ GW := gw_t (List.mem_of_getElem? (i := 968) (by decide +kernel)) (by decide +kernel)
theorem mF_RX7_96 : Cond.fieldLink RX7 96 RX7 "dAgain" "I" ∈ GW := gw_t (List.mem_of_getElem? (i := 972) (by decide +kernel)) (by decide +kernel)
theorem mF_RX7_99 : Cond.fieldLink RX7 99 RX7 "dShops" "I" ∈ GW := gw_t (List.mem_of_getElem? (i := 973) (by decide +kernel)) (by decide +kernel)
theorem mF_RX7_102 : Cond.fieldLink RX7 102 RX7 "dOuts" "I" ∈ GW := gw_t (List.mem_of_getElem? (i := 974) (by decide +kernel)) (by decide +kernel)
theorem mF_RX7_105 : Cond.fieldLink RX7 105 RX7 "hasAgain" "Z" ∈ GW := gw_t (List.mem_of_getElem? (i := 976) (by decide +kernel)) (by decide +kernel)
theorem mF_RX7_109 : Cond.fieldLink RX7 109 RX7 "hasShop" "Z" ∈ GW := gw_t (List.mem_of_getElem? (i := 977) (by decide +kernel)) (by decide +kernel)
theorem mF_RX7_112 : Cond.fieldLink RX7 112 RX7 "used" "I" ∈ GW := gw_t (List.mem_of_getElem? (i := 978) (by decide +kernel)) (by decide +kernel)
theorem mF_RX7_115 : Cond.fieldLink RX7 115 RX7 "things" "I" ∈ GW := gw_t (List.mem_of_getElem? (i := 956) (by decide +kernel)) (by decide +kernel)
theorem mF_RX7_118 : Cond.fieldLink RX7 118 RX7 "suppers" "I" ∈ GW := gw_t (List.mem_of_getElem? (i := 958) (by decide +kernel)) (by decide +kernel)
theorem mF_RX7_121 : Cond.fieldLink RX7 121 RX7 "again" "I" ∈ GW := gw_t (List.mem_of_getElem? (i := 962) (by decide +kernel)) (by decide +kernel)
theorem mF_RX7_124 : Cond.fieldLink RX7 124 RX7 "shops" "I" ∈ GW := gw_t (List.mem_of_getElem? (i := 963) (by decide +kernel)) (by decide +kernel)
theorem mF_RX7_127 : Cond.fieldLink RX7 127 RX7 "outs" "I" ∈ GW := gw_t (List.mem_of_getElem? (i := 964) (by decide +kernel)) (by decide +kernel)
theorem mF_RX7_138 : Cond.fieldLink RX7 138 RX7 "rowLong" "I" ∈ GW := gw_t (List.mem_of_getElem? (i := 993) (by decide +kernel)) (by decide +kernel)
theorem mF_RX7_141 : Cond.fieldLink RX7 141 RX7 "taped" "I" ∈ GW := gw_t (List.mem_of_getElem? (i := 982) (by decide +kernel)) (by decide +kernel)
theorem mF_RX7_146 : Cond.fieldLink RX7 146 RX7 "fault" "I" ∈ GW := gw_t (List.mem_of_getElem? (i := 987) (by decide +kernel)) (by decide +kernel)
theorem mF_RX7_149 : Cond.fieldLink RX7 149 RX7 "from" "I" ∈ GW := gw_t (List.mem_of_getElem? (i := 984) (by decide +kernel)) (by decide +kernel)
theorem mF_RX7_152 : Cond.fieldLink RX7 152 RX7 "wrongAt" "I" ∈ GW := gw_t (List.mem_of_getElem? (i := 988) (by decide +kernel)) (by decide +kernel)
theorem mF_RX7_155 : Cond.fieldLink RX7 155 RX7 "pos" "I" ∈ GW := gw_t (List.mem_of_getElem? (i := 983) (by decide +kernel)) (by decide +kernel)
theorem mF_RX7_170 : Cond.fieldLink RX7 170 RX7 "sort" "I" ∈ GW := gw_t (List.mem_of_getElem? (i := 985) (by decide +kernel)) (by decide +kernel)
theorem mF_RX7_181 : Cond.fieldLink RX7 181 RX7 "value" "I" ∈ GW := gw_t (List.mem_of_getElem? (i := 986) (by decide +kernel)) (by decide +kernel)
theorem mF_RX7_332 : Cond.fieldLink RX7 332 RX7 "why" "I" ∈ GW := gw_t (List.mem_of_getElem? (i := 995) (by decide +kernel)) (by decide +kernel)
theorem mF_RX7_359 : Cond.fieldLink RX7 359 RX7 "deep" "I" ∈ GW := gw_t (List.mem_of_getElem? (i := 997) (by decide +kernel)) (by decide +kernel)
theorem mF_RX7_365 : Cond.fieldLink RX7 365 RX7 "bestThrown" "I" ∈ GW := gw_t (List.mem_of_getElem? (i := 999) (by decide +kernel)) (by decide +kernel)
theorem mF_RX7_368 : Cond.fieldLink RX7 368 RX7 "bestPaid" "I" ∈ GW := gw_t (List.mem_of_getElem? (i := 1000) (by decide +kernel)) (by decide +kernel)
theorem mF_RX7_371 : Cond.fieldLink RX7 371 RX7 "bestLiked" "I" ∈ GW := gw_t (List.mem_of_getElem? (i := 1001) (by decide +kernel)) (by decide +kernel)
theorem mF_RX7_374 : Cond.fieldLink RX7 374 RX7 "mayBe" "I" ∈ GW := gw_t (List.mem_of_getElem? (i := 1004) (by decide +kernel)) (by decide +kernel)
theorem mF_RX7_377 : Cond.fieldLink RX7 377 RX7 "asGood" "I" ∈ GW := gw_t (List.mem_of_getElem? (i := 1003) (by decide +kernel)) (by decide +kernel)
theorem mF_RX7_389 : Cond.fieldLink RX7 389 RX7 "bestFed" "I" ∈ GW := gw_t (List.mem_of_getElem? (i := 1002) (by decide +kernel)) (by decide +kernel)
theorem mF_RX7_402 : Cond.fieldLink RX7 402 RX7 "closing" "I" ∈ GW := gw_t (List.mem_of_getElem? (i := 1006) (by decide +kernel)) (by decide +kernel)
theorem mF_RX7_405 : Cond.fieldLink RX7 405 RX7 "closingSome" "I" ∈ GW := gw_t (List.mem_of_getElem? (i := 1007) (by decide +kernel)) (by decide +kernel)
theorem mF_RX7_421 : Cond.fieldLink RX7 421 RX7 "torn" "I" ∈ GW := gw_t (List.mem_of_getElem? (i := 1011) (by decide +kernel)) (by decide +kernel)
theorem mF_RJ0_9 : Cond.fieldLink RJ0 9 RJ0 "value" "[B" ∈ GW := gw_t (List.mem_of_getElem? (i := 1511) (by decide +kernel)) (by decide +kernel)
theorem mF_RJ0_15 : Cond.fieldLink RJ0 15 RJ0 "coder" "B" ∈ GW := gw_t (List.mem_of_getElem? (i := 1512) (by decide +kernel)) (by decide +kernel)
theorem mF_RJ0_38 : Cond.fieldLink RJ0 38 RJ0 "COMPACT_STRINGS" "Z" ∈ GW := gw_t (List.mem_of_getElem? (i := 436) (by decide +kernel)) (by decide +kernel)
theorem mF_RJ0_1053 : Cond.fieldLink RJ0 1053 RJ3 "SIOOBE_FORMATTER" "Ljava/util/function/BiFunction;" ∈ GW := gw_t (List.mem_of_getElem? (i := 452) (by decide +kernel)) (by decide +kernel)
theorem mM_RX6_1 : Cond.methodLink RX6 1 objectInit ∈ GW := gw_t (List.mem_of_getElem? (i := 20) (by decide +kernel)) (by decide +kernel)
theorem mM_RX6_9 : Cond.methodLink RX6 9 yX2_init ∈ GW := gw_t (List.mem_of_getElem? (i := 25) (by decide +kernel)) (by decide +kernel)
theorem mM_RX6_32 : Cond.methodLink RX6 32 yX0_init ∈ GW := gw_t (List.mem_of_getElem? (i := 180) (by decide +kernel)) (by decide +kernel)
theorem mM_RX6_68 : Cond.methodLink RX6 68 yX4_init ∈ GW := gw_t (List.mem_of_getElem? (i := 329) (by decide +kernel)) (by decide +kernel)
theorem mM_RX6_83 : Cond.methodLink RX6 83 yX1_readTape ∈ GW := gw_t (List.mem_of_getElem? (i := 396) (by decide +kernel)) (by decide +kernel)
theorem mM_RX6_96 : Cond.methodLink RX6 96 yX2_copyFrom ∈ GW := gw_t (List.mem_of_getElem? (i := 566) (by decide +kernel)) (by decide +kernel)
theorem mM_RX6_100 : Cond.methodLink RX6 100 yX0_reset ∈ GW := gw_t (List.mem_of_getElem? (i := 573) (by decide +kernel)) (by decide +kernel)
theorem mM_RX6_103 : Cond.methodLink RX6 103 yX2_hasThing ∈ GW := gw_t (List.mem_of_getElem? (i := 582) (by decide +kernel)) (by decide +kernel)
theorem mM_RX6_116 : Cond.methodLink RX6 116 yX2_hasSupper ∈ GW := gw_t (List.mem_of_getElem? (i := 590) (by decide +kernel)) (by decide +kernel)
theorem mM_RX6_137 : Cond.methodLink RX6 137 yX2_thingsOf ∈ GW := gw_t (List.mem_of_getElem? (i := 594) (by decide +kernel)) (by decide +kernel)
theorem mM_RX6_153 : Cond.methodLink RX6 153 yX6_canPut ∈ GW := gw_t (List.mem_of_getElem? (i := 606) (by decide +kernel)) (by decide +kernel)
theorem mM_RX6_160 : Cond.methodLink RX6 160 yX0_whyNot ∈ GW := gw_t (List.mem_of_getElem? (i := 618) (by decide +kernel)) (by decide +kernel)
theorem mM_RX6_164 : Cond.methodLink RX6 164 yX0_lacking ∈ GW := gw_t (List.mem_of_getElem? (i := 651) (by decide +kernel)) (by decide +kernel)
theorem mM_RX6_168 : Cond.methodLink RX6 168 yX0_packs ∈ GW := gw_t (List.mem_of_getElem? (i := 652) (by decide +kernel)) (by decide +kernel)
theorem mM_RX6_171 : Cond.methodLink RX6 171 yX0_taking ∈ GW := gw_t (List.mem_of_getElem? (i := 656) (by decide +kernel)) (by decide +kernel)
theorem mM_RX6_177 : Cond.methodLink RX6 177 yX0_serve ∈ GW := gw_t (List.mem_of_getElem? (i := 675) (by decide +kernel)) (by decide +kernel)
theorem mM_RX6_180 : Cond.methodLink RX6 180 yX0_passNight ∈ GW := gw_t (List.mem_of_getElem? (i := 688) (by decide +kernel)) (by decide +kernel)
theorem mM_RX6_196 : Cond.methodLink RX6 196 yX0_unitsInAll ∈ GW := gw_t (List.mem_of_getElem? (i := 696) (by decide +kernel)) (by decide +kernel)
theorem mM_RX6_202 : Cond.methodLink RX6 202 yX0_copyFrom ∈ GW := gw_t (List.mem_of_getElem? (i := 708) (by decide +kernel)) (by decide +kernel)
theorem mM_RX6_205 : Cond.methodLink RX6 205 yX5_go ∈ GW := gw_t (List.mem_of_getElem? (i := 729) (by decide +kernel)) (by decide +kernel)
theorem mM_RX6_209 : Cond.methodLink RX6 209 yX2_timesFed ∈ GW := gw_t (List.mem_of_getElem? (i := 741) (by decide +kernel)) (by decide +kernel)
theorem mM_RX6_219 : Cond.methodLink RX6 219 yX6_rowByHandCloses ∈ GW := gw_t (List.mem_of_getElem? (i := 745) (by decide +kernel)) (by decide +kernel)
theorem mM_RX6_223 : Cond.methodLink RX6 223 yX2_isOut ∈ GW := gw_t (List.mem_of_getElem? (i := 749) (by decide +kernel)) (by decide +kernel)
theorem mM_RX6_226 : Cond.methodLink RX6 226 yX2_isClosed ∈ GW := gw_t (List.mem_of_getElem? (i := 750) (by decide +kernel)) (by decide +kernel)
theorem mM_RX6_230 : Cond.methodLink RX6 230 yX5_bearing ∈ GW := gw_t (List.mem_of_getElem? (i := 769) (by decide +kernel)) (by decide +kernel)
theorem mM_RX6_234 : Cond.methodLink RX6 234 yX6_lowestTerms ∈ GW := gw_t (List.mem_of_getElem? (i := 781) (by decide +kernel)) (by decide +kernel)
theorem mM_RX6_238 : Cond.methodLink RX6 238 yX6_isPlace ∈ GW := gw_t (List.mem_of_getElem? (i := 788) (by decide +kernel)) (by decide +kernel)
theorem mM_RX6_242 : Cond.methodLink RX6 242 yX3_lookAtRows ∈ GW := gw_t (List.mem_of_getElem? (i := 791) (by decide +kernel)) (by decide +kernel)
theorem mM_RX6_288 : Cond.methodLink RX6 288 yX2_copyWithSmallDish ∈ GW := gw_t (List.mem_of_getElem? (i := 864) (by decide +kernel)) (by decide +kernel)
theorem mM_RX6_295 : Cond.methodLink RX6 295 yJ9_min_7cf53 ∈ GW := gw_t (List.mem_of_getElem? (i := 881) (by decide +kernel)) (by decide +kernel)
theorem mM_RX6_301 : Cond.methodLink RX6 301 yX4_begin ∈ GW := gw_t (List.mem_of_getElem? (i := 886) (by decide +kernel)) (by decide +kernel)
theorem mM_RX6_305 : Cond.methodLink RX6 305 yX4_isNothing ∈ GW := gw_t (List.mem_of_getElem? (i := 894) (by decide +kernel)) (by decide +kernel)
theorem mM_RX6_311 : Cond.methodLink RX6 311 yX4_setCell ∈ GW := gw_t (List.mem_of_getElem? (i := 898) (by decide +kernel)) (by decide +kernel)
theorem mM_RX6_314 : Cond.methodLink RX6 314 yX4_faultAsOf ∈ GW := gw_t (List.mem_of_getElem? (i := 906) (by decide +kernel)) (by decide +kernel)
theorem mM_RX6_319 : Cond.methodLink RX6 319 yX4_isLotWhole ∈ GW := gw_t (List.mem_of_getElem? (i := 912) (by decide +kernel)) (by decide +kernel)
theorem mM_RX6_323 : Cond.methodLink RX6 323 yX6_canPutLot ∈ GW := gw_t (List.mem_of_getElem? (i := 917) (by decide +kernel)) (by decide +kernel)
theorem mM_RX6_326 : Cond.methodLink RX6 326 yX6_putLot ∈ GW := gw_t (List.mem_of_getElem? (i := 925) (by decide +kernel)) (by decide +kernel)
theorem mM_RX6_330 : Cond.methodLink RX6 330 yX4_cellAt ∈ GW := gw_t (List.mem_of_getElem? (i := 921) (by decide +kernel)) (by decide +kernel)
theorem mM_RX0_3 : Cond.methodLink RX0 3 objectInit ∈ GW := gw_t (List.mem_of_getElem? (i := 183) (by decide +kernel)) (by decide +kernel)
theorem mM_RX0_21 : Cond.methodLink RX0 21 yX0_reset ∈ GW := gw_t (List.mem_of_getElem? (i := 184) (by decide +kernel)) (by decide +kernel)
theorem mM_RX0_31 : Cond.methodLink RX0 31 yX0_resetSums ∈ GW := gw_t (List.mem_of_getElem? (i := 188) (by decide +kernel)) (by decide +kernel)
theorem mM_RX0_43 : Cond.methodLink RX0 43 arraycopyName ∈ GW := gw_t (List.mem_of_getElem? (i := 712) (by decide +kernel)) (by decide +kernel)
theorem mM_RX0_49 : Cond.methodLink RX0 49 yX0_copyFrom ∈ GW := gw_t (List.mem_of_getElem? (i := 737) (by decide +kernel)) (by decide +kernel)
theorem mM_RX0_53 : Cond.methodLink RX0 53 yX2_isOut ∈ GW := gw_t (List.mem_of_getElem? (i := 622) (by decide +kernel)) (by decide +kernel)
theorem mM_RX0_65 : Cond.methodLink RX0 65 yX0_lacking ∈ GW := gw_t (List.mem_of_getElem? (i := 623) (by decide +kernel)) (by decide +kernel)
theorem mM_RX0_69 : Cond.methodLink RX0 69 yX2_isBought ∈ GW := gw_t (List.mem_of_getElem? (i := 643) (by decide +kernel)) (by decide +kernel)
theorem mM_RX0_76 : Cond.methodLink RX0 76 yX2_wanted ∈ GW := gw_t (List.mem_of_getElem? (i := 627) (by decide +kernel)) (by decide +kernel)
theorem mM_RX0_80 : Cond.methodLink RX0 80 yX0_unitsOf ∈ GW := gw_t (List.mem_of_getElem? (i := 631) (by decide +kernel)) (by decide +kernel)
theorem mM_RX0_84 : Cond.methodLink RX0 84 yJ9_max_7cf53 ∈ GW := gw_t (List.mem_of_getElem? (i := 635) (by decide +kernel)) (by decide +kernel)
theorem mM_RX0_90 : Cond.methodLink RX0 90 yX2_isInSoup ∈ GW := gw_t (List.mem_of_getElem? (i := 638) (by decide +kernel)) (by decide +kernel)
theorem mM_RX0_94 : Cond.methodLink RX0 94 yX2_soupWanted ∈ GW := gw_t (List.mem_of_getElem? (i := 639) (by decide +kernel)) (by decide +kernel)
theorem mM_RX0_101 : Cond.methodLink RX0 101 yX0_findTaken ∈ GW := gw_t (List.mem_of_getElem? (i := 660) (by decide +kernel)) (by decide +kernel)
theorem mM_RX0_105 : Cond.methodLink RX0 105 yX0_findTakenBySoup ∈ GW := gw_t (List.mem_of_getElem? (i := 664) (by decide +kernel)) (by decide +kernel)
theorem mM_RX0_108 : Cond.methodLink RX0 108 yJ9_min_7cf53 ∈ GW := gw_t (List.mem_of_getElem? (i := 668) (by decide +kernel)) (by decide +kernel)
theorem mM_RX0_111 : Cond.methodLink RX0 111 yX0_packs ∈ GW := gw_t (List.mem_of_getElem? (i := 679) (by decide +kernel)) (by decide +kernel)
theorem mM_RX0_114 : Cond.methodLink RX0 114 yX0_takeOldest ∈ GW := gw_t (List.mem_of_getElem? (i := 680) (by decide +kernel)) (by decide +kernel)
theorem mM_RX1_3 : Cond.methodLink RX1 3 objectInit ∈ GW := gw_t (List.mem_of_getElem? (i := 132) (by decide +kernel)) (by decide +kernel)
theorem mM_RX1_17 : Cond.methodLink RX1 17 yX2_init ∈ GW := gw_t (List.mem_of_getElem? (i := 134) (by decide +kernel)) (by decide +kernel)
theorem mM_RX1_26 : Cond.methodLink RX1 26 yX1_begin ∈ GW := gw_t (List.mem_of_getElem? (i := 400) (by decide +kernel)) (by decide +kernel)
theorem mM_RX1_29 : Cond.methodLink RX1 29 yX1_readToken ∈ GW := gw_t (List.mem_of_getElem? (i := 405) (by decide +kernel)) (by decide +kernel)
theorem mM_RX1_37 : Cond.methodLink RX1 37 yX1_readLine ∈ GW := gw_t (List.mem_of_getElem? (i := 419) (by decide +kernel)) (by decide +kernel)
theorem mM_RX1_43 : Cond.methodLink RX1 43 yX1_findThingNotTold ∈ GW := gw_t (List.mem_of_getElem? (i := 562) (by decide +kernel)) (by decide +kernel)
theorem mM_RX1_56 : Cond.methodLink RX1 56 yX2_reset ∈ GW := gw_t (List.mem_of_getElem? (i := 404) (by decide +kernel)) (by decide +kernel)
theorem mM_RX1_65 : Cond.methodLink RX1 65 yX1_refuse ∈ GW := gw_t (List.mem_of_getElem? (i := 415) (by decide +kernel)) (by decide +kernel)
theorem mM_RX1_78 : Cond.methodLink RX1 78 yX1_isLetter ∈ GW := gw_t (List.mem_of_getElem? (i := 409) (by decide +kernel)) (by decide +kernel)
theorem mM_RX1_82 : Cond.methodLink RX1 82 yX1_isFigure ∈ GW := gw_t (List.mem_of_getElem? (i := 412) (by decide +kernel)) (by decide +kernel)
theorem mM_RX1_85 : Cond.methodLink RX1 85 yJ0_length_8abf5 ∈ GW := gw_t (List.mem_of_getElem? (i := 428) (by decide +kernel)) (by decide +kernel)
theorem mM_RX1_90 : Cond.methodLink RX1 90 yJ0_charAt_5068e ∈ GW := gw_t (List.mem_of_getElem? (i := 438) (by decide +kernel)) (by decide +kernel)
theorem mM_RX1_94 : Cond.methodLink RX1 94 yX1_isPoint ∈ GW := gw_t (List.mem_of_getElem? (i := 488) (by decide +kernel)) (by decide +kernel)
theorem mM_RX1_99 : Cond.methodLink RX1 99 yX1_isName ∈ GW := gw_t (List.mem_of_getElem? (i := 424) (by decide +kernel)) (by decide +kernel)
theorem mM_RX1_103 : Cond.methodLink RX1 103 yX1_readThing ∈ GW := gw_t (List.mem_of_getElem? (i := 476) (by decide +kernel)) (by decide +kernel)
theorem mM_RX1_108 : Cond.methodLink RX1 108 yX1_readSupper ∈ GW := gw_t (List.mem_of_getElem? (i := 493) (by decide +kernel)) (by decide +kernel)
theorem mM_RX1_119 : Cond.methodLink RX1 119 yX1_readAgain ∈ GW := gw_t (List.mem_of_getElem? (i := 536) (by decide +kernel)) (by decide +kernel)
theorem mM_RX1_124 : Cond.methodLink RX1 124 yX1_readShop ∈ GW := gw_t (List.mem_of_getElem? (i := 541) (by decide +kernel)) (by decide +kernel)
theorem mM_RX1_129 : Cond.methodLink RX1 129 yX1_readOut ∈ GW := gw_t (List.mem_of_getElem? (i := 546) (by decide +kernel)) (by decide +kernel)
theorem mM_RX1_134 : Cond.methodLink RX1 134 yX1_readGuest ∈ GW := gw_t (List.mem_of_getElem? (i := 558) (by decide +kernel)) (by decide +kernel)
theorem mM_RX1_137 : Cond.methodLink RX1 137 yX1_readNumber ∈ GW := gw_t (List.mem_of_getElem? (i := 480) (by decide +kernel)) (by decide +kernel)
theorem mM_RX1_149 : Cond.methodLink RX1 149 yX1_readPoint ∈ GW := gw_t (List.mem_of_getElem? (i := 484) (by decide +kernel)) (by decide +kernel)
theorem mM_RX1_158 : Cond.methodLink RX1 158 yX1_readSoup ∈ GW := gw_t (List.mem_of_getElem? (i := 497) (by decide +kernel)) (by decide +kernel)
theorem mM_RX1_164 : Cond.methodLink RX1 164 yX1_readPortions ∈ GW := gw_t (List.mem_of_getElem? (i := 517) (by decide +kernel)) (by decide +kernel)
theorem mM_RX1_174 : Cond.methodLink RX1 174 yX1_readLike ∈ GW := gw_t (List.mem_of_getElem? (i := 524) (by decide +kernel)) (by decide +kernel)
theorem mM_RX1_179 : Cond.methodLink RX1 179 yX1_readWont ∈ GW := gw_t (List.mem_of_getElem? (i := 528) (by decide +kernel)) (by decide +kernel)
theorem mM_RX1_185 : Cond.methodLink RX1 185 yX1_readName ∈ GW := gw_t (List.mem_of_getElem? (i := 501) (by decide +kernel)) (by decide +kernel)
theorem mM_RX1_191 : Cond.methodLink RX1 191 yX1_lettersOnce ∈ GW := gw_t (List.mem_of_getElem? (i := 505) (by decide +kernel)) (by decide +kernel)
theorem mM_RX1_195 : Cond.methodLink RX1 195 yX2_isInSoup ∈ GW := gw_t (List.mem_of_getElem? (i := 509) (by decide +kernel)) (by decide +kernel)
theorem mM_RX1_198 : Cond.methodLink RX1 198 yX1_noteUse ∈ GW := gw_t (List.mem_of_getElem? (i := 513) (by decide +kernel)) (by decide +kernel)
theorem mM_RX1_213 : Cond.methodLink RX1 213 yX2_isOut ∈ GW := gw_t (List.mem_of_getElem? (i := 550) (by decide +kernel)) (by decide +kernel)
theorem mM_RX2_3 : Cond.methodLink RX2 3 objectInit ∈ GW := gw_t (List.mem_of_getElem? (i := 28) (by decide +kernel)) (by decide +kernel)
theorem mM_RX2_45 : Cond.methodLink RX2 45 yX2_reset ∈ GW := gw_t (List.mem_of_getElem? (i := 29) (by decide +kernel)) (by decide +kernel)
theorem mM_RX2_55 : Cond.methodLink RX2 55 yX2_resetSupper ∈ GW := gw_t (List.mem_of_getElem? (i := 33) (by decide +kernel)) (by decide +kernel)
theorem mM_RX2_68 : Cond.methodLink RX2 68 arraycopyName ∈ GW := gw_t (List.mem_of_getElem? (i := 570) (by decide +kernel)) (by decide +kernel)
theorem mM_RX2_74 : Cond.methodLink RX2 74 yX2_copyFrom ∈ GW := gw_t (List.mem_of_getElem? (i := 868) (by decide +kernel)) (by decide +kernel)
theorem mM_RX2_78 : Cond.methodLink RX2 78 yJ9_floorMod_7cf53 ∈ GW := gw_t (List.mem_of_getElem? (i := 554) (by decide +kernel)) (by decide +kernel)
theorem mM_RX2_84 : Cond.methodLink RX2 84 yX2_timesFed ∈ GW := gw_t (List.mem_of_getElem? (i := 828) (by decide +kernel)) (by decide +kernel)
theorem mM_RX2_88 : Cond.methodLink RX2 88 yJ9_min_7cf53 ∈ GW := gw_t (List.mem_of_getElem? (i := 829) (by decide +kernel)) (by decide +kernel)
theorem mM_RX2_96 : Cond.methodLink RX2 96 yX0_hasSameLarder ∈ GW := gw_t (List.mem_of_getElem? (i := 754) (by decide +kernel)) (by decide +kernel)
theorem mM_RX2_100 : Cond.methodLink RX2 100 yX2_mayFollowItself ∈ GW := gw_t (List.mem_of_getElem? (i := 758) (by decide +kernel)) (by decide +kernel)
theorem mM_RX2_104 : Cond.methodLink RX2 104 yX2_daysToNext ∈ GW := gw_t (List.mem_of_getElem? (i := 762) (by decide +kernel)) (by decide +kernel)
theorem mM_RX3_3 : Cond.methodLink RX3 3 objectInit ∈ GW := gw_t (List.mem_of_getElem? (i := 254) (by decide +kernel)) (by decide +kernel)
theorem mM_RX3_11 : Cond.methodLink RX3 11 yX0_init ∈ GW := gw_t (List.mem_of_getElem? (i := 256) (by decide +kernel)) (by decide +kernel)
theorem mM_RX3_41 : Cond.methodLink RX3 41 yX3_forget ∈ GW := gw_t (List.mem_of_getElem? (i := 795) (by decide +kernel)) (by decide +kernel)
theorem mM_RX3_44 : Cond.methodLink RX3 44 yX0_beginRow ∈ GW := gw_t (List.mem_of_getElem? (i := 799) (by decide +kernel)) (by decide +kernel)
theorem mM_RX3_49 : Cond.methodLink RX3 49 yX3_following ∈ GW := gw_t (List.mem_of_getElem? (i := 801) (by decide +kernel)) (by decide +kernel)
theorem mM_RX3_53 : Cond.methodLink RX3 53 yX3_takeDay ∈ GW := gw_t (List.mem_of_getElem? (i := 807) (by decide +kernel)) (by decide +kernel)
theorem mM_RX3_57 : Cond.methodLink RX3 57 yX3_judge ∈ GW := gw_t (List.mem_of_getElem? (i := 814) (by decide +kernel)) (by decide +kernel)
theorem mM_RX3_61 : Cond.methodLink RX3 61 yX5_bearing ∈ GW := gw_t (List.mem_of_getElem? (i := 839) (by decide +kernel)) (by decide +kernel)
theorem mM_RX3_65 : Cond.methodLink RX3 65 yX3_judgeSurest ∈ GW := gw_t (List.mem_of_getElem? (i := 840) (by decide +kernel)) (by decide +kernel)
theorem mM_RX3_85 : Cond.methodLink RX3 85 yX2_isOut ∈ GW := gw_t (List.mem_of_getElem? (i := 805) (by decide +kernel)) (by decide +kernel)
theorem mM_RX3_94 : Cond.methodLink RX3 94 yX0_whyNot ∈ GW := gw_t (List.mem_of_getElem? (i := 806) (by decide +kernel)) (by decide +kernel)
theorem mM_RX3_98 : Cond.methodLink RX3 98 yX0_copyFrom ∈ GW := gw_t (List.mem_of_getElem? (i := 811) (by decide +kernel)) (by decide +kernel)
theorem mM_RX3_101 : Cond.methodLink RX3 101 yX0_serve ∈ GW := gw_t (List.mem_of_getElem? (i := 812) (by decide +kernel)) (by decide +kernel)
theorem mM_RX3_104 : Cond.methodLink RX3 104 yX0_passNight ∈ GW := gw_t (List.mem_of_getElem? (i := 813) (by decide +kernel)) (by decide +kernel)
theorem mM_RX3_119 : Cond.methodLink RX3 119 yX3_judgeBest ∈ GW := gw_t (List.mem_of_getElem? (i := 819) (by decide +kernel)) (by decide +kernel)
theorem mM_RX3_123 : Cond.methodLink RX3 123 yX2_timesFedLeast ∈ GW := gw_t (List.mem_of_getElem? (i := 824) (by decide +kernel)) (by decide +kernel)
theorem mM_RX3_127 : Cond.methodLink RX3 127 yX3_judgeFairest ∈ GW := gw_t (List.mem_of_getElem? (i := 830) (by decide +kernel)) (by decide +kernel)
theorem mM_RX3_131 : Cond.methodLink RX3 131 yX2_isClosed ∈ GW := gw_t (List.mem_of_getElem? (i := 834) (by decide +kernel)) (by decide +kernel)
theorem mM_RX3_135 : Cond.methodLink RX3 135 yX3_addClosing ∈ GW := gw_t (List.mem_of_getElem? (i := 835) (by decide +kernel)) (by decide +kernel)
theorem mM_RX3_154 : Cond.methodLink RX3 154 arraycopyName ∈ GW := gw_t (List.mem_of_getElem? (i := 823) (by decide +kernel)) (by decide +kernel)
theorem mM_RX4_3 : Cond.methodLink RX4 3 objectInit ∈ GW := gw_t (List.mem_of_getElem? (i := 332) (by decide +kernel)) (by decide +kernel)
theorem mM_RX4_21 : Cond.methodLink RX4 21 yX4_isNothing ∈ GW := gw_t (List.mem_of_getElem? (i := 910) (by decide +kernel)) (by decide +kernel)
theorem mM_RX5_3 : Cond.methodLink RX5 3 objectInit ∈ GW := gw_t (List.mem_of_getElem? (i := 236) (by decide +kernel)) (by decide +kernel)
theorem mM_RX5_11 : Cond.methodLink RX5 11 yX0_init ∈ GW := gw_t (List.mem_of_getElem? (i := 238) (by decide +kernel)) (by decide +kernel)
theorem mM_RX5_18 : Cond.methodLink RX5 18 yX0_beginRow ∈ GW := gw_t (List.mem_of_getElem? (i := 733) (by decide +kernel)) (by decide +kernel)
theorem mM_RX5_26 : Cond.methodLink RX5 26 yX0_whyNot ∈ GW := gw_t (List.mem_of_getElem? (i := 738) (by decide +kernel)) (by decide +kernel)
theorem mM_RX5_30 : Cond.methodLink RX5 30 yX0_serve ∈ GW := gw_t (List.mem_of_getElem? (i := 739) (by decide +kernel)) (by decide +kernel)
theorem mM_RX5_33 : Cond.methodLink RX5 33 yX0_passNight ∈ GW := gw_t (List.mem_of_getElem? (i := 740) (by decide +kernel)) (by decide +kernel)
theorem mM_RX5_40 : Cond.methodLink RX5 40 yX5_weightOf ∈ GW := gw_t (List.mem_of_getElem? (i := 773) (by decide +kernel)) (by decide +kernel)
theorem mM_RX5_44 : Cond.methodLink RX5 44 yX5_go ∈ GW := gw_t (List.mem_of_getElem? (i := 780) (by decide +kernel)) (by decide +kernel)
theorem mM_RX5_48 : Cond.methodLink RX5 48 yX2_chanceOfGuests ∈ GW := gw_t (List.mem_of_getElem? (i := 776) (by decide +kernel)) (by decide +kernel)
theorem mM_RL_9 : Cond.methodLink RL 9 yX6_init ∈ GW := gw_t (List.mem_of_getElem? (i := 17) (by decide +kernel)) (by decide +kernel)
theorem mM_RL_12 : Cond.methodLink RL 12 yX7_init ∈ GW := gw_t (List.mem_of_getElem? (i := 939) (by decide +kernel)) (by decide +kernel)
theorem mM_RL_15 : Cond.methodLink RL 15 yX6_feed ∈ GW := gw_t (List.mem_of_getElem? (i := 384) (by decide +kernel)) (by decide +kernel)
theorem mM_RL_19 : Cond.methodLink RL 19 yX7_feed ∈ GW := gw_t (List.mem_of_getElem? (i := 1125) (by decide +kernel)) (by decide +kernel)
theorem mM_RL_20 : Cond.methodLink RL 20 yX6_end ∈ GW := gw_t (List.mem_of_getElem? (i := 388) (by decide +kernel)) (by decide +kernel)
theorem mM_RL_24 : Cond.methodLink RL 24 yX7_end ∈ GW := gw_t (List.mem_of_getElem? (i := 1130) (by decide +kernel)) (by decide +kernel)
theorem mM_RL_25 : Cond.methodLink RL 25 yX6_text ∈ GW := gw_t (List.mem_of_getElem? (i := 392) (by decide +kernel)) (by decide +kernel)
theorem mM_RL_29 : Cond.methodLink RL 29 yX7_text ∈ GW := gw_t (List.mem_of_getElem? (i := 1134) (by decide +kernel)) (by decide +kernel)
theorem mM_RL_30 : Cond.methodLink RL 30 yX6_fault ∈ GW := gw_t (List.mem_of_getElem? (i := 574) (by decide +kernel)) (by decide +kernel)
theorem mM_RL_33 : Cond.methodLink RL 33 yX7_fault ∈ GW := gw_t (List.mem_of_getElem? (i := 1224) (by decide +kernel)) (by decide +kernel)
theorem mM_RL_34 : Cond.methodLink RL 34 yX6_thing ∈ GW := gw_t (List.mem_of_getElem? (i := 578) (by decide +kernel)) (by decide +kernel)
theorem mM_RL_38 : Cond.methodLink RL 38 yX7_thing ∈ GW := gw_t (List.mem_of_getElem? (i := 1228) (by decide +kernel)) (by decide +kernel)
theorem mM_RL_39 : Cond.methodLink RL 39 yX6_supper ∈ GW := gw_t (List.mem_of_getElem? (i := 586) (by decide +kernel)) (by decide +kernel)
theorem mM_RL_42 : Cond.methodLink RL 42 yX7_supper ∈ GW := gw_t (List.mem_of_getElem? (i := 1237) (by decide +kernel)) (by decide +kernel)
theorem mM_RL_43 : Cond.methodLink RL 43 yX6_rule ∈ GW := gw_t (List.mem_of_getElem? (i := 598) (by decide +kernel)) (by decide +kernel)
theorem mM_RL_46 : Cond.methodLink RL 46 yX7_rule ∈ GW := gw_t (List.mem_of_getElem? (i := 1248) (by decide +kernel)) (by decide +kernel)
theorem mM_RL_47 : Cond.methodLink RL 47 yX6_put ∈ GW := gw_t (List.mem_of_getElem? (i := 602) (by decide +kernel)) (by decide +kernel)
theorem mM_RL_51 : Cond.methodLink RL 51 yX7_put ∈ GW := gw_t (List.mem_of_getElem? (i := 1253) (by decide +kernel)) (by decide +kernel)
theorem mM_RL_52 : Cond.methodLink RL 52 yX6_has ∈ GW := gw_t (List.mem_of_getElem? (i := 610) (by decide +kernel)) (by decide +kernel)
theorem mM_RL_55 : Cond.methodLink RL 55 yX7_has ∈ GW := gw_t (List.mem_of_getElem? (i := 1266) (by decide +kernel)) (by decide +kernel)
theorem mM_RL_56 : Cond.methodLink RL 56 yX6_may ∈ GW := gw_t (List.mem_of_getElem? (i := 614) (by decide +kernel)) (by decide +kernel)
theorem mM_RL_60 : Cond.methodLink RL 60 yX7_may ∈ GW := gw_t (List.mem_of_getElem? (i := 1270) (by decide +kernel)) (by decide +kernel)
theorem mM_RL_61 : Cond.methodLink RL 61 yX6_lacks ∈ GW := gw_t (List.mem_of_getElem? (i := 647) (by decide +kernel)) (by decide +kernel)
theorem mM_RL_65 : Cond.methodLink RL 65 yX7_lacks ∈ GW := gw_t (List.mem_of_getElem? (i := 1317) (by decide +kernel)) (by decide +kernel)
theorem mM_RL_66 : Cond.methodLink RL 66 yX6_eat ∈ GW := gw_t (List.mem_of_getElem? (i := 671) (by decide +kernel)) (by decide +kernel)
theorem mM_RL_69 : Cond.methodLink RL 69 yX7_eat ∈ GW := gw_t (List.mem_of_getElem? (i := 1329) (by decide +kernel)) (by decide +kernel)
theorem mM_RL_70 : Cond.methodLink RL 70 yX6_night ∈ GW := gw_t (List.mem_of_getElem? (i := 684) (by decide +kernel)) (by decide +kernel)
theorem mM_RL_73 : Cond.methodLink RL 73 yX7_night ∈ GW := gw_t (List.mem_of_getElem? (i := 1337) (by decide +kernel)) (by decide +kernel)
theorem mM_RL_74 : Cond.methodLink RL 74 yX6_now ∈ GW := gw_t (List.mem_of_getElem? (i := 692) (by decide +kernel)) (by decide +kernel)
theorem mM_RL_77 : Cond.methodLink RL 77 yX7_now ∈ GW := gw_t (List.mem_of_getElem? (i := 1345) (by decide +kernel)) (by decide +kernel)
theorem mM_RL_78 : Cond.methodLink RL 78 yX6_last ∈ GW := gw_t (List.mem_of_getElem? (i := 700) (by decide +kernel)) (by decide +kernel)
theorem mM_RL_81 : Cond.methodLink RL 81 yX7_last ∈ GW := gw_t (List.mem_of_getElem? (i := 1349) (by decide +kernel)) (by decide +kernel)
theorem mM_RL_82 : Cond.methodLink RL 82 yX6_keep ∈ GW := gw_t (List.mem_of_getElem? (i := 704) (by decide +kernel)) (by decide +kernel)
theorem mM_RL_85 : Cond.methodLink RL 85 yX7_keep ∈ GW := gw_t (List.mem_of_getElem? (i := 1353) (by decide +kernel)) (by decide +kernel)
theorem mM_RL_86 : Cond.methodLink RL 86 yX6_back ∈ GW := gw_t (List.mem_of_getElem? (i := 713) (by decide +kernel)) (by decide +kernel)
theorem mM_RL_89 : Cond.methodLink RL 89 yX7_back ∈ GW := gw_t (List.mem_of_getElem? (i := 1361) (by decide +kernel)) (by decide +kernel)
theorem mM_RL_90 : Cond.methodLink RL 90 yX6_day ∈ GW := gw_t (List.mem_of_getElem? (i := 717) (by decide +kernel)) (by decide +kernel)
theorem mM_RL_93 : Cond.methodLink RL 93 yX7_day ∈ GW := gw_t (List.mem_of_getElem? (i := 1365) (by decide +kernel)) (by decide +kernel)
theorem mM_RL_94 : Cond.methodLink RL 94 yX6_clear ∈ GW := gw_t (List.mem_of_getElem? (i := 721) (by decide +kernel)) (by decide +kernel)
theorem mM_RL_97 : Cond.methodLink RL 97 yX7_clear ∈ GW := gw_t (List.mem_of_getElem? (i := 1369) (by decide +kernel)) (by decide +kernel)
theorem mM_RL_98 : Cond.methodLink RL 98 yX6_row ∈ GW := gw_t (List.mem_of_getElem? (i := 725) (by decide +kernel)) (by decide +kernel)
theorem mM_RL_101 : Cond.methodLink RL 101 yX7_row ∈ GW := gw_t (List.mem_of_getElem? (i := 1373) (by decide +kernel)) (by decide +kernel)
theorem mM_RL_102 : Cond.methodLink RL 102 yX6_bears ∈ GW := gw_t (List.mem_of_getElem? (i := 765) (by decide +kernel)) (by decide +kernel)
theorem mM_RL_105 : Cond.methodLink RL 105 yX7_bears ∈ GW := gw_t (List.mem_of_getElem? (i := 1402) (by decide +kernel)) (by decide +kernel)
theorem mM_RL_106 : Cond.methodLink RL 106 yX6_best ∈ GW := gw_t (List.mem_of_getElem? (i := 784) (by decide +kernel)) (by decide +kernel)
theorem mM_RL_109 : Cond.methodLink RL 109 yX7_best ∈ GW := gw_t (List.mem_of_getElem? (i := 1413) (by decide +kernel)) (by decide +kernel)
theorem mM_RL_110 : Cond.methodLink RL 110 yX6_fairest ∈ GW := gw_t (List.mem_of_getElem? (i := 844) (by decide +kernel)) (by decide +kernel)
theorem mM_RL_113 : Cond.methodLink RL 113 yX7_fairest ∈ GW := gw_t (List.mem_of_getElem? (i := 1444) (by decide +kernel)) (by decide +kernel)
theorem mM_RL_114 : Cond.methodLink RL 114 yX6_surest ∈ GW := gw_t (List.mem_of_getElem? (i := 848) (by decide +kernel)) (by decide +kernel)
theorem mM_RL_117 : Cond.methodLink RL 117 yX7_surest ∈ GW := gw_t (List.mem_of_getElem? (i := 1448) (by decide +kernel)) (by decide +kernel)
theorem mM_RL_118 : Cond.methodLink RL 118 yX6_closes ∈ GW := gw_t (List.mem_of_getElem? (i := 852) (by decide +kernel)) (by decide +kernel)
theorem mM_RL_121 : Cond.methodLink RL 121 yX7_closes ∈ GW := gw_t (List.mem_of_getElem? (i := 1452) (by decide +kernel)) (by decide +kernel)
theorem mM_RL_122 : Cond.methodLink RL 122 yX6_shortest ∈ GW := gw_t (List.mem_of_getElem? (i := 856) (by decide +kernel)) (by decide +kernel)
theorem mM_RL_125 : Cond.methodLink RL 125 yX7_shortest ∈ GW := gw_t (List.mem_of_getElem? (i := 1460) (by decide +kernel)) (by decide +kernel)
theorem mM_RL_126 : Cond.methodLink RL 126 yX6_small ∈ GW := gw_t (List.mem_of_getElem? (i := 860) (by decide +kernel)) (by decide +kernel)
theorem mM_RL_129 : Cond.methodLink RL 129 yX7_small ∈ GW := gw_t (List.mem_of_getElem? (i := 1464) (by decide +kernel)) (by decide +kernel)
theorem mM_RL_130 : Cond.methodLink RL 130 yX6_dish ∈ GW := gw_t (List.mem_of_getElem? (i := 869) (by decide +kernel)) (by decide +kernel)
theorem mM_RL_133 : Cond.methodLink RL 133 yX7_dish ∈ GW := gw_t (List.mem_of_getElem? (i := 1472) (by decide +kernel)) (by decide +kernel)
theorem mM_RL_134 : Cond.methodLink RL 134 yX6_cheap ∈ GW := gw_t (List.mem_of_getElem? (i := 873) (by decide +kernel)) (by decide +kernel)
theorem mM_RL_137 : Cond.methodLink RL 137 yX7_cheap ∈ GW := gw_t (List.mem_of_getElem? (i := 1476) (by decide +kernel)) (by decide +kernel)
theorem mM_RL_138 : Cond.methodLink RL 138 yX6_cold ∈ GW := gw_t (List.mem_of_getElem? (i := 877) (by decide +kernel)) (by decide +kernel)
theorem mM_RL_141 : Cond.methodLink RL 141 yX7_cold ∈ GW := gw_t (List.mem_of_getElem? (i := 1481) (by decide +kernel)) (by decide +kernel)
theorem mM_RL_142 : Cond.methodLink RL 142 yX6_sheet ∈ GW := gw_t (List.mem_of_getElem? (i := 882) (by decide +kernel)) (by decide +kernel)
theorem mM_RL_145 : Cond.methodLink RL 145 yX7_sheet ∈ GW := gw_t (List.mem_of_getElem? (i := 1485) (by decide +kernel)) (by decide +kernel)
theorem mM_RL_146 : Cond.methodLink RL 146 yX6_lay ∈ GW := gw_t (List.mem_of_getElem? (i := 890) (by decide +kernel)) (by decide +kernel)
theorem mM_RL_149 : Cond.methodLink RL 149 yX7_lay ∈ GW := gw_t (List.mem_of_getElem? (i := 1492) (by decide +kernel)) (by decide +kernel)
theorem mM_RL_150 : Cond.methodLink RL 150 yX6_read ∈ GW := gw_t (List.mem_of_getElem? (i := 902) (by decide +kernel)) (by decide +kernel)
theorem mM_RL_154 : Cond.methodLink RL 154 yX7_read ∈ GW := gw_t (List.mem_of_getElem? (i := 1496) (by decide +kernel)) (by decide +kernel)
theorem mM_RL_155 : Cond.methodLink RL 155 yX6_torn ∈ GW := gw_t (List.mem_of_getElem? (i := 929) (by decide +kernel)) (by decide +kernel)
theorem mM_RL_158 : Cond.methodLink RL 158 yX7_torn ∈ GW := gw_t (List.mem_of_getElem? (i := 1502) (by decide +kernel)) (by decide +kernel)
theorem mM_RL_159 : Cond.methodLink RL 159 yX6_count ∈ GW := gw_t (List.mem_of_getElem? (i := 933) (by decide +kernel)) (by decide +kernel)
theorem mM_RL_162 : Cond.methodLink RL 162 yX7_count ∈ GW := gw_t (List.mem_of_getElem? (i := 1506) (by decide +kernel)) (by decide +kernel)
theorem mM_RX7_1 : Cond.methodLink RX7 1 objectInit ∈ GW := gw_t (List.mem_of_getElem? (i := 942) (by decide +kernel)) (by decide +kernel)
theorem mM_RX7_83 : Cond.methodLink RX7 83 yX7_firstDraft ∈ GW := gw_t (List.mem_of_getElem? (i := 943) (by decide +kernel)) (by decide +kernel)
theorem mM_RX7_86 : Cond.methodLink RX7 86 yX7_keepDraft ∈ GW := gw_t (List.mem_of_getElem? (i := 947) (by decide +kernel)) (by decide +kernel)
theorem mM_RX7_134 : Cond.methodLink RX7 134 yX7_in ∈ GW := gw_t (List.mem_of_getElem? (i := 953) (by decide +kernel)) (by decide +kernel)
theorem mM_RX7_158 : Cond.methodLink RX7 158 yX7_look ∈ GW := gw_t (List.mem_of_getElem? (i := 1142) (by decide +kernel)) (by decide +kernel)
theorem mM_RX7_162 : Cond.methodLink RX7 162 yX7_is ∈ GW := gw_t (List.mem_of_getElem? (i := 1162) (by decide +kernel)) (by decide +kernel)
theorem mM_RX7_166 : Cond.methodLink RX7 166 yX7_goesOn ∈ GW := gw_t (List.mem_of_getElem? (i := 1166) (by decide +kernel)) (by decide +kernel)
theorem mM_RX7_184 : Cond.methodLink RX7 184 yX7_needs ∈ GW := gw_t (List.mem_of_getElem? (i := 1150) (by decide +kernel)) (by decide +kernel)
theorem mM_RX7_188 : Cond.methodLink RX7 188 yX7_isNumber ∈ GW := gw_t (List.mem_of_getElem? (i := 1181) (by decide +kernel)) (by decide +kernel)
theorem mM_RX7_192 : Cond.methodLink RX7 192 yX7_next ∈ GW := gw_t (List.mem_of_getElem? (i := 1138) (by decide +kernel)) (by decide +kernel)
theorem mM_RX7_195 : Cond.methodLink RX7 195 yX7_nameNow ∈ GW := gw_t (List.mem_of_getElem? (i := 1158) (by decide +kernel)) (by decide +kernel)
theorem mM_RX7_205 : Cond.methodLink RX7 205 yX7_uses ∈ GW := gw_t (List.mem_of_getElem? (i := 1213) (by decide +kernel)) (by decide +kernel)
theorem mM_RX7_208 : Cond.methodLink RX7 208 yX7_readNumber ∈ GW := gw_t (List.mem_of_getElem? (i := 1177) (by decide +kernel)) (by decide +kernel)
theorem mM_RX7_212 : Cond.methodLink RX7 212 yX7_letters ∈ GW := gw_t (List.mem_of_getElem? (i := 1209) (by decide +kernel)) (by decide +kernel)
theorem mM_RX7_215 : Cond.methodLink RX7 215 yX7_readLetters ∈ GW := gw_t (List.mem_of_getElem? (i := 1205) (by decide +kernel)) (by decide +kernel)
theorem mM_RX7_218 : Cond.methodLink RX7 218 yX7_readWants ∈ GW := gw_t (List.mem_of_getElem? (i := 1217) (by decide +kernel)) (by decide +kernel)
theorem mM_RX7_222 : Cond.methodLink RX7 222 yX7_readWeekDay ∈ GW := gw_t (List.mem_of_getElem? (i := 1193) (by decide +kernel)) (by decide +kernel)
theorem mM_RX7_231 : Cond.methodLink RX7 231 yX7_readThing ∈ GW := gw_t (List.mem_of_getElem? (i := 1173) (by decide +kernel)) (by decide +kernel)
theorem mM_RX7_234 : Cond.methodLink RX7 234 yX7_readShops ∈ GW := gw_t (List.mem_of_getElem? (i := 1185) (by decide +kernel)) (by decide +kernel)
theorem mM_RX7_237 : Cond.methodLink RX7 237 yX7_readOut ∈ GW := gw_t (List.mem_of_getElem? (i := 1189) (by decide +kernel)) (by decide +kernel)
theorem mM_RX7_240 : Cond.methodLink RX7 240 yX7_readGuest ∈ GW := gw_t (List.mem_of_getElem? (i := 1197) (by decide +kernel)) (by decide +kernel)
theorem mM_RX7_243 : Cond.methodLink RX7 243 yX7_readSupper ∈ GW := gw_t (List.mem_of_getElem? (i := 1201) (by decide +kernel)) (by decide +kernel)
theorem mM_RX7_247 : Cond.methodLink RX7 247 yX7_readLine ∈ GW := gw_t (List.mem_of_getElem? (i := 1154) (by decide +kernel)) (by decide +kernel)
theorem mM_RX7_250 : Cond.methodLink RX7 250 yX7_isThing ∈ GW := gw_t (List.mem_of_getElem? (i := 1232) (by decide +kernel)) (by decide +kernel)
theorem mM_RX7_256 : Cond.methodLink RX7 256 yX7_isSupper ∈ GW := gw_t (List.mem_of_getElem? (i := 1241) (by decide +kernel)) (by decide +kernel)
theorem mM_RX7_267 : Cond.methodLink RX7 267 yX7_kind ∈ GW := gw_t (List.mem_of_getElem? (i := 1286) (by decide +kernel)) (by decide +kernel)
theorem mM_RX7_270 : Cond.methodLink RX7 270 yX7_flag ∈ GW := gw_t (List.mem_of_getElem? (i := 1298) (by decide +kernel)) (by decide +kernel)
theorem mM_RX7_273 : Cond.methodLink RX7 273 yX7_isAmong ∈ GW := gw_t (List.mem_of_getElem? (i := 1290) (by decide +kernel)) (by decide +kernel)
theorem mM_RX7_276 : Cond.methodLink RX7 276 yX7_have ∈ GW := gw_t (List.mem_of_getElem? (i := 1305) (by decide +kernel)) (by decide +kernel)
theorem mM_RX7_279 : Cond.methodLink RX7 279 yX7_anyOf ∈ GW := gw_t (List.mem_of_getElem? (i := 1294) (by decide +kernel)) (by decide +kernel)
theorem mM_RX7_283 : Cond.methodLink RX7 283 yX7_haveAll ∈ GW := gw_t (List.mem_of_getElem? (i := 1301) (by decide +kernel)) (by decide +kernel)
theorem mM_RX7_286 : Cond.methodLink RX7 286 yX7_wantOf ∈ GW := gw_t (List.mem_of_getElem? (i := 1309) (by decide +kernel)) (by decide +kernel)
theorem mM_RX7_290 : Cond.methodLink RX7 290 yX7_weekDay ∈ GW := gw_t (List.mem_of_getElem? (i := 1278) (by decide +kernel)) (by decide +kernel)
theorem mM_RX7_293 : Cond.methodLink RX7 293 yX7_isBought ∈ GW := gw_t (List.mem_of_getElem? (i := 1313) (by decide +kernel)) (by decide +kernel)
theorem mM_RX7_297 : Cond.methodLink RX7 297 yX7_lackOf ∈ GW := gw_t (List.mem_of_getElem? (i := 1282) (by decide +kernel)) (by decide +kernel)
theorem mM_RX7_301 : Cond.methodLink RX7 301 yX7_findTaken ∈ GW := gw_t (List.mem_of_getElem? (i := 1325) (by decide +kernel)) (by decide +kernel)
theorem mM_RX7_305 : Cond.methodLink RX7 305 yX7_packsOf ∈ GW := gw_t (List.mem_of_getElem? (i := 1321) (by decide +kernel)) (by decide +kernel)
theorem mM_RX7_308 : Cond.methodLink RX7 308 yX7_keeps ∈ GW := gw_t (List.mem_of_getElem? (i := 1261) (by decide +kernel)) (by decide +kernel)
theorem mM_RX7_313 : Cond.methodLink RX7 313 yX7_isLot ∈ GW := gw_t (List.mem_of_getElem? (i := 1257) (by decide +kernel)) (by decide +kernel)
theorem mM_RX7_316 : Cond.methodLink RX7 316 yX7_whyNot ∈ GW := gw_t (List.mem_of_getElem? (i := 1274) (by decide +kernel)) (by decide +kernel)
theorem mM_RX7_320 : Cond.methodLink RX7 320 yX7_eats ∈ GW := gw_t (List.mem_of_getElem? (i := 1333) (by decide +kernel)) (by decide +kernel)
theorem mM_RX7_323 : Cond.methodLink RX7 323 yX7_nights ∈ GW := gw_t (List.mem_of_getElem? (i := 1341) (by decide +kernel)) (by decide +kernel)
theorem mM_RX7_326 : Cond.methodLink RX7 326 yX7_copies ∈ GW := gw_t (List.mem_of_getElem? (i := 1357) (by decide +kernel)) (by decide +kernel)
theorem mM_RX7_329 : Cond.methodLink RX7 329 yX7_begins ∈ GW := gw_t (List.mem_of_getElem? (i := 1382) (by decide +kernel)) (by decide +kernel)
theorem mM_RX7_335 : Cond.methodLink RX7 335 yX7_isSameLarder ∈ GW := gw_t (List.mem_of_getElem? (i := 1394) (by decide +kernel)) (by decide +kernel)
theorem mM_RX7_338 : Cond.methodLink RX7 338 yX7_isClosed ∈ GW := gw_t (List.mem_of_getElem? (i := 1390) (by decide +kernel)) (by decide +kernel)
theorem mM_RX7_343 : Cond.methodLink RX7 343 yX7_runs ∈ GW := gw_t (List.mem_of_getElem? (i := 1378) (by decide +kernel)) (by decide +kernel)
theorem mM_RX7_346 : Cond.methodLink RX7 346 yX7_isRowClosed ∈ GW := gw_t (List.mem_of_getElem? (i := 1386) (by decide +kernel)) (by decide +kernel)
theorem mM_RX7_349 : Cond.methodLink RX7 349 yX7_fedOf ∈ GW := gw_t (List.mem_of_getElem? (i := 1398) (by decide +kernel)) (by decide +kernel)
theorem mM_RX7_352 : Cond.methodLink RX7 352 yX7_bearsNow ∈ GW := gw_t (List.mem_of_getElem? (i := 1406) (by decide +kernel)) (by decide +kernel)
theorem mM_RX7_355 : Cond.methodLink RX7 355 yX7_told ∈ GW := gw_t (List.mem_of_getElem? (i := 1410) (by decide +kernel)) (by decide +kernel)
theorem mM_RX7_362 : Cond.methodLink RX7 362 yX7_picks ∈ GW := gw_t (List.mem_of_getElem? (i := 1432) (by decide +kernel)) (by decide +kernel)
theorem mM_RX7_380 : Cond.methodLink RX7 380 yX7_beginRows ∈ GW := gw_t (List.mem_of_getElem? (i := 1424) (by decide +kernel)) (by decide +kernel)
theorem mM_RX7_383 : Cond.methodLink RX7 383 yX7_nextRow ∈ GW := gw_t (List.mem_of_getElem? (i := 1428) (by decide +kernel)) (by decide +kernel)
theorem mM_RX7_386 : Cond.methodLink RX7 386 yX7_leastFed ∈ GW := gw_t (List.mem_of_getElem? (i := 1436) (by decide +kernel)) (by decide +kernel)
theorem mM_RX7_392 : Cond.methodLink RX7 392 yX7_compares ∈ GW := gw_t (List.mem_of_getElem? (i := 1440) (by decide +kernel)) (by decide +kernel)
theorem mM_RX7_395 : Cond.methodLink RX7 395 yX7_areDays ∈ GW := gw_t (List.mem_of_getElem? (i := 1417) (by decide +kernel)) (by decide +kernel)
theorem mM_RX7_398 : Cond.methodLink RX7 398 yX7_findBest ∈ GW := gw_t (List.mem_of_getElem? (i := 1420) (by decide +kernel)) (by decide +kernel)
theorem mM_RX7_408 : Cond.methodLink RX7 408 yX7_findClosing ∈ GW := gw_t (List.mem_of_getElem? (i := 1456) (by decide +kernel)) (by decide +kernel)
theorem mM_RX7_411 : Cond.methodLink RX7 411 yX7_closingWith ∈ GW := gw_t (List.mem_of_getElem? (i := 1468) (by decide +kernel)) (by decide +kernel)
theorem mM_RX7_416 : Cond.methodLink RX7 416 yX7_isSheet ∈ GW := gw_t (List.mem_of_getElem? (i := 1489) (by decide +kernel)) (by decide +kernel)
theorem mM_RX7_424 : Cond.methodLink RX7 424 yX7_put ∈ GW := gw_t (List.mem_of_getElem? (i := 1501) (by decide +kernel)) (by decide +kernel)
theorem mM_RJ0_335 : Cond.methodLink RJ0 335 yJ0_coder_7d493 ∈ GW := gw_t (List.mem_of_getElem? (i := 432) (by decide +kernel)) (by decide +kernel)
theorem mM_RJ0_492 : Cond.methodLink RJ0 492 yJ0_isLatin1_aae02 ∈ GW := gw_t (List.mem_of_getElem? (i := 442) (by decide +kernel)) (by decide +kernel)
theorem mM_RJ0_495 : Cond.methodLink RJ0 495 yJ1_charAt_3b067 ∈ GW := gw_t (List.mem_of_getElem? (i := 446) (by decide +kernel)) (by decide +kernel)
theorem mM_RJ0_1059 : Cond.methodLink RJ0 1059 yJ3_checkIndex_8e157 ∈ GW := gw_t (List.mem_of_getElem? (i := 454) (by decide +kernel)) (by decide +kernel)
theorem mM_RJ1_9 : Cond.methodLink RJ1 9 yJ0_checkIndex_df160 ∈ GW := gw_t (List.mem_of_getElem? (i := 449) (by decide +kernel)) (by decide +kernel)
theorem mK_RX3_48 : Cond.constant RX3 48 1000000 ∈ GW := gw_t (List.mem_of_getElem? (i := 800) (by decide +kernel)) (by decide +kernel)
theorem mL_RX6_317 : Cond.constantLong RX6 317 3 ∈ GW := gw_t (List.mem_of_getElem? (i := 911) (by decide +kernel)) (by decide +kernel)
theorem mL_RX3_111 : Cond.constantLong RX3 111 100000 ∈ GW := gw_t (List.mem_of_getElem? (i := 818) (by decide +kernel)) (by decide +kernel)
theorem mL_RX4_25 : Cond.constantLong RX4 25 2 ∈ GW := gw_t (List.mem_of_getElem? (i := 916) (by decide +kernel)) (by decide +kernel)
theorem mL_RL_13 : Cond.constantLong RL 13 4294967295 ∈ GW := gw_t (List.mem_of_getElem? (i := 1510) (by decide +kernel)) (by decide +kernel)
theorem mL_RX7_130 : Cond.constantLong RX7 130 24 ∈ GW := gw_t (List.mem_of_getElem? (i := 951) (by decide +kernel)) (by decide +kernel)
theorem mL_RX7_132 : Cond.constantLong RX7 132 32 ∈ GW := gw_t (List.mem_of_getElem? (i := 952) (by decide +kernel)) (by decide +kernel)
theorem mL_RX7_144 : Cond.constantLong RX7 144 255 ∈ GW := gw_t (List.mem_of_getElem? (i := 1129) (by decide +kernel)) (by decide +kernel)
theorem mL_RX7_173 : Cond.constantLong RX7 173 97 ∈ GW := gw_t (List.mem_of_getElem? (i := 1146) (by decide +kernel)) (by decide +kernel)
theorem mL_RX7_175 : Cond.constantLong RX7 175 122 ∈ GW := gw_t (List.mem_of_getElem? (i := 1147) (by decide +kernel)) (by decide +kernel)
theorem mL_RX7_177 : Cond.constantLong RX7 177 48 ∈ GW := gw_t (List.mem_of_getElem? (i := 1148) (by decide +kernel)) (by decide +kernel)
theorem mL_RX7_179 : Cond.constantLong RX7 179 57 ∈ GW := gw_t (List.mem_of_getElem? (i := 1149) (by decide +kernel)) (by decide +kernel)
theorem mL_RX7_199 : Cond.constantLong RX7 199 15 ∈ GW := gw_t (List.mem_of_getElem? (i := 1221) (by decide +kernel)) (by decide +kernel)
theorem mL_RX7_201 : Cond.constantLong RX7 201 17 ∈ GW := gw_t (List.mem_of_getElem? (i := 1222) (by decide +kernel)) (by decide +kernel)
theorem mL_RX7_203 : Cond.constantLong RX7 203 5 ∈ GW := gw_t (List.mem_of_getElem? (i := 1223) (by decide +kernel)) (by decide +kernel)
theorem mL_RX7_225 : Cond.constantLong RX7 225 3 ∈ GW := gw_t (List.mem_of_getElem? (i := 1170) (by decide +kernel)) (by decide +kernel)
theorem mL_RX7_227 : Cond.constantLong RX7 227 10 ∈ GW := gw_t (List.mem_of_getElem? (i := 1171) (by decide +kernel)) (by decide +kernel)
theorem mL_RX7_229 : Cond.constantLong RX7 229 14 ∈ GW := gw_t (List.mem_of_getElem? (i := 1172) (by decide +kernel)) (by decide +kernel)
theorem mL_RX7_254 : Cond.constantLong RX7 254 2 ∈ GW := gw_t (List.mem_of_getElem? (i := 1236) (by decide +kernel)) (by decide +kernel)
theorem mL_RX7_259 : Cond.constantLong RX7 259 20 ∈ GW := gw_t (List.mem_of_getElem? (i := 1245) (by decide +kernel)) (by decide +kernel)
theorem mL_RX7_261 : Cond.constantLong RX7 261 25 ∈ GW := gw_t (List.mem_of_getElem? (i := 1246) (by decide +kernel)) (by decide +kernel)
theorem mL_RX7_263 : Cond.constantLong RX7 263 4 ∈ GW := gw_t (List.mem_of_getElem? (i := 1247) (by decide +kernel)) (by decide +kernel)
theorem mL_RX7_265 : Cond.constantLong RX7 265 16 ∈ GW := gw_t (List.mem_of_getElem? (i := 1252) (by decide +kernel)) (by decide +kernel)
theorem mL_RX7_311 : Cond.constantLong RX7 311 9 ∈ GW := gw_t (List.mem_of_getElem? (i := 1265) (by decide +kernel)) (by decide +kernel)
theorem mL_RX7_341 : Cond.constantLong RX7 341 13 ∈ GW := gw_t (List.mem_of_getElem? (i := 1377) (by decide +kernel)) (by decide +kernel)
theorem mL_RX7_414 : Cond.constantLong RX7 414 60 ∈ GW := gw_t (List.mem_of_getElem? (i := 1480) (by decide +kernel)) (by decide +kernel)
theorem mL_RX7_419 : Cond.constantLong RX7 419 12 ∈ GW := gw_t (List.mem_of_getElem? (i := 1500) (by decide +kernel)) (by decide +kernel)
theorem mLib_max_s : Cond.static Lib.Math.max.name ∈ GW := gw_t (List.mem_of_getElem? (i := 636) (by decide +kernel)) (by decide +kernel)
theorem mLib_max_c : Cond.code Lib.Math.max.name Lib.Math.max.code 2 (some .int) ∈ GW := gw_t (List.mem_of_getElem? (i := 637) (by decide +kernel)) (by decide +kernel)
theorem mLib_min_s : Cond.static Lib.Math.min.name ∈ GW := gw_t (List.mem_of_getElem? (i := 669) (by decide +kernel)) (by decide +kernel)
theorem mLib_min_c : Cond.code Lib.Math.min.name Lib.Math.min.code 2 (some .int) ∈ GW := gw_t (List.mem_of_getElem? (i := 670) (by decide +kernel)) (by decide +kernel)
theorem mLib_math : Cond.initialized "java/lang/Math" ∈ GW := gw_t (List.mem_of_getElem? (i := 13) (by decide +kernel)) (by decide +kernel)
theorem mLib_copy_n : Cond.native arraycopyName ∈ GW := gw_t (List.mem_of_getElem? (i := 572) (by decide +kernel)) (by decide +kernel)
theorem mLib_copy_s : Cond.static arraycopyName ∈ GW := gw_t (List.mem_of_getElem? (i := 571) (by decide +kernel)) (by decide +kernel)
theorem mLib_sys : Cond.initialized "java/lang/System" ∈ GW := gw_t (List.mem_of_getElem? (i := 14) (by decide +kernel)) (by decide +kernel)
theorem mInit_RJ0 : Cond.initialized RJ0 ∈ GW := gw_t (List.mem_of_getElem? (i := 9) (by decide +kernel)) (by decide +kernel)
theorem mInit_RJ1 : Cond.initialized RJ1 ∈ GW := gw_t (List.mem_of_getElem? (i := 10) (by decide +kernel)) (by decide +kernel)
theorem mInit_RJ3 : Cond.initialized RJ3 ∈ GW := gw_t (List.mem_of_getElem? (i := 11) (by decide +kernel)) (by decide +kernel)
theorem mInit_RJ9 : Cond.initialized RJ9 ∈ GW := gw_t (List.mem_of_getElem? (i := 13) (by decide +kernel)) (by decide +kernel)
theorem mInit_RX0 : Cond.initialized RX0 ∈ GW := gw_t (List.mem_of_getElem? (i := 4) (by decide +kernel)) (by decide +kernel)
theorem mInit_RX1 : Cond.initialized RX1 ∈ GW := gw_t (List.mem_of_getElem? (i := 3) (by decide +kernel)) (by decide +kernel)
theorem mInit_RX2 : Cond.initialized RX2 ∈ GW := gw_t (List.mem_of_getElem? (i := 2) (by decide +kernel)) (by decide +kernel)
theorem mInit_RX3 : Cond.initialized RX3 ∈ GW := gw_t (List.mem_of_getElem? (i := 6) (by decide +kernel)) (by decide +kernel)
theorem mInit_RX4 : Cond.initialized RX4 ∈ GW := gw_t (List.mem_of_getElem? (i := 7) (by decide +kernel)) (by decide +kernel)
theorem mInit_RX5 : Cond.initialized RX5 ∈ GW := gw_t (List.mem_of_getElem? (i := 5) (by decide +kernel)) (by decide +kernel)
theorem mInit_RX6 : Cond.initialized RX6 ∈ GW := gw_t (List.mem_of_getElem? (i := 1) (by decide +kernel)) (by decide +kernel)
theorem mInit_RX7 : Cond.initialized RX7 ∈ GW := gw_t (List.mem_of_getElem? (i := 8) (by decide +kernel)) (by decide +kernel)
abbrev WX0_resetSums : List Cond := Cond.code yX0_resetSums cX0_resetSums 1 none :: GW
theorem mC_X0_resetSums : Cond.code yX0_resetSums cX0_resetSums 1 none ∈ GW := gw_code (List.mem_of_getElem? (i := 191) (by decide +kernel))
theorem mI_X0_resetSums : Cond.instanceMethod yX0_resetSums ∈ GW := gw_t (List.mem_of_getElem? (i := 190) (by decide +kernel)) (by decide +kernel)
theorem mSel_X0_resetSums : Cond.selects RX0 yX0_resetSums yX0_resetSums ∈ GW := gw_s (List.mem_of_getElem? (i := 1) (by decide +kernel)) (by decide +kernel)
theorem dc_X0_resetSums : yX0_resetSums.cls = RX0 ∧ yX0_resetSums.cls ≠ "java/lang/invoke/MethodHandle" ∧ yX0_resetSums.cls ≠ "java/lang/invoke/VarHandle" ∧ (parseMethodDescriptor yX0_resetSums.desc).map (fun d => d.parameters.length) = some 0 := by decide +kernel
abbrev WX0_reset : List Cond := Cond.code yX0_reset cX0_reset 2 none :: GW
theorem mC_X0_reset : Cond.code yX0_reset cX0_reset 2 none ∈ GW := gw_code (List.mem_of_getElem? (i := 187) (by decide +kernel))
theorem mI_X0_reset : Cond.instanceMethod yX0_reset ∈ GW := gw_t (List.mem_of_getElem? (i := 185) (by decide +kernel)) (by decide +kernel)
theorem mSel_X0_reset : Cond.selects RX0 yX0_reset yX0_reset ∈ GW := gw_t (List.mem_of_getElem? (i := 186) (by decide +kernel)) (by decide +kernel)
theorem dc_X0_reset : yX0_reset.cls = RX0 ∧ yX0_reset.cls ≠ "java/lang/invoke/MethodHandle" ∧ yX0_reset.cls ≠ "java/lang/invoke/VarHandle" ∧ (parseMethodDescriptor yX0_reset.desc).map (fun d => d.parameters.length) = some 0 := by decide +kernel
abbrev WX0_copyFrom : List Cond := Cond.code yX0_copyFrom cX0_copyFrom 2 none :: GW
theorem mC_X0_copyFrom : Cond.code yX0_copyFrom cX0_copyFrom 2 none ∈ GW := gw_code (List.mem_of_getElem? (i := 711) (by decide +kernel))
theorem mI_X0_copyFrom : Cond.instanceMethod yX0_copyFrom ∈ GW := gw_t (List.mem_of_getElem? (i := 709) (by decide +kernel)) (by decide +kernel)
theorem mSel_X0_copyFrom : Cond.selects RX0 yX0_copyFrom yX0_copyFrom ∈ GW := gw_t (List.mem_of_getElem? (i := 710) (by decide +kernel)) (by decide +kernel)
theorem dc_X0_copyFrom : yX0_copyFrom.cls = RX0 ∧ yX0_copyFrom.cls ≠ "java/lang/invoke/MethodHandle" ∧ yX0_copyFrom.cls ≠ "java/lang/invoke/VarHandle" ∧ (parseMethodDescriptor yX0_copyFrom.desc).map (fun d => d.parameters.length) = some 1 := by decide +kernel
abbrev WX0_beginRow : List Cond := Cond.code yX0_beginRow cX0_beginRow 2 none :: GW
theorem mC_X0_beginRow : Cond.code yX0_beginRow cX0_beginRow 2 none ∈ GW := gw_code (List.mem_of_getElem? (i := 736) (by decide +kernel))
theorem mI_X0_beginRow : Cond.instanceMethod yX0_beginRow ∈ GW := gw_t (List.mem_of_getElem? (i := 734) (by decide +kernel)) (by decide +kernel)
theorem mSel_X0_beginRow : Cond.selects RX0 yX0_beginRow yX0_beginRow ∈ GW := gw_t (List.mem_of_getElem? (i := 735) (by decide +kernel)) (by decide +kernel)
theorem dc_X0_beginRow : yX0_beginRow.cls = RX0 ∧ yX0_beginRow.cls ≠ "java/lang/invoke/MethodHandle" ∧ yX0_beginRow.cls ≠ "java/lang/invoke/VarHandle" ∧ (parseMethodDescriptor yX0_beginRow.desc).map (fun d => d.parameters.length) = some 1 := by decide +kernel
abbrev WX0_hasSameLarder : List Cond := Cond.code yX0_hasSameLarder cX0_hasSameLarder 3 (some .boolean) :: GW
theorem mC_X0_hasSameLarder : Cond.code yX0_hasSameLarder cX0_hasSameLarder 3 (some .boolean) ∈ GW := gw_code (List.mem_of_getElem? (i := 757) (by decide +kernel))
theorem mI_X0_hasSameLarder : Cond.instanceMethod yX0_hasSameLarder ∈ GW := gw_t (List.mem_of_getElem? (i := 755) (by decide +kernel)) (by decide +kernel)
theorem mSel_X0_hasSameLarder : Cond.selects RX0 yX0_hasSameLarder yX0_hasSameLarder ∈ GW := gw_t (List.mem_of_getElem? (i := 756) (by decide +kernel)) (by decide +kernel)
theorem dc_X0_hasSameLarder : yX0_hasSameLarder.cls = RX0 ∧ yX0_hasSameLarder.cls ≠ "java/lang/invoke/MethodHandle" ∧ yX0_hasSameLarder.cls ≠ "java/lang/invoke/VarHandle" ∧ (parseMethodDescriptor yX0_hasSameLarder.desc).map (fun d => d.parameters.length) = some 1 := by decide +kernel
abbrev WX0_unitsInAll : List Cond := Cond.code yX0_unitsInAll cX0_unitsInAll 3 (some .int) :: GW
theorem mC_X0_unitsInAll : Cond.code yX0_unitsInAll cX0_unitsInAll 3 (some .int) ∈ GW := gw_code (List.mem_of_getElem? (i := 699) (by decide +kernel))
theorem mI_X0_unitsInAll : Cond.instanceMethod yX0_unitsInAll ∈ GW := gw_t (List.mem_of_getElem? (i := 697) (by decide +kernel)) (by decide +kernel)
theorem mSel_X0_unitsInAll : Cond.selects RX0 yX0_unitsInAll yX0_unitsInAll ∈ GW := gw_t (List.mem_of_getElem? (i := 698) (by decide +kernel)) (by decide +kernel)
theorem dc_X0_unitsInAll : yX0_unitsInAll.cls = RX0 ∧ yX0_unitsInAll.cls ≠ "java/lang/invoke/MethodHandle" ∧ yX0_unitsInAll.cls ≠ "java/lang/invoke/VarHandle" ∧ (parseMethodDescriptor yX0_unitsInAll.desc).map (fun d => d.parameters.length) = some 0 := by decide +kernel
abbrev WX0_unitsOf : List Cond := Cond.code yX0_unitsOf cX0_unitsOf 4 (some .int) :: GW
theorem mC_X0_unitsOf : Cond.code yX0_unitsOf cX0_unitsOf 4 (some .int) ∈ GW := gw_code (List.mem_of_getElem? (i := 634) (by decide +kernel))
theorem mI_X0_unitsOf : Cond.instanceMethod yX0_unitsOf ∈ GW := gw_t (List.mem_of_getElem? (i := 633) (by decide +kernel)) (by decide +kernel)
theorem mSel_X0_unitsOf : Cond.selects RX0 yX0_unitsOf yX0_unitsOf ∈ GW := gw_s (List.mem_of_getElem? (i := 25) (by decide +kernel)) (by decide +kernel)
theorem dc_X0_unitsOf : yX0_unitsOf.cls = RX0 ∧ yX0_unitsOf.cls ≠ "java/lang/invoke/MethodHandle" ∧ yX0_unitsOf.cls ≠ "java/lang/invoke/VarHandle" ∧ (parseMethodDescriptor yX0_unitsOf.desc).map (fun d => d.parameters.length) = some 1 := by decide +kernel
abbrev WJ9_floorMod_7cf53 : List Cond := Cond.code yJ9_floorMod_7cf53 cJ9_floorMod_7cf53 3 (some .int) :: GW
theorem mC_J9_floorMod_7cf53 : Cond.code yJ9_floorMod_7cf53 cJ9_floorMod_7cf53 3 (some .int) ∈ GW := gw_code (List.mem_of_getElem? (i := 556) (by decide +kernel))
theorem mS_J9_floorMod_7cf53 : Cond.static yJ9_floorMod_7cf53 ∈ GW := gw_t (List.mem_of_getElem? (i := 555) (by decide +kernel)) (by decide +kernel)
theorem dc_J9_floorMod_7cf53 : yJ9_floorMod_7cf53.cls ≠ "java/lang/invoke/MethodHandle" ∧ yJ9_floorMod_7cf53.cls ≠ "java/lang/invoke/VarHandle" ∧ (parseMethodDescriptor yJ9_floorMod_7cf53.desc).map (fun d => d.parameters.length) = some 2 := by decide +kernel
abbrev WX2_isOut : List Cond := Cond.code yX2_isOut cX2_isOut 2 (some .boolean) :: GW
theorem mC_X2_isOut : Cond.code yX2_isOut cX2_isOut 2 (some .boolean) ∈ GW := gw_code (List.mem_of_getElem? (i := 553) (by decide +kernel))
theorem mI_X2_isOut : Cond.instanceMethod yX2_isOut ∈ GW := gw_t (List.mem_of_getElem? (i := 551) (by decide +kernel)) (by decide +kernel)
theorem mSel_X2_isOut : Cond.selects RX2 yX2_isOut yX2_isOut ∈ GW := gw_t (List.mem_of_getElem? (i := 552) (by decide +kernel)) (by decide +kernel)
theorem dc_X2_isOut : yX2_isOut.cls = RX2 ∧ yX2_isOut.cls ≠ "java/lang/invoke/MethodHandle" ∧ yX2_isOut.cls ≠ "java/lang/invoke/VarHandle" ∧ (parseMethodDescriptor yX2_isOut.desc).map (fun d => d.parameters.length) = some 1 := by decide +kernel
abbrev WX2_wanted : List Cond := Cond.code yX2_wanted cX2_wanted 5 (some .int) :: GW
theorem mC_X2_wanted : Cond.code yX2_wanted cX2_wanted 5 (some .int) ∈ GW := gw_code (List.mem_of_getElem? (i := 630) (by decide +kernel))
theorem mI_X2_wanted : Cond.instanceMethod yX2_wanted ∈ GW := gw_t (List.mem_of_getElem? (i := 628) (by decide +kernel)) (by decide +kernel)
theorem mSel_X2_wanted : Cond.selects RX2 yX2_wanted yX2_wanted ∈ GW := gw_t (List.mem_of_getElem? (i := 629) (by decide +kernel)) (by decide +kernel)
theorem dc_X2_wanted : yX2_wanted.cls = RX2 ∧ yX2_wanted.cls ≠ "java/lang/invoke/MethodHandle" ∧ yX2_wanted.cls ≠ "java/lang/invoke/VarHandle" ∧ (parseMethodDescriptor yX2_wanted.desc).map (fun d => d.parameters.length) = some 3 := by decide +kernel
abbrev WX2_isInSoup : List Cond := Cond.code yX2_isInSoup cX2_isInSoup 3 (some .boolean) :: GW
theorem mC_X2_isInSoup : Cond.code yX2_isInSoup cX2_isInSoup 3 (some .boolean) ∈ GW := gw_code (List.mem_of_getElem? (i := 512) (by decide +kernel))
theorem mI_X2_isInSoup : Cond.instanceMethod yX2_isInSoup ∈ GW := gw_t (List.mem_of_getElem? (i := 510) (by decide +kernel)) (by decide +kernel)
theorem mSel_X2_isInSoup : Cond.selects RX2 yX2_isInSoup yX2_isInSoup ∈ GW := gw_t (List.mem_of_getElem? (i := 511) (by decide +kernel)) (by decide +kernel)
theorem dc_X2_isInSoup : yX2_isInSoup.cls = RX2 ∧ yX2_isInSoup.cls ≠ "java/lang/invoke/MethodHandle" ∧ yX2_isInSoup.cls ≠ "java/lang/invoke/VarHandle" ∧ (parseMethodDescriptor yX2_isInSoup.desc).map (fun d => d.parameters.length) = some 2 := by decide +kernel
abbrev WX2_soupWanted : List Cond := Cond.code yX2_soupWanted cX2_soupWanted 3 (some .int) :: GW
theorem mC_X2_soupWanted : Cond.code yX2_soupWanted cX2_soupWanted 3 (some .int) ∈ GW := gw_code (List.mem_of_getElem? (i := 642) (by decide +kernel))
theorem mI_X2_soupWanted : Cond.instanceMethod yX2_soupWanted ∈ GW := gw_t (List.mem_of_getElem? (i := 640) (by decide +kernel)) (by decide +kernel)
theorem mSel_X2_soupWanted : Cond.selects RX2 yX2_soupWanted yX2_soupWanted ∈ GW := gw_t (List.mem_of_getElem? (i := 641) (by decide +kernel)) (by decide +kernel)
theorem dc_X2_soupWanted : yX2_soupWanted.cls = RX2 ∧ yX2_soupWanted.cls ≠ "java/lang/invoke/MethodHandle" ∧ yX2_soupWanted.cls ≠ "java/lang/invoke/VarHandle" ∧ (parseMethodDescriptor yX2_soupWanted.desc).map (fun d => d.parameters.length) = some 2 := by decide +kernel
abbrev WX0_lacking : List Cond := Cond.code yX0_lacking cX0_lacking 7 (some .int) :: GW
theorem mC_X0_lacking : Cond.code yX0_lacking cX0_lacking 7 (some .int) ∈ GW := gw_code (List.mem_of_getElem? (i := 626) (by decide +kernel))
theorem mI_X0_lacking : Cond.instanceMethod yX0_lacking ∈ GW := gw_t (List.mem_of_getElem? (i := 624) (by decide +kernel)) (by decide +kernel)
theorem mSel_X0_lacking : Cond.selects RX0 yX0_lacking yX0_lacking ∈ GW := gw_t (List.mem_of_getElem? (i := 625) (by decide +kernel)) (by decide +kernel)
theorem dc_X0_lacking : yX0_lacking.cls = RX0 ∧ yX0_lacking.cls ≠ "java/lang/invoke/MethodHandle" ∧ yX0_lacking.cls ≠ "java/lang/invoke/VarHandle" ∧ (parseMethodDescriptor yX0_lacking.desc).map (fun d => d.parameters.length) = some 4 := by decide +kernel
abbrev WX2_isBought : List Cond := Cond.code yX2_isBought cX2_isBought 5 (some .boolean) :: GW
theorem mC_X2_isBought : Cond.code yX2_isBought cX2_isBought 5 (some .boolean) ∈ GW := gw_code (List.mem_of_getElem? (i := 646) (by decide +kernel))
theorem mI_X2_isBought : Cond.instanceMethod yX2_isBought ∈ GW := gw_t (List.mem_of_getElem? (i := 644) (by decide +kernel)) (by decide +kernel)
theorem mSel_X2_isBought : Cond.selects RX2 yX2_isBought yX2_isBought ∈ GW := gw_t (List.mem_of_getElem? (i := 645) (by decide +kernel)) (by decide +kernel)
theorem dc_X2_isBought : yX2_isBought.cls = RX2 ∧ yX2_isBought.cls ≠ "java/lang/invoke/MethodHandle" ∧ yX2_isBought.cls ≠ "java/lang/invoke/VarHandle" ∧ (parseMethodDescriptor yX2_isBought.desc).map (fun d => d.parameters.length) = some 3 := by decide +kernel
abbrev WX0_whyNot : List Cond := Cond.code yX0_whyNot cX0_whyNot 5 (some .int) :: GW
theorem mC_X0_whyNot : Cond.code yX0_whyNot cX0_whyNot 5 (some .int) ∈ GW := gw_code (List.mem_of_getElem? (i := 621) (by decide +kernel))
theorem mI_X0_whyNot : Cond.instanceMethod yX0_whyNot ∈ GW := gw_t (List.mem_of_getElem? (i := 619) (by decide +kernel)) (by decide +kernel)
theorem mSel_X0_whyNot : Cond.selects RX0 yX0_whyNot yX0_whyNot ∈ GW := gw_t (List.mem_of_getElem? (i := 620) (by decide +kernel)) (by decide +kernel)
theorem dc_X0_whyNot : yX0_whyNot.cls = RX0 ∧ yX0_whyNot.cls ≠ "java/lang/invoke/MethodHandle" ∧ yX0_whyNot.cls ≠ "java/lang/invoke/VarHandle" ∧ (parseMethodDescriptor yX0_whyNot.desc).map (fun d => d.parameters.length) = some 3 := by decide +kernel
abbrev WX0_packs : List Cond := Cond.code yX0_packs cX0_packs 5 (some .int) :: GW
theorem mC_X0_packs : Cond.code yX0_packs cX0_packs 5 (some .int) ∈ GW := gw_code (List.mem_of_getElem? (i := 655) (by decide +kernel))
theorem mI_X0_packs : Cond.instanceMethod yX0_packs ∈ GW := gw_t (List.mem_of_getElem? (i := 653) (by decide +kernel)) (by decide +kernel)
theorem mSel_X0_packs : Cond.selects RX0 yX0_packs yX0_packs ∈ GW := gw_t (List.mem_of_getElem? (i := 654) (by decide +kernel)) (by decide +kernel)
theorem dc_X0_packs : yX0_packs.cls = RX0 ∧ yX0_packs.cls ≠ "java/lang/invoke/MethodHandle" ∧ yX0_packs.cls ≠ "java/lang/invoke/VarHandle" ∧ (parseMethodDescriptor yX0_packs.desc).map (fun d => d.parameters.length) = some 4 := by decide +kernel
abbrev WX0_findTakenBySoup : List Cond := Cond.code yX0_findTakenBySoup cX0_findTakenBySoup 8 none :: GW
theorem mC_X0_findTakenBySoup : Cond.code yX0_findTakenBySoup cX0_findTakenBySoup 8 none ∈ GW := gw_code (List.mem_of_getElem? (i := 667) (by decide +kernel))
theorem mI_X0_findTakenBySoup : Cond.instanceMethod yX0_findTakenBySoup ∈ GW := gw_t (List.mem_of_getElem? (i := 666) (by decide +kernel)) (by decide +kernel)
theorem mSel_X0_findTakenBySoup : Cond.selects RX0 yX0_findTakenBySoup yX0_findTakenBySoup ∈ GW := gw_s (List.mem_of_getElem? (i := 27) (by decide +kernel)) (by decide +kernel)
theorem dc_X0_findTakenBySoup : yX0_findTakenBySoup.cls = RX0 ∧ yX0_findTakenBySoup.cls ≠ "java/lang/invoke/MethodHandle" ∧ yX0_findTakenBySoup.cls ≠ "java/lang/invoke/VarHandle" ∧ (parseMethodDescriptor yX0_findTakenBySoup.desc).map (fun d => d.parameters.length) = some 3 := by decide +kernel
abbrev WX0_findTaken : List Cond := Cond.code yX0_findTaken cX0_findTaken 5 none :: GW
theorem mC_X0_findTaken : Cond.code yX0_findTaken cX0_findTaken 5 none ∈ GW := gw_code (List.mem_of_getElem? (i := 663) (by decide +kernel))
theorem mI_X0_findTaken : Cond.instanceMethod yX0_findTaken ∈ GW := gw_t (List.mem_of_getElem? (i := 662) (by decide +kernel)) (by decide +kernel)
theorem mSel_X0_findTaken : Cond.selects RX0 yX0_findTaken yX0_findTaken ∈ GW := gw_s (List.mem_of_getElem? (i := 26) (by decide +kernel)) (by decide +kernel)
theorem dc_X0_findTaken : yX0_findTaken.cls = RX0 ∧ yX0_findTaken.cls ≠ "java/lang/invoke/MethodHandle" ∧ yX0_findTaken.cls ≠ "java/lang/invoke/VarHandle" ∧ (parseMethodDescriptor yX0_findTaken.desc).map (fun d => d.parameters.length) = some 3 := by decide +kernel
abbrev WX0_taking : List Cond := Cond.code yX0_taking cX0_taking 5 (some .int) :: GW
theorem mC_X0_taking : Cond.code yX0_taking cX0_taking 5 (some .int) ∈ GW := gw_code (List.mem_of_getElem? (i := 659) (by decide +kernel))
theorem mI_X0_taking : Cond.instanceMethod yX0_taking ∈ GW := gw_t (List.mem_of_getElem? (i := 657) (by decide +kernel)) (by decide +kernel)
theorem mSel_X0_taking : Cond.selects RX0 yX0_taking yX0_taking ∈ GW := gw_t (List.mem_of_getElem? (i := 658) (by decide +kernel)) (by decide +kernel)
theorem dc_X0_taking : yX0_taking.cls = RX0 ∧ yX0_taking.cls ≠ "java/lang/invoke/MethodHandle" ∧ yX0_taking.cls ≠ "java/lang/invoke/VarHandle" ∧ (parseMethodDescriptor yX0_taking.desc).map (fun d => d.parameters.length) = some 4 := by decide +kernel
abbrev WX0_takeOldest : List Cond := Cond.code yX0_takeOldest cX0_takeOldest 6 none :: GW
theorem mC_X0_takeOldest : Cond.code yX0_takeOldest cX0_takeOldest 6 none ∈ GW := gw_code (List.mem_of_getElem? (i := 683) (by decide +kernel))
theorem mI_X0_takeOldest : Cond.instanceMethod yX0_takeOldest ∈ GW := gw_t (List.mem_of_getElem? (i := 682) (by decide +kernel)) (by decide +kernel)
theorem mSel_X0_takeOldest : Cond.selects RX0 yX0_takeOldest yX0_takeOldest ∈ GW := gw_s (List.mem_of_getElem? (i := 28) (by decide +kernel)) (by decide +kernel)
theorem dc_X0_takeOldest : yX0_takeOldest.cls = RX0 ∧ yX0_takeOldest.cls ≠ "java/lang/invoke/MethodHandle" ∧ yX0_takeOldest.cls ≠ "java/lang/invoke/VarHandle" ∧ (parseMethodDescriptor yX0_takeOldest.desc).map (fun d => d.parameters.length) = some 2 := by decide +kernel
abbrev WX0_serve : List Cond := Cond.code yX0_serve cX0_serve 8 (some .int) :: GW
theorem mC_X0_serve : Cond.code yX0_serve cX0_serve 8 (some .int) ∈ GW := gw_code (List.mem_of_getElem? (i := 678) (by decide +kernel))
theorem mI_X0_serve : Cond.instanceMethod yX0_serve ∈ GW := gw_t (List.mem_of_getElem? (i := 676) (by decide +kernel)) (by decide +kernel)
theorem mSel_X0_serve : Cond.selects RX0 yX0_serve yX0_serve ∈ GW := gw_t (List.mem_of_getElem? (i := 677) (by decide +kernel)) (by decide +kernel)
theorem dc_X0_serve : yX0_serve.cls = RX0 ∧ yX0_serve.cls ≠ "java/lang/invoke/MethodHandle" ∧ yX0_serve.cls ≠ "java/lang/invoke/VarHandle" ∧ (parseMethodDescriptor yX0_serve.desc).map (fun d => d.parameters.length) = some 3 := by decide +kernel
abbrev WX0_passNight : List Cond := Cond.code yX0_passNight cX0_passNight 6 (some .int) :: GW
theorem mC_X0_passNight : Cond.code yX0_passNight cX0_passNight 6 (some .int) ∈ GW := gw_code (List.mem_of_getElem? (i := 691) (by decide +kernel))
theorem mI_X0_passNight : Cond.instanceMethod yX0_passNight ∈ GW := gw_t (List.mem_of_getElem? (i := 689) (by decide +kernel)) (by decide +kernel)
theorem mSel_X0_passNight : Cond.selects RX0 yX0_passNight yX0_passNight ∈ GW := gw_t (List.mem_of_getElem? (i := 690) (by decide +kernel)) (by decide +kernel)
theorem dc_X0_passNight : yX0_passNight.cls = RX0 ∧ yX0_passNight.cls ≠ "java/lang/invoke/MethodHandle" ∧ yX0_passNight.cls ≠ "java/lang/invoke/VarHandle" ∧ (parseMethodDescriptor yX0_passNight.desc).map (fun d => d.parameters.length) = some 1 := by decide +kernel
abbrev WX2_resetSupper : List Cond := Cond.code yX2_resetSupper cX2_resetSupper 3 none :: GW
theorem mC_X2_resetSupper : Cond.code yX2_resetSupper cX2_resetSupper 3 none ∈ GW := gw_code (List.mem_of_getElem? (i := 36) (by decide +kernel))
theorem mI_X2_resetSupper : Cond.instanceMethod yX2_resetSupper ∈ GW := gw_t (List.mem_of_getElem? (i := 35) (by decide +kernel)) (by decide +kernel)
theorem mSel_X2_resetSupper : Cond.selects RX2 yX2_resetSupper yX2_resetSupper ∈ GW := gw_s (List.mem_of_getElem? (i := 0) (by decide +kernel)) (by decide +kernel)
theorem dc_X2_resetSupper : yX2_resetSupper.cls = RX2 ∧ yX2_resetSupper.cls ≠ "java/lang/invoke/MethodHandle" ∧ yX2_resetSupper.cls ≠ "java/lang/invoke/VarHandle" ∧ (parseMethodDescriptor yX2_resetSupper.desc).map (fun d => d.parameters.length) = some 1 := by decide +kernel
abbrev WX2_reset : List Cond := Cond.code yX2_reset cX2_reset 2 none :: GW
theorem mC_X2_reset : Cond.code yX2_reset cX2_reset 2 none ∈ GW := gw_code (List.mem_of_getElem? (i := 32) (by decide +kernel))
theorem mI_X2_reset : Cond.instanceMethod yX2_reset ∈ GW := gw_t (List.mem_of_getElem? (i := 30) (by decide +kernel)) (by decide +kernel)
theorem mSel_X2_reset : Cond.selects RX2 yX2_reset yX2_reset ∈ GW := gw_t (List.mem_of_getElem? (i := 31) (by decide +kernel)) (by decide +kernel)
theorem dc_X2_reset : yX2_reset.cls = RX2 ∧ yX2_reset.cls ≠ "java/lang/invoke/MethodHandle" ∧ yX2_reset.cls ≠ "java/lang/invoke/VarHandle" ∧ (parseMethodDescriptor yX2_reset.desc).map (fun d => d.parameters.length) = some 0 := by decide +kernel
abbrev WX1_begin : List Cond := Cond.code yX1_begin cX1_begin 2 none :: GW
theorem mC_X1_begin : Cond.code yX1_begin cX1_begin 2 none ∈ GW := gw_code (List.mem_of_getElem? (i := 403) (by decide +kernel))
theorem mI_X1_begin : Cond.instanceMethod yX1_begin ∈ GW := gw_t (List.mem_of_getElem? (i := 402) (by decide +kernel)) (by decide +kernel)
theorem mSel_X1_begin : Cond.selects RX1 yX1_begin yX1_begin ∈ GW := gw_s (List.mem_of_getElem? (i := 2) (by decide +kernel)) (by decide +kernel)
theorem dc_X1_begin : yX1_begin.cls = RX1 ∧ yX1_begin.cls ≠ "java/lang/invoke/MethodHandle" ∧ yX1_begin.cls ≠ "java/lang/invoke/VarHandle" ∧ (parseMethodDescriptor yX1_begin.desc).map (fun d => d.parameters.length) = some 0 := by decide +kernel
abbrev WX1_isLetter : List Cond := Cond.code yX1_isLetter cX1_isLetter 1 (some .boolean) :: GW
theorem mC_X1_isLetter : Cond.code yX1_isLetter cX1_isLetter 1 (some .boolean) ∈ GW := gw_code (List.mem_of_getElem? (i := 411) (by decide +kernel))
theorem mS_X1_isLetter : Cond.static yX1_isLetter ∈ GW := gw_t (List.mem_of_getElem? (i := 410) (by decide +kernel)) (by decide +kernel)
theorem dc_X1_isLetter : yX1_isLetter.cls ≠ "java/lang/invoke/MethodHandle" ∧ yX1_isLetter.cls ≠ "java/lang/invoke/VarHandle" ∧ (parseMethodDescriptor yX1_isLetter.desc).map (fun d => d.parameters.length) = some 1 := by decide +kernel
abbrev WX1_isFigure : List Cond := Cond.code yX1_isFigure cX1_isFigure 1 (some .boolean) :: GW
theorem mC_X1_isFigure : Cond.code yX1_isFigure cX1_isFigure 1 (some .boolean) ∈ GW := gw_code (List.mem_of_getElem? (i := 414) (by decide +kernel))
theorem mS_X1_isFigure : Cond.static yX1_isFigure ∈ GW := gw_t (List.mem_of_getElem? (i := 413) (by decide +kernel)) (by decide +kernel)
theorem dc_X1_isFigure : yX1_isFigure.cls ≠ "java/lang/invoke/MethodHandle" ∧ yX1_isFigure.cls ≠ "java/lang/invoke/VarHandle" ∧ (parseMethodDescriptor yX1_isFigure.desc).map (fun d => d.parameters.length) = some 1 := by decide +kernel
abbrev WX1_refuse : List Cond := Cond.code yX1_refuse cX1_refuse 3 (some .boolean) :: GW
theorem mC_X1_refuse : Cond.code yX1_refuse cX1_refuse 3 (some .boolean) ∈ GW := gw_code (List.mem_of_getElem? (i := 418) (by decide +kernel))
theorem mI_X1_refuse : Cond.instanceMethod yX1_refuse ∈ GW := gw_t (List.mem_of_getElem? (i := 417) (by decide +kernel)) (by decide +kernel)
theorem mSel_X1_refuse : Cond.selects RX1 yX1_refuse yX1_refuse ∈ GW := gw_s (List.mem_of_getElem? (i := 4) (by decide +kernel)) (by decide +kernel)
theorem dc_X1_refuse : yX1_refuse.cls = RX1 ∧ yX1_refuse.cls ≠ "java/lang/invoke/MethodHandle" ∧ yX1_refuse.cls ≠ "java/lang/invoke/VarHandle" ∧ (parseMethodDescriptor yX1_refuse.desc).map (fun d => d.parameters.length) = some 2 := by decide +kernel
abbrev WX1_readToken : List Cond := Cond.code yX1_readToken cX1_readToken 2 (some .boolean) :: GW
theorem mC_X1_readToken : Cond.code yX1_readToken cX1_readToken 2 (some .boolean) ∈ GW := gw_code (List.mem_of_getElem? (i := 408) (by decide +kernel))
theorem mI_X1_readToken : Cond.instanceMethod yX1_readToken ∈ GW := gw_t (List.mem_of_getElem? (i := 407) (by decide +kernel)) (by decide +kernel)
theorem mSel_X1_readToken : Cond.selects RX1 yX1_readToken yX1_readToken ∈ GW := gw_s (List.mem_of_getElem? (i := 3) (by decide +kernel)) (by decide +kernel)
theorem dc_X1_readToken : yX1_readToken.cls = RX1 ∧ yX1_readToken.cls ≠ "java/lang/invoke/MethodHandle" ∧ yX1_readToken.cls ≠ "java/lang/invoke/VarHandle" ∧ (parseMethodDescriptor yX1_readToken.desc).map (fun d => d.parameters.length) = some 0 := by decide +kernel
abbrev WJ0_coder_7d493 : List Cond := Cond.code yJ0_coder_7d493 cJ0_coder_7d493 1 (some .byte) :: GW
theorem mC_J0_coder_7d493 : Cond.code yJ0_coder_7d493 cJ0_coder_7d493 1 (some .byte) ∈ GW := gw_code (List.mem_of_getElem? (i := 435) (by decide +kernel))
theorem mI_J0_coder_7d493 : Cond.instanceMethod yJ0_coder_7d493 ∈ GW := gw_t (List.mem_of_getElem? (i := 433) (by decide +kernel)) (by decide +kernel)
theorem mSel_J0_coder_7d493 : Cond.selects RJ0 yJ0_coder_7d493 yJ0_coder_7d493 ∈ GW := gw_t (List.mem_of_getElem? (i := 434) (by decide +kernel)) (by decide +kernel)
theorem dc_J0_coder_7d493 : yJ0_coder_7d493.cls = RJ0 ∧ yJ0_coder_7d493.cls ≠ "java/lang/invoke/MethodHandle" ∧ yJ0_coder_7d493.cls ≠ "java/lang/invoke/VarHandle" ∧ (parseMethodDescriptor yJ0_coder_7d493.desc).map (fun d => d.parameters.length) = some 0 := by decide +kernel
abbrev WJ0_length_8abf5 : List Cond := Cond.code yJ0_length_8abf5 cJ0_length_8abf5 1 (some .int) :: GW
theorem mC_J0_length_8abf5 : Cond.code yJ0_length_8abf5 cJ0_length_8abf5 1 (some .int) ∈ GW := gw_code (List.mem_of_getElem? (i := 431) (by decide +kernel))
theorem mI_J0_length_8abf5 : Cond.instanceMethod yJ0_length_8abf5 ∈ GW := gw_t (List.mem_of_getElem? (i := 429) (by decide +kernel)) (by decide +kernel)
theorem mSel_J0_length_8abf5 : Cond.selects RJ0 yJ0_length_8abf5 yJ0_length_8abf5 ∈ GW := gw_t (List.mem_of_getElem? (i := 430) (by decide +kernel)) (by decide +kernel)
theorem dc_J0_length_8abf5 : yJ0_length_8abf5.cls = RJ0 ∧ yJ0_length_8abf5.cls ≠ "java/lang/invoke/MethodHandle" ∧ yJ0_length_8abf5.cls ≠ "java/lang/invoke/VarHandle" ∧ (parseMethodDescriptor yJ0_length_8abf5.desc).map (fun d => d.parameters.length) = some 0 := by decide +kernel
abbrev WJ0_isLatin1_aae02 : List Cond := Cond.code yJ0_isLatin1_aae02 cJ0_isLatin1_aae02 1 (some .boolean) :: GW
theorem mC_J0_isLatin1_aae02 : Cond.code yJ0_isLatin1_aae02 cJ0_isLatin1_aae02 1 (some .boolean) ∈ GW := gw_code (List.mem_of_getElem? (i := 445) (by decide +kernel))
theorem mI_J0_isLatin1_aae02 : Cond.instanceMethod yJ0_isLatin1_aae02 ∈ GW := gw_t (List.mem_of_getElem? (i := 443) (by decide +kernel)) (by decide +kernel)
theorem mSel_J0_isLatin1_aae02 : Cond.selects RJ0 yJ0_isLatin1_aae02 yJ0_isLatin1_aae02 ∈ GW := gw_t (List.mem_of_getElem? (i := 444) (by decide +kernel)) (by decide +kernel)
theorem dc_J0_isLatin1_aae02 : yJ0_isLatin1_aae02.cls = RJ0 ∧ yJ0_isLatin1_aae02.cls ≠ "java/lang/invoke/MethodHandle" ∧ yJ0_isLatin1_aae02.cls ≠ "java/lang/invoke/VarHandle" ∧ (parseMethodDescriptor yJ0_isLatin1_aae02.desc).map (fun d => d.parameters.length) = some 0 := by decide +kernel
abbrev WJ3_checkIndex_8e157 : List Cond := Cond.code yJ3_checkIndex_8e157 cJ3_checkIndex_8e157 3 (some .int) :: GW
theorem mC_J3_checkIndex_8e157 : Cond.code yJ3_checkIndex_8e157 cJ3_checkIndex_8e157 3 (some .int) ∈ GW := gw_code (List.mem_of_getElem? (i := 456) (by decide +kernel))
theorem mS_J3_checkIndex_8e157 : Cond.static yJ3_checkIndex_8e157 ∈ GW := gw_t (List.mem_of_getElem? (i := 455) (by decide +kernel)) (by decide +kernel)
theorem dc_J3_checkIndex_8e157 : yJ3_checkIndex_8e157.cls ≠ "java/lang/invoke/MethodHandle" ∧ yJ3_checkIndex_8e157.cls ≠ "java/lang/invoke/VarHandle" ∧ (parseMethodDescriptor yJ3_checkIndex_8e157.desc).map (fun d => d.parameters.length) = some 3 := by decide +kernel
abbrev WJ0_checkIndex_df160 : List Cond := Cond.code yJ0_checkIndex_df160 cJ0_checkIndex_df160 2 none :: GW
theorem mC_J0_checkIndex_df160 : Cond.code yJ0_checkIndex_df160 cJ0_checkIndex_df160 2 none ∈ GW := gw_code (List.mem_of_getElem? (i := 451) (by decide +kernel))
theorem mS_J0_checkIndex_df160 : Cond.static yJ0_checkIndex_df160 ∈ GW := gw_t (List.mem_of_getElem? (i := 450) (by decide +kernel)) (by decide +kernel)
theorem dc_J0_checkIndex_df160 : yJ0_checkIndex_df160.cls ≠ "java/lang/invoke/MethodHandle" ∧ yJ0_checkIndex_df160.cls ≠ "java/lang/invoke/VarHandle" ∧ (parseMethodDescriptor yJ0_checkIndex_df160.desc).map (fun d => d.parameters.length) = some 2 := by decide +kernel
abbrev WJ1_charAt_3b067 : List Cond := Cond.code yJ1_charAt_3b067 cJ1_charAt_3b067 2 (some .char) :: GW
theorem mC_J1_charAt_3b067 : Cond.code yJ1_charAt_3b067 cJ1_charAt_3b067 2 (some .char) ∈ GW := gw_code (List.mem_of_getElem? (i := 448) (by decide +kernel))
theorem mS_J1_charAt_3b067 : Cond.static yJ1_charAt_3b067 ∈ GW := gw_t (List.mem_of_getElem? (i := 447) (by decide +kernel)) (by decide +kernel)
theorem dc_J1_charAt_3b067 : yJ1_charAt_3b067.cls ≠ "java/lang/invoke/MethodHandle" ∧ yJ1_charAt_3b067.cls ≠ "java/lang/invoke/VarHandle" ∧ (parseMethodDescriptor yJ1_charAt_3b067.desc).map (fun d => d.parameters.length) = some 2 := by decide +kernel
abbrev WJ0_charAt_5068e : List Cond := Cond.code yJ0_charAt_5068e cJ0_charAt_5068e 2 (some .char) :: GW
theorem mC_J0_charAt_5068e : Cond.code yJ0_charAt_5068e cJ0_charAt_5068e 2 (some .char) ∈ GW := gw_code (List.mem_of_getElem? (i := 441) (by decide +kernel))
theorem mI_J0_charAt_5068e : Cond.instanceMethod yJ0_charAt_5068e ∈ GW := gw_t (List.mem_of_getElem? (i := 439) (by decide +kernel)) (by decide +kernel)
theorem mSel_J0_charAt_5068e : Cond.selects RJ0 yJ0_charAt_5068e yJ0_charAt_5068e ∈ GW := gw_t (List.mem_of_getElem? (i := 440) (by decide +kernel)) (by decide +kernel)
theorem dc_J0_charAt_5068e : yJ0_charAt_5068e.cls = RJ0 ∧ yJ0_charAt_5068e.cls ≠ "java/lang/invoke/MethodHandle" ∧ yJ0_charAt_5068e.cls ≠ "java/lang/invoke/VarHandle" ∧ (parseMethodDescriptor yJ0_charAt_5068e.desc).map (fun d => d.parameters.length) = some 1 := by decide +kernel
abbrev WX1_isName : List Cond := Cond.code yX1_isName cX1_isName 3 (some .boolean) :: GW
theorem mC_X1_isName : Cond.code yX1_isName cX1_isName 3 (some .boolean) ∈ GW := gw_code (List.mem_of_getElem? (i := 427) (by decide +kernel))
theorem mI_X1_isName : Cond.instanceMethod yX1_isName ∈ GW := gw_t (List.mem_of_getElem? (i := 426) (by decide +kernel)) (by decide +kernel)
theorem mSel_X1_isName : Cond.selects RX1 yX1_isName yX1_isName ∈ GW := gw_s (List.mem_of_getElem? (i := 6) (by decide +kernel)) (by decide +kernel)
theorem dc_X1_isName : yX1_isName.cls = RX1 ∧ yX1_isName.cls ≠ "java/lang/invoke/MethodHandle" ∧ yX1_isName.cls ≠ "java/lang/invoke/VarHandle" ∧ (parseMethodDescriptor yX1_isName.desc).map (fun d => d.parameters.length) = some 1 := by decide +kernel
abbrev WX1_readNumber : List Cond := Cond.code yX1_readNumber cX1_readNumber 3 (some .boolean) :: GW
theorem mC_X1_readNumber : Cond.code yX1_readNumber cX1_readNumber 3 (some .boolean) ∈ GW := gw_code (List.mem_of_getElem? (i := 483) (by decide +kernel))
theorem mI_X1_readNumber : Cond.instanceMethod yX1_readNumber ∈ GW := gw_t (List.mem_of_getElem? (i := 482) (by decide +kernel)) (by decide +kernel)
theorem mSel_X1_readNumber : Cond.selects RX1 yX1_readNumber yX1_readNumber ∈ GW := gw_s (List.mem_of_getElem? (i := 8) (by decide +kernel)) (by decide +kernel)
theorem dc_X1_readNumber : yX1_readNumber.cls = RX1 ∧ yX1_readNumber.cls ≠ "java/lang/invoke/MethodHandle" ∧ yX1_readNumber.cls ≠ "java/lang/invoke/VarHandle" ∧ (parseMethodDescriptor yX1_readNumber.desc).map (fun d => d.parameters.length) = some 2 := by decide +kernel
abbrev WX1_isPoint : List Cond := Cond.code yX1_isPoint cX1_isPoint 1 (some .boolean) :: GW
theorem mC_X1_isPoint : Cond.code yX1_isPoint cX1_isPoint 1 (some .boolean) ∈ GW := gw_code (List.mem_of_getElem? (i := 491) (by decide +kernel))
theorem mI_X1_isPoint : Cond.instanceMethod yX1_isPoint ∈ GW := gw_t (List.mem_of_getElem? (i := 490) (by decide +kernel)) (by decide +kernel)
theorem mSel_X1_isPoint : Cond.selects RX1 yX1_isPoint yX1_isPoint ∈ GW := gw_s (List.mem_of_getElem? (i := 10) (by decide +kernel)) (by decide +kernel)
theorem dc_X1_isPoint : yX1_isPoint.cls = RX1 ∧ yX1_isPoint.cls ≠ "java/lang/invoke/MethodHandle" ∧ yX1_isPoint.cls ≠ "java/lang/invoke/VarHandle" ∧ (parseMethodDescriptor yX1_isPoint.desc).map (fun d => d.parameters.length) = some 0 := by decide +kernel
abbrev WX1_readPoint : List Cond := Cond.code yX1_readPoint cX1_readPoint 1 (some .boolean) :: GW
theorem mC_X1_readPoint : Cond.code yX1_readPoint cX1_readPoint 1 (some .boolean) ∈ GW := gw_code (List.mem_of_getElem? (i := 487) (by decide +kernel))
theorem mI_X1_readPoint : Cond.instanceMethod yX1_readPoint ∈ GW := gw_t (List.mem_of_getElem? (i := 486) (by decide +kernel)) (by decide +kernel)
theorem mSel_X1_readPoint : Cond.selects RX1 yX1_readPoint yX1_readPoint ∈ GW := gw_s (List.mem_of_getElem? (i := 9) (by decide +kernel)) (by decide +kernel)
theorem dc_X1_readPoint : yX1_readPoint.cls = RX1 ∧ yX1_readPoint.cls ≠ "java/lang/invoke/MethodHandle" ∧ yX1_readPoint.cls ≠ "java/lang/invoke/VarHandle" ∧ (parseMethodDescriptor yX1_readPoint.desc).map (fun d => d.parameters.length) = some 0 := by decide +kernel
abbrev WX1_readThing : List Cond := Cond.code yX1_readThing cX1_readThing 2 (some .boolean) :: GW
theorem mC_X1_readThing : Cond.code yX1_readThing cX1_readThing 2 (some .boolean) ∈ GW := gw_code (List.mem_of_getElem? (i := 479) (by decide +kernel))
theorem mI_X1_readThing : Cond.instanceMethod yX1_readThing ∈ GW := gw_t (List.mem_of_getElem? (i := 478) (by decide +kernel)) (by decide +kernel)
theorem mSel_X1_readThing : Cond.selects RX1 yX1_readThing yX1_readThing ∈ GW := gw_s (List.mem_of_getElem? (i := 7) (by decide +kernel)) (by decide +kernel)
theorem dc_X1_readThing : yX1_readThing.cls = RX1 ∧ yX1_readThing.cls ≠ "java/lang/invoke/MethodHandle" ∧ yX1_readThing.cls ≠ "java/lang/invoke/VarHandle" ∧ (parseMethodDescriptor yX1_readThing.desc).map (fun d => d.parameters.length) = some 0 := by decide +kernel
abbrev WX1_readName : List Cond := Cond.code yX1_readName cX1_readName 1 (some .boolean) :: GW
theorem mC_X1_readName : Cond.code yX1_readName cX1_readName 1 (some .boolean) ∈ GW := gw_code (List.mem_of_getElem? (i := 504) (by decide +kernel))
theorem mI_X1_readName : Cond.instanceMethod yX1_readName ∈ GW := gw_t (List.mem_of_getElem? (i := 503) (by decide +kernel)) (by decide +kernel)
theorem mSel_X1_readName : Cond.selects RX1 yX1_readName yX1_readName ∈ GW := gw_s (List.mem_of_getElem? (i := 13) (by decide +kernel)) (by decide +kernel)
theorem dc_X1_readName : yX1_readName.cls = RX1 ∧ yX1_readName.cls ≠ "java/lang/invoke/MethodHandle" ∧ yX1_readName.cls ≠ "java/lang/invoke/VarHandle" ∧ (parseMethodDescriptor yX1_readName.desc).map (fun d => d.parameters.length) = some 0 := by decide +kernel
abbrev WX1_lettersOnce : List Cond := Cond.code yX1_lettersOnce cX1_lettersOnce 6 (some .int) :: GW
theorem mC_X1_lettersOnce : Cond.code yX1_lettersOnce cX1_lettersOnce 6 (some .int) ∈ GW := gw_code (List.mem_of_getElem? (i := 508) (by decide +kernel))
theorem mI_X1_lettersOnce : Cond.instanceMethod yX1_lettersOnce ∈ GW := gw_t (List.mem_of_getElem? (i := 507) (by decide +kernel)) (by decide +kernel)
theorem mSel_X1_lettersOnce : Cond.selects RX1 yX1_lettersOnce yX1_lettersOnce ∈ GW := gw_s (List.mem_of_getElem? (i := 14) (by decide +kernel)) (by decide +kernel)
theorem dc_X1_lettersOnce : yX1_lettersOnce.cls = RX1 ∧ yX1_lettersOnce.cls ≠ "java/lang/invoke/MethodHandle" ∧ yX1_lettersOnce.cls ≠ "java/lang/invoke/VarHandle" ∧ (parseMethodDescriptor yX1_lettersOnce.desc).map (fun d => d.parameters.length) = some 2 := by decide +kernel
abbrev WX1_noteUse : List Cond := Cond.code yX1_noteUse cX1_noteUse 2 none :: GW
theorem mC_X1_noteUse : Cond.code yX1_noteUse cX1_noteUse 2 none ∈ GW := gw_code (List.mem_of_getElem? (i := 516) (by decide +kernel))
theorem mI_X1_noteUse : Cond.instanceMethod yX1_noteUse ∈ GW := gw_t (List.mem_of_getElem? (i := 515) (by decide +kernel)) (by decide +kernel)
theorem mSel_X1_noteUse : Cond.selects RX1 yX1_noteUse yX1_noteUse ∈ GW := gw_s (List.mem_of_getElem? (i := 15) (by decide +kernel)) (by decide +kernel)
theorem dc_X1_noteUse : yX1_noteUse.cls = RX1 ∧ yX1_noteUse.cls ≠ "java/lang/invoke/MethodHandle" ∧ yX1_noteUse.cls ≠ "java/lang/invoke/VarHandle" ∧ (parseMethodDescriptor yX1_noteUse.desc).map (fun d => d.parameters.length) = some 1 := by decide +kernel
abbrev WX1_readSoup : List Cond := Cond.code yX1_readSoup cX1_readSoup 3 (some .boolean) :: GW
theorem mC_X1_readSoup : Cond.code yX1_readSoup cX1_readSoup 3 (some .boolean) ∈ GW := gw_code (List.mem_of_getElem? (i := 500) (by decide +kernel))
theorem mI_X1_readSoup : Cond.instanceMethod yX1_readSoup ∈ GW := gw_t (List.mem_of_getElem? (i := 499) (by decide +kernel)) (by decide +kernel)
theorem mSel_X1_readSoup : Cond.selects RX1 yX1_readSoup yX1_readSoup ∈ GW := gw_s (List.mem_of_getElem? (i := 12) (by decide +kernel)) (by decide +kernel)
theorem dc_X1_readSoup : yX1_readSoup.cls = RX1 ∧ yX1_readSoup.cls ≠ "java/lang/invoke/MethodHandle" ∧ yX1_readSoup.cls ≠ "java/lang/invoke/VarHandle" ∧ (parseMethodDescriptor yX1_readSoup.desc).map (fun d => d.parameters.length) = some 1 := by decide +kernel
abbrev WX1_readPortions : List Cond := Cond.code yX1_readPortions cX1_readPortions 6 (some .boolean) :: GW
theorem mC_X1_readPortions : Cond.code yX1_readPortions cX1_readPortions 6 (some .boolean) ∈ GW := gw_code (List.mem_of_getElem? (i := 520) (by decide +kernel))
theorem mI_X1_readPortions : Cond.instanceMethod yX1_readPortions ∈ GW := gw_t (List.mem_of_getElem? (i := 519) (by decide +kernel)) (by decide +kernel)
theorem mSel_X1_readPortions : Cond.selects RX1 yX1_readPortions yX1_readPortions ∈ GW := gw_s (List.mem_of_getElem? (i := 16) (by decide +kernel)) (by decide +kernel)
theorem dc_X1_readPortions : yX1_readPortions.cls = RX1 ∧ yX1_readPortions.cls ≠ "java/lang/invoke/MethodHandle" ∧ yX1_readPortions.cls ≠ "java/lang/invoke/VarHandle" ∧ (parseMethodDescriptor yX1_readPortions.desc).map (fun d => d.parameters.length) = some 3 := by decide +kernel
abbrev WX1_readLike : List Cond := Cond.code yX1_readLike cX1_readLike 2 (some .boolean) :: GW
theorem mC_X1_readLike : Cond.code yX1_readLike cX1_readLike 2 (some .boolean) ∈ GW := gw_code (List.mem_of_getElem? (i := 527) (by decide +kernel))
theorem mI_X1_readLike : Cond.instanceMethod yX1_readLike ∈ GW := gw_t (List.mem_of_getElem? (i := 526) (by decide +kernel)) (by decide +kernel)
theorem mSel_X1_readLike : Cond.selects RX1 yX1_readLike yX1_readLike ∈ GW := gw_s (List.mem_of_getElem? (i := 17) (by decide +kernel)) (by decide +kernel)
theorem dc_X1_readLike : yX1_readLike.cls = RX1 ∧ yX1_readLike.cls ≠ "java/lang/invoke/MethodHandle" ∧ yX1_readLike.cls ≠ "java/lang/invoke/VarHandle" ∧ (parseMethodDescriptor yX1_readLike.desc).map (fun d => d.parameters.length) = some 1 := by decide +kernel
abbrev WX1_readWont : List Cond := Cond.code yX1_readWont cX1_readWont 2 (some .boolean) :: GW
theorem mC_X1_readWont : Cond.code yX1_readWont cX1_readWont 2 (some .boolean) ∈ GW := gw_code (List.mem_of_getElem? (i := 531) (by decide +kernel))
theorem mI_X1_readWont : Cond.instanceMethod yX1_readWont ∈ GW := gw_t (List.mem_of_getElem? (i := 530) (by decide +kernel)) (by decide +kernel)
theorem mSel_X1_readWont : Cond.selects RX1 yX1_readWont yX1_readWont ∈ GW := gw_s (List.mem_of_getElem? (i := 18) (by decide +kernel)) (by decide +kernel)
theorem dc_X1_readWont : yX1_readWont.cls = RX1 ∧ yX1_readWont.cls ≠ "java/lang/invoke/MethodHandle" ∧ yX1_readWont.cls ≠ "java/lang/invoke/VarHandle" ∧ (parseMethodDescriptor yX1_readWont.desc).map (fun d => d.parameters.length) = some 1 := by decide +kernel
abbrev WX1_readSupper : List Cond := Cond.code yX1_readSupper cX1_readSupper 3 (some .boolean) :: GW
theorem mC_X1_readSupper : Cond.code yX1_readSupper cX1_readSupper 3 (some .boolean) ∈ GW := gw_code (List.mem_of_getElem? (i := 496) (by decide +kernel))
theorem mI_X1_readSupper : Cond.instanceMethod yX1_readSupper ∈ GW := gw_t (List.mem_of_getElem? (i := 495) (by decide +kernel)) (by decide +kernel)
theorem mSel_X1_readSupper : Cond.selects RX1 yX1_readSupper yX1_readSupper ∈ GW := gw_s (List.mem_of_getElem? (i := 11) (by decide +kernel)) (by decide +kernel)
theorem dc_X1_readSupper : yX1_readSupper.cls = RX1 ∧ yX1_readSupper.cls ≠ "java/lang/invoke/MethodHandle" ∧ yX1_readSupper.cls ≠ "java/lang/invoke/VarHandle" ∧ (parseMethodDescriptor yX1_readSupper.desc).map (fun d => d.parameters.length) = some 1 := by decide +kernel
abbrev WX1_readAgain : List Cond := Cond.code yX1_readAgain cX1_readAgain 1 (some .boolean) :: GW
theorem mC_X1_readAgain : Cond.code yX1_readAgain cX1_readAgain 1 (some .boolean) ∈ GW := gw_code (List.mem_of_getElem? (i := 539) (by decide +kernel))
theorem mI_X1_readAgain : Cond.instanceMethod yX1_readAgain ∈ GW := gw_t (List.mem_of_getElem? (i := 538) (by decide +kernel)) (by decide +kernel)
theorem mSel_X1_readAgain : Cond.selects RX1 yX1_readAgain yX1_readAgain ∈ GW := gw_s (List.mem_of_getElem? (i := 19) (by decide +kernel)) (by decide +kernel)
theorem dc_X1_readAgain : yX1_readAgain.cls = RX1 ∧ yX1_readAgain.cls ≠ "java/lang/invoke/MethodHandle" ∧ yX1_readAgain.cls ≠ "java/lang/invoke/VarHandle" ∧ (parseMethodDescriptor yX1_readAgain.desc).map (fun d => d.parameters.length) = some 0 := by decide +kernel
abbrev WX1_readShop : List Cond := Cond.code yX1_readShop cX1_readShop 3 (some .boolean) :: GW
theorem mC_X1_readShop : Cond.code yX1_readShop cX1_readShop 3 (some .boolean) ∈ GW := gw_code (List.mem_of_getElem? (i := 544) (by decide +kernel))
theorem mI_X1_readShop : Cond.instanceMethod yX1_readShop ∈ GW := gw_t (List.mem_of_getElem? (i := 543) (by decide +kernel)) (by decide +kernel)
theorem mSel_X1_readShop : Cond.selects RX1 yX1_readShop yX1_readShop ∈ GW := gw_s (List.mem_of_getElem? (i := 20) (by decide +kernel)) (by decide +kernel)
theorem dc_X1_readShop : yX1_readShop.cls = RX1 ∧ yX1_readShop.cls ≠ "java/lang/invoke/MethodHandle" ∧ yX1_readShop.cls ≠ "java/lang/invoke/VarHandle" ∧ (parseMethodDescriptor yX1_readShop.desc).map (fun d => d.parameters.length) = some 0 := by decide +kernel
abbrev WX1_readOut : List Cond := Cond.code yX1_readOut cX1_readOut 1 (some .boolean) :: GW
theorem mC_X1_readOut : Cond.code yX1_readOut cX1_readOut 1 (some .boolean) ∈ GW := gw_code (List.mem_of_getElem? (i := 549) (by decide +kernel))
theorem mI_X1_readOut : Cond.instanceMethod yX1_readOut ∈ GW := gw_t (List.mem_of_getElem? (i := 548) (by decide +kernel)) (by decide +kernel)
theorem mSel_X1_readOut : Cond.selects RX1 yX1_readOut yX1_readOut ∈ GW := gw_s (List.mem_of_getElem? (i := 21) (by decide +kernel)) (by decide +kernel)
theorem dc_X1_readOut : yX1_readOut.cls = RX1 ∧ yX1_readOut.cls ≠ "java/lang/invoke/MethodHandle" ∧ yX1_readOut.cls ≠ "java/lang/invoke/VarHandle" ∧ (parseMethodDescriptor yX1_readOut.desc).map (fun d => d.parameters.length) = some 0 := by decide +kernel
abbrev WX1_readGuest : List Cond := Cond.code yX1_readGuest cX1_readGuest 2 (some .boolean) :: GW
theorem mC_X1_readGuest : Cond.code yX1_readGuest cX1_readGuest 2 (some .boolean) ∈ GW := gw_code (List.mem_of_getElem? (i := 561) (by decide +kernel))
theorem mI_X1_readGuest : Cond.instanceMethod yX1_readGuest ∈ GW := gw_t (List.mem_of_getElem? (i := 560) (by decide +kernel)) (by decide +kernel)
theorem mSel_X1_readGuest : Cond.selects RX1 yX1_readGuest yX1_readGuest ∈ GW := gw_s (List.mem_of_getElem? (i := 22) (by decide +kernel)) (by decide +kernel)
theorem dc_X1_readGuest : yX1_readGuest.cls = RX1 ∧ yX1_readGuest.cls ≠ "java/lang/invoke/MethodHandle" ∧ yX1_readGuest.cls ≠ "java/lang/invoke/VarHandle" ∧ (parseMethodDescriptor yX1_readGuest.desc).map (fun d => d.parameters.length) = some 0 := by decide +kernel
abbrev WX1_readLine : List Cond := Cond.code yX1_readLine cX1_readLine 1 (some .boolean) :: GW
theorem mC_X1_readLine : Cond.code yX1_readLine cX1_readLine 1 (some .boolean) ∈ GW := gw_code (List.mem_of_getElem? (i := 422) (by decide +kernel))
theorem mI_X1_readLine : Cond.instanceMethod yX1_readLine ∈ GW := gw_t (List.mem_of_getElem? (i := 421) (by decide +kernel)) (by decide +kernel)
theorem mSel_X1_readLine : Cond.selects RX1 yX1_readLine yX1_readLine ∈ GW := gw_s (List.mem_of_getElem? (i := 5) (by decide +kernel)) (by decide +kernel)
theorem dc_X1_readLine : yX1_readLine.cls = RX1 ∧ yX1_readLine.cls ≠ "java/lang/invoke/MethodHandle" ∧ yX1_readLine.cls ≠ "java/lang/invoke/VarHandle" ∧ (parseMethodDescriptor yX1_readLine.desc).map (fun d => d.parameters.length) = some 0 := by decide +kernel
abbrev WX1_findThingNotTold : List Cond := Cond.code yX1_findThingNotTold cX1_findThingNotTold 3 none :: GW
theorem mC_X1_findThingNotTold : Cond.code yX1_findThingNotTold cX1_findThingNotTold 3 none ∈ GW := gw_code (List.mem_of_getElem? (i := 565) (by decide +kernel))
theorem mI_X1_findThingNotTold : Cond.instanceMethod yX1_findThingNotTold ∈ GW := gw_t (List.mem_of_getElem? (i := 564) (by decide +kernel)) (by decide +kernel)
theorem mSel_X1_findThingNotTold : Cond.selects RX1 yX1_findThingNotTold yX1_findThingNotTold ∈ GW := gw_s (List.mem_of_getElem? (i := 23) (by decide +kernel)) (by decide +kernel)
theorem dc_X1_findThingNotTold : yX1_findThingNotTold.cls = RX1 ∧ yX1_findThingNotTold.cls ≠ "java/lang/invoke/MethodHandle" ∧ yX1_findThingNotTold.cls ≠ "java/lang/invoke/VarHandle" ∧ (parseMethodDescriptor yX1_findThingNotTold.desc).map (fun d => d.parameters.length) = some 0 := by decide +kernel
abbrev WX1_readTape : List Cond := Cond.code yX1_readTape cX1_readTape 3 (some .int) :: GW
theorem mC_X1_readTape : Cond.code yX1_readTape cX1_readTape 3 (some .int) ∈ GW := gw_code (List.mem_of_getElem? (i := 399) (by decide +kernel))
theorem mI_X1_readTape : Cond.instanceMethod yX1_readTape ∈ GW := gw_t (List.mem_of_getElem? (i := 397) (by decide +kernel)) (by decide +kernel)
theorem mSel_X1_readTape : Cond.selects RX1 yX1_readTape yX1_readTape ∈ GW := gw_t (List.mem_of_getElem? (i := 398) (by decide +kernel)) (by decide +kernel)
theorem dc_X1_readTape : yX1_readTape.cls = RX1 ∧ yX1_readTape.cls ≠ "java/lang/invoke/MethodHandle" ∧ yX1_readTape.cls ≠ "java/lang/invoke/VarHandle" ∧ (parseMethodDescriptor yX1_readTape.desc).map (fun d => d.parameters.length) = some 0 := by decide +kernel
abbrev WX2_copyFrom : List Cond := Cond.code yX2_copyFrom cX2_copyFrom 2 none :: GW
theorem mC_X2_copyFrom : Cond.code yX2_copyFrom cX2_copyFrom 2 none ∈ GW := gw_code (List.mem_of_getElem? (i := 569) (by decide +kernel))
theorem mI_X2_copyFrom : Cond.instanceMethod yX2_copyFrom ∈ GW := gw_t (List.mem_of_getElem? (i := 567) (by decide +kernel)) (by decide +kernel)
theorem mSel_X2_copyFrom : Cond.selects RX2 yX2_copyFrom yX2_copyFrom ∈ GW := gw_t (List.mem_of_getElem? (i := 568) (by decide +kernel)) (by decide +kernel)
theorem dc_X2_copyFrom : yX2_copyFrom.cls = RX2 ∧ yX2_copyFrom.cls ≠ "java/lang/invoke/MethodHandle" ∧ yX2_copyFrom.cls ≠ "java/lang/invoke/VarHandle" ∧ (parseMethodDescriptor yX2_copyFrom.desc).map (fun d => d.parameters.length) = some 1 := by decide +kernel
abbrev WX2_copyWithSmallDish : List Cond := Cond.code yX2_copyWithSmallDish cX2_copyWithSmallDish 3 none :: GW
theorem mC_X2_copyWithSmallDish : Cond.code yX2_copyWithSmallDish cX2_copyWithSmallDish 3 none ∈ GW := gw_code (List.mem_of_getElem? (i := 867) (by decide +kernel))
theorem mI_X2_copyWithSmallDish : Cond.instanceMethod yX2_copyWithSmallDish ∈ GW := gw_t (List.mem_of_getElem? (i := 865) (by decide +kernel)) (by decide +kernel)
theorem mSel_X2_copyWithSmallDish : Cond.selects RX2 yX2_copyWithSmallDish yX2_copyWithSmallDish ∈ GW := gw_t (List.mem_of_getElem? (i := 866) (by decide +kernel)) (by decide +kernel)
theorem dc_X2_copyWithSmallDish : yX2_copyWithSmallDish.cls = RX2 ∧ yX2_copyWithSmallDish.cls ≠ "java/lang/invoke/MethodHandle" ∧ yX2_copyWithSmallDish.cls ≠ "java/lang/invoke/VarHandle" ∧ (parseMethodDescriptor yX2_copyWithSmallDish.desc).map (fun d => d.parameters.length) = some 2 := by decide +kernel
abbrev WX2_hasThing : List Cond := Cond.code yX2_hasThing cX2_hasThing 2 (some .boolean) :: GW
theorem mC_X2_hasThing : Cond.code yX2_hasThing cX2_hasThing 2 (some .boolean) ∈ GW := gw_code (List.mem_of_getElem? (i := 585) (by decide +kernel))
theorem mI_X2_hasThing : Cond.instanceMethod yX2_hasThing ∈ GW := gw_t (List.mem_of_getElem? (i := 583) (by decide +kernel)) (by decide +kernel)
theorem mSel_X2_hasThing : Cond.selects RX2 yX2_hasThing yX2_hasThing ∈ GW := gw_t (List.mem_of_getElem? (i := 584) (by decide +kernel)) (by decide +kernel)
theorem dc_X2_hasThing : yX2_hasThing.cls = RX2 ∧ yX2_hasThing.cls ≠ "java/lang/invoke/MethodHandle" ∧ yX2_hasThing.cls ≠ "java/lang/invoke/VarHandle" ∧ (parseMethodDescriptor yX2_hasThing.desc).map (fun d => d.parameters.length) = some 1 := by decide +kernel
abbrev WX2_hasSupper : List Cond := Cond.code yX2_hasSupper cX2_hasSupper 2 (some .boolean) :: GW
theorem mC_X2_hasSupper : Cond.code yX2_hasSupper cX2_hasSupper 2 (some .boolean) ∈ GW := gw_code (List.mem_of_getElem? (i := 593) (by decide +kernel))
theorem mI_X2_hasSupper : Cond.instanceMethod yX2_hasSupper ∈ GW := gw_t (List.mem_of_getElem? (i := 591) (by decide +kernel)) (by decide +kernel)
theorem mSel_X2_hasSupper : Cond.selects RX2 yX2_hasSupper yX2_hasSupper ∈ GW := gw_t (List.mem_of_getElem? (i := 592) (by decide +kernel)) (by decide +kernel)
theorem dc_X2_hasSupper : yX2_hasSupper.cls = RX2 ∧ yX2_hasSupper.cls ≠ "java/lang/invoke/MethodHandle" ∧ yX2_hasSupper.cls ≠ "java/lang/invoke/VarHandle" ∧ (parseMethodDescriptor yX2_hasSupper.desc).map (fun d => d.parameters.length) = some 1 := by decide +kernel
abbrev WX2_chanceOfGuests : List Cond := Cond.code yX2_chanceOfGuests cX2_chanceOfGuests 2 (some .int) :: GW
theorem mC_X2_chanceOfGuests : Cond.code yX2_chanceOfGuests cX2_chanceOfGuests 2 (some .int) ∈ GW := gw_code (List.mem_of_getElem? (i := 779) (by decide +kernel))
theorem mI_X2_chanceOfGuests : Cond.instanceMethod yX2_chanceOfGuests ∈ GW := gw_t (List.mem_of_getElem? (i := 777) (by decide +kernel)) (by decide +kernel)
theorem mSel_X2_chanceOfGuests : Cond.selects RX2 yX2_chanceOfGuests yX2_chanceOfGuests ∈ GW := gw_t (List.mem_of_getElem? (i := 778) (by decide +kernel)) (by decide +kernel)
theorem dc_X2_chanceOfGuests : yX2_chanceOfGuests.cls = RX2 ∧ yX2_chanceOfGuests.cls ≠ "java/lang/invoke/MethodHandle" ∧ yX2_chanceOfGuests.cls ≠ "java/lang/invoke/VarHandle" ∧ (parseMethodDescriptor yX2_chanceOfGuests.desc).map (fun d => d.parameters.length) = some 1 := by decide +kernel
abbrev WX2_thingsOf : List Cond := Cond.code yX2_thingsOf cX2_thingsOf 4 (some .int) :: GW
theorem mC_X2_thingsOf : Cond.code yX2_thingsOf cX2_thingsOf 4 (some .int) ∈ GW := gw_code (List.mem_of_getElem? (i := 597) (by decide +kernel))
theorem mI_X2_thingsOf : Cond.instanceMethod yX2_thingsOf ∈ GW := gw_t (List.mem_of_getElem? (i := 595) (by decide +kernel)) (by decide +kernel)
theorem mSel_X2_thingsOf : Cond.selects RX2 yX2_thingsOf yX2_thingsOf ∈ GW := gw_t (List.mem_of_getElem? (i := 596) (by decide +kernel)) (by decide +kernel)
theorem dc_X2_thingsOf : yX2_thingsOf.cls = RX2 ∧ yX2_thingsOf.cls ≠ "java/lang/invoke/MethodHandle" ∧ yX2_thingsOf.cls ≠ "java/lang/invoke/VarHandle" ∧ (parseMethodDescriptor yX2_thingsOf.desc).map (fun d => d.parameters.length) = some 1 := by decide +kernel
abbrev WX2_timesFed : List Cond := Cond.code yX2_timesFed cX2_timesFed 6 (some .int) :: GW
theorem mC_X2_timesFed : Cond.code yX2_timesFed cX2_timesFed 6 (some .int) ∈ GW := gw_code (List.mem_of_getElem? (i := 744) (by decide +kernel))
theorem mI_X2_timesFed : Cond.instanceMethod yX2_timesFed ∈ GW := gw_t (List.mem_of_getElem? (i := 742) (by decide +kernel)) (by decide +kernel)
theorem mSel_X2_timesFed : Cond.selects RX2 yX2_timesFed yX2_timesFed ∈ GW := gw_t (List.mem_of_getElem? (i := 743) (by decide +kernel)) (by decide +kernel)
theorem dc_X2_timesFed : yX2_timesFed.cls = RX2 ∧ yX2_timesFed.cls ≠ "java/lang/invoke/MethodHandle" ∧ yX2_timesFed.cls ≠ "java/lang/invoke/VarHandle" ∧ (parseMethodDescriptor yX2_timesFed.desc).map (fun d => d.parameters.length) = some 3 := by decide +kernel
abbrev WX2_timesFedLeast : List Cond := Cond.code yX2_timesFedLeast cX2_timesFedLeast 5 (some .int) :: GW
theorem mC_X2_timesFedLeast : Cond.code yX2_timesFedLeast cX2_timesFedLeast 5 (some .int) ∈ GW := gw_code (List.mem_of_getElem? (i := 827) (by decide +kernel))
theorem mI_X2_timesFedLeast : Cond.instanceMethod yX2_timesFedLeast ∈ GW := gw_t (List.mem_of_getElem? (i := 825) (by decide +kernel)) (by decide +kernel)
theorem mSel_X2_timesFedLeast : Cond.selects RX2 yX2_timesFedLeast yX2_timesFedLeast ∈ GW := gw_t (List.mem_of_getElem? (i := 826) (by decide +kernel)) (by decide +kernel)
theorem dc_X2_timesFedLeast : yX2_timesFedLeast.cls = RX2 ∧ yX2_timesFedLeast.cls ≠ "java/lang/invoke/MethodHandle" ∧ yX2_timesFedLeast.cls ≠ "java/lang/invoke/VarHandle" ∧ (parseMethodDescriptor yX2_timesFedLeast.desc).map (fun d => d.parameters.length) = some 2 := by decide +kernel
abbrev WX2_daysToNext : List Cond := Cond.code yX2_daysToNext cX2_daysToNext 5 (some .int) :: GW
theorem mC_X2_daysToNext : Cond.code yX2_daysToNext cX2_daysToNext 5 (some .int) ∈ GW := gw_code (List.mem_of_getElem? (i := 764) (by decide +kernel))
theorem mS_X2_daysToNext : Cond.static yX2_daysToNext ∈ GW := gw_t (List.mem_of_getElem? (i := 763) (by decide +kernel)) (by decide +kernel)
theorem dc_X2_daysToNext : yX2_daysToNext.cls ≠ "java/lang/invoke/MethodHandle" ∧ yX2_daysToNext.cls ≠ "java/lang/invoke/VarHandle" ∧ (parseMethodDescriptor yX2_daysToNext.desc).map (fun d => d.parameters.length) = some 3 := by decide +kernel
abbrev WX2_mayFollowItself : List Cond := Cond.code yX2_mayFollowItself cX2_mayFollowItself 4 (some .boolean) :: GW
theorem mC_X2_mayFollowItself : Cond.code yX2_mayFollowItself cX2_mayFollowItself 4 (some .boolean) ∈ GW := gw_code (List.mem_of_getElem? (i := 761) (by decide +kernel))
theorem mI_X2_mayFollowItself : Cond.instanceMethod yX2_mayFollowItself ∈ GW := gw_t (List.mem_of_getElem? (i := 760) (by decide +kernel)) (by decide +kernel)
theorem mSel_X2_mayFollowItself : Cond.selects RX2 yX2_mayFollowItself yX2_mayFollowItself ∈ GW := gw_s (List.mem_of_getElem? (i := 30) (by decide +kernel)) (by decide +kernel)
theorem dc_X2_mayFollowItself : yX2_mayFollowItself.cls = RX2 ∧ yX2_mayFollowItself.cls ≠ "java/lang/invoke/MethodHandle" ∧ yX2_mayFollowItself.cls ≠ "java/lang/invoke/VarHandle" ∧ (parseMethodDescriptor yX2_mayFollowItself.desc).map (fun d => d.parameters.length) = some 2 := by decide +kernel
abbrev WX2_isClosed : List Cond := Cond.code yX2_isClosed cX2_isClosed 5 (some .boolean) :: GW
theorem mC_X2_isClosed : Cond.code yX2_isClosed cX2_isClosed 5 (some .boolean) ∈ GW := gw_code (List.mem_of_getElem? (i := 753) (by decide +kernel))
theorem mI_X2_isClosed : Cond.instanceMethod yX2_isClosed ∈ GW := gw_t (List.mem_of_getElem? (i := 751) (by decide +kernel)) (by decide +kernel)
theorem mSel_X2_isClosed : Cond.selects RX2 yX2_isClosed yX2_isClosed ∈ GW := gw_t (List.mem_of_getElem? (i := 752) (by decide +kernel)) (by decide +kernel)
theorem dc_X2_isClosed : yX2_isClosed.cls = RX2 ∧ yX2_isClosed.cls ≠ "java/lang/invoke/MethodHandle" ∧ yX2_isClosed.cls ≠ "java/lang/invoke/VarHandle" ∧ (parseMethodDescriptor yX2_isClosed.desc).map (fun d => d.parameters.length) = some 4 := by decide +kernel
abbrev WX3_forget : List Cond := Cond.code yX3_forget cX3_forget 1 none :: GW
theorem mC_X3_forget : Cond.code yX3_forget cX3_forget 1 none ∈ GW := gw_code (List.mem_of_getElem? (i := 798) (by decide +kernel))
theorem mI_X3_forget : Cond.instanceMethod yX3_forget ∈ GW := gw_t (List.mem_of_getElem? (i := 797) (by decide +kernel)) (by decide +kernel)
theorem mSel_X3_forget : Cond.selects RX3 yX3_forget yX3_forget ∈ GW := gw_s (List.mem_of_getElem? (i := 31) (by decide +kernel)) (by decide +kernel)
theorem dc_X3_forget : yX3_forget.cls = RX3 ∧ yX3_forget.cls ≠ "java/lang/invoke/MethodHandle" ∧ yX3_forget.cls ≠ "java/lang/invoke/VarHandle" ∧ (parseMethodDescriptor yX3_forget.desc).map (fun d => d.parameters.length) = some 0 := by decide +kernel
abbrev WX3_following : List Cond := Cond.code yX3_following cX3_following 5 (some .int) :: GW
theorem mC_X3_following : Cond.code yX3_following cX3_following 5 (some .int) ∈ GW := gw_code (List.mem_of_getElem? (i := 804) (by decide +kernel))
theorem mI_X3_following : Cond.instanceMethod yX3_following ∈ GW := gw_t (List.mem_of_getElem? (i := 803) (by decide +kernel)) (by decide +kernel)
theorem mSel_X3_following : Cond.selects RX3 yX3_following yX3_following ∈ GW := gw_s (List.mem_of_getElem? (i := 32) (by decide +kernel)) (by decide +kernel)
theorem dc_X3_following : yX3_following.cls = RX3 ∧ yX3_following.cls ≠ "java/lang/invoke/MethodHandle" ∧ yX3_following.cls ≠ "java/lang/invoke/VarHandle" ∧ (parseMethodDescriptor yX3_following.desc).map (fun d => d.parameters.length) = some 2 := by decide +kernel
abbrev WX3_takeDay : List Cond := Cond.code yX3_takeDay cX3_takeDay 5 none :: GW
theorem mC_X3_takeDay : Cond.code yX3_takeDay cX3_takeDay 5 none ∈ GW := gw_code (List.mem_of_getElem? (i := 810) (by decide +kernel))
theorem mI_X3_takeDay : Cond.instanceMethod yX3_takeDay ∈ GW := gw_t (List.mem_of_getElem? (i := 809) (by decide +kernel)) (by decide +kernel)
theorem mSel_X3_takeDay : Cond.selects RX3 yX3_takeDay yX3_takeDay ∈ GW := gw_s (List.mem_of_getElem? (i := 33) (by decide +kernel)) (by decide +kernel)
theorem dc_X3_takeDay : yX3_takeDay.cls = RX3 ∧ yX3_takeDay.cls ≠ "java/lang/invoke/MethodHandle" ∧ yX3_takeDay.cls ≠ "java/lang/invoke/VarHandle" ∧ (parseMethodDescriptor yX3_takeDay.desc).map (fun d => d.parameters.length) = some 3 := by decide +kernel
abbrev WX3_judgeBest : List Cond := Cond.code yX3_judgeBest cX3_judgeBest 4 none :: GW
theorem mC_X3_judgeBest : Cond.code yX3_judgeBest cX3_judgeBest 4 none ∈ GW := gw_code (List.mem_of_getElem? (i := 822) (by decide +kernel))
theorem mI_X3_judgeBest : Cond.instanceMethod yX3_judgeBest ∈ GW := gw_t (List.mem_of_getElem? (i := 821) (by decide +kernel)) (by decide +kernel)
theorem mSel_X3_judgeBest : Cond.selects RX3 yX3_judgeBest yX3_judgeBest ∈ GW := gw_s (List.mem_of_getElem? (i := 35) (by decide +kernel)) (by decide +kernel)
theorem dc_X3_judgeBest : yX3_judgeBest.cls = RX3 ∧ yX3_judgeBest.cls ≠ "java/lang/invoke/MethodHandle" ∧ yX3_judgeBest.cls ≠ "java/lang/invoke/VarHandle" ∧ (parseMethodDescriptor yX3_judgeBest.desc).map (fun d => d.parameters.length) = some 2 := by decide +kernel
abbrev WX3_judgeFairest : List Cond := Cond.code yX3_judgeFairest cX3_judgeFairest 5 none :: GW
theorem mC_X3_judgeFairest : Cond.code yX3_judgeFairest cX3_judgeFairest 5 none ∈ GW := gw_code (List.mem_of_getElem? (i := 833) (by decide +kernel))
theorem mI_X3_judgeFairest : Cond.instanceMethod yX3_judgeFairest ∈ GW := gw_t (List.mem_of_getElem? (i := 832) (by decide +kernel)) (by decide +kernel)
theorem mSel_X3_judgeFairest : Cond.selects RX3 yX3_judgeFairest yX3_judgeFairest ∈ GW := gw_s (List.mem_of_getElem? (i := 36) (by decide +kernel)) (by decide +kernel)
theorem dc_X3_judgeFairest : yX3_judgeFairest.cls = RX3 ∧ yX3_judgeFairest.cls ≠ "java/lang/invoke/MethodHandle" ∧ yX3_judgeFairest.cls ≠ "java/lang/invoke/VarHandle" ∧ (parseMethodDescriptor yX3_judgeFairest.desc).map (fun d => d.parameters.length) = some 2 := by decide +kernel
abbrev WX3_addClosing : List Cond := Cond.code yX3_addClosing cX3_addClosing 3 none :: GW
theorem mC_X3_addClosing : Cond.code yX3_addClosing cX3_addClosing 3 none ∈ GW := gw_code (List.mem_of_getElem? (i := 838) (by decide +kernel))
theorem mI_X3_addClosing : Cond.instanceMethod yX3_addClosing ∈ GW := gw_t (List.mem_of_getElem? (i := 837) (by decide +kernel)) (by decide +kernel)
theorem mSel_X3_addClosing : Cond.selects RX3 yX3_addClosing yX3_addClosing ∈ GW := gw_s (List.mem_of_getElem? (i := 37) (by decide +kernel)) (by decide +kernel)
theorem dc_X3_addClosing : yX3_addClosing.cls = RX3 ∧ yX3_addClosing.cls ≠ "java/lang/invoke/MethodHandle" ∧ yX3_addClosing.cls ≠ "java/lang/invoke/VarHandle" ∧ (parseMethodDescriptor yX3_addClosing.desc).map (fun d => d.parameters.length) = some 1 := by decide +kernel
abbrev WX3_judge : List Cond := Cond.code yX3_judge cX3_judge 7 none :: GW
theorem mC_X3_judge : Cond.code yX3_judge cX3_judge 7 none ∈ GW := gw_code (List.mem_of_getElem? (i := 817) (by decide +kernel))
theorem mI_X3_judge : Cond.instanceMethod yX3_judge ∈ GW := gw_t (List.mem_of_getElem? (i := 816) (by decide +kernel)) (by decide +kernel)
theorem mSel_X3_judge : Cond.selects RX3 yX3_judge yX3_judge ∈ GW := gw_s (List.mem_of_getElem? (i := 34) (by decide +kernel)) (by decide +kernel)
theorem dc_X3_judge : yX3_judge.cls = RX3 ∧ yX3_judge.cls ≠ "java/lang/invoke/MethodHandle" ∧ yX3_judge.cls ≠ "java/lang/invoke/VarHandle" ∧ (parseMethodDescriptor yX3_judge.desc).map (fun d => d.parameters.length) = some 3 := by decide +kernel
abbrev WX5_weightOf : List Cond := Cond.code yX5_weightOf cX5_weightOf 7 (some .int) :: GW
theorem mC_X5_weightOf : Cond.code yX5_weightOf cX5_weightOf 7 (some .int) ∈ GW := gw_code (List.mem_of_getElem? (i := 775) (by decide +kernel))
theorem mS_X5_weightOf : Cond.static yX5_weightOf ∈ GW := gw_t (List.mem_of_getElem? (i := 774) (by decide +kernel)) (by decide +kernel)
theorem dc_X5_weightOf : yX5_weightOf.cls ≠ "java/lang/invoke/MethodHandle" ∧ yX5_weightOf.cls ≠ "java/lang/invoke/VarHandle" ∧ (parseMethodDescriptor yX5_weightOf.desc).map (fun d => d.parameters.length) = some 4 := by decide +kernel
abbrev WX5_go : List Cond := Cond.code yX5_go cX5_go 8 (some .int) :: GW
theorem mC_X5_go : Cond.code yX5_go cX5_go 8 (some .int) ∈ GW := gw_code (List.mem_of_getElem? (i := 732) (by decide +kernel))
theorem mI_X5_go : Cond.instanceMethod yX5_go ∈ GW := gw_t (List.mem_of_getElem? (i := 730) (by decide +kernel)) (by decide +kernel)
theorem mSel_X5_go : Cond.selects RX5 yX5_go yX5_go ∈ GW := gw_t (List.mem_of_getElem? (i := 731) (by decide +kernel)) (by decide +kernel)
theorem dc_X5_go : yX5_go.cls = RX5 ∧ yX5_go.cls ≠ "java/lang/invoke/MethodHandle" ∧ yX5_go.cls ≠ "java/lang/invoke/VarHandle" ∧ (parseMethodDescriptor yX5_go.desc).map (fun d => d.parameters.length) = some 5 := by decide +kernel
abbrev WX5_bearing : List Cond := Cond.code yX5_bearing cX5_bearing 8 (some .int) :: GW
theorem mC_X5_bearing : Cond.code yX5_bearing cX5_bearing 8 (some .int) ∈ GW := gw_code (List.mem_of_getElem? (i := 772) (by decide +kernel))
theorem mI_X5_bearing : Cond.instanceMethod yX5_bearing ∈ GW := gw_t (List.mem_of_getElem? (i := 770) (by decide +kernel)) (by decide +kernel)
theorem mSel_X5_bearing : Cond.selects RX5 yX5_bearing yX5_bearing ∈ GW := gw_t (List.mem_of_getElem? (i := 771) (by decide +kernel)) (by decide +kernel)
theorem dc_X5_bearing : yX5_bearing.cls = RX5 ∧ yX5_bearing.cls ≠ "java/lang/invoke/MethodHandle" ∧ yX5_bearing.cls ≠ "java/lang/invoke/VarHandle" ∧ (parseMethodDescriptor yX5_bearing.desc).map (fun d => d.parameters.length) = some 4 := by decide +kernel
abbrev WX3_judgeSurest : List Cond := Cond.code yX3_judgeSurest cX3_judgeSurest 2 none :: GW
theorem mC_X3_judgeSurest : Cond.code yX3_judgeSurest cX3_judgeSurest 2 none ∈ GW := gw_code (List.mem_of_getElem? (i := 843) (by decide +kernel))
theorem mI_X3_judgeSurest : Cond.instanceMethod yX3_judgeSurest ∈ GW := gw_t (List.mem_of_getElem? (i := 842) (by decide +kernel)) (by decide +kernel)
theorem mSel_X3_judgeSurest : Cond.selects RX3 yX3_judgeSurest yX3_judgeSurest ∈ GW := gw_s (List.mem_of_getElem? (i := 38) (by decide +kernel)) (by decide +kernel)
theorem dc_X3_judgeSurest : yX3_judgeSurest.cls = RX3 ∧ yX3_judgeSurest.cls ≠ "java/lang/invoke/MethodHandle" ∧ yX3_judgeSurest.cls ≠ "java/lang/invoke/VarHandle" ∧ (parseMethodDescriptor yX3_judgeSurest.desc).map (fun d => d.parameters.length) = some 1 := by decide +kernel
abbrev WX3_lookAtRows : List Cond := Cond.code yX3_lookAtRows cX3_lookAtRows 8 none :: GW
theorem mC_X3_lookAtRows : Cond.code yX3_lookAtRows cX3_lookAtRows 8 none ∈ GW := gw_code (List.mem_of_getElem? (i := 794) (by decide +kernel))
theorem mI_X3_lookAtRows : Cond.instanceMethod yX3_lookAtRows ∈ GW := gw_t (List.mem_of_getElem? (i := 792) (by decide +kernel)) (by decide +kernel)
theorem mSel_X3_lookAtRows : Cond.selects RX3 yX3_lookAtRows yX3_lookAtRows ∈ GW := gw_t (List.mem_of_getElem? (i := 793) (by decide +kernel)) (by decide +kernel)
theorem dc_X3_lookAtRows : yX3_lookAtRows.cls = RX3 ∧ yX3_lookAtRows.cls ≠ "java/lang/invoke/MethodHandle" ∧ yX3_lookAtRows.cls ≠ "java/lang/invoke/VarHandle" ∧ (parseMethodDescriptor yX3_lookAtRows.desc).map (fun d => d.parameters.length) = some 4 := by decide +kernel
abbrev WX4_isNothing : List Cond := Cond.code yX4_isNothing cX4_isNothing 2 (some .boolean) :: GW
theorem mC_X4_isNothing : Cond.code yX4_isNothing cX4_isNothing 2 (some .boolean) ∈ GW := gw_code (List.mem_of_getElem? (i := 897) (by decide +kernel))
theorem mI_X4_isNothing : Cond.instanceMethod yX4_isNothing ∈ GW := gw_t (List.mem_of_getElem? (i := 895) (by decide +kernel)) (by decide +kernel)
theorem mSel_X4_isNothing : Cond.selects RX4 yX4_isNothing yX4_isNothing ∈ GW := gw_t (List.mem_of_getElem? (i := 896) (by decide +kernel)) (by decide +kernel)
theorem dc_X4_isNothing : yX4_isNothing.cls = RX4 ∧ yX4_isNothing.cls ≠ "java/lang/invoke/MethodHandle" ∧ yX4_isNothing.cls ≠ "java/lang/invoke/VarHandle" ∧ (parseMethodDescriptor yX4_isNothing.desc).map (fun d => d.parameters.length) = some 1 := by decide +kernel
abbrev WX4_begin : List Cond := Cond.code yX4_begin cX4_begin 5 none :: GW
theorem mC_X4_begin : Cond.code yX4_begin cX4_begin 5 none ∈ GW := gw_code (List.mem_of_getElem? (i := 889) (by decide +kernel))
theorem mI_X4_begin : Cond.instanceMethod yX4_begin ∈ GW := gw_t (List.mem_of_getElem? (i := 887) (by decide +kernel)) (by decide +kernel)
theorem mSel_X4_begin : Cond.selects RX4 yX4_begin yX4_begin ∈ GW := gw_t (List.mem_of_getElem? (i := 888) (by decide +kernel)) (by decide +kernel)
theorem dc_X4_begin : yX4_begin.cls = RX4 ∧ yX4_begin.cls ≠ "java/lang/invoke/MethodHandle" ∧ yX4_begin.cls ≠ "java/lang/invoke/VarHandle" ∧ (parseMethodDescriptor yX4_begin.desc).map (fun d => d.parameters.length) = some 3 := by decide +kernel
abbrev WX4_setCell : List Cond := Cond.code yX4_setCell cX4_setCell 4 none :: GW
theorem mC_X4_setCell : Cond.code yX4_setCell cX4_setCell 4 none ∈ GW := gw_code (List.mem_of_getElem? (i := 901) (by decide +kernel))
theorem mI_X4_setCell : Cond.instanceMethod yX4_setCell ∈ GW := gw_t (List.mem_of_getElem? (i := 899) (by decide +kernel)) (by decide +kernel)
theorem mSel_X4_setCell : Cond.selects RX4 yX4_setCell yX4_setCell ∈ GW := gw_t (List.mem_of_getElem? (i := 900) (by decide +kernel)) (by decide +kernel)
theorem dc_X4_setCell : yX4_setCell.cls = RX4 ∧ yX4_setCell.cls ≠ "java/lang/invoke/MethodHandle" ∧ yX4_setCell.cls ≠ "java/lang/invoke/VarHandle" ∧ (parseMethodDescriptor yX4_setCell.desc).map (fun d => d.parameters.length) = some 3 := by decide +kernel
abbrev WX4_cellAt : List Cond := Cond.code yX4_cellAt cX4_cellAt 3 (some .int) :: GW
theorem mC_X4_cellAt : Cond.code yX4_cellAt cX4_cellAt 3 (some .int) ∈ GW := gw_code (List.mem_of_getElem? (i := 924) (by decide +kernel))
theorem mI_X4_cellAt : Cond.instanceMethod yX4_cellAt ∈ GW := gw_t (List.mem_of_getElem? (i := 922) (by decide +kernel)) (by decide +kernel)
theorem mSel_X4_cellAt : Cond.selects RX4 yX4_cellAt yX4_cellAt ∈ GW := gw_t (List.mem_of_getElem? (i := 923) (by decide +kernel)) (by decide +kernel)
theorem dc_X4_cellAt : yX4_cellAt.cls = RX4 ∧ yX4_cellAt.cls ≠ "java/lang/invoke/MethodHandle" ∧ yX4_cellAt.cls ≠ "java/lang/invoke/VarHandle" ∧ (parseMethodDescriptor yX4_cellAt.desc).map (fun d => d.parameters.length) = some 2 := by decide +kernel
abbrev WX4_faultAsOf : List Cond := Cond.code yX4_faultAsOf cX4_faultAsOf 3 (some .int) :: GW
theorem mC_X4_faultAsOf : Cond.code yX4_faultAsOf cX4_faultAsOf 3 (some .int) ∈ GW := gw_code (List.mem_of_getElem? (i := 909) (by decide +kernel))
theorem mI_X4_faultAsOf : Cond.instanceMethod yX4_faultAsOf ∈ GW := gw_t (List.mem_of_getElem? (i := 907) (by decide +kernel)) (by decide +kernel)
theorem mSel_X4_faultAsOf : Cond.selects RX4 yX4_faultAsOf yX4_faultAsOf ∈ GW := gw_t (List.mem_of_getElem? (i := 908) (by decide +kernel)) (by decide +kernel)
theorem dc_X4_faultAsOf : yX4_faultAsOf.cls = RX4 ∧ yX4_faultAsOf.cls ≠ "java/lang/invoke/MethodHandle" ∧ yX4_faultAsOf.cls ≠ "java/lang/invoke/VarHandle" ∧ (parseMethodDescriptor yX4_faultAsOf.desc).map (fun d => d.parameters.length) = some 2 := by decide +kernel
abbrev WX4_isLotWhole : List Cond := Cond.code yX4_isLotWhole cX4_isLotWhole 4 (some .boolean) :: GW
theorem mC_X4_isLotWhole : Cond.code yX4_isLotWhole cX4_isLotWhole 4 (some .boolean) ∈ GW := gw_code (List.mem_of_getElem? (i := 915) (by decide +kernel))
theorem mI_X4_isLotWhole : Cond.instanceMethod yX4_isLotWhole ∈ GW := gw_t (List.mem_of_getElem? (i := 913) (by decide +kernel)) (by decide +kernel)
theorem mSel_X4_isLotWhole : Cond.selects RX4 yX4_isLotWhole yX4_isLotWhole ∈ GW := gw_t (List.mem_of_getElem? (i := 914) (by decide +kernel)) (by decide +kernel)
theorem dc_X4_isLotWhole : yX4_isLotWhole.cls = RX4 ∧ yX4_isLotWhole.cls ≠ "java/lang/invoke/MethodHandle" ∧ yX4_isLotWhole.cls ≠ "java/lang/invoke/VarHandle" ∧ (parseMethodDescriptor yX4_isLotWhole.desc).map (fun d => d.parameters.length) = some 2 := by decide +kernel
abbrev WX6_feed : List Cond := Cond.code yX6_feed cX6_feed 4 (some .int) :: GW
theorem mC_X6_feed : Cond.code yX6_feed cX6_feed 4 (some .int) ∈ GW := gw_code (List.mem_of_getElem? (i := 387) (by decide +kernel))
theorem mI_X6_feed : Cond.instanceMethod yX6_feed ∈ GW := gw_t (List.mem_of_getElem? (i := 385) (by decide +kernel)) (by decide +kernel)
theorem mSel_X6_feed : Cond.selects RX6 yX6_feed yX6_feed ∈ GW := gw_t (List.mem_of_getElem? (i := 386) (by decide +kernel)) (by decide +kernel)
theorem dc_X6_feed : yX6_feed.cls = RX6 ∧ yX6_feed.cls ≠ "java/lang/invoke/MethodHandle" ∧ yX6_feed.cls ≠ "java/lang/invoke/VarHandle" ∧ (parseMethodDescriptor yX6_feed.desc).map (fun d => d.parameters.length) = some 1 := by decide +kernel
abbrev WX6_end : List Cond := Cond.code yX6_end cX6_end 3 (some .int) :: GW
theorem mC_X6_end : Cond.code yX6_end cX6_end 3 (some .int) ∈ GW := gw_code (List.mem_of_getElem? (i := 391) (by decide +kernel))
theorem mI_X6_end : Cond.instanceMethod yX6_end ∈ GW := gw_t (List.mem_of_getElem? (i := 389) (by decide +kernel)) (by decide +kernel)
theorem mSel_X6_end : Cond.selects RX6 yX6_end yX6_end ∈ GW := gw_t (List.mem_of_getElem? (i := 390) (by decide +kernel)) (by decide +kernel)
theorem dc_X6_end : yX6_end.cls = RX6 ∧ yX6_end.cls ≠ "java/lang/invoke/MethodHandle" ∧ yX6_end.cls ≠ "java/lang/invoke/VarHandle" ∧ (parseMethodDescriptor yX6_end.desc).map (fun d => d.parameters.length) = some 1 := by decide +kernel
abbrev WX6_text : List Cond := Cond.code yX6_text cX6_text 3 (some .int) :: GW
theorem mC_X6_text : Cond.code yX6_text cX6_text 3 (some .int) ∈ GW := gw_code (List.mem_of_getElem? (i := 395) (by decide +kernel))
theorem mI_X6_text : Cond.instanceMethod yX6_text ∈ GW := gw_t (List.mem_of_getElem? (i := 393) (by decide +kernel)) (by decide +kernel)
theorem mSel_X6_text : Cond.selects RX6 yX6_text yX6_text ∈ GW := gw_t (List.mem_of_getElem? (i := 394) (by decide +kernel)) (by decide +kernel)
theorem dc_X6_text : yX6_text.cls = RX6 ∧ yX6_text.cls ≠ "java/lang/invoke/MethodHandle" ∧ yX6_text.cls ≠ "java/lang/invoke/VarHandle" ∧ (parseMethodDescriptor yX6_text.desc).map (fun d => d.parameters.length) = some 0 := by decide +kernel
abbrev WX6_fault : List Cond := Cond.code yX6_fault cX6_fault 1 (some .int) :: GW
theorem mC_X6_fault : Cond.code yX6_fault cX6_fault 1 (some .int) ∈ GW := gw_code (List.mem_of_getElem? (i := 577) (by decide +kernel))
theorem mI_X6_fault : Cond.instanceMethod yX6_fault ∈ GW := gw_t (List.mem_of_getElem? (i := 575) (by decide +kernel)) (by decide +kernel)
theorem mSel_X6_fault : Cond.selects RX6 yX6_fault yX6_fault ∈ GW := gw_t (List.mem_of_getElem? (i := 576) (by decide +kernel)) (by decide +kernel)
theorem dc_X6_fault : yX6_fault.cls = RX6 ∧ yX6_fault.cls ≠ "java/lang/invoke/MethodHandle" ∧ yX6_fault.cls ≠ "java/lang/invoke/VarHandle" ∧ (parseMethodDescriptor yX6_fault.desc).map (fun d => d.parameters.length) = some 0 := by decide +kernel
abbrev WX6_thing : List Cond := Cond.code yX6_thing cX6_thing 3 (some .int) :: GW
theorem mC_X6_thing : Cond.code yX6_thing cX6_thing 3 (some .int) ∈ GW := gw_code (List.mem_of_getElem? (i := 581) (by decide +kernel))
theorem mI_X6_thing : Cond.instanceMethod yX6_thing ∈ GW := gw_t (List.mem_of_getElem? (i := 579) (by decide +kernel)) (by decide +kernel)
theorem mSel_X6_thing : Cond.selects RX6 yX6_thing yX6_thing ∈ GW := gw_t (List.mem_of_getElem? (i := 580) (by decide +kernel)) (by decide +kernel)
theorem dc_X6_thing : yX6_thing.cls = RX6 ∧ yX6_thing.cls ≠ "java/lang/invoke/MethodHandle" ∧ yX6_thing.cls ≠ "java/lang/invoke/VarHandle" ∧ (parseMethodDescriptor yX6_thing.desc).map (fun d => d.parameters.length) = some 2 := by decide +kernel
abbrev WX6_supper : List Cond := Cond.code yX6_supper cX6_supper 3 (some .int) :: GW
theorem mC_X6_supper : Cond.code yX6_supper cX6_supper 3 (some .int) ∈ GW := gw_code (List.mem_of_getElem? (i := 589) (by decide +kernel))
theorem mI_X6_supper : Cond.instanceMethod yX6_supper ∈ GW := gw_t (List.mem_of_getElem? (i := 587) (by decide +kernel)) (by decide +kernel)
theorem mSel_X6_supper : Cond.selects RX6 yX6_supper yX6_supper ∈ GW := gw_t (List.mem_of_getElem? (i := 588) (by decide +kernel)) (by decide +kernel)
theorem dc_X6_supper : yX6_supper.cls = RX6 ∧ yX6_supper.cls ≠ "java/lang/invoke/MethodHandle" ∧ yX6_supper.cls ≠ "java/lang/invoke/VarHandle" ∧ (parseMethodDescriptor yX6_supper.desc).map (fun d => d.parameters.length) = some 2 := by decide +kernel
abbrev WX6_rule : List Cond := Cond.code yX6_rule cX6_rule 2 (some .int) :: GW
theorem mC_X6_rule : Cond.code yX6_rule cX6_rule 2 (some .int) ∈ GW := gw_code (List.mem_of_getElem? (i := 601) (by decide +kernel))
theorem mI_X6_rule : Cond.instanceMethod yX6_rule ∈ GW := gw_t (List.mem_of_getElem? (i := 599) (by decide +kernel)) (by decide +kernel)
theorem mSel_X6_rule : Cond.selects RX6 yX6_rule yX6_rule ∈ GW := gw_t (List.mem_of_getElem? (i := 600) (by decide +kernel)) (by decide +kernel)
theorem dc_X6_rule : yX6_rule.cls = RX6 ∧ yX6_rule.cls ≠ "java/lang/invoke/MethodHandle" ∧ yX6_rule.cls ≠ "java/lang/invoke/VarHandle" ∧ (parseMethodDescriptor yX6_rule.desc).map (fun d => d.parameters.length) = some 1 := by decide +kernel
abbrev WX6_canPut : List Cond := Cond.code yX6_canPut cX6_canPut 4 (some .boolean) :: GW
theorem mC_X6_canPut : Cond.code yX6_canPut cX6_canPut 4 (some .boolean) ∈ GW := gw_code (List.mem_of_getElem? (i := 609) (by decide +kernel))
theorem mI_X6_canPut : Cond.instanceMethod yX6_canPut ∈ GW := gw_t (List.mem_of_getElem? (i := 608) (by decide +kernel)) (by decide +kernel)
theorem mSel_X6_canPut : Cond.selects RX6 yX6_canPut yX6_canPut ∈ GW := gw_s (List.mem_of_getElem? (i := 24) (by decide +kernel)) (by decide +kernel)
theorem dc_X6_canPut : yX6_canPut.cls = RX6 ∧ yX6_canPut.cls ≠ "java/lang/invoke/MethodHandle" ∧ yX6_canPut.cls ≠ "java/lang/invoke/VarHandle" ∧ (parseMethodDescriptor yX6_canPut.desc).map (fun d => d.parameters.length) = some 3 := by decide +kernel
abbrev WX6_put : List Cond := Cond.code yX6_put cX6_put 5 (some .int) :: GW
theorem mC_X6_put : Cond.code yX6_put cX6_put 5 (some .int) ∈ GW := gw_code (List.mem_of_getElem? (i := 605) (by decide +kernel))
theorem mI_X6_put : Cond.instanceMethod yX6_put ∈ GW := gw_t (List.mem_of_getElem? (i := 603) (by decide +kernel)) (by decide +kernel)
theorem mSel_X6_put : Cond.selects RX6 yX6_put yX6_put ∈ GW := gw_t (List.mem_of_getElem? (i := 604) (by decide +kernel)) (by decide +kernel)
theorem dc_X6_put : yX6_put.cls = RX6 ∧ yX6_put.cls ≠ "java/lang/invoke/MethodHandle" ∧ yX6_put.cls ≠ "java/lang/invoke/VarHandle" ∧ (parseMethodDescriptor yX6_put.desc).map (fun d => d.parameters.length) = some 3 := by decide +kernel
abbrev WX6_has : List Cond := Cond.code yX6_has cX6_has 3 (some .int) :: GW
theorem mC_X6_has : Cond.code yX6_has cX6_has 3 (some .int) ∈ GW := gw_code (List.mem_of_getElem? (i := 613) (by decide +kernel))
theorem mI_X6_has : Cond.instanceMethod yX6_has ∈ GW := gw_t (List.mem_of_getElem? (i := 611) (by decide +kernel)) (by decide +kernel)
theorem mSel_X6_has : Cond.selects RX6 yX6_has yX6_has ∈ GW := gw_t (List.mem_of_getElem? (i := 612) (by decide +kernel)) (by decide +kernel)
theorem dc_X6_has : yX6_has.cls = RX6 ∧ yX6_has.cls ≠ "java/lang/invoke/MethodHandle" ∧ yX6_has.cls ≠ "java/lang/invoke/VarHandle" ∧ (parseMethodDescriptor yX6_has.desc).map (fun d => d.parameters.length) = some 2 := by decide +kernel
abbrev WX6_may : List Cond := Cond.code yX6_may cX6_may 3 (some .int) :: GW
theorem mC_X6_may : Cond.code yX6_may cX6_may 3 (some .int) ∈ GW := gw_code (List.mem_of_getElem? (i := 617) (by decide +kernel))
theorem mI_X6_may : Cond.instanceMethod yX6_may ∈ GW := gw_t (List.mem_of_getElem? (i := 615) (by decide +kernel)) (by decide +kernel)
theorem mSel_X6_may : Cond.selects RX6 yX6_may yX6_may ∈ GW := gw_t (List.mem_of_getElem? (i := 616) (by decide +kernel)) (by decide +kernel)
theorem dc_X6_may : yX6_may.cls = RX6 ∧ yX6_may.cls ≠ "java/lang/invoke/MethodHandle" ∧ yX6_may.cls ≠ "java/lang/invoke/VarHandle" ∧ (parseMethodDescriptor yX6_may.desc).map (fun d => d.parameters.length) = some 2 := by decide +kernel
abbrev WX6_lacks : List Cond := Cond.code yX6_lacks cX6_lacks 5 (some .int) :: GW
theorem mC_X6_lacks : Cond.code yX6_lacks cX6_lacks 5 (some .int) ∈ GW := gw_code (List.mem_of_getElem? (i := 650) (by decide +kernel))
theorem mI_X6_lacks : Cond.instanceMethod yX6_lacks ∈ GW := gw_t (List.mem_of_getElem? (i := 648) (by decide +kernel)) (by decide +kernel)
theorem mSel_X6_lacks : Cond.selects RX6 yX6_lacks yX6_lacks ∈ GW := gw_t (List.mem_of_getElem? (i := 649) (by decide +kernel)) (by decide +kernel)
theorem dc_X6_lacks : yX6_lacks.cls = RX6 ∧ yX6_lacks.cls ≠ "java/lang/invoke/MethodHandle" ∧ yX6_lacks.cls ≠ "java/lang/invoke/VarHandle" ∧ (parseMethodDescriptor yX6_lacks.desc).map (fun d => d.parameters.length) = some 4 := by decide +kernel
abbrev WX6_eat : List Cond := Cond.code yX6_eat cX6_eat 3 (some .int) :: GW
theorem mC_X6_eat : Cond.code yX6_eat cX6_eat 3 (some .int) ∈ GW := gw_code (List.mem_of_getElem? (i := 674) (by decide +kernel))
theorem mI_X6_eat : Cond.instanceMethod yX6_eat ∈ GW := gw_t (List.mem_of_getElem? (i := 672) (by decide +kernel)) (by decide +kernel)
theorem mSel_X6_eat : Cond.selects RX6 yX6_eat yX6_eat ∈ GW := gw_t (List.mem_of_getElem? (i := 673) (by decide +kernel)) (by decide +kernel)
theorem dc_X6_eat : yX6_eat.cls = RX6 ∧ yX6_eat.cls ≠ "java/lang/invoke/MethodHandle" ∧ yX6_eat.cls ≠ "java/lang/invoke/VarHandle" ∧ (parseMethodDescriptor yX6_eat.desc).map (fun d => d.parameters.length) = some 2 := by decide +kernel
abbrev WX6_night : List Cond := Cond.code yX6_night cX6_night 1 (some .int) :: GW
theorem mC_X6_night : Cond.code yX6_night cX6_night 1 (some .int) ∈ GW := gw_code (List.mem_of_getElem? (i := 687) (by decide +kernel))
theorem mI_X6_night : Cond.instanceMethod yX6_night ∈ GW := gw_t (List.mem_of_getElem? (i := 685) (by decide +kernel)) (by decide +kernel)
theorem mSel_X6_night : Cond.selects RX6 yX6_night yX6_night ∈ GW := gw_t (List.mem_of_getElem? (i := 686) (by decide +kernel)) (by decide +kernel)
theorem dc_X6_night : yX6_night.cls = RX6 ∧ yX6_night.cls ≠ "java/lang/invoke/MethodHandle" ∧ yX6_night.cls ≠ "java/lang/invoke/VarHandle" ∧ (parseMethodDescriptor yX6_night.desc).map (fun d => d.parameters.length) = some 0 := by decide +kernel
abbrev WX6_now : List Cond := Cond.code yX6_now cX6_now 2 (some .int) :: GW
theorem mC_X6_now : Cond.code yX6_now cX6_now 2 (some .int) ∈ GW := gw_code (List.mem_of_getElem? (i := 695) (by decide +kernel))
theorem mI_X6_now : Cond.instanceMethod yX6_now ∈ GW := gw_t (List.mem_of_getElem? (i := 693) (by decide +kernel)) (by decide +kernel)
theorem mSel_X6_now : Cond.selects RX6 yX6_now yX6_now ∈ GW := gw_t (List.mem_of_getElem? (i := 694) (by decide +kernel)) (by decide +kernel)
theorem dc_X6_now : yX6_now.cls = RX6 ∧ yX6_now.cls ≠ "java/lang/invoke/MethodHandle" ∧ yX6_now.cls ≠ "java/lang/invoke/VarHandle" ∧ (parseMethodDescriptor yX6_now.desc).map (fun d => d.parameters.length) = some 1 := by decide +kernel
abbrev WX6_last : List Cond := Cond.code yX6_last cX6_last 2 (some .int) :: GW
theorem mC_X6_last : Cond.code yX6_last cX6_last 2 (some .int) ∈ GW := gw_code (List.mem_of_getElem? (i := 703) (by decide +kernel))
theorem mI_X6_last : Cond.instanceMethod yX6_last ∈ GW := gw_t (List.mem_of_getElem? (i := 701) (by decide +kernel)) (by decide +kernel)
theorem mSel_X6_last : Cond.selects RX6 yX6_last yX6_last ∈ GW := gw_t (List.mem_of_getElem? (i := 702) (by decide +kernel)) (by decide +kernel)
theorem dc_X6_last : yX6_last.cls = RX6 ∧ yX6_last.cls ≠ "java/lang/invoke/MethodHandle" ∧ yX6_last.cls ≠ "java/lang/invoke/VarHandle" ∧ (parseMethodDescriptor yX6_last.desc).map (fun d => d.parameters.length) = some 1 := by decide +kernel
abbrev WX6_keep : List Cond := Cond.code yX6_keep cX6_keep 3 (some .int) :: GW
theorem mC_X6_keep : Cond.code yX6_keep cX6_keep 3 (some .int) ∈ GW := gw_code (List.mem_of_getElem? (i := 707) (by decide +kernel))
theorem mI_X6_keep : Cond.instanceMethod yX6_keep ∈ GW := gw_t (List.mem_of_getElem? (i := 705) (by decide +kernel)) (by decide +kernel)
theorem mSel_X6_keep : Cond.selects RX6 yX6_keep yX6_keep ∈ GW := gw_t (List.mem_of_getElem? (i := 706) (by decide +kernel)) (by decide +kernel)
theorem dc_X6_keep : yX6_keep.cls = RX6 ∧ yX6_keep.cls ≠ "java/lang/invoke/MethodHandle" ∧ yX6_keep.cls ≠ "java/lang/invoke/VarHandle" ∧ (parseMethodDescriptor yX6_keep.desc).map (fun d => d.parameters.length) = some 1 := by decide +kernel
abbrev WX6_back : List Cond := Cond.code yX6_back cX6_back 2 (some .int) :: GW
theorem mC_X6_back : Cond.code yX6_back cX6_back 2 (some .int) ∈ GW := gw_code (List.mem_of_getElem? (i := 716) (by decide +kernel))
theorem mI_X6_back : Cond.instanceMethod yX6_back ∈ GW := gw_t (List.mem_of_getElem? (i := 714) (by decide +kernel)) (by decide +kernel)
theorem mSel_X6_back : Cond.selects RX6 yX6_back yX6_back ∈ GW := gw_t (List.mem_of_getElem? (i := 715) (by decide +kernel)) (by decide +kernel)
theorem dc_X6_back : yX6_back.cls = RX6 ∧ yX6_back.cls ≠ "java/lang/invoke/MethodHandle" ∧ yX6_back.cls ≠ "java/lang/invoke/VarHandle" ∧ (parseMethodDescriptor yX6_back.desc).map (fun d => d.parameters.length) = some 1 := by decide +kernel
abbrev WX6_day : List Cond := Cond.code yX6_day cX6_day 2 (some .int) :: GW
theorem mC_X6_day : Cond.code yX6_day cX6_day 2 (some .int) ∈ GW := gw_code (List.mem_of_getElem? (i := 720) (by decide +kernel))
theorem mI_X6_day : Cond.instanceMethod yX6_day ∈ GW := gw_t (List.mem_of_getElem? (i := 718) (by decide +kernel)) (by decide +kernel)
theorem mSel_X6_day : Cond.selects RX6 yX6_day yX6_day ∈ GW := gw_t (List.mem_of_getElem? (i := 719) (by decide +kernel)) (by decide +kernel)
theorem dc_X6_day : yX6_day.cls = RX6 ∧ yX6_day.cls ≠ "java/lang/invoke/MethodHandle" ∧ yX6_day.cls ≠ "java/lang/invoke/VarHandle" ∧ (parseMethodDescriptor yX6_day.desc).map (fun d => d.parameters.length) = some 1 := by decide +kernel
abbrev WX6_clear : List Cond := Cond.code yX6_clear cX6_clear 2 (some .int) :: GW
theorem mC_X6_clear : Cond.code yX6_clear cX6_clear 2 (some .int) ∈ GW := gw_code (List.mem_of_getElem? (i := 724) (by decide +kernel))
theorem mI_X6_clear : Cond.instanceMethod yX6_clear ∈ GW := gw_t (List.mem_of_getElem? (i := 722) (by decide +kernel)) (by decide +kernel)
theorem mSel_X6_clear : Cond.selects RX6 yX6_clear yX6_clear ∈ GW := gw_t (List.mem_of_getElem? (i := 723) (by decide +kernel)) (by decide +kernel)
theorem dc_X6_clear : yX6_clear.cls = RX6 ∧ yX6_clear.cls ≠ "java/lang/invoke/MethodHandle" ∧ yX6_clear.cls ≠ "java/lang/invoke/VarHandle" ∧ (parseMethodDescriptor yX6_clear.desc).map (fun d => d.parameters.length) = some 0 := by decide +kernel
abbrev WX6_rowByHandCloses : List Cond := Cond.code yX6_rowByHandCloses cX6_rowByHandCloses 2 (some .boolean) :: GW
theorem mC_X6_rowByHandCloses : Cond.code yX6_rowByHandCloses cX6_rowByHandCloses 2 (some .boolean) ∈ GW := gw_code (List.mem_of_getElem? (i := 748) (by decide +kernel))
theorem mI_X6_rowByHandCloses : Cond.instanceMethod yX6_rowByHandCloses ∈ GW := gw_t (List.mem_of_getElem? (i := 747) (by decide +kernel)) (by decide +kernel)
theorem mSel_X6_rowByHandCloses : Cond.selects RX6 yX6_rowByHandCloses yX6_rowByHandCloses ∈ GW := gw_s (List.mem_of_getElem? (i := 29) (by decide +kernel)) (by decide +kernel)
theorem dc_X6_rowByHandCloses : yX6_rowByHandCloses.cls = RX6 ∧ yX6_rowByHandCloses.cls ≠ "java/lang/invoke/MethodHandle" ∧ yX6_rowByHandCloses.cls ≠ "java/lang/invoke/VarHandle" ∧ (parseMethodDescriptor yX6_rowByHandCloses.desc).map (fun d => d.parameters.length) = some 0 := by decide +kernel
abbrev WX6_row : List Cond := Cond.code yX6_row cX6_row 4 (some .int) :: GW
theorem mC_X6_row : Cond.code yX6_row cX6_row 4 (some .int) ∈ GW := gw_code (List.mem_of_getElem? (i := 728) (by decide +kernel))
theorem mI_X6_row : Cond.instanceMethod yX6_row ∈ GW := gw_t (List.mem_of_getElem? (i := 726) (by decide +kernel)) (by decide +kernel)
theorem mSel_X6_row : Cond.selects RX6 yX6_row yX6_row ∈ GW := gw_t (List.mem_of_getElem? (i := 727) (by decide +kernel)) (by decide +kernel)
theorem dc_X6_row : yX6_row.cls = RX6 ∧ yX6_row.cls ≠ "java/lang/invoke/MethodHandle" ∧ yX6_row.cls ≠ "java/lang/invoke/VarHandle" ∧ (parseMethodDescriptor yX6_row.desc).map (fun d => d.parameters.length) = some 1 := by decide +kernel
abbrev WX6_lowestTerms : List Cond := Cond.code yX6_lowestTerms cX6_lowestTerms 5 (some .int) :: GW
theorem mC_X6_lowestTerms : Cond.code yX6_lowestTerms cX6_lowestTerms 5 (some .int) ∈ GW := gw_code (List.mem_of_getElem? (i := 783) (by decide +kernel))
theorem mS_X6_lowestTerms : Cond.static yX6_lowestTerms ∈ GW := gw_t (List.mem_of_getElem? (i := 782) (by decide +kernel)) (by decide +kernel)
theorem dc_X6_lowestTerms : yX6_lowestTerms.cls ≠ "java/lang/invoke/MethodHandle" ∧ yX6_lowestTerms.cls ≠ "java/lang/invoke/VarHandle" ∧ (parseMethodDescriptor yX6_lowestTerms.desc).map (fun d => d.parameters.length) = some 3 := by decide +kernel
abbrev WX6_bears : List Cond := Cond.code yX6_bears cX6_bears 2 (some .int) :: GW
theorem mC_X6_bears : Cond.code yX6_bears cX6_bears 2 (some .int) ∈ GW := gw_code (List.mem_of_getElem? (i := 768) (by decide +kernel))
theorem mI_X6_bears : Cond.instanceMethod yX6_bears ∈ GW := gw_t (List.mem_of_getElem? (i := 766) (by decide +kernel)) (by decide +kernel)
theorem mSel_X6_bears : Cond.selects RX6 yX6_bears yX6_bears ∈ GW := gw_t (List.mem_of_getElem? (i := 767) (by decide +kernel)) (by decide +kernel)
theorem dc_X6_bears : yX6_bears.cls = RX6 ∧ yX6_bears.cls ≠ "java/lang/invoke/MethodHandle" ∧ yX6_bears.cls ≠ "java/lang/invoke/VarHandle" ∧ (parseMethodDescriptor yX6_bears.desc).map (fun d => d.parameters.length) = some 1 := by decide +kernel
abbrev WX6_isPlace : List Cond := Cond.code yX6_isPlace cX6_isPlace 2 (some .boolean) :: GW
theorem mC_X6_isPlace : Cond.code yX6_isPlace cX6_isPlace 2 (some .boolean) ∈ GW := gw_code (List.mem_of_getElem? (i := 790) (by decide +kernel))
theorem mS_X6_isPlace : Cond.static yX6_isPlace ∈ GW := gw_t (List.mem_of_getElem? (i := 789) (by decide +kernel)) (by decide +kernel)
theorem dc_X6_isPlace : yX6_isPlace.cls ≠ "java/lang/invoke/MethodHandle" ∧ yX6_isPlace.cls ≠ "java/lang/invoke/VarHandle" ∧ (parseMethodDescriptor yX6_isPlace.desc).map (fun d => d.parameters.length) = some 2 := by decide +kernel
abbrev WX6_best : List Cond := Cond.code yX6_best cX6_best 4 (some .int) :: GW
theorem mC_X6_best : Cond.code yX6_best cX6_best 4 (some .int) ∈ GW := gw_code (List.mem_of_getElem? (i := 787) (by decide +kernel))
theorem mI_X6_best : Cond.instanceMethod yX6_best ∈ GW := gw_t (List.mem_of_getElem? (i := 785) (by decide +kernel)) (by decide +kernel)
theorem mSel_X6_best : Cond.selects RX6 yX6_best yX6_best ∈ GW := gw_t (List.mem_of_getElem? (i := 786) (by decide +kernel)) (by decide +kernel)
theorem dc_X6_best : yX6_best.cls = RX6 ∧ yX6_best.cls ≠ "java/lang/invoke/MethodHandle" ∧ yX6_best.cls ≠ "java/lang/invoke/VarHandle" ∧ (parseMethodDescriptor yX6_best.desc).map (fun d => d.parameters.length) = some 2 := by decide +kernel
abbrev WX6_fairest : List Cond := Cond.code yX6_fairest cX6_fairest 3 (some .int) :: GW
theorem mC_X6_fairest : Cond.code yX6_fairest cX6_fairest 3 (some .int) ∈ GW := gw_code (List.mem_of_getElem? (i := 847) (by decide +kernel))
theorem mI_X6_fairest : Cond.instanceMethod yX6_fairest ∈ GW := gw_t (List.mem_of_getElem? (i := 845) (by decide +kernel)) (by decide +kernel)
theorem mSel_X6_fairest : Cond.selects RX6 yX6_fairest yX6_fairest ∈ GW := gw_t (List.mem_of_getElem? (i := 846) (by decide +kernel)) (by decide +kernel)
theorem dc_X6_fairest : yX6_fairest.cls = RX6 ∧ yX6_fairest.cls ≠ "java/lang/invoke/MethodHandle" ∧ yX6_fairest.cls ≠ "java/lang/invoke/VarHandle" ∧ (parseMethodDescriptor yX6_fairest.desc).map (fun d => d.parameters.length) = some 2 := by decide +kernel
abbrev WX6_surest : List Cond := Cond.code yX6_surest cX6_surest 3 (some .int) :: GW
theorem mC_X6_surest : Cond.code yX6_surest cX6_surest 3 (some .int) ∈ GW := gw_code (List.mem_of_getElem? (i := 851) (by decide +kernel))
theorem mI_X6_surest : Cond.instanceMethod yX6_surest ∈ GW := gw_t (List.mem_of_getElem? (i := 849) (by decide +kernel)) (by decide +kernel)
theorem mSel_X6_surest : Cond.selects RX6 yX6_surest yX6_surest ∈ GW := gw_t (List.mem_of_getElem? (i := 850) (by decide +kernel)) (by decide +kernel)
theorem dc_X6_surest : yX6_surest.cls = RX6 ∧ yX6_surest.cls ≠ "java/lang/invoke/MethodHandle" ∧ yX6_surest.cls ≠ "java/lang/invoke/VarHandle" ∧ (parseMethodDescriptor yX6_surest.desc).map (fun d => d.parameters.length) = some 2 := by decide +kernel
abbrev WX6_closes : List Cond := Cond.code yX6_closes cX6_closes 4 (some .int) :: GW
theorem mC_X6_closes : Cond.code yX6_closes cX6_closes 4 (some .int) ∈ GW := gw_code (List.mem_of_getElem? (i := 855) (by decide +kernel))
theorem mI_X6_closes : Cond.instanceMethod yX6_closes ∈ GW := gw_t (List.mem_of_getElem? (i := 853) (by decide +kernel)) (by decide +kernel)
theorem mSel_X6_closes : Cond.selects RX6 yX6_closes yX6_closes ∈ GW := gw_t (List.mem_of_getElem? (i := 854) (by decide +kernel)) (by decide +kernel)
theorem dc_X6_closes : yX6_closes.cls = RX6 ∧ yX6_closes.cls ≠ "java/lang/invoke/MethodHandle" ∧ yX6_closes.cls ≠ "java/lang/invoke/VarHandle" ∧ (parseMethodDescriptor yX6_closes.desc).map (fun d => d.parameters.length) = some 2 := by decide +kernel
abbrev WX6_shortest : List Cond := Cond.code yX6_shortest cX6_shortest 2 (some .int) :: GW
theorem mC_X6_shortest : Cond.code yX6_shortest cX6_shortest 2 (some .int) ∈ GW := gw_code (List.mem_of_getElem? (i := 859) (by decide +kernel))
theorem mI_X6_shortest : Cond.instanceMethod yX6_shortest ∈ GW := gw_t (List.mem_of_getElem? (i := 857) (by decide +kernel)) (by decide +kernel)
theorem mSel_X6_shortest : Cond.selects RX6 yX6_shortest yX6_shortest ∈ GW := gw_t (List.mem_of_getElem? (i := 858) (by decide +kernel)) (by decide +kernel)
theorem dc_X6_shortest : yX6_shortest.cls = RX6 ∧ yX6_shortest.cls ≠ "java/lang/invoke/MethodHandle" ∧ yX6_shortest.cls ≠ "java/lang/invoke/VarHandle" ∧ (parseMethodDescriptor yX6_shortest.desc).map (fun d => d.parameters.length) = some 0 := by decide +kernel
abbrev WX6_small : List Cond := Cond.code yX6_small cX6_small 3 (some .int) :: GW
theorem mC_X6_small : Cond.code yX6_small cX6_small 3 (some .int) ∈ GW := gw_code (List.mem_of_getElem? (i := 863) (by decide +kernel))
theorem mI_X6_small : Cond.instanceMethod yX6_small ∈ GW := gw_t (List.mem_of_getElem? (i := 861) (by decide +kernel)) (by decide +kernel)
theorem mSel_X6_small : Cond.selects RX6 yX6_small yX6_small ∈ GW := gw_t (List.mem_of_getElem? (i := 862) (by decide +kernel)) (by decide +kernel)
theorem dc_X6_small : yX6_small.cls = RX6 ∧ yX6_small.cls ≠ "java/lang/invoke/MethodHandle" ∧ yX6_small.cls ≠ "java/lang/invoke/VarHandle" ∧ (parseMethodDescriptor yX6_small.desc).map (fun d => d.parameters.length) = some 2 := by decide +kernel
abbrev WX6_dish : List Cond := Cond.code yX6_dish cX6_dish 5 (some .int) :: GW
theorem mC_X6_dish : Cond.code yX6_dish cX6_dish 5 (some .int) ∈ GW := gw_code (List.mem_of_getElem? (i := 872) (by decide +kernel))
theorem mI_X6_dish : Cond.instanceMethod yX6_dish ∈ GW := gw_t (List.mem_of_getElem? (i := 870) (by decide +kernel)) (by decide +kernel)
theorem mSel_X6_dish : Cond.selects RX6 yX6_dish yX6_dish ∈ GW := gw_t (List.mem_of_getElem? (i := 871) (by decide +kernel)) (by decide +kernel)
theorem dc_X6_dish : yX6_dish.cls = RX6 ∧ yX6_dish.cls ≠ "java/lang/invoke/MethodHandle" ∧ yX6_dish.cls ≠ "java/lang/invoke/VarHandle" ∧ (parseMethodDescriptor yX6_dish.desc).map (fun d => d.parameters.length) = some 1 := by decide +kernel
abbrev WX6_cheap : List Cond := Cond.code yX6_cheap cX6_cheap 4 (some .int) :: GW
theorem mC_X6_cheap : Cond.code yX6_cheap cX6_cheap 4 (some .int) ∈ GW := gw_code (List.mem_of_getElem? (i := 876) (by decide +kernel))
theorem mI_X6_cheap : Cond.instanceMethod yX6_cheap ∈ GW := gw_t (List.mem_of_getElem? (i := 874) (by decide +kernel)) (by decide +kernel)
theorem mSel_X6_cheap : Cond.selects RX6 yX6_cheap yX6_cheap ∈ GW := gw_t (List.mem_of_getElem? (i := 875) (by decide +kernel)) (by decide +kernel)
theorem dc_X6_cheap : yX6_cheap.cls = RX6 ∧ yX6_cheap.cls ≠ "java/lang/invoke/MethodHandle" ∧ yX6_cheap.cls ≠ "java/lang/invoke/VarHandle" ∧ (parseMethodDescriptor yX6_cheap.desc).map (fun d => d.parameters.length) = some 3 := by decide +kernel
abbrev WX6_cold : List Cond := Cond.code yX6_cold cX6_cold 3 (some .int) :: GW
theorem mC_X6_cold : Cond.code yX6_cold cX6_cold 3 (some .int) ∈ GW := gw_code (List.mem_of_getElem? (i := 880) (by decide +kernel))
theorem mI_X6_cold : Cond.instanceMethod yX6_cold ∈ GW := gw_t (List.mem_of_getElem? (i := 878) (by decide +kernel)) (by decide +kernel)
theorem mSel_X6_cold : Cond.selects RX6 yX6_cold yX6_cold ∈ GW := gw_t (List.mem_of_getElem? (i := 879) (by decide +kernel)) (by decide +kernel)
theorem dc_X6_cold : yX6_cold.cls = RX6 ∧ yX6_cold.cls ≠ "java/lang/invoke/MethodHandle" ∧ yX6_cold.cls ≠ "java/lang/invoke/VarHandle" ∧ (parseMethodDescriptor yX6_cold.desc).map (fun d => d.parameters.length) = some 2 := by decide +kernel
abbrev WX6_sheet : List Cond := Cond.code yX6_sheet cX6_sheet 4 (some .int) :: GW
theorem mC_X6_sheet : Cond.code yX6_sheet cX6_sheet 4 (some .int) ∈ GW := gw_code (List.mem_of_getElem? (i := 885) (by decide +kernel))
theorem mI_X6_sheet : Cond.instanceMethod yX6_sheet ∈ GW := gw_t (List.mem_of_getElem? (i := 883) (by decide +kernel)) (by decide +kernel)
theorem mSel_X6_sheet : Cond.selects RX6 yX6_sheet yX6_sheet ∈ GW := gw_t (List.mem_of_getElem? (i := 884) (by decide +kernel)) (by decide +kernel)
theorem dc_X6_sheet : yX6_sheet.cls = RX6 ∧ yX6_sheet.cls ≠ "java/lang/invoke/MethodHandle" ∧ yX6_sheet.cls ≠ "java/lang/invoke/VarHandle" ∧ (parseMethodDescriptor yX6_sheet.desc).map (fun d => d.parameters.length) = some 3 := by decide +kernel
abbrev WX6_lay : List Cond := Cond.code yX6_lay cX6_lay 4 (some .int) :: GW
theorem mC_X6_lay : Cond.code yX6_lay cX6_lay 4 (some .int) ∈ GW := gw_code (List.mem_of_getElem? (i := 893) (by decide +kernel))
theorem mI_X6_lay : Cond.instanceMethod yX6_lay ∈ GW := gw_t (List.mem_of_getElem? (i := 891) (by decide +kernel)) (by decide +kernel)
theorem mSel_X6_lay : Cond.selects RX6 yX6_lay yX6_lay ∈ GW := gw_t (List.mem_of_getElem? (i := 892) (by decide +kernel)) (by decide +kernel)
theorem dc_X6_lay : yX6_lay.cls = RX6 ∧ yX6_lay.cls ≠ "java/lang/invoke/MethodHandle" ∧ yX6_lay.cls ≠ "java/lang/invoke/VarHandle" ∧ (parseMethodDescriptor yX6_lay.desc).map (fun d => d.parameters.length) = some 3 := by decide +kernel
abbrev WX6_canPutLot : List Cond := Cond.code yX6_canPutLot cX6_canPutLot 3 (some .boolean) :: GW
theorem mC_X6_canPutLot : Cond.code yX6_canPutLot cX6_canPutLot 3 (some .boolean) ∈ GW := gw_code (List.mem_of_getElem? (i := 920) (by decide +kernel))
theorem mI_X6_canPutLot : Cond.instanceMethod yX6_canPutLot ∈ GW := gw_t (List.mem_of_getElem? (i := 919) (by decide +kernel)) (by decide +kernel)
theorem mSel_X6_canPutLot : Cond.selects RX6 yX6_canPutLot yX6_canPutLot ∈ GW := gw_s (List.mem_of_getElem? (i := 39) (by decide +kernel)) (by decide +kernel)
theorem dc_X6_canPutLot : yX6_canPutLot.cls = RX6 ∧ yX6_canPutLot.cls ≠ "java/lang/invoke/MethodHandle" ∧ yX6_canPutLot.cls ≠ "java/lang/invoke/VarHandle" ∧ (parseMethodDescriptor yX6_canPutLot.desc).map (fun d => d.parameters.length) = some 2 := by decide +kernel
abbrev WX6_putLot : List Cond := Cond.code yX6_putLot cX6_putLot 3 none :: GW
theorem mC_X6_putLot : Cond.code yX6_putLot cX6_putLot 3 none ∈ GW := gw_code (List.mem_of_getElem? (i := 928) (by decide +kernel))
theorem mI_X6_putLot : Cond.instanceMethod yX6_putLot ∈ GW := gw_t (List.mem_of_getElem? (i := 927) (by decide +kernel)) (by decide +kernel)
theorem mSel_X6_putLot : Cond.selects RX6 yX6_putLot yX6_putLot ∈ GW := gw_s (List.mem_of_getElem? (i := 40) (by decide +kernel)) (by decide +kernel)
theorem dc_X6_putLot : yX6_putLot.cls = RX6 ∧ yX6_putLot.cls ≠ "java/lang/invoke/MethodHandle" ∧ yX6_putLot.cls ≠ "java/lang/invoke/VarHandle" ∧ (parseMethodDescriptor yX6_putLot.desc).map (fun d => d.parameters.length) = some 2 := by decide +kernel
abbrev WX6_read : List Cond := Cond.code yX6_read cX6_read 8 (some .int) :: GW
theorem mC_X6_read : Cond.code yX6_read cX6_read 8 (some .int) ∈ GW := gw_code (List.mem_of_getElem? (i := 905) (by decide +kernel))
theorem mI_X6_read : Cond.instanceMethod yX6_read ∈ GW := gw_t (List.mem_of_getElem? (i := 903) (by decide +kernel)) (by decide +kernel)
theorem mSel_X6_read : Cond.selects RX6 yX6_read yX6_read ∈ GW := gw_t (List.mem_of_getElem? (i := 904) (by decide +kernel)) (by decide +kernel)
theorem dc_X6_read : yX6_read.cls = RX6 ∧ yX6_read.cls ≠ "java/lang/invoke/MethodHandle" ∧ yX6_read.cls ≠ "java/lang/invoke/VarHandle" ∧ (parseMethodDescriptor yX6_read.desc).map (fun d => d.parameters.length) = some 4 := by decide +kernel
abbrev WX6_torn : List Cond := Cond.code yX6_torn cX6_torn 1 (some .int) :: GW
theorem mC_X6_torn : Cond.code yX6_torn cX6_torn 1 (some .int) ∈ GW := gw_code (List.mem_of_getElem? (i := 932) (by decide +kernel))
theorem mI_X6_torn : Cond.instanceMethod yX6_torn ∈ GW := gw_t (List.mem_of_getElem? (i := 930) (by decide +kernel)) (by decide +kernel)
theorem mSel_X6_torn : Cond.selects RX6 yX6_torn yX6_torn ∈ GW := gw_t (List.mem_of_getElem? (i := 931) (by decide +kernel)) (by decide +kernel)
theorem dc_X6_torn : yX6_torn.cls = RX6 ∧ yX6_torn.cls ≠ "java/lang/invoke/MethodHandle" ∧ yX6_torn.cls ≠ "java/lang/invoke/VarHandle" ∧ (parseMethodDescriptor yX6_torn.desc).map (fun d => d.parameters.length) = some 0 := by decide +kernel
abbrev WX6_count : List Cond := Cond.code yX6_count cX6_count 2 (some .int) :: GW
theorem mC_X6_count : Cond.code yX6_count cX6_count 2 (some .int) ∈ GW := gw_code (List.mem_of_getElem? (i := 936) (by decide +kernel))
theorem mI_X6_count : Cond.instanceMethod yX6_count ∈ GW := gw_t (List.mem_of_getElem? (i := 934) (by decide +kernel)) (by decide +kernel)
theorem mSel_X6_count : Cond.selects RX6 yX6_count yX6_count ∈ GW := gw_t (List.mem_of_getElem? (i := 935) (by decide +kernel)) (by decide +kernel)
theorem dc_X6_count : yX6_count.cls = RX6 ∧ yX6_count.cls ≠ "java/lang/invoke/MethodHandle" ∧ yX6_count.cls ≠ "java/lang/invoke/VarHandle" ∧ (parseMethodDescriptor yX6_count.desc).map (fun d => d.parameters.length) = some 1 := by decide +kernel
abbrev WX7_in : List Cond := Cond.code yX7_in cX7_in 6 (some .boolean) :: GW
theorem mC_X7_in : Cond.code yX7_in cX7_in 6 (some .boolean) ∈ GW := gw_code (List.mem_of_getElem? (i := 955) (by decide +kernel))
theorem mS_X7_in : Cond.static yX7_in ∈ GW := gw_t (List.mem_of_getElem? (i := 954) (by decide +kernel)) (by decide +kernel)
theorem dc_X7_in : yX7_in.cls ≠ "java/lang/invoke/MethodHandle" ∧ yX7_in.cls ≠ "java/lang/invoke/VarHandle" ∧ (parseMethodDescriptor yX7_in.desc).map (fun d => d.parameters.length) = some 3 := by decide +kernel
abbrev WX7_flag : List Cond := Cond.code yX7_flag cX7_flag 1 (some .int) :: GW
theorem mC_X7_flag : Cond.code yX7_flag cX7_flag 1 (some .int) ∈ GW := gw_code (List.mem_of_getElem? (i := 1300) (by decide +kernel))
theorem mS_X7_flag : Cond.static yX7_flag ∈ GW := gw_t (List.mem_of_getElem? (i := 1299) (by decide +kernel)) (by decide +kernel)
theorem dc_X7_flag : yX7_flag.cls ≠ "java/lang/invoke/MethodHandle" ∧ yX7_flag.cls ≠ "java/lang/invoke/VarHandle" ∧ (parseMethodDescriptor yX7_flag.desc).map (fun d => d.parameters.length) = some 1 := by decide +kernel
abbrev WX7_firstDraft : List Cond := Cond.code yX7_firstDraft cX7_firstDraft 2 none :: GW
theorem mC_X7_firstDraft : Cond.code yX7_firstDraft cX7_firstDraft 2 none ∈ GW := gw_code (List.mem_of_getElem? (i := 946) (by decide +kernel))
theorem mI_X7_firstDraft : Cond.instanceMethod yX7_firstDraft ∈ GW := gw_t (List.mem_of_getElem? (i := 945) (by decide +kernel)) (by decide +kernel)
theorem mSel_X7_firstDraft : Cond.selects RX7 yX7_firstDraft yX7_firstDraft ∈ GW := gw_s (List.mem_of_getElem? (i := 41) (by decide +kernel)) (by decide +kernel)
theorem dc_X7_firstDraft : yX7_firstDraft.cls = RX7 ∧ yX7_firstDraft.cls ≠ "java/lang/invoke/MethodHandle" ∧ yX7_firstDraft.cls ≠ "java/lang/invoke/VarHandle" ∧ (parseMethodDescriptor yX7_firstDraft.desc).map (fun d => d.parameters.length) = some 0 := by decide +kernel
abbrev WX7_keepDraft : List Cond := Cond.code yX7_keepDraft cX7_keepDraft 2 none :: GW
theorem mC_X7_keepDraft : Cond.code yX7_keepDraft cX7_keepDraft 2 none ∈ GW := gw_code (List.mem_of_getElem? (i := 950) (by decide +kernel))
theorem mI_X7_keepDraft : Cond.instanceMethod yX7_keepDraft ∈ GW := gw_t (List.mem_of_getElem? (i := 949) (by decide +kernel)) (by decide +kernel)
theorem mSel_X7_keepDraft : Cond.selects RX7 yX7_keepDraft yX7_keepDraft ∈ GW := gw_s (List.mem_of_getElem? (i := 42) (by decide +kernel)) (by decide +kernel)
theorem dc_X7_keepDraft : yX7_keepDraft.cls = RX7 ∧ yX7_keepDraft.cls ≠ "java/lang/invoke/MethodHandle" ∧ yX7_keepDraft.cls ≠ "java/lang/invoke/VarHandle" ∧ (parseMethodDescriptor yX7_keepDraft.desc).map (fun d => d.parameters.length) = some 0 := by decide +kernel
abbrev WX7_feed : List Cond := Cond.code yX7_feed cX7_feed 4 (some .int) :: GW
theorem mC_X7_feed : Cond.code yX7_feed cX7_feed 4 (some .int) ∈ GW := gw_code (List.mem_of_getElem? (i := 1128) (by decide +kernel))
theorem mI_X7_feed : Cond.instanceMethod yX7_feed ∈ GW := gw_t (List.mem_of_getElem? (i := 1126) (by decide +kernel)) (by decide +kernel)
theorem mSel_X7_feed : Cond.selects RX7 yX7_feed yX7_feed ∈ GW := gw_t (List.mem_of_getElem? (i := 1127) (by decide +kernel)) (by decide +kernel)
theorem dc_X7_feed : yX7_feed.cls = RX7 ∧ yX7_feed.cls ≠ "java/lang/invoke/MethodHandle" ∧ yX7_feed.cls ≠ "java/lang/invoke/VarHandle" ∧ (parseMethodDescriptor yX7_feed.desc).map (fun d => d.parameters.length) = some 1 := by decide +kernel
abbrev WX7_end : List Cond := Cond.code yX7_end cX7_end 3 (some .int) :: GW
theorem mC_X7_end : Cond.code yX7_end cX7_end 3 (some .int) ∈ GW := gw_code (List.mem_of_getElem? (i := 1133) (by decide +kernel))
theorem mI_X7_end : Cond.instanceMethod yX7_end ∈ GW := gw_t (List.mem_of_getElem? (i := 1131) (by decide +kernel)) (by decide +kernel)
theorem mSel_X7_end : Cond.selects RX7 yX7_end yX7_end ∈ GW := gw_t (List.mem_of_getElem? (i := 1132) (by decide +kernel)) (by decide +kernel)
theorem dc_X7_end : yX7_end.cls = RX7 ∧ yX7_end.cls ≠ "java/lang/invoke/MethodHandle" ∧ yX7_end.cls ≠ "java/lang/invoke/VarHandle" ∧ (parseMethodDescriptor yX7_end.desc).map (fun d => d.parameters.length) = some 1 := by decide +kernel
abbrev WX7_needs : List Cond := Cond.code yX7_needs cX7_needs 3 none :: GW
theorem mC_X7_needs : Cond.code yX7_needs cX7_needs 3 none ∈ GW := gw_code (List.mem_of_getElem? (i := 1153) (by decide +kernel))
theorem mI_X7_needs : Cond.instanceMethod yX7_needs ∈ GW := gw_t (List.mem_of_getElem? (i := 1152) (by decide +kernel)) (by decide +kernel)
theorem mSel_X7_needs : Cond.selects RX7 yX7_needs yX7_needs ∈ GW := gw_s (List.mem_of_getElem? (i := 45) (by decide +kernel)) (by decide +kernel)
theorem dc_X7_needs : yX7_needs.cls = RX7 ∧ yX7_needs.cls ≠ "java/lang/invoke/MethodHandle" ∧ yX7_needs.cls ≠ "java/lang/invoke/VarHandle" ∧ (parseMethodDescriptor yX7_needs.desc).map (fun d => d.parameters.length) = some 2 := by decide +kernel
abbrev WX7_look : List Cond := Cond.code yX7_look cX7_look 2 (some .int) :: GW
theorem mC_X7_look : Cond.code yX7_look cX7_look 2 (some .int) ∈ GW := gw_code (List.mem_of_getElem? (i := 1145) (by decide +kernel))
theorem mI_X7_look : Cond.instanceMethod yX7_look ∈ GW := gw_t (List.mem_of_getElem? (i := 1144) (by decide +kernel)) (by decide +kernel)
theorem mSel_X7_look : Cond.selects RX7 yX7_look yX7_look ∈ GW := gw_s (List.mem_of_getElem? (i := 44) (by decide +kernel)) (by decide +kernel)
theorem dc_X7_look : yX7_look.cls = RX7 ∧ yX7_look.cls ≠ "java/lang/invoke/MethodHandle" ∧ yX7_look.cls ≠ "java/lang/invoke/VarHandle" ∧ (parseMethodDescriptor yX7_look.desc).map (fun d => d.parameters.length) = some 1 := by decide +kernel
abbrev WX7_is : List Cond := Cond.code yX7_is cX7_is 6 (some .boolean) :: GW
theorem mC_X7_is : Cond.code yX7_is cX7_is 6 (some .boolean) ∈ GW := gw_code (List.mem_of_getElem? (i := 1165) (by decide +kernel))
theorem mI_X7_is : Cond.instanceMethod yX7_is ∈ GW := gw_t (List.mem_of_getElem? (i := 1164) (by decide +kernel)) (by decide +kernel)
theorem mSel_X7_is : Cond.selects RX7 yX7_is yX7_is ∈ GW := gw_s (List.mem_of_getElem? (i := 48) (by decide +kernel)) (by decide +kernel)
theorem dc_X7_is : yX7_is.cls = RX7 ∧ yX7_is.cls ≠ "java/lang/invoke/MethodHandle" ∧ yX7_is.cls ≠ "java/lang/invoke/VarHandle" ∧ (parseMethodDescriptor yX7_is.desc).map (fun d => d.parameters.length) = some 5 := by decide +kernel
abbrev WX7_goesOn : List Cond := Cond.code yX7_goesOn cX7_goesOn 3 (some .boolean) :: GW
theorem mC_X7_goesOn : Cond.code yX7_goesOn cX7_goesOn 3 (some .boolean) ∈ GW := gw_code (List.mem_of_getElem? (i := 1169) (by decide +kernel))
theorem mI_X7_goesOn : Cond.instanceMethod yX7_goesOn ∈ GW := gw_t (List.mem_of_getElem? (i := 1168) (by decide +kernel)) (by decide +kernel)
theorem mSel_X7_goesOn : Cond.selects RX7 yX7_goesOn yX7_goesOn ∈ GW := gw_s (List.mem_of_getElem? (i := 49) (by decide +kernel)) (by decide +kernel)
theorem dc_X7_goesOn : yX7_goesOn.cls = RX7 ∧ yX7_goesOn.cls ≠ "java/lang/invoke/MethodHandle" ∧ yX7_goesOn.cls ≠ "java/lang/invoke/VarHandle" ∧ (parseMethodDescriptor yX7_goesOn.desc).map (fun d => d.parameters.length) = some 2 := by decide +kernel
abbrev WX7_nameNow : List Cond := Cond.code yX7_nameNow cX7_nameNow 1 (some .int) :: GW
theorem mC_X7_nameNow : Cond.code yX7_nameNow cX7_nameNow 1 (some .int) ∈ GW := gw_code (List.mem_of_getElem? (i := 1161) (by decide +kernel))
theorem mI_X7_nameNow : Cond.instanceMethod yX7_nameNow ∈ GW := gw_t (List.mem_of_getElem? (i := 1160) (by decide +kernel)) (by decide +kernel)
theorem mSel_X7_nameNow : Cond.selects RX7 yX7_nameNow yX7_nameNow ∈ GW := gw_s (List.mem_of_getElem? (i := 47) (by decide +kernel)) (by decide +kernel)
theorem dc_X7_nameNow : yX7_nameNow.cls = RX7 ∧ yX7_nameNow.cls ≠ "java/lang/invoke/MethodHandle" ∧ yX7_nameNow.cls ≠ "java/lang/invoke/VarHandle" ∧ (parseMethodDescriptor yX7_nameNow.desc).map (fun d => d.parameters.length) = some 0 := by decide +kernel
abbrev WX7_next : List Cond := Cond.code yX7_next cX7_next 2 none :: GW
theorem mC_X7_next : Cond.code yX7_next cX7_next 2 none ∈ GW := gw_code (List.mem_of_getElem? (i := 1141) (by decide +kernel))
theorem mI_X7_next : Cond.instanceMethod yX7_next ∈ GW := gw_t (List.mem_of_getElem? (i := 1140) (by decide +kernel)) (by decide +kernel)
theorem mSel_X7_next : Cond.selects RX7 yX7_next yX7_next ∈ GW := gw_s (List.mem_of_getElem? (i := 43) (by decide +kernel)) (by decide +kernel)
theorem dc_X7_next : yX7_next.cls = RX7 ∧ yX7_next.cls ≠ "java/lang/invoke/MethodHandle" ∧ yX7_next.cls ≠ "java/lang/invoke/VarHandle" ∧ (parseMethodDescriptor yX7_next.desc).map (fun d => d.parameters.length) = some 0 := by decide +kernel
abbrev WX7_isNumber : List Cond := Cond.code yX7_isNumber cX7_isNumber 3 none :: GW
theorem mC_X7_isNumber : Cond.code yX7_isNumber cX7_isNumber 3 none ∈ GW := gw_code (List.mem_of_getElem? (i := 1184) (by decide +kernel))
theorem mI_X7_isNumber : Cond.instanceMethod yX7_isNumber ∈ GW := gw_t (List.mem_of_getElem? (i := 1183) (by decide +kernel)) (by decide +kernel)
theorem mSel_X7_isNumber : Cond.selects RX7 yX7_isNumber yX7_isNumber ∈ GW := gw_s (List.mem_of_getElem? (i := 52) (by decide +kernel)) (by decide +kernel)
theorem dc_X7_isNumber : yX7_isNumber.cls = RX7 ∧ yX7_isNumber.cls ≠ "java/lang/invoke/MethodHandle" ∧ yX7_isNumber.cls ≠ "java/lang/invoke/VarHandle" ∧ (parseMethodDescriptor yX7_isNumber.desc).map (fun d => d.parameters.length) = some 2 := by decide +kernel
abbrev WX7_readNumber : List Cond := Cond.code yX7_readNumber cX7_readNumber 4 (some .int) :: GW
theorem mC_X7_readNumber : Cond.code yX7_readNumber cX7_readNumber 4 (some .int) ∈ GW := gw_code (List.mem_of_getElem? (i := 1180) (by decide +kernel))
theorem mI_X7_readNumber : Cond.instanceMethod yX7_readNumber ∈ GW := gw_t (List.mem_of_getElem? (i := 1179) (by decide +kernel)) (by decide +kernel)
theorem mSel_X7_readNumber : Cond.selects RX7 yX7_readNumber yX7_readNumber ∈ GW := gw_s (List.mem_of_getElem? (i := 51) (by decide +kernel)) (by decide +kernel)
theorem dc_X7_readNumber : yX7_readNumber.cls = RX7 ∧ yX7_readNumber.cls ≠ "java/lang/invoke/MethodHandle" ∧ yX7_readNumber.cls ≠ "java/lang/invoke/VarHandle" ∧ (parseMethodDescriptor yX7_readNumber.desc).map (fun d => d.parameters.length) = some 2 := by decide +kernel
abbrev WX7_letters : List Cond := Cond.code yX7_letters cX7_letters 6 (some .int) :: GW
theorem mC_X7_letters : Cond.code yX7_letters cX7_letters 6 (some .int) ∈ GW := gw_code (List.mem_of_getElem? (i := 1212) (by decide +kernel))
theorem mI_X7_letters : Cond.instanceMethod yX7_letters ∈ GW := gw_t (List.mem_of_getElem? (i := 1211) (by decide +kernel)) (by decide +kernel)
theorem mSel_X7_letters : Cond.selects RX7 yX7_letters yX7_letters ∈ GW := gw_s (List.mem_of_getElem? (i := 59) (by decide +kernel)) (by decide +kernel)
theorem dc_X7_letters : yX7_letters.cls = RX7 ∧ yX7_letters.cls ≠ "java/lang/invoke/MethodHandle" ∧ yX7_letters.cls ≠ "java/lang/invoke/VarHandle" ∧ (parseMethodDescriptor yX7_letters.desc).map (fun d => d.parameters.length) = some 2 := by decide +kernel
abbrev WX7_uses : List Cond := Cond.code yX7_uses cX7_uses 3 none :: GW
theorem mC_X7_uses : Cond.code yX7_uses cX7_uses 3 none ∈ GW := gw_code (List.mem_of_getElem? (i := 1216) (by decide +kernel))
theorem mI_X7_uses : Cond.instanceMethod yX7_uses ∈ GW := gw_t (List.mem_of_getElem? (i := 1215) (by decide +kernel)) (by decide +kernel)
theorem mSel_X7_uses : Cond.selects RX7 yX7_uses yX7_uses ∈ GW := gw_s (List.mem_of_getElem? (i := 60) (by decide +kernel)) (by decide +kernel)
theorem dc_X7_uses : yX7_uses.cls = RX7 ∧ yX7_uses.cls ≠ "java/lang/invoke/MethodHandle" ∧ yX7_uses.cls ≠ "java/lang/invoke/VarHandle" ∧ (parseMethodDescriptor yX7_uses.desc).map (fun d => d.parameters.length) = some 2 := by decide +kernel
abbrev WX7_readWants : List Cond := Cond.code yX7_readWants cX7_readWants 5 (some .int) :: GW
theorem mC_X7_readWants : Cond.code yX7_readWants cX7_readWants 5 (some .int) ∈ GW := gw_code (List.mem_of_getElem? (i := 1220) (by decide +kernel))
theorem mI_X7_readWants : Cond.instanceMethod yX7_readWants ∈ GW := gw_t (List.mem_of_getElem? (i := 1219) (by decide +kernel)) (by decide +kernel)
theorem mSel_X7_readWants : Cond.selects RX7 yX7_readWants yX7_readWants ∈ GW := gw_s (List.mem_of_getElem? (i := 61) (by decide +kernel)) (by decide +kernel)
theorem dc_X7_readWants : yX7_readWants.cls = RX7 ∧ yX7_readWants.cls ≠ "java/lang/invoke/MethodHandle" ∧ yX7_readWants.cls ≠ "java/lang/invoke/VarHandle" ∧ (parseMethodDescriptor yX7_readWants.desc).map (fun d => d.parameters.length) = some 1 := by decide +kernel
abbrev WX7_readLetters : List Cond := Cond.code yX7_readLetters cX7_readLetters 4 (some .int) :: GW
theorem mC_X7_readLetters : Cond.code yX7_readLetters cX7_readLetters 4 (some .int) ∈ GW := gw_code (List.mem_of_getElem? (i := 1208) (by decide +kernel))
theorem mI_X7_readLetters : Cond.instanceMethod yX7_readLetters ∈ GW := gw_t (List.mem_of_getElem? (i := 1207) (by decide +kernel)) (by decide +kernel)
theorem mSel_X7_readLetters : Cond.selects RX7 yX7_readLetters yX7_readLetters ∈ GW := gw_s (List.mem_of_getElem? (i := 58) (by decide +kernel)) (by decide +kernel)
theorem dc_X7_readLetters : yX7_readLetters.cls = RX7 ∧ yX7_readLetters.cls ≠ "java/lang/invoke/MethodHandle" ∧ yX7_readLetters.cls ≠ "java/lang/invoke/VarHandle" ∧ (parseMethodDescriptor yX7_readLetters.desc).map (fun d => d.parameters.length) = some 2 := by decide +kernel
abbrev WX7_readSupper : List Cond := Cond.code yX7_readSupper cX7_readSupper 7 none :: GW
theorem mC_X7_readSupper : Cond.code yX7_readSupper cX7_readSupper 7 none ∈ GW := gw_code (List.mem_of_getElem? (i := 1204) (by decide +kernel))
theorem mI_X7_readSupper : Cond.instanceMethod yX7_readSupper ∈ GW := gw_t (List.mem_of_getElem? (i := 1203) (by decide +kernel)) (by decide +kernel)
theorem mSel_X7_readSupper : Cond.selects RX7 yX7_readSupper yX7_readSupper ∈ GW := gw_s (List.mem_of_getElem? (i := 57) (by decide +kernel)) (by decide +kernel)
theorem dc_X7_readSupper : yX7_readSupper.cls = RX7 ∧ yX7_readSupper.cls ≠ "java/lang/invoke/MethodHandle" ∧ yX7_readSupper.cls ≠ "java/lang/invoke/VarHandle" ∧ (parseMethodDescriptor yX7_readSupper.desc).map (fun d => d.parameters.length) = some 1 := by decide +kernel
abbrev WX7_readThing : List Cond := Cond.code yX7_readThing cX7_readThing 5 none :: GW
theorem mC_X7_readThing : Cond.code yX7_readThing cX7_readThing 5 none ∈ GW := gw_code (List.mem_of_getElem? (i := 1176) (by decide +kernel))
theorem mI_X7_readThing : Cond.instanceMethod yX7_readThing ∈ GW := gw_t (List.mem_of_getElem? (i := 1175) (by decide +kernel)) (by decide +kernel)
theorem mSel_X7_readThing : Cond.selects RX7 yX7_readThing yX7_readThing ∈ GW := gw_s (List.mem_of_getElem? (i := 50) (by decide +kernel)) (by decide +kernel)
theorem dc_X7_readThing : yX7_readThing.cls = RX7 ∧ yX7_readThing.cls ≠ "java/lang/invoke/MethodHandle" ∧ yX7_readThing.cls ≠ "java/lang/invoke/VarHandle" ∧ (parseMethodDescriptor yX7_readThing.desc).map (fun d => d.parameters.length) = some 0 := by decide +kernel
abbrev WX7_readShops : List Cond := Cond.code yX7_readShops cX7_readShops 4 none :: GW
theorem mC_X7_readShops : Cond.code yX7_readShops cX7_readShops 4 none ∈ GW := gw_code (List.mem_of_getElem? (i := 1188) (by decide +kernel))
theorem mI_X7_readShops : Cond.instanceMethod yX7_readShops ∈ GW := gw_t (List.mem_of_getElem? (i := 1187) (by decide +kernel)) (by decide +kernel)
theorem mSel_X7_readShops : Cond.selects RX7 yX7_readShops yX7_readShops ∈ GW := gw_s (List.mem_of_getElem? (i := 53) (by decide +kernel)) (by decide +kernel)
theorem dc_X7_readShops : yX7_readShops.cls = RX7 ∧ yX7_readShops.cls ≠ "java/lang/invoke/MethodHandle" ∧ yX7_readShops.cls ≠ "java/lang/invoke/VarHandle" ∧ (parseMethodDescriptor yX7_readShops.desc).map (fun d => d.parameters.length) = some 0 := by decide +kernel
abbrev WX7_readWeekDay : List Cond := Cond.code yX7_readWeekDay cX7_readWeekDay 3 (some .int) :: GW
theorem mC_X7_readWeekDay : Cond.code yX7_readWeekDay cX7_readWeekDay 3 (some .int) ∈ GW := gw_code (List.mem_of_getElem? (i := 1196) (by decide +kernel))
theorem mI_X7_readWeekDay : Cond.instanceMethod yX7_readWeekDay ∈ GW := gw_t (List.mem_of_getElem? (i := 1195) (by decide +kernel)) (by decide +kernel)
theorem mSel_X7_readWeekDay : Cond.selects RX7 yX7_readWeekDay yX7_readWeekDay ∈ GW := gw_s (List.mem_of_getElem? (i := 55) (by decide +kernel)) (by decide +kernel)
theorem dc_X7_readWeekDay : yX7_readWeekDay.cls = RX7 ∧ yX7_readWeekDay.cls ≠ "java/lang/invoke/MethodHandle" ∧ yX7_readWeekDay.cls ≠ "java/lang/invoke/VarHandle" ∧ (parseMethodDescriptor yX7_readWeekDay.desc).map (fun d => d.parameters.length) = some 1 := by decide +kernel
abbrev WX7_readGuest : List Cond := Cond.code yX7_readGuest cX7_readGuest 4 none :: GW
theorem mC_X7_readGuest : Cond.code yX7_readGuest cX7_readGuest 4 none ∈ GW := gw_code (List.mem_of_getElem? (i := 1200) (by decide +kernel))
theorem mI_X7_readGuest : Cond.instanceMethod yX7_readGuest ∈ GW := gw_t (List.mem_of_getElem? (i := 1199) (by decide +kernel)) (by decide +kernel)
theorem mSel_X7_readGuest : Cond.selects RX7 yX7_readGuest yX7_readGuest ∈ GW := gw_s (List.mem_of_getElem? (i := 56) (by decide +kernel)) (by decide +kernel)
theorem dc_X7_readGuest : yX7_readGuest.cls = RX7 ∧ yX7_readGuest.cls ≠ "java/lang/invoke/MethodHandle" ∧ yX7_readGuest.cls ≠ "java/lang/invoke/VarHandle" ∧ (parseMethodDescriptor yX7_readGuest.desc).map (fun d => d.parameters.length) = some 0 := by decide +kernel
abbrev WX7_readOut : List Cond := Cond.code yX7_readOut cX7_readOut 2 none :: GW
theorem mC_X7_readOut : Cond.code yX7_readOut cX7_readOut 2 none ∈ GW := gw_code (List.mem_of_getElem? (i := 1192) (by decide +kernel))
theorem mI_X7_readOut : Cond.instanceMethod yX7_readOut ∈ GW := gw_t (List.mem_of_getElem? (i := 1191) (by decide +kernel)) (by decide +kernel)
theorem mSel_X7_readOut : Cond.selects RX7 yX7_readOut yX7_readOut ∈ GW := gw_s (List.mem_of_getElem? (i := 54) (by decide +kernel)) (by decide +kernel)
theorem dc_X7_readOut : yX7_readOut.cls = RX7 ∧ yX7_readOut.cls ≠ "java/lang/invoke/MethodHandle" ∧ yX7_readOut.cls ≠ "java/lang/invoke/VarHandle" ∧ (parseMethodDescriptor yX7_readOut.desc).map (fun d => d.parameters.length) = some 0 := by decide +kernel
abbrev WX7_readLine : List Cond := Cond.code yX7_readLine cX7_readLine 2 none :: GW
theorem mC_X7_readLine : Cond.code yX7_readLine cX7_readLine 2 none ∈ GW := gw_code (List.mem_of_getElem? (i := 1157) (by decide +kernel))
theorem mI_X7_readLine : Cond.instanceMethod yX7_readLine ∈ GW := gw_t (List.mem_of_getElem? (i := 1156) (by decide +kernel)) (by decide +kernel)
theorem mSel_X7_readLine : Cond.selects RX7 yX7_readLine yX7_readLine ∈ GW := gw_s (List.mem_of_getElem? (i := 46) (by decide +kernel)) (by decide +kernel)
theorem dc_X7_readLine : yX7_readLine.cls = RX7 ∧ yX7_readLine.cls ≠ "java/lang/invoke/MethodHandle" ∧ yX7_readLine.cls ≠ "java/lang/invoke/VarHandle" ∧ (parseMethodDescriptor yX7_readLine.desc).map (fun d => d.parameters.length) = some 0 := by decide +kernel
abbrev WX7_text : List Cond := Cond.code yX7_text cX7_text 3 (some .int) :: GW
theorem mC_X7_text : Cond.code yX7_text cX7_text 3 (some .int) ∈ GW := gw_code (List.mem_of_getElem? (i := 1137) (by decide +kernel))
theorem mI_X7_text : Cond.instanceMethod yX7_text ∈ GW := gw_t (List.mem_of_getElem? (i := 1135) (by decide +kernel)) (by decide +kernel)
theorem mSel_X7_text : Cond.selects RX7 yX7_text yX7_text ∈ GW := gw_t (List.mem_of_getElem? (i := 1136) (by decide +kernel)) (by decide +kernel)
theorem dc_X7_text : yX7_text.cls = RX7 ∧ yX7_text.cls ≠ "java/lang/invoke/MethodHandle" ∧ yX7_text.cls ≠ "java/lang/invoke/VarHandle" ∧ (parseMethodDescriptor yX7_text.desc).map (fun d => d.parameters.length) = some 0 := by decide +kernel
abbrev WX7_fault : List Cond := Cond.code yX7_fault cX7_fault 1 (some .int) :: GW
theorem mC_X7_fault : Cond.code yX7_fault cX7_fault 1 (some .int) ∈ GW := gw_code (List.mem_of_getElem? (i := 1227) (by decide +kernel))
theorem mI_X7_fault : Cond.instanceMethod yX7_fault ∈ GW := gw_t (List.mem_of_getElem? (i := 1225) (by decide +kernel)) (by decide +kernel)
theorem mSel_X7_fault : Cond.selects RX7 yX7_fault yX7_fault ∈ GW := gw_t (List.mem_of_getElem? (i := 1226) (by decide +kernel)) (by decide +kernel)
theorem dc_X7_fault : yX7_fault.cls = RX7 ∧ yX7_fault.cls ≠ "java/lang/invoke/MethodHandle" ∧ yX7_fault.cls ≠ "java/lang/invoke/VarHandle" ∧ (parseMethodDescriptor yX7_fault.desc).map (fun d => d.parameters.length) = some 0 := by decide +kernel
abbrev WX7_isThing : List Cond := Cond.code yX7_isThing cX7_isThing 2 (some .boolean) :: GW
theorem mC_X7_isThing : Cond.code yX7_isThing cX7_isThing 2 (some .boolean) ∈ GW := gw_code (List.mem_of_getElem? (i := 1235) (by decide +kernel))
theorem mI_X7_isThing : Cond.instanceMethod yX7_isThing ∈ GW := gw_t (List.mem_of_getElem? (i := 1234) (by decide +kernel)) (by decide +kernel)
theorem mSel_X7_isThing : Cond.selects RX7 yX7_isThing yX7_isThing ∈ GW := gw_s (List.mem_of_getElem? (i := 62) (by decide +kernel)) (by decide +kernel)
theorem dc_X7_isThing : yX7_isThing.cls = RX7 ∧ yX7_isThing.cls ≠ "java/lang/invoke/MethodHandle" ∧ yX7_isThing.cls ≠ "java/lang/invoke/VarHandle" ∧ (parseMethodDescriptor yX7_isThing.desc).map (fun d => d.parameters.length) = some 1 := by decide +kernel
abbrev WX7_isSupper : List Cond := Cond.code yX7_isSupper cX7_isSupper 2 (some .boolean) :: GW
theorem mC_X7_isSupper : Cond.code yX7_isSupper cX7_isSupper 2 (some .boolean) ∈ GW := gw_code (List.mem_of_getElem? (i := 1244) (by decide +kernel))
theorem mI_X7_isSupper : Cond.instanceMethod yX7_isSupper ∈ GW := gw_t (List.mem_of_getElem? (i := 1243) (by decide +kernel)) (by decide +kernel)
theorem mSel_X7_isSupper : Cond.selects RX7 yX7_isSupper yX7_isSupper ∈ GW := gw_s (List.mem_of_getElem? (i := 63) (by decide +kernel)) (by decide +kernel)
theorem dc_X7_isSupper : yX7_isSupper.cls = RX7 ∧ yX7_isSupper.cls ≠ "java/lang/invoke/MethodHandle" ∧ yX7_isSupper.cls ≠ "java/lang/invoke/VarHandle" ∧ (parseMethodDescriptor yX7_isSupper.desc).map (fun d => d.parameters.length) = some 1 := by decide +kernel
abbrev WX7_keeps : List Cond := Cond.code yX7_keeps cX7_keeps 2 (some .int) :: GW
theorem mC_X7_keeps : Cond.code yX7_keeps cX7_keeps 2 (some .int) ∈ GW := gw_code (List.mem_of_getElem? (i := 1264) (by decide +kernel))
theorem mI_X7_keeps : Cond.instanceMethod yX7_keeps ∈ GW := gw_t (List.mem_of_getElem? (i := 1263) (by decide +kernel)) (by decide +kernel)
theorem mSel_X7_keeps : Cond.selects RX7 yX7_keeps yX7_keeps ∈ GW := gw_s (List.mem_of_getElem? (i := 65) (by decide +kernel)) (by decide +kernel)
theorem dc_X7_keeps : yX7_keeps.cls = RX7 ∧ yX7_keeps.cls ≠ "java/lang/invoke/MethodHandle" ∧ yX7_keeps.cls ≠ "java/lang/invoke/VarHandle" ∧ (parseMethodDescriptor yX7_keeps.desc).map (fun d => d.parameters.length) = some 1 := by decide +kernel
abbrev WX7_kind : List Cond := Cond.code yX7_kind cX7_kind 2 (some .int) :: GW
theorem mC_X7_kind : Cond.code yX7_kind cX7_kind 2 (some .int) ∈ GW := gw_code (List.mem_of_getElem? (i := 1289) (by decide +kernel))
theorem mI_X7_kind : Cond.instanceMethod yX7_kind ∈ GW := gw_t (List.mem_of_getElem? (i := 1288) (by decide +kernel)) (by decide +kernel)
theorem mSel_X7_kind : Cond.selects RX7 yX7_kind yX7_kind ∈ GW := gw_s (List.mem_of_getElem? (i := 69) (by decide +kernel)) (by decide +kernel)
theorem dc_X7_kind : yX7_kind.cls = RX7 ∧ yX7_kind.cls ≠ "java/lang/invoke/MethodHandle" ∧ yX7_kind.cls ≠ "java/lang/invoke/VarHandle" ∧ (parseMethodDescriptor yX7_kind.desc).map (fun d => d.parameters.length) = some 1 := by decide +kernel
abbrev WX7_thing : List Cond := Cond.code yX7_thing cX7_thing 3 (some .int) :: GW
theorem mC_X7_thing : Cond.code yX7_thing cX7_thing 3 (some .int) ∈ GW := gw_code (List.mem_of_getElem? (i := 1231) (by decide +kernel))
theorem mI_X7_thing : Cond.instanceMethod yX7_thing ∈ GW := gw_t (List.mem_of_getElem? (i := 1229) (by decide +kernel)) (by decide +kernel)
theorem mSel_X7_thing : Cond.selects RX7 yX7_thing yX7_thing ∈ GW := gw_t (List.mem_of_getElem? (i := 1230) (by decide +kernel)) (by decide +kernel)
theorem dc_X7_thing : yX7_thing.cls = RX7 ∧ yX7_thing.cls ≠ "java/lang/invoke/MethodHandle" ∧ yX7_thing.cls ≠ "java/lang/invoke/VarHandle" ∧ (parseMethodDescriptor yX7_thing.desc).map (fun d => d.parameters.length) = some 2 := by decide +kernel
abbrev WX7_supper : List Cond := Cond.code yX7_supper cX7_supper 3 (some .int) :: GW
theorem mC_X7_supper : Cond.code yX7_supper cX7_supper 3 (some .int) ∈ GW := gw_code (List.mem_of_getElem? (i := 1240) (by decide +kernel))
theorem mI_X7_supper : Cond.instanceMethod yX7_supper ∈ GW := gw_t (List.mem_of_getElem? (i := 1238) (by decide +kernel)) (by decide +kernel)
theorem mSel_X7_supper : Cond.selects RX7 yX7_supper yX7_supper ∈ GW := gw_t (List.mem_of_getElem? (i := 1239) (by decide +kernel)) (by decide +kernel)
theorem dc_X7_supper : yX7_supper.cls = RX7 ∧ yX7_supper.cls ≠ "java/lang/invoke/MethodHandle" ∧ yX7_supper.cls ≠ "java/lang/invoke/VarHandle" ∧ (parseMethodDescriptor yX7_supper.desc).map (fun d => d.parameters.length) = some 2 := by decide +kernel
abbrev WX7_rule : List Cond := Cond.code yX7_rule cX7_rule 2 (some .int) :: GW
theorem mC_X7_rule : Cond.code yX7_rule cX7_rule 2 (some .int) ∈ GW := gw_code (List.mem_of_getElem? (i := 1251) (by decide +kernel))
theorem mI_X7_rule : Cond.instanceMethod yX7_rule ∈ GW := gw_t (List.mem_of_getElem? (i := 1249) (by decide +kernel)) (by decide +kernel)
theorem mSel_X7_rule : Cond.selects RX7 yX7_rule yX7_rule ∈ GW := gw_t (List.mem_of_getElem? (i := 1250) (by decide +kernel)) (by decide +kernel)
theorem dc_X7_rule : yX7_rule.cls = RX7 ∧ yX7_rule.cls ≠ "java/lang/invoke/MethodHandle" ∧ yX7_rule.cls ≠ "java/lang/invoke/VarHandle" ∧ (parseMethodDescriptor yX7_rule.desc).map (fun d => d.parameters.length) = some 1 := by decide +kernel
abbrev WX7_copies : List Cond := Cond.code yX7_copies cX7_copies 4 none :: GW
theorem mC_X7_copies : Cond.code yX7_copies cX7_copies 4 none ∈ GW := gw_code (List.mem_of_getElem? (i := 1360) (by decide +kernel))
theorem mI_X7_copies : Cond.instanceMethod yX7_copies ∈ GW := gw_t (List.mem_of_getElem? (i := 1359) (by decide +kernel)) (by decide +kernel)
theorem mSel_X7_copies : Cond.selects RX7 yX7_copies yX7_copies ∈ GW := gw_s (List.mem_of_getElem? (i := 80) (by decide +kernel)) (by decide +kernel)
theorem dc_X7_copies : yX7_copies.cls = RX7 ∧ yX7_copies.cls ≠ "java/lang/invoke/MethodHandle" ∧ yX7_copies.cls ≠ "java/lang/invoke/VarHandle" ∧ (parseMethodDescriptor yX7_copies.desc).map (fun d => d.parameters.length) = some 2 := by decide +kernel
abbrev WX7_have : List Cond := Cond.code yX7_have cX7_have 5 (some .int) :: GW
theorem mC_X7_have : Cond.code yX7_have cX7_have 5 (some .int) ∈ GW := gw_code (List.mem_of_getElem? (i := 1308) (by decide +kernel))
theorem mI_X7_have : Cond.instanceMethod yX7_have ∈ GW := gw_t (List.mem_of_getElem? (i := 1307) (by decide +kernel)) (by decide +kernel)
theorem mSel_X7_have : Cond.selects RX7 yX7_have yX7_have ∈ GW := gw_s (List.mem_of_getElem? (i := 73) (by decide +kernel)) (by decide +kernel)
theorem dc_X7_have : yX7_have.cls = RX7 ∧ yX7_have.cls ≠ "java/lang/invoke/MethodHandle" ∧ yX7_have.cls ≠ "java/lang/invoke/VarHandle" ∧ (parseMethodDescriptor yX7_have.desc).map (fun d => d.parameters.length) = some 2 := by decide +kernel
abbrev WX7_wantOf : List Cond := Cond.code yX7_wantOf cX7_wantOf 5 (some .int) :: GW
theorem mC_X7_wantOf : Cond.code yX7_wantOf cX7_wantOf 5 (some .int) ∈ GW := gw_code (List.mem_of_getElem? (i := 1312) (by decide +kernel))
theorem mI_X7_wantOf : Cond.instanceMethod yX7_wantOf ∈ GW := gw_t (List.mem_of_getElem? (i := 1311) (by decide +kernel)) (by decide +kernel)
theorem mSel_X7_wantOf : Cond.selects RX7 yX7_wantOf yX7_wantOf ∈ GW := gw_s (List.mem_of_getElem? (i := 74) (by decide +kernel)) (by decide +kernel)
theorem dc_X7_wantOf : yX7_wantOf.cls = RX7 ∧ yX7_wantOf.cls ≠ "java/lang/invoke/MethodHandle" ∧ yX7_wantOf.cls ≠ "java/lang/invoke/VarHandle" ∧ (parseMethodDescriptor yX7_wantOf.desc).map (fun d => d.parameters.length) = some 3 := by decide +kernel
abbrev WX7_anyOf : List Cond := Cond.code yX7_anyOf cX7_anyOf 3 (some .int) :: GW
theorem mC_X7_anyOf : Cond.code yX7_anyOf cX7_anyOf 3 (some .int) ∈ GW := gw_code (List.mem_of_getElem? (i := 1297) (by decide +kernel))
theorem mI_X7_anyOf : Cond.instanceMethod yX7_anyOf ∈ GW := gw_t (List.mem_of_getElem? (i := 1296) (by decide +kernel)) (by decide +kernel)
theorem mSel_X7_anyOf : Cond.selects RX7 yX7_anyOf yX7_anyOf ∈ GW := gw_s (List.mem_of_getElem? (i := 71) (by decide +kernel)) (by decide +kernel)
theorem dc_X7_anyOf : yX7_anyOf.cls = RX7 ∧ yX7_anyOf.cls ≠ "java/lang/invoke/MethodHandle" ∧ yX7_anyOf.cls ≠ "java/lang/invoke/VarHandle" ∧ (parseMethodDescriptor yX7_anyOf.desc).map (fun d => d.parameters.length) = some 2 := by decide +kernel
abbrev WX7_isAmong : List Cond := Cond.code yX7_isAmong cX7_isAmong 3 (some .boolean) :: GW
theorem mC_X7_isAmong : Cond.code yX7_isAmong cX7_isAmong 3 (some .boolean) ∈ GW := gw_code (List.mem_of_getElem? (i := 1293) (by decide +kernel))
theorem mI_X7_isAmong : Cond.instanceMethod yX7_isAmong ∈ GW := gw_t (List.mem_of_getElem? (i := 1292) (by decide +kernel)) (by decide +kernel)
theorem mSel_X7_isAmong : Cond.selects RX7 yX7_isAmong yX7_isAmong ∈ GW := gw_s (List.mem_of_getElem? (i := 70) (by decide +kernel)) (by decide +kernel)
theorem dc_X7_isAmong : yX7_isAmong.cls = RX7 ∧ yX7_isAmong.cls ≠ "java/lang/invoke/MethodHandle" ∧ yX7_isAmong.cls ≠ "java/lang/invoke/VarHandle" ∧ (parseMethodDescriptor yX7_isAmong.desc).map (fun d => d.parameters.length) = some 2 := by decide +kernel
abbrev WX7_haveAll : List Cond := Cond.code yX7_haveAll cX7_haveAll 5 (some .int) :: GW
theorem mC_X7_haveAll : Cond.code yX7_haveAll cX7_haveAll 5 (some .int) ∈ GW := gw_code (List.mem_of_getElem? (i := 1304) (by decide +kernel))
theorem mI_X7_haveAll : Cond.instanceMethod yX7_haveAll ∈ GW := gw_t (List.mem_of_getElem? (i := 1303) (by decide +kernel)) (by decide +kernel)
theorem mSel_X7_haveAll : Cond.selects RX7 yX7_haveAll yX7_haveAll ∈ GW := gw_s (List.mem_of_getElem? (i := 72) (by decide +kernel)) (by decide +kernel)
theorem dc_X7_haveAll : yX7_haveAll.cls = RX7 ∧ yX7_haveAll.cls ≠ "java/lang/invoke/MethodHandle" ∧ yX7_haveAll.cls ≠ "java/lang/invoke/VarHandle" ∧ (parseMethodDescriptor yX7_haveAll.desc).map (fun d => d.parameters.length) = some 2 := by decide +kernel
abbrev WX7_lackOf : List Cond := Cond.code yX7_lackOf cX7_lackOf 6 (some .int) :: GW
theorem mC_X7_lackOf : Cond.code yX7_lackOf cX7_lackOf 6 (some .int) ∈ GW := gw_code (List.mem_of_getElem? (i := 1285) (by decide +kernel))
theorem mI_X7_lackOf : Cond.instanceMethod yX7_lackOf ∈ GW := gw_t (List.mem_of_getElem? (i := 1284) (by decide +kernel)) (by decide +kernel)
theorem mSel_X7_lackOf : Cond.selects RX7 yX7_lackOf yX7_lackOf ∈ GW := gw_s (List.mem_of_getElem? (i := 68) (by decide +kernel)) (by decide +kernel)
theorem dc_X7_lackOf : yX7_lackOf.cls = RX7 ∧ yX7_lackOf.cls ≠ "java/lang/invoke/MethodHandle" ∧ yX7_lackOf.cls ≠ "java/lang/invoke/VarHandle" ∧ (parseMethodDescriptor yX7_lackOf.desc).map (fun d => d.parameters.length) = some 4 := by decide +kernel
abbrev WX7_weekDay : List Cond := Cond.code yX7_weekDay cX7_weekDay 2 (some .int) :: GW
theorem mC_X7_weekDay : Cond.code yX7_weekDay cX7_weekDay 2 (some .int) ∈ GW := gw_code (List.mem_of_getElem? (i := 1281) (by decide +kernel))
theorem mI_X7_weekDay : Cond.instanceMethod yX7_weekDay ∈ GW := gw_t (List.mem_of_getElem? (i := 1280) (by decide +kernel)) (by decide +kernel)
theorem mSel_X7_weekDay : Cond.selects RX7 yX7_weekDay yX7_weekDay ∈ GW := gw_s (List.mem_of_getElem? (i := 67) (by decide +kernel)) (by decide +kernel)
theorem dc_X7_weekDay : yX7_weekDay.cls = RX7 ∧ yX7_weekDay.cls ≠ "java/lang/invoke/MethodHandle" ∧ yX7_weekDay.cls ≠ "java/lang/invoke/VarHandle" ∧ (parseMethodDescriptor yX7_weekDay.desc).map (fun d => d.parameters.length) = some 1 := by decide +kernel
abbrev WX7_isBought : List Cond := Cond.code yX7_isBought cX7_isBought 4 (some .boolean) :: GW
theorem mC_X7_isBought : Cond.code yX7_isBought cX7_isBought 4 (some .boolean) ∈ GW := gw_code (List.mem_of_getElem? (i := 1316) (by decide +kernel))
theorem mI_X7_isBought : Cond.instanceMethod yX7_isBought ∈ GW := gw_t (List.mem_of_getElem? (i := 1315) (by decide +kernel)) (by decide +kernel)
theorem mSel_X7_isBought : Cond.selects RX7 yX7_isBought yX7_isBought ∈ GW := gw_s (List.mem_of_getElem? (i := 75) (by decide +kernel)) (by decide +kernel)
theorem dc_X7_isBought : yX7_isBought.cls = RX7 ∧ yX7_isBought.cls ≠ "java/lang/invoke/MethodHandle" ∧ yX7_isBought.cls ≠ "java/lang/invoke/VarHandle" ∧ (parseMethodDescriptor yX7_isBought.desc).map (fun d => d.parameters.length) = some 3 := by decide +kernel
abbrev WX7_packsOf : List Cond := Cond.code yX7_packsOf cX7_packsOf 6 (some .int) :: GW
theorem mC_X7_packsOf : Cond.code yX7_packsOf cX7_packsOf 6 (some .int) ∈ GW := gw_code (List.mem_of_getElem? (i := 1324) (by decide +kernel))
theorem mI_X7_packsOf : Cond.instanceMethod yX7_packsOf ∈ GW := gw_t (List.mem_of_getElem? (i := 1323) (by decide +kernel)) (by decide +kernel)
theorem mSel_X7_packsOf : Cond.selects RX7 yX7_packsOf yX7_packsOf ∈ GW := gw_s (List.mem_of_getElem? (i := 76) (by decide +kernel)) (by decide +kernel)
theorem dc_X7_packsOf : yX7_packsOf.cls = RX7 ∧ yX7_packsOf.cls ≠ "java/lang/invoke/MethodHandle" ∧ yX7_packsOf.cls ≠ "java/lang/invoke/VarHandle" ∧ (parseMethodDescriptor yX7_packsOf.desc).map (fun d => d.parameters.length) = some 4 := by decide +kernel
abbrev WX7_whyNot : List Cond := Cond.code yX7_whyNot cX7_whyNot 6 (some .int) :: GW
theorem mC_X7_whyNot : Cond.code yX7_whyNot cX7_whyNot 6 (some .int) ∈ GW := gw_code (List.mem_of_getElem? (i := 1277) (by decide +kernel))
theorem mI_X7_whyNot : Cond.instanceMethod yX7_whyNot ∈ GW := gw_t (List.mem_of_getElem? (i := 1276) (by decide +kernel)) (by decide +kernel)
theorem mSel_X7_whyNot : Cond.selects RX7 yX7_whyNot yX7_whyNot ∈ GW := gw_s (List.mem_of_getElem? (i := 66) (by decide +kernel)) (by decide +kernel)
theorem dc_X7_whyNot : yX7_whyNot.cls = RX7 ∧ yX7_whyNot.cls ≠ "java/lang/invoke/MethodHandle" ∧ yX7_whyNot.cls ≠ "java/lang/invoke/VarHandle" ∧ (parseMethodDescriptor yX7_whyNot.desc).map (fun d => d.parameters.length) = some 3 := by decide +kernel
abbrev WX7_findTaken : List Cond := Cond.code yX7_findTaken cX7_findTaken 9 none :: GW
theorem mC_X7_findTaken : Cond.code yX7_findTaken cX7_findTaken 9 none ∈ GW := gw_code (List.mem_of_getElem? (i := 1328) (by decide +kernel))
theorem mI_X7_findTaken : Cond.instanceMethod yX7_findTaken ∈ GW := gw_t (List.mem_of_getElem? (i := 1327) (by decide +kernel)) (by decide +kernel)
theorem mSel_X7_findTaken : Cond.selects RX7 yX7_findTaken yX7_findTaken ∈ GW := gw_s (List.mem_of_getElem? (i := 77) (by decide +kernel)) (by decide +kernel)
theorem dc_X7_findTaken : yX7_findTaken.cls = RX7 ∧ yX7_findTaken.cls ≠ "java/lang/invoke/MethodHandle" ∧ yX7_findTaken.cls ≠ "java/lang/invoke/VarHandle" ∧ (parseMethodDescriptor yX7_findTaken.desc).map (fun d => d.parameters.length) = some 3 := by decide +kernel
abbrev WX7_eats : List Cond := Cond.code yX7_eats cX7_eats 8 (some .int) :: GW
theorem mC_X7_eats : Cond.code yX7_eats cX7_eats 8 (some .int) ∈ GW := gw_code (List.mem_of_getElem? (i := 1336) (by decide +kernel))
theorem mI_X7_eats : Cond.instanceMethod yX7_eats ∈ GW := gw_t (List.mem_of_getElem? (i := 1335) (by decide +kernel)) (by decide +kernel)
theorem mSel_X7_eats : Cond.selects RX7 yX7_eats yX7_eats ∈ GW := gw_s (List.mem_of_getElem? (i := 78) (by decide +kernel)) (by decide +kernel)
theorem dc_X7_eats : yX7_eats.cls = RX7 ∧ yX7_eats.cls ≠ "java/lang/invoke/MethodHandle" ∧ yX7_eats.cls ≠ "java/lang/invoke/VarHandle" ∧ (parseMethodDescriptor yX7_eats.desc).map (fun d => d.parameters.length) = some 3 := by decide +kernel
abbrev WX7_nights : List Cond := Cond.code yX7_nights cX7_nights 6 (some .int) :: GW
theorem mC_X7_nights : Cond.code yX7_nights cX7_nights 6 (some .int) ∈ GW := gw_code (List.mem_of_getElem? (i := 1344) (by decide +kernel))
theorem mI_X7_nights : Cond.instanceMethod yX7_nights ∈ GW := gw_t (List.mem_of_getElem? (i := 1343) (by decide +kernel)) (by decide +kernel)
theorem mSel_X7_nights : Cond.selects RX7 yX7_nights yX7_nights ∈ GW := gw_s (List.mem_of_getElem? (i := 79) (by decide +kernel)) (by decide +kernel)
theorem dc_X7_nights : yX7_nights.cls = RX7 ∧ yX7_nights.cls ≠ "java/lang/invoke/MethodHandle" ∧ yX7_nights.cls ≠ "java/lang/invoke/VarHandle" ∧ (parseMethodDescriptor yX7_nights.desc).map (fun d => d.parameters.length) = some 1 := by decide +kernel
abbrev WX7_isLot : List Cond := Cond.code yX7_isLot cX7_isLot 4 (some .boolean) :: GW
theorem mC_X7_isLot : Cond.code yX7_isLot cX7_isLot 4 (some .boolean) ∈ GW := gw_code (List.mem_of_getElem? (i := 1260) (by decide +kernel))
theorem mI_X7_isLot : Cond.instanceMethod yX7_isLot ∈ GW := gw_t (List.mem_of_getElem? (i := 1259) (by decide +kernel)) (by decide +kernel)
theorem mSel_X7_isLot : Cond.selects RX7 yX7_isLot yX7_isLot ∈ GW := gw_s (List.mem_of_getElem? (i := 64) (by decide +kernel)) (by decide +kernel)
theorem dc_X7_isLot : yX7_isLot.cls = RX7 ∧ yX7_isLot.cls ≠ "java/lang/invoke/MethodHandle" ∧ yX7_isLot.cls ≠ "java/lang/invoke/VarHandle" ∧ (parseMethodDescriptor yX7_isLot.desc).map (fun d => d.parameters.length) = some 3 := by decide +kernel
abbrev WX7_put : List Cond := Cond.code yX7_put cX7_put 5 (some .int) :: GW
theorem mC_X7_put : Cond.code yX7_put cX7_put 5 (some .int) ∈ GW := gw_code (List.mem_of_getElem? (i := 1256) (by decide +kernel))
theorem mI_X7_put : Cond.instanceMethod yX7_put ∈ GW := gw_t (List.mem_of_getElem? (i := 1254) (by decide +kernel)) (by decide +kernel)
theorem mSel_X7_put : Cond.selects RX7 yX7_put yX7_put ∈ GW := gw_t (List.mem_of_getElem? (i := 1255) (by decide +kernel)) (by decide +kernel)
theorem dc_X7_put : yX7_put.cls = RX7 ∧ yX7_put.cls ≠ "java/lang/invoke/MethodHandle" ∧ yX7_put.cls ≠ "java/lang/invoke/VarHandle" ∧ (parseMethodDescriptor yX7_put.desc).map (fun d => d.parameters.length) = some 3 := by decide +kernel
abbrev WX7_has : List Cond := Cond.code yX7_has cX7_has 3 (some .int) :: GW
theorem mC_X7_has : Cond.code yX7_has cX7_has 3 (some .int) ∈ GW := gw_code (List.mem_of_getElem? (i := 1269) (by decide +kernel))
theorem mI_X7_has : Cond.instanceMethod yX7_has ∈ GW := gw_t (List.mem_of_getElem? (i := 1267) (by decide +kernel)) (by decide +kernel)
theorem mSel_X7_has : Cond.selects RX7 yX7_has yX7_has ∈ GW := gw_t (List.mem_of_getElem? (i := 1268) (by decide +kernel)) (by decide +kernel)
theorem dc_X7_has : yX7_has.cls = RX7 ∧ yX7_has.cls ≠ "java/lang/invoke/MethodHandle" ∧ yX7_has.cls ≠ "java/lang/invoke/VarHandle" ∧ (parseMethodDescriptor yX7_has.desc).map (fun d => d.parameters.length) = some 2 := by decide +kernel
abbrev WX7_may : List Cond := Cond.code yX7_may cX7_may 3 (some .int) :: GW
theorem mC_X7_may : Cond.code yX7_may cX7_may 3 (some .int) ∈ GW := gw_code (List.mem_of_getElem? (i := 1273) (by decide +kernel))
theorem mI_X7_may : Cond.instanceMethod yX7_may ∈ GW := gw_t (List.mem_of_getElem? (i := 1271) (by decide +kernel)) (by decide +kernel)
theorem mSel_X7_may : Cond.selects RX7 yX7_may yX7_may ∈ GW := gw_t (List.mem_of_getElem? (i := 1272) (by decide +kernel)) (by decide +kernel)
theorem dc_X7_may : yX7_may.cls = RX7 ∧ yX7_may.cls ≠ "java/lang/invoke/MethodHandle" ∧ yX7_may.cls ≠ "java/lang/invoke/VarHandle" ∧ (parseMethodDescriptor yX7_may.desc).map (fun d => d.parameters.length) = some 2 := by decide +kernel
abbrev WX7_lacks : List Cond := Cond.code yX7_lacks cX7_lacks 5 (some .int) :: GW
theorem mC_X7_lacks : Cond.code yX7_lacks cX7_lacks 5 (some .int) ∈ GW := gw_code (List.mem_of_getElem? (i := 1320) (by decide +kernel))
theorem mI_X7_lacks : Cond.instanceMethod yX7_lacks ∈ GW := gw_t (List.mem_of_getElem? (i := 1318) (by decide +kernel)) (by decide +kernel)
theorem mSel_X7_lacks : Cond.selects RX7 yX7_lacks yX7_lacks ∈ GW := gw_t (List.mem_of_getElem? (i := 1319) (by decide +kernel)) (by decide +kernel)
theorem dc_X7_lacks : yX7_lacks.cls = RX7 ∧ yX7_lacks.cls ≠ "java/lang/invoke/MethodHandle" ∧ yX7_lacks.cls ≠ "java/lang/invoke/VarHandle" ∧ (parseMethodDescriptor yX7_lacks.desc).map (fun d => d.parameters.length) = some 4 := by decide +kernel
abbrev WX7_eat : List Cond := Cond.code yX7_eat cX7_eat 3 (some .int) :: GW
theorem mC_X7_eat : Cond.code yX7_eat cX7_eat 3 (some .int) ∈ GW := gw_code (List.mem_of_getElem? (i := 1332) (by decide +kernel))
theorem mI_X7_eat : Cond.instanceMethod yX7_eat ∈ GW := gw_t (List.mem_of_getElem? (i := 1330) (by decide +kernel)) (by decide +kernel)
theorem mSel_X7_eat : Cond.selects RX7 yX7_eat yX7_eat ∈ GW := gw_t (List.mem_of_getElem? (i := 1331) (by decide +kernel)) (by decide +kernel)
theorem dc_X7_eat : yX7_eat.cls = RX7 ∧ yX7_eat.cls ≠ "java/lang/invoke/MethodHandle" ∧ yX7_eat.cls ≠ "java/lang/invoke/VarHandle" ∧ (parseMethodDescriptor yX7_eat.desc).map (fun d => d.parameters.length) = some 2 := by decide +kernel
abbrev WX7_night : List Cond := Cond.code yX7_night cX7_night 1 (some .int) :: GW
theorem mC_X7_night : Cond.code yX7_night cX7_night 1 (some .int) ∈ GW := gw_code (List.mem_of_getElem? (i := 1340) (by decide +kernel))
theorem mI_X7_night : Cond.instanceMethod yX7_night ∈ GW := gw_t (List.mem_of_getElem? (i := 1338) (by decide +kernel)) (by decide +kernel)
theorem mSel_X7_night : Cond.selects RX7 yX7_night yX7_night ∈ GW := gw_t (List.mem_of_getElem? (i := 1339) (by decide +kernel)) (by decide +kernel)
theorem dc_X7_night : yX7_night.cls = RX7 ∧ yX7_night.cls ≠ "java/lang/invoke/MethodHandle" ∧ yX7_night.cls ≠ "java/lang/invoke/VarHandle" ∧ (parseMethodDescriptor yX7_night.desc).map (fun d => d.parameters.length) = some 0 := by decide +kernel
abbrev WX7_now : List Cond := Cond.code yX7_now cX7_now 4 (some .int) :: GW
theorem mC_X7_now : Cond.code yX7_now cX7_now 4 (some .int) ∈ GW := gw_code (List.mem_of_getElem? (i := 1348) (by decide +kernel))
theorem mI_X7_now : Cond.instanceMethod yX7_now ∈ GW := gw_t (List.mem_of_getElem? (i := 1346) (by decide +kernel)) (by decide +kernel)
theorem mSel_X7_now : Cond.selects RX7 yX7_now yX7_now ∈ GW := gw_t (List.mem_of_getElem? (i := 1347) (by decide +kernel)) (by decide +kernel)
theorem dc_X7_now : yX7_now.cls = RX7 ∧ yX7_now.cls ≠ "java/lang/invoke/MethodHandle" ∧ yX7_now.cls ≠ "java/lang/invoke/VarHandle" ∧ (parseMethodDescriptor yX7_now.desc).map (fun d => d.parameters.length) = some 1 := by decide +kernel
abbrev WX7_last : List Cond := Cond.code yX7_last cX7_last 2 (some .int) :: GW
theorem mC_X7_last : Cond.code yX7_last cX7_last 2 (some .int) ∈ GW := gw_code (List.mem_of_getElem? (i := 1352) (by decide +kernel))
theorem mI_X7_last : Cond.instanceMethod yX7_last ∈ GW := gw_t (List.mem_of_getElem? (i := 1350) (by decide +kernel)) (by decide +kernel)
theorem mSel_X7_last : Cond.selects RX7 yX7_last yX7_last ∈ GW := gw_t (List.mem_of_getElem? (i := 1351) (by decide +kernel)) (by decide +kernel)
theorem dc_X7_last : yX7_last.cls = RX7 ∧ yX7_last.cls ≠ "java/lang/invoke/MethodHandle" ∧ yX7_last.cls ≠ "java/lang/invoke/VarHandle" ∧ (parseMethodDescriptor yX7_last.desc).map (fun d => d.parameters.length) = some 1 := by decide +kernel
abbrev WX7_keep : List Cond := Cond.code yX7_keep cX7_keep 3 (some .int) :: GW
theorem mC_X7_keep : Cond.code yX7_keep cX7_keep 3 (some .int) ∈ GW := gw_code (List.mem_of_getElem? (i := 1356) (by decide +kernel))
theorem mI_X7_keep : Cond.instanceMethod yX7_keep ∈ GW := gw_t (List.mem_of_getElem? (i := 1354) (by decide +kernel)) (by decide +kernel)
theorem mSel_X7_keep : Cond.selects RX7 yX7_keep yX7_keep ∈ GW := gw_t (List.mem_of_getElem? (i := 1355) (by decide +kernel)) (by decide +kernel)
theorem dc_X7_keep : yX7_keep.cls = RX7 ∧ yX7_keep.cls ≠ "java/lang/invoke/MethodHandle" ∧ yX7_keep.cls ≠ "java/lang/invoke/VarHandle" ∧ (parseMethodDescriptor yX7_keep.desc).map (fun d => d.parameters.length) = some 1 := by decide +kernel
abbrev WX7_back : List Cond := Cond.code yX7_back cX7_back 2 (some .int) :: GW
theorem mC_X7_back : Cond.code yX7_back cX7_back 2 (some .int) ∈ GW := gw_code (List.mem_of_getElem? (i := 1364) (by decide +kernel))
theorem mI_X7_back : Cond.instanceMethod yX7_back ∈ GW := gw_t (List.mem_of_getElem? (i := 1362) (by decide +kernel)) (by decide +kernel)
theorem mSel_X7_back : Cond.selects RX7 yX7_back yX7_back ∈ GW := gw_t (List.mem_of_getElem? (i := 1363) (by decide +kernel)) (by decide +kernel)
theorem dc_X7_back : yX7_back.cls = RX7 ∧ yX7_back.cls ≠ "java/lang/invoke/MethodHandle" ∧ yX7_back.cls ≠ "java/lang/invoke/VarHandle" ∧ (parseMethodDescriptor yX7_back.desc).map (fun d => d.parameters.length) = some 1 := by decide +kernel
abbrev WX7_day : List Cond := Cond.code yX7_day cX7_day 2 (some .int) :: GW
theorem mC_X7_day : Cond.code yX7_day cX7_day 2 (some .int) ∈ GW := gw_code (List.mem_of_getElem? (i := 1368) (by decide +kernel))
theorem mI_X7_day : Cond.instanceMethod yX7_day ∈ GW := gw_t (List.mem_of_getElem? (i := 1366) (by decide +kernel)) (by decide +kernel)
theorem mSel_X7_day : Cond.selects RX7 yX7_day yX7_day ∈ GW := gw_t (List.mem_of_getElem? (i := 1367) (by decide +kernel)) (by decide +kernel)
theorem dc_X7_day : yX7_day.cls = RX7 ∧ yX7_day.cls ≠ "java/lang/invoke/MethodHandle" ∧ yX7_day.cls ≠ "java/lang/invoke/VarHandle" ∧ (parseMethodDescriptor yX7_day.desc).map (fun d => d.parameters.length) = some 1 := by decide +kernel
abbrev WX7_clear : List Cond := Cond.code yX7_clear cX7_clear 2 (some .int) :: GW
theorem mC_X7_clear : Cond.code yX7_clear cX7_clear 2 (some .int) ∈ GW := gw_code (List.mem_of_getElem? (i := 1372) (by decide +kernel))
theorem mI_X7_clear : Cond.instanceMethod yX7_clear ∈ GW := gw_t (List.mem_of_getElem? (i := 1370) (by decide +kernel)) (by decide +kernel)
theorem mSel_X7_clear : Cond.selects RX7 yX7_clear yX7_clear ∈ GW := gw_t (List.mem_of_getElem? (i := 1371) (by decide +kernel)) (by decide +kernel)
theorem dc_X7_clear : yX7_clear.cls = RX7 ∧ yX7_clear.cls ≠ "java/lang/invoke/MethodHandle" ∧ yX7_clear.cls ≠ "java/lang/invoke/VarHandle" ∧ (parseMethodDescriptor yX7_clear.desc).map (fun d => d.parameters.length) = some 0 := by decide +kernel
abbrev WX7_begins : List Cond := Cond.code yX7_begins cX7_begins 2 none :: GW
theorem mC_X7_begins : Cond.code yX7_begins cX7_begins 2 none ∈ GW := gw_code (List.mem_of_getElem? (i := 1385) (by decide +kernel))
theorem mI_X7_begins : Cond.instanceMethod yX7_begins ∈ GW := gw_t (List.mem_of_getElem? (i := 1384) (by decide +kernel)) (by decide +kernel)
theorem mSel_X7_begins : Cond.selects RX7 yX7_begins yX7_begins ∈ GW := gw_s (List.mem_of_getElem? (i := 82) (by decide +kernel)) (by decide +kernel)
theorem dc_X7_begins : yX7_begins.cls = RX7 ∧ yX7_begins.cls ≠ "java/lang/invoke/MethodHandle" ∧ yX7_begins.cls ≠ "java/lang/invoke/VarHandle" ∧ (parseMethodDescriptor yX7_begins.desc).map (fun d => d.parameters.length) = some 1 := by decide +kernel
abbrev WX7_runs : List Cond := Cond.code yX7_runs cX7_runs 3 (some .int) :: GW
theorem mC_X7_runs : Cond.code yX7_runs cX7_runs 3 (some .int) ∈ GW := gw_code (List.mem_of_getElem? (i := 1381) (by decide +kernel))
theorem mI_X7_runs : Cond.instanceMethod yX7_runs ∈ GW := gw_t (List.mem_of_getElem? (i := 1380) (by decide +kernel)) (by decide +kernel)
theorem mSel_X7_runs : Cond.selects RX7 yX7_runs yX7_runs ∈ GW := gw_s (List.mem_of_getElem? (i := 81) (by decide +kernel)) (by decide +kernel)
theorem dc_X7_runs : yX7_runs.cls = RX7 ∧ yX7_runs.cls ≠ "java/lang/invoke/MethodHandle" ∧ yX7_runs.cls ≠ "java/lang/invoke/VarHandle" ∧ (parseMethodDescriptor yX7_runs.desc).map (fun d => d.parameters.length) = some 1 := by decide +kernel
abbrev WX7_isSameLarder : List Cond := Cond.code yX7_isSameLarder cX7_isSameLarder 4 (some .boolean) :: GW
theorem mC_X7_isSameLarder : Cond.code yX7_isSameLarder cX7_isSameLarder 4 (some .boolean) ∈ GW := gw_code (List.mem_of_getElem? (i := 1397) (by decide +kernel))
theorem mI_X7_isSameLarder : Cond.instanceMethod yX7_isSameLarder ∈ GW := gw_t (List.mem_of_getElem? (i := 1396) (by decide +kernel)) (by decide +kernel)
theorem mSel_X7_isSameLarder : Cond.selects RX7 yX7_isSameLarder yX7_isSameLarder ∈ GW := gw_s (List.mem_of_getElem? (i := 85) (by decide +kernel)) (by decide +kernel)
theorem dc_X7_isSameLarder : yX7_isSameLarder.cls = RX7 ∧ yX7_isSameLarder.cls ≠ "java/lang/invoke/MethodHandle" ∧ yX7_isSameLarder.cls ≠ "java/lang/invoke/VarHandle" ∧ (parseMethodDescriptor yX7_isSameLarder.desc).map (fun d => d.parameters.length) = some 1 := by decide +kernel
abbrev WX7_isClosed : List Cond := Cond.code yX7_isClosed cX7_isClosed 6 (some .boolean) :: GW
theorem mC_X7_isClosed : Cond.code yX7_isClosed cX7_isClosed 6 (some .boolean) ∈ GW := gw_code (List.mem_of_getElem? (i := 1393) (by decide +kernel))
theorem mI_X7_isClosed : Cond.instanceMethod yX7_isClosed ∈ GW := gw_t (List.mem_of_getElem? (i := 1392) (by decide +kernel)) (by decide +kernel)
theorem mSel_X7_isClosed : Cond.selects RX7 yX7_isClosed yX7_isClosed ∈ GW := gw_s (List.mem_of_getElem? (i := 84) (by decide +kernel)) (by decide +kernel)
theorem dc_X7_isClosed : yX7_isClosed.cls = RX7 ∧ yX7_isClosed.cls ≠ "java/lang/invoke/MethodHandle" ∧ yX7_isClosed.cls ≠ "java/lang/invoke/VarHandle" ∧ (parseMethodDescriptor yX7_isClosed.desc).map (fun d => d.parameters.length) = some 2 := by decide +kernel
abbrev WX7_isRowClosed : List Cond := Cond.code yX7_isRowClosed cX7_isRowClosed 4 (some .boolean) :: GW
theorem mC_X7_isRowClosed : Cond.code yX7_isRowClosed cX7_isRowClosed 4 (some .boolean) ∈ GW := gw_code (List.mem_of_getElem? (i := 1389) (by decide +kernel))
theorem mI_X7_isRowClosed : Cond.instanceMethod yX7_isRowClosed ∈ GW := gw_t (List.mem_of_getElem? (i := 1388) (by decide +kernel)) (by decide +kernel)
theorem mSel_X7_isRowClosed : Cond.selects RX7 yX7_isRowClosed yX7_isRowClosed ∈ GW := gw_s (List.mem_of_getElem? (i := 83) (by decide +kernel)) (by decide +kernel)
theorem dc_X7_isRowClosed : yX7_isRowClosed.cls = RX7 ∧ yX7_isRowClosed.cls ≠ "java/lang/invoke/MethodHandle" ∧ yX7_isRowClosed.cls ≠ "java/lang/invoke/VarHandle" ∧ (parseMethodDescriptor yX7_isRowClosed.desc).map (fun d => d.parameters.length) = some 1 := by decide +kernel
abbrev WX7_fedOf : List Cond := Cond.code yX7_fedOf cX7_fedOf 5 (some .int) :: GW
theorem mC_X7_fedOf : Cond.code yX7_fedOf cX7_fedOf 5 (some .int) ∈ GW := gw_code (List.mem_of_getElem? (i := 1401) (by decide +kernel))
theorem mI_X7_fedOf : Cond.instanceMethod yX7_fedOf ∈ GW := gw_t (List.mem_of_getElem? (i := 1400) (by decide +kernel)) (by decide +kernel)
theorem mSel_X7_fedOf : Cond.selects RX7 yX7_fedOf yX7_fedOf ∈ GW := gw_s (List.mem_of_getElem? (i := 86) (by decide +kernel)) (by decide +kernel)
theorem dc_X7_fedOf : yX7_fedOf.cls = RX7 ∧ yX7_fedOf.cls ≠ "java/lang/invoke/MethodHandle" ∧ yX7_fedOf.cls ≠ "java/lang/invoke/VarHandle" ∧ (parseMethodDescriptor yX7_fedOf.desc).map (fun d => d.parameters.length) = some 2 := by decide +kernel
abbrev WX7_row : List Cond := Cond.code yX7_row cX7_row 4 (some .int) :: GW
theorem mC_X7_row : Cond.code yX7_row cX7_row 4 (some .int) ∈ GW := gw_code (List.mem_of_getElem? (i := 1376) (by decide +kernel))
theorem mI_X7_row : Cond.instanceMethod yX7_row ∈ GW := gw_t (List.mem_of_getElem? (i := 1374) (by decide +kernel)) (by decide +kernel)
theorem mSel_X7_row : Cond.selects RX7 yX7_row yX7_row ∈ GW := gw_t (List.mem_of_getElem? (i := 1375) (by decide +kernel)) (by decide +kernel)
theorem dc_X7_row : yX7_row.cls = RX7 ∧ yX7_row.cls ≠ "java/lang/invoke/MethodHandle" ∧ yX7_row.cls ≠ "java/lang/invoke/VarHandle" ∧ (parseMethodDescriptor yX7_row.desc).map (fun d => d.parameters.length) = some 1 := by decide +kernel
abbrev WX7_told : List Cond := Cond.code yX7_told cX7_told 6 (some .int) :: GW
theorem mC_X7_told : Cond.code yX7_told cX7_told 6 (some .int) ∈ GW := gw_code (List.mem_of_getElem? (i := 1412) (by decide +kernel))
theorem mS_X7_told : Cond.static yX7_told ∈ GW := gw_t (List.mem_of_getElem? (i := 1411) (by decide +kernel)) (by decide +kernel)
theorem dc_X7_told : yX7_told.cls ≠ "java/lang/invoke/MethodHandle" ∧ yX7_told.cls ≠ "java/lang/invoke/VarHandle" ∧ (parseMethodDescriptor yX7_told.desc).map (fun d => d.parameters.length) = some 3 := by decide +kernel
abbrev WX7_bearsNow : List Cond := Cond.code yX7_bearsNow cX7_bearsNow 6 (some .int) :: GW
theorem mC_X7_bearsNow : Cond.code yX7_bearsNow cX7_bearsNow 6 (some .int) ∈ GW := gw_code (List.mem_of_getElem? (i := 1409) (by decide +kernel))
theorem mI_X7_bearsNow : Cond.instanceMethod yX7_bearsNow ∈ GW := gw_t (List.mem_of_getElem? (i := 1408) (by decide +kernel)) (by decide +kernel)
theorem mSel_X7_bearsNow : Cond.selects RX7 yX7_bearsNow yX7_bearsNow ∈ GW := gw_s (List.mem_of_getElem? (i := 87) (by decide +kernel)) (by decide +kernel)
theorem dc_X7_bearsNow : yX7_bearsNow.cls = RX7 ∧ yX7_bearsNow.cls ≠ "java/lang/invoke/MethodHandle" ∧ yX7_bearsNow.cls ≠ "java/lang/invoke/VarHandle" ∧ (parseMethodDescriptor yX7_bearsNow.desc).map (fun d => d.parameters.length) = some 0 := by decide +kernel
abbrev WX7_bears : List Cond := Cond.code yX7_bears cX7_bears 2 (some .int) :: GW
theorem mC_X7_bears : Cond.code yX7_bears cX7_bears 2 (some .int) ∈ GW := gw_code (List.mem_of_getElem? (i := 1405) (by decide +kernel))
theorem mI_X7_bears : Cond.instanceMethod yX7_bears ∈ GW := gw_t (List.mem_of_getElem? (i := 1403) (by decide +kernel)) (by decide +kernel)
theorem mSel_X7_bears : Cond.selects RX7 yX7_bears yX7_bears ∈ GW := gw_t (List.mem_of_getElem? (i := 1404) (by decide +kernel)) (by decide +kernel)
theorem dc_X7_bears : yX7_bears.cls = RX7 ∧ yX7_bears.cls ≠ "java/lang/invoke/MethodHandle" ∧ yX7_bears.cls ≠ "java/lang/invoke/VarHandle" ∧ (parseMethodDescriptor yX7_bears.desc).map (fun d => d.parameters.length) = some 1 := by decide +kernel
abbrev WX7_picks : List Cond := Cond.code yX7_picks cX7_picks 5 (some .boolean) :: GW
theorem mC_X7_picks : Cond.code yX7_picks cX7_picks 5 (some .boolean) ∈ GW := gw_code (List.mem_of_getElem? (i := 1435) (by decide +kernel))
theorem mI_X7_picks : Cond.instanceMethod yX7_picks ∈ GW := gw_t (List.mem_of_getElem? (i := 1434) (by decide +kernel)) (by decide +kernel)
theorem mSel_X7_picks : Cond.selects RX7 yX7_picks yX7_picks ∈ GW := gw_s (List.mem_of_getElem? (i := 91) (by decide +kernel)) (by decide +kernel)
theorem dc_X7_picks : yX7_picks.cls = RX7 ∧ yX7_picks.cls ≠ "java/lang/invoke/MethodHandle" ∧ yX7_picks.cls ≠ "java/lang/invoke/VarHandle" ∧ (parseMethodDescriptor yX7_picks.desc).map (fun d => d.parameters.length) = some 1 := by decide +kernel
abbrev WX7_beginRows : List Cond := Cond.code yX7_beginRows cX7_beginRows 1 none :: GW
theorem mC_X7_beginRows : Cond.code yX7_beginRows cX7_beginRows 1 none ∈ GW := gw_code (List.mem_of_getElem? (i := 1427) (by decide +kernel))
theorem mI_X7_beginRows : Cond.instanceMethod yX7_beginRows ∈ GW := gw_t (List.mem_of_getElem? (i := 1426) (by decide +kernel)) (by decide +kernel)
theorem mSel_X7_beginRows : Cond.selects RX7 yX7_beginRows yX7_beginRows ∈ GW := gw_s (List.mem_of_getElem? (i := 89) (by decide +kernel)) (by decide +kernel)
theorem dc_X7_beginRows : yX7_beginRows.cls = RX7 ∧ yX7_beginRows.cls ≠ "java/lang/invoke/MethodHandle" ∧ yX7_beginRows.cls ≠ "java/lang/invoke/VarHandle" ∧ (parseMethodDescriptor yX7_beginRows.desc).map (fun d => d.parameters.length) = some 0 := by decide +kernel
abbrev WX7_nextRow : List Cond := Cond.code yX7_nextRow cX7_nextRow 2 (some .boolean) :: GW
theorem mC_X7_nextRow : Cond.code yX7_nextRow cX7_nextRow 2 (some .boolean) ∈ GW := gw_code (List.mem_of_getElem? (i := 1431) (by decide +kernel))
theorem mI_X7_nextRow : Cond.instanceMethod yX7_nextRow ∈ GW := gw_t (List.mem_of_getElem? (i := 1430) (by decide +kernel)) (by decide +kernel)
theorem mSel_X7_nextRow : Cond.selects RX7 yX7_nextRow yX7_nextRow ∈ GW := gw_s (List.mem_of_getElem? (i := 90) (by decide +kernel)) (by decide +kernel)
theorem dc_X7_nextRow : yX7_nextRow.cls = RX7 ∧ yX7_nextRow.cls ≠ "java/lang/invoke/MethodHandle" ∧ yX7_nextRow.cls ≠ "java/lang/invoke/VarHandle" ∧ (parseMethodDescriptor yX7_nextRow.desc).map (fun d => d.parameters.length) = some 1 := by decide +kernel
abbrev WX7_areDays : List Cond := Cond.code yX7_areDays cX7_areDays 2 (some .boolean) :: GW
theorem mC_X7_areDays : Cond.code yX7_areDays cX7_areDays 2 (some .boolean) ∈ GW := gw_code (List.mem_of_getElem? (i := 1419) (by decide +kernel))
theorem mS_X7_areDays : Cond.static yX7_areDays ∈ GW := gw_t (List.mem_of_getElem? (i := 1418) (by decide +kernel)) (by decide +kernel)
theorem dc_X7_areDays : yX7_areDays.cls ≠ "java/lang/invoke/MethodHandle" ∧ yX7_areDays.cls ≠ "java/lang/invoke/VarHandle" ∧ (parseMethodDescriptor yX7_areDays.desc).map (fun d => d.parameters.length) = some 2 := by decide +kernel
abbrev WX7_compares : List Cond := Cond.code yX7_compares cX7_compares 2 (some .int) :: GW
theorem mC_X7_compares : Cond.code yX7_compares cX7_compares 2 (some .int) ∈ GW := gw_code (List.mem_of_getElem? (i := 1443) (by decide +kernel))
theorem mI_X7_compares : Cond.instanceMethod yX7_compares ∈ GW := gw_t (List.mem_of_getElem? (i := 1442) (by decide +kernel)) (by decide +kernel)
theorem mSel_X7_compares : Cond.selects RX7 yX7_compares yX7_compares ∈ GW := gw_s (List.mem_of_getElem? (i := 93) (by decide +kernel)) (by decide +kernel)
theorem dc_X7_compares : yX7_compares.cls = RX7 ∧ yX7_compares.cls ≠ "java/lang/invoke/MethodHandle" ∧ yX7_compares.cls ≠ "java/lang/invoke/VarHandle" ∧ (parseMethodDescriptor yX7_compares.desc).map (fun d => d.parameters.length) = some 1 := by decide +kernel
abbrev WX7_leastFed : List Cond := Cond.code yX7_leastFed cX7_leastFed 4 (some .int) :: GW
theorem mC_X7_leastFed : Cond.code yX7_leastFed cX7_leastFed 4 (some .int) ∈ GW := gw_code (List.mem_of_getElem? (i := 1439) (by decide +kernel))
theorem mI_X7_leastFed : Cond.instanceMethod yX7_leastFed ∈ GW := gw_t (List.mem_of_getElem? (i := 1438) (by decide +kernel)) (by decide +kernel)
theorem mSel_X7_leastFed : Cond.selects RX7 yX7_leastFed yX7_leastFed ∈ GW := gw_s (List.mem_of_getElem? (i := 92) (by decide +kernel)) (by decide +kernel)
theorem dc_X7_leastFed : yX7_leastFed.cls = RX7 ∧ yX7_leastFed.cls ≠ "java/lang/invoke/MethodHandle" ∧ yX7_leastFed.cls ≠ "java/lang/invoke/VarHandle" ∧ (parseMethodDescriptor yX7_leastFed.desc).map (fun d => d.parameters.length) = some 1 := by decide +kernel
abbrev WX7_findBest : List Cond := Cond.code yX7_findBest cX7_findBest 7 none :: GW
theorem mC_X7_findBest : Cond.code yX7_findBest cX7_findBest 7 none ∈ GW := gw_code (List.mem_of_getElem? (i := 1423) (by decide +kernel))
theorem mI_X7_findBest : Cond.instanceMethod yX7_findBest ∈ GW := gw_t (List.mem_of_getElem? (i := 1422) (by decide +kernel)) (by decide +kernel)
theorem mSel_X7_findBest : Cond.selects RX7 yX7_findBest yX7_findBest ∈ GW := gw_s (List.mem_of_getElem? (i := 88) (by decide +kernel)) (by decide +kernel)
theorem dc_X7_findBest : yX7_findBest.cls = RX7 ∧ yX7_findBest.cls ≠ "java/lang/invoke/MethodHandle" ∧ yX7_findBest.cls ≠ "java/lang/invoke/VarHandle" ∧ (parseMethodDescriptor yX7_findBest.desc).map (fun d => d.parameters.length) = some 2 := by decide +kernel
abbrev WX7_best : List Cond := Cond.code yX7_best cX7_best 3 (some .int) :: GW
theorem mC_X7_best : Cond.code yX7_best cX7_best 3 (some .int) ∈ GW := gw_code (List.mem_of_getElem? (i := 1416) (by decide +kernel))
theorem mI_X7_best : Cond.instanceMethod yX7_best ∈ GW := gw_t (List.mem_of_getElem? (i := 1414) (by decide +kernel)) (by decide +kernel)
theorem mSel_X7_best : Cond.selects RX7 yX7_best yX7_best ∈ GW := gw_t (List.mem_of_getElem? (i := 1415) (by decide +kernel)) (by decide +kernel)
theorem dc_X7_best : yX7_best.cls = RX7 ∧ yX7_best.cls ≠ "java/lang/invoke/MethodHandle" ∧ yX7_best.cls ≠ "java/lang/invoke/VarHandle" ∧ (parseMethodDescriptor yX7_best.desc).map (fun d => d.parameters.length) = some 2 := by decide +kernel
abbrev WX7_fairest : List Cond := Cond.code yX7_fairest cX7_fairest 3 (some .int) :: GW
theorem mC_X7_fairest : Cond.code yX7_fairest cX7_fairest 3 (some .int) ∈ GW := gw_code (List.mem_of_getElem? (i := 1447) (by decide +kernel))
theorem mI_X7_fairest : Cond.instanceMethod yX7_fairest ∈ GW := gw_t (List.mem_of_getElem? (i := 1445) (by decide +kernel)) (by decide +kernel)
theorem mSel_X7_fairest : Cond.selects RX7 yX7_fairest yX7_fairest ∈ GW := gw_t (List.mem_of_getElem? (i := 1446) (by decide +kernel)) (by decide +kernel)
theorem dc_X7_fairest : yX7_fairest.cls = RX7 ∧ yX7_fairest.cls ≠ "java/lang/invoke/MethodHandle" ∧ yX7_fairest.cls ≠ "java/lang/invoke/VarHandle" ∧ (parseMethodDescriptor yX7_fairest.desc).map (fun d => d.parameters.length) = some 2 := by decide +kernel
abbrev WX7_surest : List Cond := Cond.code yX7_surest cX7_surest 7 (some .int) :: GW
theorem mC_X7_surest : Cond.code yX7_surest cX7_surest 7 (some .int) ∈ GW := gw_code (List.mem_of_getElem? (i := 1451) (by decide +kernel))
theorem mI_X7_surest : Cond.instanceMethod yX7_surest ∈ GW := gw_t (List.mem_of_getElem? (i := 1449) (by decide +kernel)) (by decide +kernel)
theorem mSel_X7_surest : Cond.selects RX7 yX7_surest yX7_surest ∈ GW := gw_t (List.mem_of_getElem? (i := 1450) (by decide +kernel)) (by decide +kernel)
theorem dc_X7_surest : yX7_surest.cls = RX7 ∧ yX7_surest.cls ≠ "java/lang/invoke/MethodHandle" ∧ yX7_surest.cls ≠ "java/lang/invoke/VarHandle" ∧ (parseMethodDescriptor yX7_surest.desc).map (fun d => d.parameters.length) = some 2 := by decide +kernel
abbrev WX7_findClosing : List Cond := Cond.code yX7_findClosing cX7_findClosing 3 none :: GW
theorem mC_X7_findClosing : Cond.code yX7_findClosing cX7_findClosing 3 none ∈ GW := gw_code (List.mem_of_getElem? (i := 1459) (by decide +kernel))
theorem mI_X7_findClosing : Cond.instanceMethod yX7_findClosing ∈ GW := gw_t (List.mem_of_getElem? (i := 1458) (by decide +kernel)) (by decide +kernel)
theorem mSel_X7_findClosing : Cond.selects RX7 yX7_findClosing yX7_findClosing ∈ GW := gw_s (List.mem_of_getElem? (i := 94) (by decide +kernel)) (by decide +kernel)
theorem dc_X7_findClosing : yX7_findClosing.cls = RX7 ∧ yX7_findClosing.cls ≠ "java/lang/invoke/MethodHandle" ∧ yX7_findClosing.cls ≠ "java/lang/invoke/VarHandle" ∧ (parseMethodDescriptor yX7_findClosing.desc).map (fun d => d.parameters.length) = some 1 := by decide +kernel
abbrev WX7_closes : List Cond := Cond.code yX7_closes cX7_closes 4 (some .int) :: GW
theorem mC_X7_closes : Cond.code yX7_closes cX7_closes 4 (some .int) ∈ GW := gw_code (List.mem_of_getElem? (i := 1455) (by decide +kernel))
theorem mI_X7_closes : Cond.instanceMethod yX7_closes ∈ GW := gw_t (List.mem_of_getElem? (i := 1453) (by decide +kernel)) (by decide +kernel)
theorem mSel_X7_closes : Cond.selects RX7 yX7_closes yX7_closes ∈ GW := gw_t (List.mem_of_getElem? (i := 1454) (by decide +kernel)) (by decide +kernel)
theorem dc_X7_closes : yX7_closes.cls = RX7 ∧ yX7_closes.cls ≠ "java/lang/invoke/MethodHandle" ∧ yX7_closes.cls ≠ "java/lang/invoke/VarHandle" ∧ (parseMethodDescriptor yX7_closes.desc).map (fun d => d.parameters.length) = some 2 := by decide +kernel
abbrev WX7_shortest : List Cond := Cond.code yX7_shortest cX7_shortest 2 (some .int) :: GW
theorem mC_X7_shortest : Cond.code yX7_shortest cX7_shortest 2 (some .int) ∈ GW := gw_code (List.mem_of_getElem? (i := 1463) (by decide +kernel))
theorem mI_X7_shortest : Cond.instanceMethod yX7_shortest ∈ GW := gw_t (List.mem_of_getElem? (i := 1461) (by decide +kernel)) (by decide +kernel)
theorem mSel_X7_shortest : Cond.selects RX7 yX7_shortest yX7_shortest ∈ GW := gw_t (List.mem_of_getElem? (i := 1462) (by decide +kernel)) (by decide +kernel)
theorem dc_X7_shortest : yX7_shortest.cls = RX7 ∧ yX7_shortest.cls ≠ "java/lang/invoke/MethodHandle" ∧ yX7_shortest.cls ≠ "java/lang/invoke/VarHandle" ∧ (parseMethodDescriptor yX7_shortest.desc).map (fun d => d.parameters.length) = some 0 := by decide +kernel
abbrev WX7_closingWith : List Cond := Cond.code yX7_closingWith cX7_closingWith 5 (some .int) :: GW
theorem mC_X7_closingWith : Cond.code yX7_closingWith cX7_closingWith 5 (some .int) ∈ GW := gw_code (List.mem_of_getElem? (i := 1471) (by decide +kernel))
theorem mI_X7_closingWith : Cond.instanceMethod yX7_closingWith ∈ GW := gw_t (List.mem_of_getElem? (i := 1470) (by decide +kernel)) (by decide +kernel)
theorem mSel_X7_closingWith : Cond.selects RX7 yX7_closingWith yX7_closingWith ∈ GW := gw_s (List.mem_of_getElem? (i := 95) (by decide +kernel)) (by decide +kernel)
theorem dc_X7_closingWith : yX7_closingWith.cls = RX7 ∧ yX7_closingWith.cls ≠ "java/lang/invoke/MethodHandle" ∧ yX7_closingWith.cls ≠ "java/lang/invoke/VarHandle" ∧ (parseMethodDescriptor yX7_closingWith.desc).map (fun d => d.parameters.length) = some 2 := by decide +kernel
abbrev WX7_small : List Cond := Cond.code yX7_small cX7_small 3 (some .int) :: GW
theorem mC_X7_small : Cond.code yX7_small cX7_small 3 (some .int) ∈ GW := gw_code (List.mem_of_getElem? (i := 1467) (by decide +kernel))
theorem mI_X7_small : Cond.instanceMethod yX7_small ∈ GW := gw_t (List.mem_of_getElem? (i := 1465) (by decide +kernel)) (by decide +kernel)
theorem mSel_X7_small : Cond.selects RX7 yX7_small yX7_small ∈ GW := gw_t (List.mem_of_getElem? (i := 1466) (by decide +kernel)) (by decide +kernel)
theorem dc_X7_small : yX7_small.cls = RX7 ∧ yX7_small.cls ≠ "java/lang/invoke/MethodHandle" ∧ yX7_small.cls ≠ "java/lang/invoke/VarHandle" ∧ (parseMethodDescriptor yX7_small.desc).map (fun d => d.parameters.length) = some 2 := by decide +kernel
abbrev WX7_dish : List Cond := Cond.code yX7_dish cX7_dish 6 (some .int) :: GW
theorem mC_X7_dish : Cond.code yX7_dish cX7_dish 6 (some .int) ∈ GW := gw_code (List.mem_of_getElem? (i := 1475) (by decide +kernel))
theorem mI_X7_dish : Cond.instanceMethod yX7_dish ∈ GW := gw_t (List.mem_of_getElem? (i := 1473) (by decide +kernel)) (by decide +kernel)
theorem mSel_X7_dish : Cond.selects RX7 yX7_dish yX7_dish ∈ GW := gw_t (List.mem_of_getElem? (i := 1474) (by decide +kernel)) (by decide +kernel)
theorem dc_X7_dish : yX7_dish.cls = RX7 ∧ yX7_dish.cls ≠ "java/lang/invoke/MethodHandle" ∧ yX7_dish.cls ≠ "java/lang/invoke/VarHandle" ∧ (parseMethodDescriptor yX7_dish.desc).map (fun d => d.parameters.length) = some 1 := by decide +kernel
abbrev WX7_cheap : List Cond := Cond.code yX7_cheap cX7_cheap 5 (some .int) :: GW
theorem mC_X7_cheap : Cond.code yX7_cheap cX7_cheap 5 (some .int) ∈ GW := gw_code (List.mem_of_getElem? (i := 1479) (by decide +kernel))
theorem mI_X7_cheap : Cond.instanceMethod yX7_cheap ∈ GW := gw_t (List.mem_of_getElem? (i := 1477) (by decide +kernel)) (by decide +kernel)
theorem mSel_X7_cheap : Cond.selects RX7 yX7_cheap yX7_cheap ∈ GW := gw_t (List.mem_of_getElem? (i := 1478) (by decide +kernel)) (by decide +kernel)
theorem dc_X7_cheap : yX7_cheap.cls = RX7 ∧ yX7_cheap.cls ≠ "java/lang/invoke/MethodHandle" ∧ yX7_cheap.cls ≠ "java/lang/invoke/VarHandle" ∧ (parseMethodDescriptor yX7_cheap.desc).map (fun d => d.parameters.length) = some 3 := by decide +kernel
abbrev WX7_cold : List Cond := Cond.code yX7_cold cX7_cold 4 (some .int) :: GW
theorem mC_X7_cold : Cond.code yX7_cold cX7_cold 4 (some .int) ∈ GW := gw_code (List.mem_of_getElem? (i := 1484) (by decide +kernel))
theorem mI_X7_cold : Cond.instanceMethod yX7_cold ∈ GW := gw_t (List.mem_of_getElem? (i := 1482) (by decide +kernel)) (by decide +kernel)
theorem mSel_X7_cold : Cond.selects RX7 yX7_cold yX7_cold ∈ GW := gw_t (List.mem_of_getElem? (i := 1483) (by decide +kernel)) (by decide +kernel)
theorem dc_X7_cold : yX7_cold.cls = RX7 ∧ yX7_cold.cls ≠ "java/lang/invoke/MethodHandle" ∧ yX7_cold.cls ≠ "java/lang/invoke/VarHandle" ∧ (parseMethodDescriptor yX7_cold.desc).map (fun d => d.parameters.length) = some 2 := by decide +kernel
abbrev WX7_isSheet : List Cond := Cond.code yX7_isSheet cX7_isSheet 2 (some .boolean) :: GW
theorem mC_X7_isSheet : Cond.code yX7_isSheet cX7_isSheet 2 (some .boolean) ∈ GW := gw_code (List.mem_of_getElem? (i := 1491) (by decide +kernel))
theorem mS_X7_isSheet : Cond.static yX7_isSheet ∈ GW := gw_t (List.mem_of_getElem? (i := 1490) (by decide +kernel)) (by decide +kernel)
theorem dc_X7_isSheet : yX7_isSheet.cls ≠ "java/lang/invoke/MethodHandle" ∧ yX7_isSheet.cls ≠ "java/lang/invoke/VarHandle" ∧ (parseMethodDescriptor yX7_isSheet.desc).map (fun d => d.parameters.length) = some 2 := by decide +kernel
abbrev WX7_sheet : List Cond := Cond.code yX7_sheet cX7_sheet 5 (some .int) :: GW
theorem mC_X7_sheet : Cond.code yX7_sheet cX7_sheet 5 (some .int) ∈ GW := gw_code (List.mem_of_getElem? (i := 1488) (by decide +kernel))
theorem mI_X7_sheet : Cond.instanceMethod yX7_sheet ∈ GW := gw_t (List.mem_of_getElem? (i := 1486) (by decide +kernel)) (by decide +kernel)
theorem mSel_X7_sheet : Cond.selects RX7 yX7_sheet yX7_sheet ∈ GW := gw_t (List.mem_of_getElem? (i := 1487) (by decide +kernel)) (by decide +kernel)
theorem dc_X7_sheet : yX7_sheet.cls = RX7 ∧ yX7_sheet.cls ≠ "java/lang/invoke/MethodHandle" ∧ yX7_sheet.cls ≠ "java/lang/invoke/VarHandle" ∧ (parseMethodDescriptor yX7_sheet.desc).map (fun d => d.parameters.length) = some 3 := by decide +kernel
abbrev WX7_lay : List Cond := Cond.code yX7_lay cX7_lay 4 (some .int) :: GW
theorem mC_X7_lay : Cond.code yX7_lay cX7_lay 4 (some .int) ∈ GW := gw_code (List.mem_of_getElem? (i := 1495) (by decide +kernel))
theorem mI_X7_lay : Cond.instanceMethod yX7_lay ∈ GW := gw_t (List.mem_of_getElem? (i := 1493) (by decide +kernel)) (by decide +kernel)
theorem mSel_X7_lay : Cond.selects RX7 yX7_lay yX7_lay ∈ GW := gw_t (List.mem_of_getElem? (i := 1494) (by decide +kernel)) (by decide +kernel)
theorem dc_X7_lay : yX7_lay.cls = RX7 ∧ yX7_lay.cls ≠ "java/lang/invoke/MethodHandle" ∧ yX7_lay.cls ≠ "java/lang/invoke/VarHandle" ∧ (parseMethodDescriptor yX7_lay.desc).map (fun d => d.parameters.length) = some 3 := by decide +kernel
abbrev WX7_read : List Cond := Cond.code yX7_read cX7_read 11 (some .int) :: GW
theorem mC_X7_read : Cond.code yX7_read cX7_read 11 (some .int) ∈ GW := gw_code (List.mem_of_getElem? (i := 1499) (by decide +kernel))
theorem mI_X7_read : Cond.instanceMethod yX7_read ∈ GW := gw_t (List.mem_of_getElem? (i := 1497) (by decide +kernel)) (by decide +kernel)
theorem mSel_X7_read : Cond.selects RX7 yX7_read yX7_read ∈ GW := gw_t (List.mem_of_getElem? (i := 1498) (by decide +kernel)) (by decide +kernel)
theorem dc_X7_read : yX7_read.cls = RX7 ∧ yX7_read.cls ≠ "java/lang/invoke/MethodHandle" ∧ yX7_read.cls ≠ "java/lang/invoke/VarHandle" ∧ (parseMethodDescriptor yX7_read.desc).map (fun d => d.parameters.length) = some 4 := by decide +kernel
abbrev WX7_torn : List Cond := Cond.code yX7_torn cX7_torn 1 (some .int) :: GW
theorem mC_X7_torn : Cond.code yX7_torn cX7_torn 1 (some .int) ∈ GW := gw_code (List.mem_of_getElem? (i := 1505) (by decide +kernel))
theorem mI_X7_torn : Cond.instanceMethod yX7_torn ∈ GW := gw_t (List.mem_of_getElem? (i := 1503) (by decide +kernel)) (by decide +kernel)
theorem mSel_X7_torn : Cond.selects RX7 yX7_torn yX7_torn ∈ GW := gw_t (List.mem_of_getElem? (i := 1504) (by decide +kernel)) (by decide +kernel)
theorem dc_X7_torn : yX7_torn.cls = RX7 ∧ yX7_torn.cls ≠ "java/lang/invoke/MethodHandle" ∧ yX7_torn.cls ≠ "java/lang/invoke/VarHandle" ∧ (parseMethodDescriptor yX7_torn.desc).map (fun d => d.parameters.length) = some 0 := by decide +kernel
abbrev WX7_count : List Cond := Cond.code yX7_count cX7_count 2 (some .int) :: GW
theorem mC_X7_count : Cond.code yX7_count cX7_count 2 (some .int) ∈ GW := gw_code (List.mem_of_getElem? (i := 1509) (by decide +kernel))
theorem mI_X7_count : Cond.instanceMethod yX7_count ∈ GW := gw_t (List.mem_of_getElem? (i := 1507) (by decide +kernel)) (by decide +kernel)
theorem mSel_X7_count : Cond.selects RX7 yX7_count yX7_count ∈ GW := gw_t (List.mem_of_getElem? (i := 1508) (by decide +kernel)) (by decide +kernel)
theorem dc_X7_count : yX7_count.cls = RX7 ∧ yX7_count.cls ≠ "java/lang/invoke/MethodHandle" ∧ yX7_count.cls ≠ "java/lang/invoke/VarHandle" ∧ (parseMethodDescriptor yX7_count.desc).map (fun d => d.parameters.length) = some 1 := by decide +kernel
theorem cw_RX6_83 (a : Cond) : GoodIn (a :: GW) (wsV RX6 83 RX1 yX1_readTape WX1_readTape) := gw_wsV mM_RX6_83 mI_X1_readTape mSel_X1_readTape mInit_RX1 mC_X1_readTape
theorem cw_RX6_96 (a : Cond) : GoodIn (a :: GW) (wsV RX6 96 RX2 yX2_copyFrom WX2_copyFrom) := gw_wsV mM_RX6_96 mI_X2_copyFrom mSel_X2_copyFrom mInit_RX2 mC_X2_copyFrom
theorem cw_RX6_100 (a : Cond) : GoodIn (a :: GW) (wsV RX6 100 RX0 yX0_reset WX0_reset) := gw_wsV mM_RX6_100 mI_X0_reset mSel_X0_reset mInit_RX0 mC_X0_reset
theorem cw_RX6_103 (a : Cond) : GoodIn (a :: GW) (wsV RX6 103 RX2 yX2_hasThing WX2_hasThing) := gw_wsV mM_RX6_103 mI_X2_hasThing mSel_X2_hasThing mInit_RX2 mC_X2_hasThing
theorem cw_RX6_116 (a : Cond) : GoodIn (a :: GW) (wsV RX6 116 RX2 yX2_hasSupper WX2_hasSupper) := gw_wsV mM_RX6_116 mI_X2_hasSupper mSel_X2_hasSupper mInit_RX2 mC_X2_hasSupper
theorem cw_RX6_137 (a : Cond) : GoodIn (a :: GW) (wsV RX6 137 RX2 yX2_thingsOf WX2_thingsOf) := gw_wsV mM_RX6_137 mI_X2_thingsOf mSel_X2_thingsOf mInit_RX2 mC_X2_thingsOf
theorem cw_RX6_153 (a : Cond) : GoodIn (a :: GW) (wsV RX6 153 RX6 yX6_canPut WX6_canPut) := gw_wsV mM_RX6_153 mI_X6_canPut mSel_X6_canPut mInit_RX6 mC_X6_canPut
theorem cw_RX6_160 (a : Cond) : GoodIn (a :: GW) (wsV RX6 160 RX0 yX0_whyNot WX0_whyNot) := gw_wsV mM_RX6_160 mI_X0_whyNot mSel_X0_whyNot mInit_RX0 mC_X0_whyNot
theorem cw_RX6_164 (a : Cond) : GoodIn (a :: GW) (wsV RX6 164 RX0 yX0_lacking WX0_lacking) := gw_wsV mM_RX6_164 mI_X0_lacking mSel_X0_lacking mInit_RX0 mC_X0_lacking
theorem cw_RX6_168 (a : Cond) : GoodIn (a :: GW) (wsV RX6 168 RX0 yX0_packs WX0_packs) := gw_wsV mM_RX6_168 mI_X0_packs mSel_X0_packs mInit_RX0 mC_X0_packs
theorem cw_RX6_171 (a : Cond) : GoodIn (a :: GW) (wsV RX6 171 RX0 yX0_taking WX0_taking) := gw_wsV mM_RX6_171 mI_X0_taking mSel_X0_taking mInit_RX0 mC_X0_taking
theorem cw_RX6_177 (a : Cond) : GoodIn (a :: GW) (wsV RX6 177 RX0 yX0_serve WX0_serve) := gw_wsV mM_RX6_177 mI_X0_serve mSel_X0_serve mInit_RX0 mC_X0_serve
theorem cw_RX6_180 (a : Cond) : GoodIn (a :: GW) (wsV RX6 180 RX0 yX0_passNight WX0_passNight) := gw_wsV mM_RX6_180 mI_X0_passNight mSel_X0_passNight mInit_RX0 mC_X0_passNight
theorem cw_RX6_196 (a : Cond) : GoodIn (a :: GW) (wsV RX6 196 RX0 yX0_unitsInAll WX0_unitsInAll) := gw_wsV mM_RX6_196 mI_X0_unitsInAll mSel_X0_unitsInAll mInit_RX0 mC_X0_unitsInAll
theorem cw_RX6_202 (a : Cond) : GoodIn (a :: GW) (wsV RX6 202 RX0 yX0_copyFrom WX0_copyFrom) := gw_wsV mM_RX6_202 mI_X0_copyFrom mSel_X0_copyFrom mInit_RX0 mC_X0_copyFrom
theorem cw_RX6_205 (a : Cond) : GoodIn (a :: GW) (wsV RX6 205 RX5 yX5_go WX5_go) := gw_wsV mM_RX6_205 mI_X5_go mSel_X5_go mInit_RX5 mC_X5_go
theorem cw_RX6_209 (a : Cond) : GoodIn (a :: GW) (wsV RX6 209 RX2 yX2_timesFed WX2_timesFed) := gw_wsV mM_RX6_209 mI_X2_timesFed mSel_X2_timesFed mInit_RX2 mC_X2_timesFed
theorem cw_RX6_219 (a : Cond) : GoodIn (a :: GW) (wsV RX6 219 RX6 yX6_rowByHandCloses WX6_rowByHandCloses) := gw_wsV mM_RX6_219 mI_X6_rowByHandCloses mSel_X6_rowByHandCloses mInit_RX6 mC_X6_rowByHandCloses
theorem cw_RX6_223 (a : Cond) : GoodIn (a :: GW) (wsV RX6 223 RX2 yX2_isOut WX2_isOut) := gw_wsV mM_RX6_223 mI_X2_isOut mSel_X2_isOut mInit_RX2 mC_X2_isOut
theorem cw_RX6_226 (a : Cond) : GoodIn (a :: GW) (wsV RX6 226 RX2 yX2_isClosed WX2_isClosed) := gw_wsV mM_RX6_226 mI_X2_isClosed mSel_X2_isClosed mInit_RX2 mC_X2_isClosed
theorem cw_RX6_230 (a : Cond) : GoodIn (a :: GW) (wsV RX6 230 RX5 yX5_bearing WX5_bearing) := gw_wsV mM_RX6_230 mI_X5_bearing mSel_X5_bearing mInit_RX5 mC_X5_bearing
theorem cw_RX6_234 (a : Cond) : GoodIn (a :: GW) (va_wsS RX6 234 yX6_lowestTerms WX6_lowestTerms) := gw_wsS mM_RX6_234 mS_X6_lowestTerms mInit_RX6 mC_X6_lowestTerms
theorem cw_RX6_238 (a : Cond) : GoodIn (a :: GW) (va_wsS RX6 238 yX6_isPlace WX6_isPlace) := gw_wsS mM_RX6_238 mS_X6_isPlace mInit_RX6 mC_X6_isPlace
theorem cw_RX6_242 (a : Cond) : GoodIn (a :: GW) (wsV RX6 242 RX3 yX3_lookAtRows WX3_lookAtRows) := gw_wsV mM_RX6_242 mI_X3_lookAtRows mSel_X3_lookAtRows mInit_RX3 mC_X3_lookAtRows
theorem cw_RX6_288 (a : Cond) : GoodIn (a :: GW) (wsV RX6 288 RX2 yX2_copyWithSmallDish WX2_copyWithSmallDish) := gw_wsV mM_RX6_288 mI_X2_copyWithSmallDish mSel_X2_copyWithSmallDish mInit_RX2 mC_X2_copyWithSmallDish
theorem cw_RX6_301 (a : Cond) : GoodIn (a :: GW) (wsV RX6 301 RX4 yX4_begin WX4_begin) := gw_wsV mM_RX6_301 mI_X4_begin mSel_X4_begin mInit_RX4 mC_X4_begin
theorem cw_RX6_305 (a : Cond) : GoodIn (a :: GW) (wsV RX6 305 RX4 yX4_isNothing WX4_isNothing) := gw_wsV mM_RX6_305 mI_X4_isNothing mSel_X4_isNothing mInit_RX4 mC_X4_isNothing
theorem cw_RX6_311 (a : Cond) : GoodIn (a :: GW) (wsV RX6 311 RX4 yX4_setCell WX4_setCell) := gw_wsV mM_RX6_311 mI_X4_setCell mSel_X4_setCell mInit_RX4 mC_X4_setCell
theorem cw_RX6_314 (a : Cond) : GoodIn (a :: GW) (wsV RX6 314 RX4 yX4_faultAsOf WX4_faultAsOf) := gw_wsV mM_RX6_314 mI_X4_faultAsOf mSel_X4_faultAsOf mInit_RX4 mC_X4_faultAsOf
theorem cw_RX6_319 (a : Cond) : GoodIn (a :: GW) (wsV RX6 319 RX4 yX4_isLotWhole WX4_isLotWhole) := gw_wsV mM_RX6_319 mI_X4_isLotWhole mSel_X4_isLotWhole mInit_RX4 mC_X4_isLotWhole
theorem cw_RX6_323 (a : Cond) : GoodIn (a :: GW) (wsV RX6 323 RX6 yX6_canPutLot WX6_canPutLot) := gw_wsV mM_RX6_323 mI_X6_canPutLot mSel_X6_canPutLot mInit_RX6 mC_X6_canPutLot
theorem cw_RX6_326 (a : Cond) : GoodIn (a :: GW) (wsV RX6 326 RX6 yX6_putLot WX6_putLot) := gw_wsV mM_RX6_326 mI_X6_putLot mSel_X6_putLot mInit_RX6 mC_X6_putLot
theorem cw_RX6_330 (a : Cond) : GoodIn (a :: GW) (wsV RX6 330 RX4 yX4_cellAt WX4_cellAt) := gw_wsV mM_RX6_330 mI_X4_cellAt mSel_X4_cellAt mInit_RX4 mC_X4_cellAt
theorem cw_RX0_21 (a : Cond) : GoodIn (a :: GW) (wsV RX0 21 RX0 yX0_reset WX0_reset) := gw_wsV mM_RX0_21 mI_X0_reset mSel_X0_reset mInit_RX0 mC_X0_reset
theorem cw_RX0_31 (a : Cond) : GoodIn (a :: GW) (wsV RX0 31 RX0 yX0_resetSums WX0_resetSums) := gw_wsV mM_RX0_31 mI_X0_resetSums mSel_X0_resetSums mInit_RX0 mC_X0_resetSums
theorem cw_RX0_49 (a : Cond) : GoodIn (a :: GW) (wsV RX0 49 RX0 yX0_copyFrom WX0_copyFrom) := gw_wsV mM_RX0_49 mI_X0_copyFrom mSel_X0_copyFrom mInit_RX0 mC_X0_copyFrom
theorem cw_RX0_53 (a : Cond) : GoodIn (a :: GW) (wsV RX0 53 RX2 yX2_isOut WX2_isOut) := gw_wsV mM_RX0_53 mI_X2_isOut mSel_X2_isOut mInit_RX2 mC_X2_isOut
theorem cw_RX0_65 (a : Cond) : GoodIn (a :: GW) (wsV RX0 65 RX0 yX0_lacking WX0_lacking) := gw_wsV mM_RX0_65 mI_X0_lacking mSel_X0_lacking mInit_RX0 mC_X0_lacking
theorem cw_RX0_69 (a : Cond) : GoodIn (a :: GW) (wsV RX0 69 RX2 yX2_isBought WX2_isBought) := gw_wsV mM_RX0_69 mI_X2_isBought mSel_X2_isBought mInit_RX2 mC_X2_isBought
theorem cw_RX0_76 (a : Cond) : GoodIn (a :: GW) (wsV RX0 76 RX2 yX2_wanted WX2_wanted) := gw_wsV mM_RX0_76 mI_X2_wanted mSel_X2_wanted mInit_RX2 mC_X2_wanted
theorem cw_RX0_80 (a : Cond) : GoodIn (a :: GW) (wsV RX0 80 RX0 yX0_unitsOf WX0_unitsOf) := gw_wsV mM_RX0_80 mI_X0_unitsOf mSel_X0_unitsOf mInit_RX0 mC_X0_unitsOf
theorem cw_RX0_90 (a : Cond) : GoodIn (a :: GW) (wsV RX0 90 RX2 yX2_isInSoup WX2_isInSoup) := gw_wsV mM_RX0_90 mI_X2_isInSoup mSel_X2_isInSoup mInit_RX2 mC_X2_isInSoup
theorem cw_RX0_94 (a : Cond) : GoodIn (a :: GW) (wsV RX0 94 RX2 yX2_soupWanted WX2_soupWanted) := gw_wsV mM_RX0_94 mI_X2_soupWanted mSel_X2_soupWanted mInit_RX2 mC_X2_soupWanted
theorem cw_RX0_101 (a : Cond) : GoodIn (a :: GW) (wsV RX0 101 RX0 yX0_findTaken WX0_findTaken) := gw_wsV mM_RX0_101 mI_X0_findTaken mSel_X0_findTaken mInit_RX0 mC_X0_findTaken
theorem cw_RX0_105 (a : Cond) : GoodIn (a :: GW) (wsV RX0 105 RX0 yX0_findTakenBySoup WX0_findTakenBySoup) := gw_wsV mM_RX0_105 mI_X0_findTakenBySoup mSel_X0_findTakenBySoup mInit_RX0 mC_X0_findTakenBySoup
theorem cw_RX0_111 (a : Cond) : GoodIn (a :: GW) (wsV RX0 111 RX0 yX0_packs WX0_packs) := gw_wsV mM_RX0_111 mI_X0_packs mSel_X0_packs mInit_RX0 mC_X0_packs
theorem cw_RX0_114 (a : Cond) : GoodIn (a :: GW) (wsV RX0 114 RX0 yX0_takeOldest WX0_takeOldest) := gw_wsV mM_RX0_114 mI_X0_takeOldest mSel_X0_takeOldest mInit_RX0 mC_X0_takeOldest
theorem cw_RX1_26 (a : Cond) : GoodIn (a :: GW) (wsV RX1 26 RX1 yX1_begin WX1_begin) := gw_wsV mM_RX1_26 mI_X1_begin mSel_X1_begin mInit_RX1 mC_X1_begin
theorem cw_RX1_29 (a : Cond) : GoodIn (a :: GW) (wsV RX1 29 RX1 yX1_readToken WX1_readToken) := gw_wsV mM_RX1_29 mI_X1_readToken mSel_X1_readToken mInit_RX1 mC_X1_readToken
theorem cw_RX1_37 (a : Cond) : GoodIn (a :: GW) (wsV RX1 37 RX1 yX1_readLine WX1_readLine) := gw_wsV mM_RX1_37 mI_X1_readLine mSel_X1_readLine mInit_RX1 mC_X1_readLine
theorem cw_RX1_43 (a : Cond) : GoodIn (a :: GW) (wsV RX1 43 RX1 yX1_findThingNotTold WX1_findThingNotTold) := gw_wsV mM_RX1_43 mI_X1_findThingNotTold mSel_X1_findThingNotTold mInit_RX1 mC_X1_findThingNotTold
theorem cw_RX1_56 (a : Cond) : GoodIn (a :: GW) (wsV RX1 56 RX2 yX2_reset WX2_reset) := gw_wsV mM_RX1_56 mI_X2_reset mSel_X2_reset mInit_RX2 mC_X2_reset
theorem cw_RX1_65 (a : Cond) : GoodIn (a :: GW) (wsV RX1 65 RX1 yX1_refuse WX1_refuse) := gw_wsV mM_RX1_65 mI_X1_refuse mSel_X1_refuse mInit_RX1 mC_X1_refuse
theorem cw_RX1_78 (a : Cond) : GoodIn (a :: GW) (va_wsS RX1 78 yX1_isLetter WX1_isLetter) := gw_wsS mM_RX1_78 mS_X1_isLetter mInit_RX1 mC_X1_isLetter
theorem cw_RX1_82 (a : Cond) : GoodIn (a :: GW) (va_wsS RX1 82 yX1_isFigure WX1_isFigure) := gw_wsS mM_RX1_82 mS_X1_isFigure mInit_RX1 mC_X1_isFigure
theorem cw_RX1_85 (a : Cond) : GoodIn (a :: GW) (wsV RX1 85 RJ0 yJ0_length_8abf5 WJ0_length_8abf5) := gw_wsV mM_RX1_85 mI_J0_length_8abf5 mSel_J0_length_8abf5 mInit_RJ0 mC_J0_length_8abf5
theorem cw_RX1_90 (a : Cond) : GoodIn (a :: GW) (wsV RX1 90 RJ0 yJ0_charAt_5068e WJ0_charAt_5068e) := gw_wsV mM_RX1_90 mI_J0_charAt_5068e mSel_J0_charAt_5068e mInit_RJ0 mC_J0_charAt_5068e
theorem cw_RX1_94 (a : Cond) : GoodIn (a :: GW) (wsV RX1 94 RX1 yX1_isPoint WX1_isPoint) := gw_wsV mM_RX1_94 mI_X1_isPoint mSel_X1_isPoint mInit_RX1 mC_X1_isPoint
theorem cw_RX1_99 (a : Cond) : GoodIn (a :: GW) (wsV RX1 99 RX1 yX1_isName WX1_isName) := gw_wsV mM_RX1_99 mI_X1_isName mSel_X1_isName mInit_RX1 mC_X1_isName
theorem cw_RX1_103 (a : Cond) : GoodIn (a :: GW) (wsV RX1 103 RX1 yX1_readThing WX1_readThing) := gw_wsV mM_RX1_103 mI_X1_readThing mSel_X1_readThing mInit_RX1 mC_X1_readThing
theorem cw_RX1_108 (a : Cond) : GoodIn (a :: GW) (wsV RX1 108 RX1 yX1_readSupper WX1_readSupper) := gw_wsV mM_RX1_108 mI_X1_readSupper mSel_X1_readSupper mInit_RX1 mC_X1_readSupper
theorem cw_RX1_119 (a : Cond) : GoodIn (a :: GW) (wsV RX1 119 RX1 yX1_readAgain WX1_readAgain) := gw_wsV mM_RX1_119 mI_X1_readAgain mSel_X1_readAgain mInit_RX1 mC_X1_readAgain
theorem cw_RX1_124 (a : Cond) : GoodIn (a :: GW) (wsV RX1 124 RX1 yX1_readShop WX1_readShop) := gw_wsV mM_RX1_124 mI_X1_readShop mSel_X1_readShop mInit_RX1 mC_X1_readShop
theorem cw_RX1_129 (a : Cond) : GoodIn (a :: GW) (wsV RX1 129 RX1 yX1_readOut WX1_readOut) := gw_wsV mM_RX1_129 mI_X1_readOut mSel_X1_readOut mInit_RX1 mC_X1_readOut
theorem cw_RX1_134 (a : Cond) : GoodIn (a :: GW) (wsV RX1 134 RX1 yX1_readGuest WX1_readGuest) := gw_wsV mM_RX1_134 mI_X1_readGuest mSel_X1_readGuest mInit_RX1 mC_X1_readGuest
theorem cw_RX1_137 (a : Cond) : GoodIn (a :: GW) (wsV RX1 137 RX1 yX1_readNumber WX1_readNumber) := gw_wsV mM_RX1_137 mI_X1_readNumber mSel_X1_readNumber mInit_RX1 mC_X1_readNumber
theorem cw_RX1_149 (a : Cond) : GoodIn (a :: GW) (wsV RX1 149 RX1 yX1_readPoint WX1_readPoint) := gw_wsV mM_RX1_149 mI_X1_readPoint mSel_X1_readPoint mInit_RX1 mC_X1_readPoint
theorem cw_RX1_158 (a : Cond) : GoodIn (a :: GW) (wsV RX1 158 RX1 yX1_readSoup WX1_readSoup) := gw_wsV mM_RX1_158 mI_X1_readSoup mSel_X1_readSoup mInit_RX1 mC_X1_readSoup
theorem cw_RX1_164 (a : Cond) : GoodIn (a :: GW) (wsV RX1 164 RX1 yX1_readPortions WX1_readPortions) := gw_wsV mM_RX1_164 mI_X1_readPortions mSel_X1_readPortions mInit_RX1 mC_X1_readPortions
theorem cw_RX1_174 (a : Cond) : GoodIn (a :: GW) (wsV RX1 174 RX1 yX1_readLike WX1_readLike) := gw_wsV mM_RX1_174 mI_X1_readLike mSel_X1_readLike mInit_RX1 mC_X1_readLike
theorem cw_RX1_179 (a : Cond) : GoodIn (a :: GW) (wsV RX1 179 RX1 yX1_readWont WX1_readWont) := gw_wsV mM_RX1_179 mI_X1_readWont mSel_X1_readWont mInit_RX1 mC_X1_readWont
theorem cw_RX1_185 (a : Cond) : GoodIn (a :: GW) (wsV RX1 185 RX1 yX1_readName WX1_readName) := gw_wsV mM_RX1_185 mI_X1_readName mSel_X1_readName mInit_RX1 mC_X1_readName
theorem cw_RX1_191 (a : Cond) : GoodIn (a :: GW) (wsV RX1 191 RX1 yX1_lettersOnce WX1_lettersOnce) := gw_wsV mM_RX1_191 mI_X1_lettersOnce mSel_X1_lettersOnce mInit_RX1 mC_X1_lettersOnce
theorem cw_RX1_195 (a : Cond) : GoodIn (a :: GW) (wsV RX1 195 RX2 yX2_isInSoup WX2_isInSoup) := gw_wsV mM_RX1_195 mI_X2_isInSoup mSel_X2_isInSoup mInit_RX2 mC_X2_isInSoup
theorem cw_RX1_198 (a : Cond) : GoodIn (a :: GW) (wsV RX1 198 RX1 yX1_noteUse WX1_noteUse) := gw_wsV mM_RX1_198 mI_X1_noteUse mSel_X1_noteUse mInit_RX1 mC_X1_noteUse
theorem cw_RX1_213 (a : Cond) : GoodIn (a :: GW) (wsV RX1 213 RX2 yX2_isOut WX2_isOut) := gw_wsV mM_RX1_213 mI_X2_isOut mSel_X2_isOut mInit_RX2 mC_X2_isOut
theorem cw_RX2_45 (a : Cond) : GoodIn (a :: GW) (wsV RX2 45 RX2 yX2_reset WX2_reset) := gw_wsV mM_RX2_45 mI_X2_reset mSel_X2_reset mInit_RX2 mC_X2_reset
theorem cw_RX2_55 (a : Cond) : GoodIn (a :: GW) (wsV RX2 55 RX2 yX2_resetSupper WX2_resetSupper) := gw_wsV mM_RX2_55 mI_X2_resetSupper mSel_X2_resetSupper mInit_RX2 mC_X2_resetSupper
theorem cw_RX2_74 (a : Cond) : GoodIn (a :: GW) (wsV RX2 74 RX2 yX2_copyFrom WX2_copyFrom) := gw_wsV mM_RX2_74 mI_X2_copyFrom mSel_X2_copyFrom mInit_RX2 mC_X2_copyFrom
theorem cw_RX2_78 (a : Cond) : GoodIn (a :: GW) (va_wsS RX2 78 yJ9_floorMod_7cf53 WJ9_floorMod_7cf53) := gw_wsS mM_RX2_78 mS_J9_floorMod_7cf53 mInit_RJ9 mC_J9_floorMod_7cf53
theorem cw_RX2_84 (a : Cond) : GoodIn (a :: GW) (wsV RX2 84 RX2 yX2_timesFed WX2_timesFed) := gw_wsV mM_RX2_84 mI_X2_timesFed mSel_X2_timesFed mInit_RX2 mC_X2_timesFed
theorem cw_RX2_96 (a : Cond) : GoodIn (a :: GW) (wsV RX2 96 RX0 yX0_hasSameLarder WX0_hasSameLarder) := gw_wsV mM_RX2_96 mI_X0_hasSameLarder mSel_X0_hasSameLarder mInit_RX0 mC_X0_hasSameLarder
theorem cw_RX2_100 (a : Cond) : GoodIn (a :: GW) (wsV RX2 100 RX2 yX2_mayFollowItself WX2_mayFollowItself) := gw_wsV mM_RX2_100 mI_X2_mayFollowItself mSel_X2_mayFollowItself mInit_RX2 mC_X2_mayFollowItself
theorem cw_RX2_104 (a : Cond) : GoodIn (a :: GW) (va_wsS RX2 104 yX2_daysToNext WX2_daysToNext) := gw_wsS mM_RX2_104 mS_X2_daysToNext mInit_RX2 mC_X2_daysToNext
theorem cw_RX3_41 (a : Cond) : GoodIn (a :: GW) (wsV RX3 41 RX3 yX3_forget WX3_forget) := gw_wsV mM_RX3_41 mI_X3_forget mSel_X3_forget mInit_RX3 mC_X3_forget
theorem cw_RX3_44 (a : Cond) : GoodIn (a :: GW) (wsV RX3 44 RX0 yX0_beginRow WX0_beginRow) := gw_wsV mM_RX3_44 mI_X0_beginRow mSel_X0_beginRow mInit_RX0 mC_X0_beginRow
theorem cw_RX3_49 (a : Cond) : GoodIn (a :: GW) (wsV RX3 49 RX3 yX3_following WX3_following) := gw_wsV mM_RX3_49 mI_X3_following mSel_X3_following mInit_RX3 mC_X3_following
theorem cw_RX3_53 (a : Cond) : GoodIn (a :: GW) (wsV RX3 53 RX3 yX3_takeDay WX3_takeDay) := gw_wsV mM_RX3_53 mI_X3_takeDay mSel_X3_takeDay mInit_RX3 mC_X3_takeDay
theorem cw_RX3_57 (a : Cond) : GoodIn (a :: GW) (wsV RX3 57 RX3 yX3_judge WX3_judge) := gw_wsV mM_RX3_57 mI_X3_judge mSel_X3_judge mInit_RX3 mC_X3_judge
theorem cw_RX3_61 (a : Cond) : GoodIn (a :: GW) (wsV RX3 61 RX5 yX5_bearing WX5_bearing) := gw_wsV mM_RX3_61 mI_X5_bearing mSel_X5_bearing mInit_RX5 mC_X5_bearing
theorem cw_RX3_65 (a : Cond) : GoodIn (a :: GW) (wsV RX3 65 RX3 yX3_judgeSurest WX3_judgeSurest) := gw_wsV mM_RX3_65 mI_X3_judgeSurest mSel_X3_judgeSurest mInit_RX3 mC_X3_judgeSurest
theorem cw_RX3_85 (a : Cond) : GoodIn (a :: GW) (wsV RX3 85 RX2 yX2_isOut WX2_isOut) := gw_wsV mM_RX3_85 mI_X2_isOut mSel_X2_isOut mInit_RX2 mC_X2_isOut
theorem cw_RX3_94 (a : Cond) : GoodIn (a :: GW) (wsV RX3 94 RX0 yX0_whyNot WX0_whyNot) := gw_wsV mM_RX3_94 mI_X0_whyNot mSel_X0_whyNot mInit_RX0 mC_X0_whyNot
theorem cw_RX3_98 (a : Cond) : GoodIn (a :: GW) (wsV RX3 98 RX0 yX0_copyFrom WX0_copyFrom) := gw_wsV mM_RX3_98 mI_X0_copyFrom mSel_X0_copyFrom mInit_RX0 mC_X0_copyFrom
theorem cw_RX3_101 (a : Cond) : GoodIn (a :: GW) (wsV RX3 101 RX0 yX0_serve WX0_serve) := gw_wsV mM_RX3_101 mI_X0_serve mSel_X0_serve mInit_RX0 mC_X0_serve
theorem cw_RX3_104 (a : Cond) : GoodIn (a :: GW) (wsV RX3 104 RX0 yX0_passNight WX0_passNight) := gw_wsV mM_RX3_104 mI_X0_passNight mSel_X0_passNight mInit_RX0 mC_X0_passNight
theorem cw_RX3_119 (a : Cond) : GoodIn (a :: GW) (wsV RX3 119 RX3 yX3_judgeBest WX3_judgeBest) := gw_wsV mM_RX3_119 mI_X3_judgeBest mSel_X3_judgeBest mInit_RX3 mC_X3_judgeBest
theorem cw_RX3_123 (a : Cond) : GoodIn (a :: GW) (wsV RX3 123 RX2 yX2_timesFedLeast WX2_timesFedLeast) := gw_wsV mM_RX3_123 mI_X2_timesFedLeast mSel_X2_timesFedLeast mInit_RX2 mC_X2_timesFedLeast
theorem cw_RX3_127 (a : Cond) : GoodIn (a :: GW) (wsV RX3 127 RX3 yX3_judgeFairest WX3_judgeFairest) := gw_wsV mM_RX3_127 mI_X3_judgeFairest mSel_X3_judgeFairest mInit_RX3 mC_X3_judgeFairest
theorem cw_RX3_131 (a : Cond) : GoodIn (a :: GW) (wsV RX3 131 RX2 yX2_isClosed WX2_isClosed) := gw_wsV mM_RX3_131 mI_X2_isClosed mSel_X2_isClosed mInit_RX2 mC_X2_isClosed
theorem cw_RX3_135 (a : Cond) : GoodIn (a :: GW) (wsV RX3 135 RX3 yX3_addClosing WX3_addClosing) := gw_wsV mM_RX3_135 mI_X3_addClosing mSel_X3_addClosing mInit_RX3 mC_X3_addClosing
theorem cw_RX4_21 (a : Cond) : GoodIn (a :: GW) (wsV RX4 21 RX4 yX4_isNothing WX4_isNothing) := gw_wsV mM_RX4_21 mI_X4_isNothing mSel_X4_isNothing mInit_RX4 mC_X4_isNothing
theorem cw_RX5_18 (a : Cond) : GoodIn (a :: GW) (wsV RX5 18 RX0 yX0_beginRow WX0_beginRow) := gw_wsV mM_RX5_18 mI_X0_beginRow mSel_X0_beginRow mInit_RX0 mC_X0_beginRow
theorem cw_RX5_26 (a : Cond) : GoodIn (a :: GW) (wsV RX5 26 RX0 yX0_whyNot WX0_whyNot) := gw_wsV mM_RX5_26 mI_X0_whyNot mSel_X0_whyNot mInit_RX0 mC_X0_whyNot
theorem cw_RX5_30 (a : Cond) : GoodIn (a :: GW) (wsV RX5 30 RX0 yX0_serve WX0_serve) := gw_wsV mM_RX5_30 mI_X0_serve mSel_X0_serve mInit_RX0 mC_X0_serve
theorem cw_RX5_33 (a : Cond) : GoodIn (a :: GW) (wsV RX5 33 RX0 yX0_passNight WX0_passNight) := gw_wsV mM_RX5_33 mI_X0_passNight mSel_X0_passNight mInit_RX0 mC_X0_passNight
theorem cw_RX5_40 (a : Cond) : GoodIn (a :: GW) (va_wsS RX5 40 yX5_weightOf WX5_weightOf) := gw_wsS mM_RX5_40 mS_X5_weightOf mInit_RX5 mC_X5_weightOf
theorem cw_RX5_44 (a : Cond) : GoodIn (a :: GW) (wsV RX5 44 RX5 yX5_go WX5_go) := gw_wsV mM_RX5_44 mI_X5_go mSel_X5_go mInit_RX5 mC_X5_go
theorem cw_RX5_48 (a : Cond) : GoodIn (a :: GW) (wsV RX5 48 RX2 yX2_chanceOfGuests WX2_chanceOfGuests) := gw_wsV mM_RX5_48 mI_X2_chanceOfGuests mSel_X2_chanceOfGuests mInit_RX2 mC_X2_chanceOfGuests
theorem cw_RL_15 (a : Cond) : GoodIn (a :: GW) (wsV RL 15 RX6 yX6_feed WX6_feed) := gw_wsV mM_RL_15 mI_X6_feed mSel_X6_feed mInit_RX6 mC_X6_feed
theorem cw_RL_19 (a : Cond) : GoodIn (a :: GW) (wsV RL 19 RX7 yX7_feed WX7_feed) := gw_wsV mM_RL_19 mI_X7_feed mSel_X7_feed mInit_RX7 mC_X7_feed
theorem cw_RL_20 (a : Cond) : GoodIn (a :: GW) (wsV RL 20 RX6 yX6_end WX6_end) := gw_wsV mM_RL_20 mI_X6_end mSel_X6_end mInit_RX6 mC_X6_end
theorem cw_RL_24 (a : Cond) : GoodIn (a :: GW) (wsV RL 24 RX7 yX7_end WX7_end) := gw_wsV mM_RL_24 mI_X7_end mSel_X7_end mInit_RX7 mC_X7_end
theorem cw_RL_25 (a : Cond) : GoodIn (a :: GW) (wsV RL 25 RX6 yX6_text WX6_text) := gw_wsV mM_RL_25 mI_X6_text mSel_X6_text mInit_RX6 mC_X6_text
theorem cw_RL_29 (a : Cond) : GoodIn (a :: GW) (wsV RL 29 RX7 yX7_text WX7_text) := gw_wsV mM_RL_29 mI_X7_text mSel_X7_text mInit_RX7 mC_X7_text
theorem cw_RL_30 (a : Cond) : GoodIn (a :: GW) (wsV RL 30 RX6 yX6_fault WX6_fault) := gw_wsV mM_RL_30 mI_X6_fault mSel_X6_fault mInit_RX6 mC_X6_fault
theorem cw_RL_33 (a : Cond) : GoodIn (a :: GW) (wsV RL 33 RX7 yX7_fault WX7_fault) := gw_wsV mM_RL_33 mI_X7_fault mSel_X7_fault mInit_RX7 mC_X7_fault
theorem cw_RL_34 (a : Cond) : GoodIn (a :: GW) (wsV RL 34 RX6 yX6_thing WX6_thing) := gw_wsV mM_RL_34 mI_X6_thing mSel_X6_thing mInit_RX6 mC_X6_thing
theorem cw_RL_38 (a : Cond) : GoodIn (a :: GW) (wsV RL 38 RX7 yX7_thing WX7_thing) := gw_wsV mM_RL_38 mI_X7_thing mSel_X7_thing mInit_RX7 mC_X7_thing
theorem cw_RL_39 (a : Cond) : GoodIn (a :: GW) (wsV RL 39 RX6 yX6_supper WX6_supper) := gw_wsV mM_RL_39 mI_X6_supper mSel_X6_supper mInit_RX6 mC_X6_supper
theorem cw_RL_42 (a : Cond) : GoodIn (a :: GW) (wsV RL 42 RX7 yX7_supper WX7_supper) := gw_wsV mM_RL_42 mI_X7_supper mSel_X7_supper mInit_RX7 mC_X7_supper
theorem cw_RL_43 (a : Cond) : GoodIn (a :: GW) (wsV RL 43 RX6 yX6_rule WX6_rule) := gw_wsV mM_RL_43 mI_X6_rule mSel_X6_rule mInit_RX6 mC_X6_rule
theorem cw_RL_46 (a : Cond) : GoodIn (a :: GW) (wsV RL 46 RX7 yX7_rule WX7_rule) := gw_wsV mM_RL_46 mI_X7_rule mSel_X7_rule mInit_RX7 mC_X7_rule
theorem cw_RL_47 (a : Cond) : GoodIn (a :: GW) (wsV RL 47 RX6 yX6_put WX6_put) := gw_wsV mM_RL_47 mI_X6_put mSel_X6_put mInit_RX6 mC_X6_put
theorem cw_RL_51 (a : Cond) : GoodIn (a :: GW) (wsV RL 51 RX7 yX7_put WX7_put) := gw_wsV mM_RL_51 mI_X7_put mSel_X7_put mInit_RX7 mC_X7_put
theorem cw_RL_52 (a : Cond) : GoodIn (a :: GW) (wsV RL 52 RX6 yX6_has WX6_has) := gw_wsV mM_RL_52 mI_X6_has mSel_X6_has mInit_RX6 mC_X6_has
theorem cw_RL_55 (a : Cond) : GoodIn (a :: GW) (wsV RL 55 RX7 yX7_has WX7_has) := gw_wsV mM_RL_55 mI_X7_has mSel_X7_has mInit_RX7 mC_X7_has
theorem cw_RL_56 (a : Cond) : GoodIn (a :: GW) (wsV RL 56 RX6 yX6_may WX6_may) := gw_wsV mM_RL_56 mI_X6_may mSel_X6_may mInit_RX6 mC_X6_may
theorem cw_RL_60 (a : Cond) : GoodIn (a :: GW) (wsV RL 60 RX7 yX7_may WX7_may) := gw_wsV mM_RL_60 mI_X7_may mSel_X7_may mInit_RX7 mC_X7_may
theorem cw_RL_61 (a : Cond) : GoodIn (a :: GW) (wsV RL 61 RX6 yX6_lacks WX6_lacks) := gw_wsV mM_RL_61 mI_X6_lacks mSel_X6_lacks mInit_RX6 mC_X6_lacks
theorem cw_RL_65 (a : Cond) : GoodIn (a :: GW) (wsV RL 65 RX7 yX7_lacks WX7_lacks) := gw_wsV mM_RL_65 mI_X7_lacks mSel_X7_lacks mInit_RX7 mC_X7_lacks
theorem cw_RL_66 (a : Cond) : GoodIn (a :: GW) (wsV RL 66 RX6 yX6_eat WX6_eat) := gw_wsV mM_RL_66 mI_X6_eat mSel_X6_eat mInit_RX6 mC_X6_eat
theorem cw_RL_69 (a : Cond) : GoodIn (a :: GW) (wsV RL 69 RX7 yX7_eat WX7_eat) := gw_wsV mM_RL_69 mI_X7_eat mSel_X7_eat mInit_RX7 mC_X7_eat
theorem cw_RL_70 (a : Cond) : GoodIn (a :: GW) (wsV RL 70 RX6 yX6_night WX6_night) := gw_wsV mM_RL_70 mI_X6_night mSel_X6_night mInit_RX6 mC_X6_night
theorem cw_RL_73 (a : Cond) : GoodIn (a :: GW) (wsV RL 73 RX7 yX7_night WX7_night) := gw_wsV mM_RL_73 mI_X7_night mSel_X7_night mInit_RX7 mC_X7_night
theorem cw_RL_74 (a : Cond) : GoodIn (a :: GW) (wsV RL 74 RX6 yX6_now WX6_now) := gw_wsV mM_RL_74 mI_X6_now mSel_X6_now mInit_RX6 mC_X6_now
theorem cw_RL_77 (a : Cond) : GoodIn (a :: GW) (wsV RL 77 RX7 yX7_now WX7_now) := gw_wsV mM_RL_77 mI_X7_now mSel_X7_now mInit_RX7 mC_X7_now
theorem cw_RL_78 (a : Cond) : GoodIn (a :: GW) (wsV RL 78 RX6 yX6_last WX6_last) := gw_wsV mM_RL_78 mI_X6_last mSel_X6_last mInit_RX6 mC_X6_last
theorem cw_RL_81 (a : Cond) : GoodIn (a :: GW) (wsV RL 81 RX7 yX7_last WX7_last) := gw_wsV mM_RL_81 mI_X7_last mSel_X7_last mInit_RX7 mC_X7_last
theorem cw_RL_82 (a : Cond) : GoodIn (a :: GW) (wsV RL 82 RX6 yX6_keep WX6_keep) := gw_wsV mM_RL_82 mI_X6_keep mSel_X6_keep mInit_RX6 mC_X6_keep
theorem cw_RL_85 (a : Cond) : GoodIn (a :: GW) (wsV RL 85 RX7 yX7_keep WX7_keep) := gw_wsV mM_RL_85 mI_X7_keep mSel_X7_keep mInit_RX7 mC_X7_keep
theorem cw_RL_86 (a : Cond) : GoodIn (a :: GW) (wsV RL 86 RX6 yX6_back WX6_back) := gw_wsV mM_RL_86 mI_X6_back mSel_X6_back mInit_RX6 mC_X6_back
theorem cw_RL_89 (a : Cond) : GoodIn (a :: GW) (wsV RL 89 RX7 yX7_back WX7_back) := gw_wsV mM_RL_89 mI_X7_back mSel_X7_back mInit_RX7 mC_X7_back
theorem cw_RL_90 (a : Cond) : GoodIn (a :: GW) (wsV RL 90 RX6 yX6_day WX6_day) := gw_wsV mM_RL_90 mI_X6_day mSel_X6_day mInit_RX6 mC_X6_day
theorem cw_RL_93 (a : Cond) : GoodIn (a :: GW) (wsV RL 93 RX7 yX7_day WX7_day) := gw_wsV mM_RL_93 mI_X7_day mSel_X7_day mInit_RX7 mC_X7_day
theorem cw_RL_94 (a : Cond) : GoodIn (a :: GW) (wsV RL 94 RX6 yX6_clear WX6_clear) := gw_wsV mM_RL_94 mI_X6_clear mSel_X6_clear mInit_RX6 mC_X6_clear
theorem cw_RL_97 (a : Cond) : GoodIn (a :: GW) (wsV RL 97 RX7 yX7_clear WX7_clear) := gw_wsV mM_RL_97 mI_X7_clear mSel_X7_clear mInit_RX7 mC_X7_clear
theorem cw_RL_98 (a : Cond) : GoodIn (a :: GW) (wsV RL 98 RX6 yX6_row WX6_row) := gw_wsV mM_RL_98 mI_X6_row mSel_X6_row mInit_RX6 mC_X6_row
theorem cw_RL_101 (a : Cond) : GoodIn (a :: GW) (wsV RL 101 RX7 yX7_row WX7_row) := gw_wsV mM_RL_101 mI_X7_row mSel_X7_row mInit_RX7 mC_X7_row
theorem cw_RL_102 (a : Cond) : GoodIn (a :: GW) (wsV RL 102 RX6 yX6_bears WX6_bears) := gw_wsV mM_RL_102 mI_X6_bears mSel_X6_bears mInit_RX6 mC_X6_bears
theorem cw_RL_105 (a : Cond) : GoodIn (a :: GW) (wsV RL 105 RX7 yX7_bears WX7_bears) := gw_wsV mM_RL_105 mI_X7_bears mSel_X7_bears mInit_RX7 mC_X7_bears
theorem cw_RL_106 (a : Cond) : GoodIn (a :: GW) (wsV RL 106 RX6 yX6_best WX6_best) := gw_wsV mM_RL_106 mI_X6_best mSel_X6_best mInit_RX6 mC_X6_best
theorem cw_RL_109 (a : Cond) : GoodIn (a :: GW) (wsV RL 109 RX7 yX7_best WX7_best) := gw_wsV mM_RL_109 mI_X7_best mSel_X7_best mInit_RX7 mC_X7_best
theorem cw_RL_110 (a : Cond) : GoodIn (a :: GW) (wsV RL 110 RX6 yX6_fairest WX6_fairest) := gw_wsV mM_RL_110 mI_X6_fairest mSel_X6_fairest mInit_RX6 mC_X6_fairest
theorem cw_RL_113 (a : Cond) : GoodIn (a :: GW) (wsV RL 113 RX7 yX7_fairest WX7_fairest) := gw_wsV mM_RL_113 mI_X7_fairest mSel_X7_fairest mInit_RX7 mC_X7_fairest
theorem cw_RL_114 (a : Cond) : GoodIn (a :: GW) (wsV RL 114 RX6 yX6_surest WX6_surest) := gw_wsV mM_RL_114 mI_X6_surest mSel_X6_surest mInit_RX6 mC_X6_surest
theorem cw_RL_117 (a : Cond) : GoodIn (a :: GW) (wsV RL 117 RX7 yX7_surest WX7_surest) := gw_wsV mM_RL_117 mI_X7_surest mSel_X7_surest mInit_RX7 mC_X7_surest
theorem cw_RL_118 (a : Cond) : GoodIn (a :: GW) (wsV RL 118 RX6 yX6_closes WX6_closes) := gw_wsV mM_RL_118 mI_X6_closes mSel_X6_closes mInit_RX6 mC_X6_closes
theorem cw_RL_121 (a : Cond) : GoodIn (a :: GW) (wsV RL 121 RX7 yX7_closes WX7_closes) := gw_wsV mM_RL_121 mI_X7_closes mSel_X7_closes mInit_RX7 mC_X7_closes
theorem cw_RL_122 (a : Cond) : GoodIn (a :: GW) (wsV RL 122 RX6 yX6_shortest WX6_shortest) := gw_wsV mM_RL_122 mI_X6_shortest mSel_X6_shortest mInit_RX6 mC_X6_shortest
theorem cw_RL_125 (a : Cond) : GoodIn (a :: GW) (wsV RL 125 RX7 yX7_shortest WX7_shortest) := gw_wsV mM_RL_125 mI_X7_shortest mSel_X7_shortest mInit_RX7 mC_X7_shortest
theorem cw_RL_126 (a : Cond) : GoodIn (a :: GW) (wsV RL 126 RX6 yX6_small WX6_small) := gw_wsV mM_RL_126 mI_X6_small mSel_X6_small mInit_RX6 mC_X6_small
theorem cw_RL_129 (a : Cond) : GoodIn (a :: GW) (wsV RL 129 RX7 yX7_small WX7_small) := gw_wsV mM_RL_129 mI_X7_small mSel_X7_small mInit_RX7 mC_X7_small
theorem cw_RL_130 (a : Cond) : GoodIn (a :: GW) (wsV RL 130 RX6 yX6_dish WX6_dish) := gw_wsV mM_RL_130 mI_X6_dish mSel_X6_dish mInit_RX6 mC_X6_dish
theorem cw_RL_133 (a : Cond) : GoodIn (a :: GW) (wsV RL 133 RX7 yX7_dish WX7_dish) := gw_wsV mM_RL_133 mI_X7_dish mSel_X7_dish mInit_RX7 mC_X7_dish
theorem cw_RL_134 (a : Cond) : GoodIn (a :: GW) (wsV RL 134 RX6 yX6_cheap WX6_cheap) := gw_wsV mM_RL_134 mI_X6_cheap mSel_X6_cheap mInit_RX6 mC_X6_cheap
theorem cw_RL_137 (a : Cond) : GoodIn (a :: GW) (wsV RL 137 RX7 yX7_cheap WX7_cheap) := gw_wsV mM_RL_137 mI_X7_cheap mSel_X7_cheap mInit_RX7 mC_X7_cheap
theorem cw_RL_138 (a : Cond) : GoodIn (a :: GW) (wsV RL 138 RX6 yX6_cold WX6_cold) := gw_wsV mM_RL_138 mI_X6_cold mSel_X6_cold mInit_RX6 mC_X6_cold
theorem cw_RL_141 (a : Cond) : GoodIn (a :: GW) (wsV RL 141 RX7 yX7_cold WX7_cold) := gw_wsV mM_RL_141 mI_X7_cold mSel_X7_cold mInit_RX7 mC_X7_cold
theorem cw_RL_142 (a : Cond) : GoodIn (a :: GW) (wsV RL 142 RX6 yX6_sheet WX6_sheet) := gw_wsV mM_RL_142 mI_X6_sheet mSel_X6_sheet mInit_RX6 mC_X6_sheet
theorem cw_RL_145 (a : Cond) : GoodIn (a :: GW) (wsV RL 145 RX7 yX7_sheet WX7_sheet) := gw_wsV mM_RL_145 mI_X7_sheet mSel_X7_sheet mInit_RX7 mC_X7_sheet
theorem cw_RL_146 (a : Cond) : GoodIn (a :: GW) (wsV RL 146 RX6 yX6_lay WX6_lay) := gw_wsV mM_RL_146 mI_X6_lay mSel_X6_lay mInit_RX6 mC_X6_lay
theorem cw_RL_149 (a : Cond) : GoodIn (a :: GW) (wsV RL 149 RX7 yX7_lay WX7_lay) := gw_wsV mM_RL_149 mI_X7_lay mSel_X7_lay mInit_RX7 mC_X7_lay
theorem cw_RL_150 (a : Cond) : GoodIn (a :: GW) (wsV RL 150 RX6 yX6_read WX6_read) := gw_wsV mM_RL_150 mI_X6_read mSel_X6_read mInit_RX6 mC_X6_read
theorem cw_RL_154 (a : Cond) : GoodIn (a :: GW) (wsV RL 154 RX7 yX7_read WX7_read) := gw_wsV mM_RL_154 mI_X7_read mSel_X7_read mInit_RX7 mC_X7_read
theorem cw_RL_155 (a : Cond) : GoodIn (a :: GW) (wsV RL 155 RX6 yX6_torn WX6_torn) := gw_wsV mM_RL_155 mI_X6_torn mSel_X6_torn mInit_RX6 mC_X6_torn
theorem cw_RL_158 (a : Cond) : GoodIn (a :: GW) (wsV RL 158 RX7 yX7_torn WX7_torn) := gw_wsV mM_RL_158 mI_X7_torn mSel_X7_torn mInit_RX7 mC_X7_torn
theorem cw_RL_159 (a : Cond) : GoodIn (a :: GW) (wsV RL 159 RX6 yX6_count WX6_count) := gw_wsV mM_RL_159 mI_X6_count mSel_X6_count mInit_RX6 mC_X6_count
theorem cw_RL_162 (a : Cond) : GoodIn (a :: GW) (wsV RL 162 RX7 yX7_count WX7_count) := gw_wsV mM_RL_162 mI_X7_count mSel_X7_count mInit_RX7 mC_X7_count
theorem cw_RX7_83 (a : Cond) : GoodIn (a :: GW) (wsV RX7 83 RX7 yX7_firstDraft WX7_firstDraft) := gw_wsV mM_RX7_83 mI_X7_firstDraft mSel_X7_firstDraft mInit_RX7 mC_X7_firstDraft
theorem cw_RX7_86 (a : Cond) : GoodIn (a :: GW) (wsV RX7 86 RX7 yX7_keepDraft WX7_keepDraft) := gw_wsV mM_RX7_86 mI_X7_keepDraft mSel_X7_keepDraft mInit_RX7 mC_X7_keepDraft
theorem cw_RX7_134 (a : Cond) : GoodIn (a :: GW) (va_wsS RX7 134 yX7_in WX7_in) := gw_wsS mM_RX7_134 mS_X7_in mInit_RX7 mC_X7_in
theorem cw_RX7_158 (a : Cond) : GoodIn (a :: GW) (wsV RX7 158 RX7 yX7_look WX7_look) := gw_wsV mM_RX7_158 mI_X7_look mSel_X7_look mInit_RX7 mC_X7_look
theorem cw_RX7_162 (a : Cond) : GoodIn (a :: GW) (wsV RX7 162 RX7 yX7_is WX7_is) := gw_wsV mM_RX7_162 mI_X7_is mSel_X7_is mInit_RX7 mC_X7_is
theorem cw_RX7_166 (a : Cond) : GoodIn (a :: GW) (wsV RX7 166 RX7 yX7_goesOn WX7_goesOn) := gw_wsV mM_RX7_166 mI_X7_goesOn mSel_X7_goesOn mInit_RX7 mC_X7_goesOn
theorem cw_RX7_184 (a : Cond) : GoodIn (a :: GW) (wsV RX7 184 RX7 yX7_needs WX7_needs) := gw_wsV mM_RX7_184 mI_X7_needs mSel_X7_needs mInit_RX7 mC_X7_needs
theorem cw_RX7_188 (a : Cond) : GoodIn (a :: GW) (wsV RX7 188 RX7 yX7_isNumber WX7_isNumber) := gw_wsV mM_RX7_188 mI_X7_isNumber mSel_X7_isNumber mInit_RX7 mC_X7_isNumber
theorem cw_RX7_192 (a : Cond) : GoodIn (a :: GW) (wsV RX7 192 RX7 yX7_next WX7_next) := gw_wsV mM_RX7_192 mI_X7_next mSel_X7_next mInit_RX7 mC_X7_next
theorem cw_RX7_195 (a : Cond) : GoodIn (a :: GW) (wsV RX7 195 RX7 yX7_nameNow WX7_nameNow) := gw_wsV mM_RX7_195 mI_X7_nameNow mSel_X7_nameNow mInit_RX7 mC_X7_nameNow
theorem cw_RX7_205 (a : Cond) : GoodIn (a :: GW) (wsV RX7 205 RX7 yX7_uses WX7_uses) := gw_wsV mM_RX7_205 mI_X7_uses mSel_X7_uses mInit_RX7 mC_X7_uses
theorem cw_RX7_208 (a : Cond) : GoodIn (a :: GW) (wsV RX7 208 RX7 yX7_readNumber WX7_readNumber) := gw_wsV mM_RX7_208 mI_X7_readNumber mSel_X7_readNumber mInit_RX7 mC_X7_readNumber
theorem cw_RX7_212 (a : Cond) : GoodIn (a :: GW) (wsV RX7 212 RX7 yX7_letters WX7_letters) := gw_wsV mM_RX7_212 mI_X7_letters mSel_X7_letters mInit_RX7 mC_X7_letters
theorem cw_RX7_215 (a : Cond) : GoodIn (a :: GW) (wsV RX7 215 RX7 yX7_readLetters WX7_readLetters) := gw_wsV mM_RX7_215 mI_X7_readLetters mSel_X7_readLetters mInit_RX7 mC_X7_readLetters
theorem cw_RX7_218 (a : Cond) : GoodIn (a :: GW) (wsV RX7 218 RX7 yX7_readWants WX7_readWants) := gw_wsV mM_RX7_218 mI_X7_readWants mSel_X7_readWants mInit_RX7 mC_X7_readWants
theorem cw_RX7_222 (a : Cond) : GoodIn (a :: GW) (wsV RX7 222 RX7 yX7_readWeekDay WX7_readWeekDay) := gw_wsV mM_RX7_222 mI_X7_readWeekDay mSel_X7_readWeekDay mInit_RX7 mC_X7_readWeekDay
theorem cw_RX7_231 (a : Cond) : GoodIn (a :: GW) (wsV RX7 231 RX7 yX7_readThing WX7_readThing) := gw_wsV mM_RX7_231 mI_X7_readThing mSel_X7_readThing mInit_RX7 mC_X7_readThing
theorem cw_RX7_234 (a : Cond) : GoodIn (a :: GW) (wsV RX7 234 RX7 yX7_readShops WX7_readShops) := gw_wsV mM_RX7_234 mI_X7_readShops mSel_X7_readShops mInit_RX7 mC_X7_readShops
theorem cw_RX7_237 (a : Cond) : GoodIn (a :: GW) (wsV RX7 237 RX7 yX7_readOut WX7_readOut) := gw_wsV mM_RX7_237 mI_X7_readOut mSel_X7_readOut mInit_RX7 mC_X7_readOut
theorem cw_RX7_240 (a : Cond) : GoodIn (a :: GW) (wsV RX7 240 RX7 yX7_readGuest WX7_readGuest) := gw_wsV mM_RX7_240 mI_X7_readGuest mSel_X7_readGuest mInit_RX7 mC_X7_readGuest
theorem cw_RX7_243 (a : Cond) : GoodIn (a :: GW) (wsV RX7 243 RX7 yX7_readSupper WX7_readSupper) := gw_wsV mM_RX7_243 mI_X7_readSupper mSel_X7_readSupper mInit_RX7 mC_X7_readSupper
theorem cw_RX7_247 (a : Cond) : GoodIn (a :: GW) (wsV RX7 247 RX7 yX7_readLine WX7_readLine) := gw_wsV mM_RX7_247 mI_X7_readLine mSel_X7_readLine mInit_RX7 mC_X7_readLine
theorem cw_RX7_250 (a : Cond) : GoodIn (a :: GW) (wsV RX7 250 RX7 yX7_isThing WX7_isThing) := gw_wsV mM_RX7_250 mI_X7_isThing mSel_X7_isThing mInit_RX7 mC_X7_isThing
theorem cw_RX7_256 (a : Cond) : GoodIn (a :: GW) (wsV RX7 256 RX7 yX7_isSupper WX7_isSupper) := gw_wsV mM_RX7_256 mI_X7_isSupper mSel_X7_isSupper mInit_RX7 mC_X7_isSupper
theorem cw_RX7_267 (a : Cond) : GoodIn (a :: GW) (wsV RX7 267 RX7 yX7_kind WX7_kind) := gw_wsV mM_RX7_267 mI_X7_kind mSel_X7_kind mInit_RX7 mC_X7_kind
theorem cw_RX7_270 (a : Cond) : GoodIn (a :: GW) (va_wsS RX7 270 yX7_flag WX7_flag) := gw_wsS mM_RX7_270 mS_X7_flag mInit_RX7 mC_X7_flag
theorem cw_RX7_273 (a : Cond) : GoodIn (a :: GW) (wsV RX7 273 RX7 yX7_isAmong WX7_isAmong) := gw_wsV mM_RX7_273 mI_X7_isAmong mSel_X7_isAmong mInit_RX7 mC_X7_isAmong
theorem cw_RX7_276 (a : Cond) : GoodIn (a :: GW) (wsV RX7 276 RX7 yX7_have WX7_have) := gw_wsV mM_RX7_276 mI_X7_have mSel_X7_have mInit_RX7 mC_X7_have
theorem cw_RX7_279 (a : Cond) : GoodIn (a :: GW) (wsV RX7 279 RX7 yX7_anyOf WX7_anyOf) := gw_wsV mM_RX7_279 mI_X7_anyOf mSel_X7_anyOf mInit_RX7 mC_X7_anyOf
theorem cw_RX7_283 (a : Cond) : GoodIn (a :: GW) (wsV RX7 283 RX7 yX7_haveAll WX7_haveAll) := gw_wsV mM_RX7_283 mI_X7_haveAll mSel_X7_haveAll mInit_RX7 mC_X7_haveAll
theorem cw_RX7_286 (a : Cond) : GoodIn (a :: GW) (wsV RX7 286 RX7 yX7_wantOf WX7_wantOf) := gw_wsV mM_RX7_286 mI_X7_wantOf mSel_X7_wantOf mInit_RX7 mC_X7_wantOf
theorem cw_RX7_290 (a : Cond) : GoodIn (a :: GW) (wsV RX7 290 RX7 yX7_weekDay WX7_weekDay) := gw_wsV mM_RX7_290 mI_X7_weekDay mSel_X7_weekDay mInit_RX7 mC_X7_weekDay
theorem cw_RX7_293 (a : Cond) : GoodIn (a :: GW) (wsV RX7 293 RX7 yX7_isBought WX7_isBought) := gw_wsV mM_RX7_293 mI_X7_isBought mSel_X7_isBought mInit_RX7 mC_X7_isBought
theorem cw_RX7_297 (a : Cond) : GoodIn (a :: GW) (wsV RX7 297 RX7 yX7_lackOf WX7_lackOf) := gw_wsV mM_RX7_297 mI_X7_lackOf mSel_X7_lackOf mInit_RX7 mC_X7_lackOf
theorem cw_RX7_301 (a : Cond) : GoodIn (a :: GW) (wsV RX7 301 RX7 yX7_findTaken WX7_findTaken) := gw_wsV mM_RX7_301 mI_X7_findTaken mSel_X7_findTaken mInit_RX7 mC_X7_findTaken
theorem cw_RX7_305 (a : Cond) : GoodIn (a :: GW) (wsV RX7 305 RX7 yX7_packsOf WX7_packsOf) := gw_wsV mM_RX7_305 mI_X7_packsOf mSel_X7_packsOf mInit_RX7 mC_X7_packsOf
theorem cw_RX7_308 (a : Cond) : GoodIn (a :: GW) (wsV RX7 308 RX7 yX7_keeps WX7_keeps) := gw_wsV mM_RX7_308 mI_X7_keeps mSel_X7_keeps mInit_RX7 mC_X7_keeps
theorem cw_RX7_313 (a : Cond) : GoodIn (a :: GW) (wsV RX7 313 RX7 yX7_isLot WX7_isLot) := gw_wsV mM_RX7_313 mI_X7_isLot mSel_X7_isLot mInit_RX7 mC_X7_isLot
theorem cw_RX7_316 (a : Cond) : GoodIn (a :: GW) (wsV RX7 316 RX7 yX7_whyNot WX7_whyNot) := gw_wsV mM_RX7_316 mI_X7_whyNot mSel_X7_whyNot mInit_RX7 mC_X7_whyNot
theorem cw_RX7_320 (a : Cond) : GoodIn (a :: GW) (wsV RX7 320 RX7 yX7_eats WX7_eats) := gw_wsV mM_RX7_320 mI_X7_eats mSel_X7_eats mInit_RX7 mC_X7_eats
theorem cw_RX7_323 (a : Cond) : GoodIn (a :: GW) (wsV RX7 323 RX7 yX7_nights WX7_nights) := gw_wsV mM_RX7_323 mI_X7_nights mSel_X7_nights mInit_RX7 mC_X7_nights
theorem cw_RX7_326 (a : Cond) : GoodIn (a :: GW) (wsV RX7 326 RX7 yX7_copies WX7_copies) := gw_wsV mM_RX7_326 mI_X7_copies mSel_X7_copies mInit_RX7 mC_X7_copies
theorem cw_RX7_329 (a : Cond) : GoodIn (a :: GW) (wsV RX7 329 RX7 yX7_begins WX7_begins) := gw_wsV mM_RX7_329 mI_X7_begins mSel_X7_begins mInit_RX7 mC_X7_begins
theorem cw_RX7_335 (a : Cond) : GoodIn (a :: GW) (wsV RX7 335 RX7 yX7_isSameLarder WX7_isSameLarder) := gw_wsV mM_RX7_335 mI_X7_isSameLarder mSel_X7_isSameLarder mInit_RX7 mC_X7_isSameLarder
theorem cw_RX7_338 (a : Cond) : GoodIn (a :: GW) (wsV RX7 338 RX7 yX7_isClosed WX7_isClosed) := gw_wsV mM_RX7_338 mI_X7_isClosed mSel_X7_isClosed mInit_RX7 mC_X7_isClosed
theorem cw_RX7_343 (a : Cond) : GoodIn (a :: GW) (wsV RX7 343 RX7 yX7_runs WX7_runs) := gw_wsV mM_RX7_343 mI_X7_runs mSel_X7_runs mInit_RX7 mC_X7_runs
theorem cw_RX7_346 (a : Cond) : GoodIn (a :: GW) (wsV RX7 346 RX7 yX7_isRowClosed WX7_isRowClosed) := gw_wsV mM_RX7_346 mI_X7_isRowClosed mSel_X7_isRowClosed mInit_RX7 mC_X7_isRowClosed
theorem cw_RX7_349 (a : Cond) : GoodIn (a :: GW) (wsV RX7 349 RX7 yX7_fedOf WX7_fedOf) := gw_wsV mM_RX7_349 mI_X7_fedOf mSel_X7_fedOf mInit_RX7 mC_X7_fedOf
theorem cw_RX7_352 (a : Cond) : GoodIn (a :: GW) (wsV RX7 352 RX7 yX7_bearsNow WX7_bearsNow) := gw_wsV mM_RX7_352 mI_X7_bearsNow mSel_X7_bearsNow mInit_RX7 mC_X7_bearsNow
theorem cw_RX7_355 (a : Cond) : GoodIn (a :: GW) (va_wsS RX7 355 yX7_told WX7_told) := gw_wsS mM_RX7_355 mS_X7_told mInit_RX7 mC_X7_told
theorem cw_RX7_362 (a : Cond) : GoodIn (a :: GW) (wsV RX7 362 RX7 yX7_picks WX7_picks) := gw_wsV mM_RX7_362 mI_X7_picks mSel_X7_picks mInit_RX7 mC_X7_picks
theorem cw_RX7_380 (a : Cond) : GoodIn (a :: GW) (wsV RX7 380 RX7 yX7_beginRows WX7_beginRows) := gw_wsV mM_RX7_380 mI_X7_beginRows mSel_X7_beginRows mInit_RX7 mC_X7_beginRows
theorem cw_RX7_383 (a : Cond) : GoodIn (a :: GW) (wsV RX7 383 RX7 yX7_nextRow WX7_nextRow) := gw_wsV mM_RX7_383 mI_X7_nextRow mSel_X7_nextRow mInit_RX7 mC_X7_nextRow
theorem cw_RX7_386 (a : Cond) : GoodIn (a :: GW) (wsV RX7 386 RX7 yX7_leastFed WX7_leastFed) := gw_wsV mM_RX7_386 mI_X7_leastFed mSel_X7_leastFed mInit_RX7 mC_X7_leastFed
theorem cw_RX7_392 (a : Cond) : GoodIn (a :: GW) (wsV RX7 392 RX7 yX7_compares WX7_compares) := gw_wsV mM_RX7_392 mI_X7_compares mSel_X7_compares mInit_RX7 mC_X7_compares
theorem cw_RX7_395 (a : Cond) : GoodIn (a :: GW) (va_wsS RX7 395 yX7_areDays WX7_areDays) := gw_wsS mM_RX7_395 mS_X7_areDays mInit_RX7 mC_X7_areDays
theorem cw_RX7_398 (a : Cond) : GoodIn (a :: GW) (wsV RX7 398 RX7 yX7_findBest WX7_findBest) := gw_wsV mM_RX7_398 mI_X7_findBest mSel_X7_findBest mInit_RX7 mC_X7_findBest
theorem cw_RX7_408 (a : Cond) : GoodIn (a :: GW) (wsV RX7 408 RX7 yX7_findClosing WX7_findClosing) := gw_wsV mM_RX7_408 mI_X7_findClosing mSel_X7_findClosing mInit_RX7 mC_X7_findClosing
theorem cw_RX7_411 (a : Cond) : GoodIn (a :: GW) (wsV RX7 411 RX7 yX7_closingWith WX7_closingWith) := gw_wsV mM_RX7_411 mI_X7_closingWith mSel_X7_closingWith mInit_RX7 mC_X7_closingWith
theorem cw_RX7_416 (a : Cond) : GoodIn (a :: GW) (va_wsS RX7 416 yX7_isSheet WX7_isSheet) := gw_wsS mM_RX7_416 mS_X7_isSheet mInit_RX7 mC_X7_isSheet
theorem cw_RX7_424 (a : Cond) : GoodIn (a :: GW) (wsV RX7 424 RX7 yX7_put WX7_put) := gw_wsV mM_RX7_424 mI_X7_put mSel_X7_put mInit_RX7 mC_X7_put
theorem cw_RJ0_335 (a : Cond) : GoodIn (a :: GW) (wsV RJ0 335 RJ0 yJ0_coder_7d493 WJ0_coder_7d493) := gw_wsV mM_RJ0_335 mI_J0_coder_7d493 mSel_J0_coder_7d493 mInit_RJ0 mC_J0_coder_7d493
theorem cw_RJ0_492 (a : Cond) : GoodIn (a :: GW) (wsV RJ0 492 RJ0 yJ0_isLatin1_aae02 WJ0_isLatin1_aae02) := gw_wsV mM_RJ0_492 mI_J0_isLatin1_aae02 mSel_J0_isLatin1_aae02 mInit_RJ0 mC_J0_isLatin1_aae02
theorem cw_RJ0_495 (a : Cond) : GoodIn (a :: GW) (va_wsS RJ0 495 yJ1_charAt_3b067 WJ1_charAt_3b067) := gw_wsS mM_RJ0_495 mS_J1_charAt_3b067 mInit_RJ1 mC_J1_charAt_3b067
theorem cw_RJ0_1059 (a : Cond) : GoodIn (a :: GW) (va_wsS RJ0 1059 yJ3_checkIndex_8e157 WJ3_checkIndex_8e157) := gw_wsS mM_RJ0_1059 mS_J3_checkIndex_8e157 mInit_RJ3 mC_J3_checkIndex_8e157
theorem cw_RJ1_9 (a : Cond) : GoodIn (a :: GW) (va_wsS RJ1 9 yJ0_checkIndex_df160 WJ0_checkIndex_df160) := gw_wsS mM_RJ1_9 mS_J0_checkIndex_df160 mInit_RJ0 mC_J0_checkIndex_df160
theorem mCl_RX6_7 : Cond.classLink RX6 7 RX2 ∈ GW := gw_t (List.mem_of_getElem? (i := 23) (by decide +kernel)) (by decide +kernel)
theorem mCl_RX6_19 : Cond.classLink RX6 19 RX1 ∈ GW := gw_t (List.mem_of_getElem? (i := 127) (by decide +kernel)) (by decide +kernel)
theorem mCl_RX6_30 : Cond.classLink RX6 30 RX0 ∈ GW := gw_t (List.mem_of_getElem? (i := 178) (by decide +kernel)) (by decide +kernel)
theorem mCl_RX6_52 : Cond.classLink RX6 52 RX5 ∈ GW := gw_t (List.mem_of_getElem? (i := 231) (by decide +kernel)) (by decide +kernel)
theorem mCl_RX6_59 : Cond.classLink RX6 59 RX3 ∈ GW := gw_t (List.mem_of_getElem? (i := 249) (by decide +kernel)) (by decide +kernel)
theorem mCl_RX6_66 : Cond.classLink RX6 66 RX4 ∈ GW := gw_t (List.mem_of_getElem? (i := 327) (by decide +kernel)) (by decide +kernel)
theorem mCl_RX1_15 : Cond.classLink RX1 15 RX2 ∈ GW := gw_t (List.mem_of_getElem? (i := 133) (by decide +kernel)) (by decide +kernel)
theorem mCl_RX3_9 : Cond.classLink RX3 9 RX0 ∈ GW := gw_t (List.mem_of_getElem? (i := 255) (by decide +kernel)) (by decide +kernel)
theorem mCl_RX3_22 : Cond.classLink RX3 22 RX5 ∈ GW := gw_t (List.mem_of_getElem? (i := 257) (by decide +kernel)) (by decide +kernel)
theorem mCl_RX5_9 : Cond.classLink RX5 9 RX0 ∈ GW := gw_t (List.mem_of_getElem? (i := 237) (by decide +kernel)) (by decide +kernel)
theorem mCl_RL_7 : Cond.classLink RL 7 RX6 ∈ GW := gw_t (List.mem_of_getElem? (i := 15) (by decide +kernel)) (by decide +kernel)
theorem mCl_RL_10 : Cond.classLink RL 10 RX7 ∈ GW := gw_t (List.mem_of_getElem? (i := 937) (by decide +kernel)) (by decide +kernel)
theorem mIns_X6 : Cond.instantiable RX6 13 ∈ GW := gw_t (List.mem_of_getElem? (i := 16) (by decide +kernel)) (by decide +kernel)
theorem mIns_X2 : Cond.instantiable RX2 16 ∈ GW := gw_t (List.mem_of_getElem? (i := 24) (by decide +kernel)) (by decide +kernel)
theorem mArr_I : Cond.arrayClass .int ∈ GW := gw_t (List.mem_of_getElem? (i := 126) (by decide +kernel)) (by decide +kernel)
theorem mIns_X1 : Cond.instantiable RX1 12 ∈ GW := gw_t (List.mem_of_getElem? (i := 128) (by decide +kernel)) (by decide +kernel)
theorem mArr_B : Cond.arrayClass .byte ∈ GW := gw_t (List.mem_of_getElem? (i := 177) (by decide +kernel)) (by decide +kernel)
theorem mIns_X0 : Cond.instantiable RX0 8 ∈ GW := gw_t (List.mem_of_getElem? (i := 179) (by decide +kernel)) (by decide +kernel)
theorem mIns_X5 : Cond.instantiable RX5 2 ∈ GW := gw_t (List.mem_of_getElem? (i := 232) (by decide +kernel)) (by decide +kernel)
theorem mArr_Z : Cond.arrayClass .boolean ∈ GW := gw_t (List.mem_of_getElem? (i := 248) (by decide +kernel)) (by decide +kernel)
theorem mIns_X3 : Cond.instantiable RX3 18 ∈ GW := gw_t (List.mem_of_getElem? (i := 250) (by decide +kernel)) (by decide +kernel)
theorem mIns_X4 : Cond.instantiable RX4 3 ∈ GW := gw_t (List.mem_of_getElem? (i := 328) (by decide +kernel)) (by decide +kernel)
theorem mIns_X7 : Cond.instantiable RX7 56 ∈ GW := gw_t (List.mem_of_getElem? (i := 938) (by decide +kernel)) (by decide +kernel)
theorem mObj_i : Cond.instanceMethod objectInit ∈ GW := gw_t (List.mem_of_getElem? (i := 21) (by decide +kernel)) (by decide +kernel)
theorem mObj_c : Cond.code objectInit ⟨#[0xb1]⟩ 1 none ∈ GW := gw_t (List.mem_of_getElem? (i := 22) (by decide +kernel)) (by decide +kernel)
abbrev WX0_init : List Cond := Cond.code yX0_init cX0_init 1 none :: GW
theorem mC_X0_init : Cond.code yX0_init cX0_init 1 none ∈ GW := gw_code (List.mem_of_getElem? (i := 182) (by decide +kernel))
theorem mI_X0_init : Cond.instanceMethod yX0_init ∈ GW := gw_t (List.mem_of_getElem? (i := 181) (by decide +kernel)) (by decide +kernel)
theorem dc_X0_init : yX0_init.cls ≠ "java/lang/invoke/MethodHandle" ∧ yX0_init.cls ≠ "java/lang/invoke/VarHandle" ∧ (parseMethodDescriptor yX0_init.desc).map (fun d => d.parameters.length) = some 0 := by decide +kernel
theorem dfX0 : ∀ j, j < 8 → defaultValue (tyX0 j) = vp_V [.null, .null, .int 0, .int 0, .int 0, .int 0, .int 0, .null] j := by decide +kernel
abbrev WX2_init : List Cond := Cond.code yX2_init cX2_init 1 none :: GW
theorem mC_X2_init : Cond.code yX2_init cX2_init 1 none ∈ GW := gw_code (List.mem_of_getElem? (i := 27) (by decide +kernel))
theorem mI_X2_init : Cond.instanceMethod yX2_init ∈ GW := gw_t (List.mem_of_getElem? (i := 26) (by decide +kernel)) (by decide +kernel)
theorem dc_X2_init : yX2_init.cls ≠ "java/lang/invoke/MethodHandle" ∧ yX2_init.cls ≠ "java/lang/invoke/VarHandle" ∧ (parseMethodDescriptor yX2_init.desc).map (fun d => d.parameters.length) = some 0 := by decide +kernel
theorem dfX2 : ∀ j, j < 16 → defaultValue (tyX2 j) = vp_V [.int 0, .null, .null, .null, .int 0, .null, .null, .null, .null, .null, .null, .null, .int 0, .int 0, .int 0, .null] j := by decide +kernel
abbrev WX4_init : List Cond := Cond.code yX4_init cX4_init 2 none :: GW
theorem mC_X4_init : Cond.code yX4_init cX4_init 2 none ∈ GW := gw_code (List.mem_of_getElem? (i := 331) (by decide +kernel))
theorem mI_X4_init : Cond.instanceMethod yX4_init ∈ GW := gw_t (List.mem_of_getElem? (i := 330) (by decide +kernel)) (by decide +kernel)
theorem dc_X4_init : yX4_init.cls ≠ "java/lang/invoke/MethodHandle" ∧ yX4_init.cls ≠ "java/lang/invoke/VarHandle" ∧ (parseMethodDescriptor yX4_init.desc).map (fun d => d.parameters.length) = some 0 := by decide +kernel
theorem dfX4 : ∀ j, j < 3 → defaultValue (tyX4 j) = vp_V [.null, .null, .null] j := by decide +kernel
abbrev WX1_init : List Cond := Cond.code yX1_init cX1_init 1 none :: GW
theorem mC_X1_init : Cond.code yX1_init cX1_init 1 none ∈ GW := gw_code (List.mem_of_getElem? (i := 131) (by decide +kernel))
theorem mI_X1_init : Cond.instanceMethod yX1_init ∈ GW := gw_t (List.mem_of_getElem? (i := 130) (by decide +kernel)) (by decide +kernel)
theorem dc_X1_init : yX1_init.cls ≠ "java/lang/invoke/MethodHandle" ∧ yX1_init.cls ≠ "java/lang/invoke/VarHandle" ∧ (parseMethodDescriptor yX1_init.desc).map (fun d => d.parameters.length) = some 0 := by decide +kernel
theorem dfX1 : ∀ j, j < 12 → defaultValue (tyX1 j) = vp_V [.null, .int 0, .null, .int 0, .int 0, .int 0, .int 0, .int 0, .int 0, .int 0, .int 0, .null] j := by decide +kernel
abbrev WX5_init : List Cond := Cond.code yX5_init cX5_init 1 none :: GW
theorem mC_X5_init : Cond.code yX5_init cX5_init 1 none ∈ GW := gw_code (List.mem_of_getElem? (i := 235) (by decide +kernel))
theorem mI_X5_init : Cond.instanceMethod yX5_init ∈ GW := gw_t (List.mem_of_getElem? (i := 234) (by decide +kernel)) (by decide +kernel)
theorem dc_X5_init : yX5_init.cls ≠ "java/lang/invoke/MethodHandle" ∧ yX5_init.cls ≠ "java/lang/invoke/VarHandle" ∧ (parseMethodDescriptor yX5_init.desc).map (fun d => d.parameters.length) = some 0 := by decide +kernel
theorem dfX5 : ∀ j, j < 2 → defaultValue (tyX5 j) = vp_V [.null, .int 0] j := by decide +kernel
abbrev WX3_init : List Cond := Cond.code yX3_init cX3_init 1 none :: GW
theorem mC_X3_init : Cond.code yX3_init cX3_init 1 none ∈ GW := gw_code (List.mem_of_getElem? (i := 253) (by decide +kernel))
theorem mI_X3_init : Cond.instanceMethod yX3_init ∈ GW := gw_t (List.mem_of_getElem? (i := 252) (by decide +kernel)) (by decide +kernel)
theorem dc_X3_init : yX3_init.cls ≠ "java/lang/invoke/MethodHandle" ∧ yX3_init.cls ≠ "java/lang/invoke/VarHandle" ∧ (parseMethodDescriptor yX3_init.desc).map (fun d => d.parameters.length) = some 0 := by decide +kernel
theorem dfX3 : ∀ j, j < 18 → defaultValue (tyX3 j) = vp_V [.null, .null, .null, .int 0, .long 0, .int 0, .int 0, .int 0, .int 0, .null, .long 0, .int 0, .null, .int 0, .null, .int 0, .int 0, .null] j := by decide +kernel
abbrev WX6_init : List Cond := Cond.code yX6_init cX6_init 1 none :: GW
theorem mC_X6_init : Cond.code yX6_init cX6_init 1 none ∈ GW := gw_code (List.mem_of_getElem? (i := 19) (by decide +kernel))
theorem mI_X6_init : Cond.instanceMethod yX6_init ∈ GW := gw_t (List.mem_of_getElem? (i := 18) (by decide +kernel)) (by decide +kernel)
theorem dc_X6_init : yX6_init.cls ≠ "java/lang/invoke/MethodHandle" ∧ yX6_init.cls ≠ "java/lang/invoke/VarHandle" ∧ (parseMethodDescriptor yX6_init.desc).map (fun d => d.parameters.length) = some 0 := by decide +kernel
theorem dfX6 : ∀ j, j < 13 → defaultValue (tyX6 j) = vp_V [.null, .null, .null, .int 0, .null, .null, .null, .null, .int 0, .null, .null, .null, .int 0] j := by decide +kernel
abbrev WX7_init : List Cond := Cond.code yX7_init cX7_init 2 none :: GW
theorem mC_X7_init : Cond.code yX7_init cX7_init 2 none ∈ GW := gw_code (List.mem_of_getElem? (i := 941) (by decide +kernel))
theorem mI_X7_init : Cond.instanceMethod yX7_init ∈ GW := gw_t (List.mem_of_getElem? (i := 940) (by decide +kernel)) (by decide +kernel)
theorem dc_X7_init : yX7_init.cls ≠ "java/lang/invoke/MethodHandle" ∧ yX7_init.cls ≠ "java/lang/invoke/VarHandle" ∧ (parseMethodDescriptor yX7_init.desc).map (fun d => d.parameters.length) = some 0 := by decide +kernel
theorem dfX7 : ∀ j, j < 56 → defaultValue (tyX7 j) = vp_V [.int 0, .null, .int 0, .null, .null, .null, .int 0, .int 0, .int 0, .null, .int 0, .null, .int 0, .null, .null, .null, .int 0, .int 0, .int 0, .null, .int 0, .int 0, .int 0, .null, .null, .null, .int 0, .int 0, .int 0, .int 0, .int 0, .int 0, .int 0, .null, .null, .null, .null, .int 0, .null, .int 0, .null, .int 0, .null, .int 0, .int 0, .int 0, .int 0, .int 0, .int 0, .null, .int 0, .int 0, .null, .null, .null, .int 0] j := by decide +kernel
theorem layX0_0 : u_lay RX0 TX0 0 ∈ GW := gw_t (List.mem_of_getElem? (i := 213) (by decide +kernel)) (by decide +kernel)
theorem layX0_1 : u_lay RX0 TX0 1 ∈ GW := gw_t (List.mem_of_getElem? (i := 215) (by decide +kernel)) (by decide +kernel)
theorem layX0_2 : u_lay RX0 TX0 2 ∈ GW := gw_t (List.mem_of_getElem? (i := 217) (by decide +kernel)) (by decide +kernel)
theorem layX0_3 : u_lay RX0 TX0 3 ∈ GW := gw_t (List.mem_of_getElem? (i := 219) (by decide +kernel)) (by decide +kernel)
theorem layX0_4 : u_lay RX0 TX0 4 ∈ GW := gw_t (List.mem_of_getElem? (i := 221) (by decide +kernel)) (by decide +kernel)
theorem layX0_5 : u_lay RX0 TX0 5 ∈ GW := gw_t (List.mem_of_getElem? (i := 223) (by decide +kernel)) (by decide +kernel)
theorem layX0_6 : u_lay RX0 TX0 6 ∈ GW := gw_t (List.mem_of_getElem? (i := 225) (by decide +kernel)) (by decide +kernel)
theorem layX0_7 : u_lay RX0 TX0 7 ∈ GW := gw_t (List.mem_of_getElem? (i := 227) (by decide +kernel)) (by decide +kernel)
theorem inlX0 : ∀ k, k < 8 → u_lay RX0 TX0 k ∈ GW := fun k hk => match k, hk with | 0, _ => layX0_0 | 1, _ => layX0_1 | 2, _ => layX0_2 | 3, _ => layX0_3 | 4, _ => layX0_4 | 5, _ => layX0_5 | 6, _ => layX0_6 | 7, _ => layX0_7 | k + 8, hk => absurd hk (by omega)
theorem layX2_0 : u_lay RX2 TX2 0 ∈ GW := gw_t (List.mem_of_getElem? (i := 93) (by decide +kernel)) (by decide +kernel)
theorem layX2_1 : u_lay RX2 TX2 1 ∈ GW := gw_t (List.mem_of_getElem? (i := 95) (by decide +kernel)) (by decide +kernel)
theorem layX2_2 : u_lay RX2 TX2 2 ∈ GW := gw_t (List.mem_of_getElem? (i := 97) (by decide +kernel)) (by decide +kernel)
theorem layX2_3 : u_lay RX2 TX2 3 ∈ GW := gw_t (List.mem_of_getElem? (i := 99) (by decide +kernel)) (by decide +kernel)
theorem layX2_4 : u_lay RX2 TX2 4 ∈ GW := gw_t (List.mem_of_getElem? (i := 101) (by decide +kernel)) (by decide +kernel)
theorem layX2_5 : u_lay RX2 TX2 5 ∈ GW := gw_t (List.mem_of_getElem? (i := 103) (by decide +kernel)) (by decide +kernel)
theorem layX2_6 : u_lay RX2 TX2 6 ∈ GW := gw_t (List.mem_of_getElem? (i := 105) (by decide +kernel)) (by decide +kernel)
theorem layX2_7 : u_lay RX2 TX2 7 ∈ GW := gw_t (List.mem_of_getElem? (i := 107) (by decide +kernel)) (by decide +kernel)
theorem layX2_8 : u_lay RX2 TX2 8 ∈ GW := gw_t (List.mem_of_getElem? (i := 109) (by decide +kernel)) (by decide +kernel)
theorem layX2_9 : u_lay RX2 TX2 9 ∈ GW := gw_t (List.mem_of_getElem? (i := 111) (by decide +kernel)) (by decide +kernel)
theorem layX2_10 : u_lay RX2 TX2 10 ∈ GW := gw_t (List.mem_of_getElem? (i := 113) (by decide +kernel)) (by decide +kernel)
theorem layX2_11 : u_lay RX2 TX2 11 ∈ GW := gw_t (List.mem_of_getElem? (i := 115) (by decide +kernel)) (by decide +kernel)
theorem layX2_12 : u_lay RX2 TX2 12 ∈ GW := gw_t (List.mem_of_getElem? (i := 117) (by decide +kernel)) (by decide +kernel)
theorem layX2_13 : u_lay RX2 TX2 13 ∈ GW := gw_t (List.mem_of_getElem? (i := 119) (by decide +kernel)) (by decide +kernel)
theorem layX2_14 : u_lay RX2 TX2 14 ∈ GW := gw_t (List.mem_of_getElem? (i := 121) (by decide +kernel)) (by decide +kernel)
theorem layX2_15 : u_lay RX2 TX2 15 ∈ GW := gw_t (List.mem_of_getElem? (i := 123) (by decide +kernel)) (by decide +kernel)
theorem inlX2 : ∀ k, k < 16 → u_lay RX2 TX2 k ∈ GW := fun k hk => match k, hk with | 0, _ => layX2_0 | 1, _ => layX2_1 | 2, _ => layX2_2 | 3, _ => layX2_3 | 4, _ => layX2_4 | 5, _ => layX2_5 | 6, _ => layX2_6 | 7, _ => layX2_7 | 8, _ => layX2_8 | 9, _ => layX2_9 | 10, _ => layX2_10 | 11, _ => layX2_11 | 12, _ => layX2_12 | 13, _ => layX2_13 | 14, _ => layX2_14 | 15, _ => layX2_15 | k + 16, hk => absurd hk (by omega)
theorem layX1_0 : u_lay RX1 TX1 0 ∈ GW := gw_t (List.mem_of_getElem? (i := 152) (by decide +kernel)) (by decide +kernel)
theorem layX1_1 : u_lay RX1 TX1 1 ∈ GW := gw_t (List.mem_of_getElem? (i := 154) (by decide +kernel)) (by decide +kernel)
theorem layX1_2 : u_lay RX1 TX1 2 ∈ GW := gw_t (List.mem_of_getElem? (i := 156) (by decide +kernel)) (by decide +kernel)
theorem layX1_3 : u_lay RX1 TX1 3 ∈ GW := gw_t (List.mem_of_getElem? (i := 158) (by decide +kernel)) (by decide +kernel)
theorem layX1_4 : u_lay RX1 TX1 4 ∈ GW := gw_t (List.mem_of_getElem? (i := 160) (by decide +kernel)) (by decide +kernel)
theorem layX1_5 : u_lay RX1 TX1 5 ∈ GW := gw_t (List.mem_of_getElem? (i := 162) (by decide +kernel)) (by decide +kernel)
theorem layX1_6 : u_lay RX1 TX1 6 ∈ GW := gw_t (List.mem_of_getElem? (i := 164) (by decide +kernel)) (by decide +kernel)
theorem layX1_7 : u_lay RX1 TX1 7 ∈ GW := gw_t (List.mem_of_getElem? (i := 166) (by decide +kernel)) (by decide +kernel)
theorem layX1_8 : u_lay RX1 TX1 8 ∈ GW := gw_t (List.mem_of_getElem? (i := 168) (by decide +kernel)) (by decide +kernel)
theorem layX1_9 : u_lay RX1 TX1 9 ∈ GW := gw_t (List.mem_of_getElem? (i := 170) (by decide +kernel)) (by decide +kernel)
theorem layX1_10 : u_lay RX1 TX1 10 ∈ GW := gw_t (List.mem_of_getElem? (i := 172) (by decide +kernel)) (by decide +kernel)
theorem layX1_11 : u_lay RX1 TX1 11 ∈ GW := gw_t (List.mem_of_getElem? (i := 174) (by decide +kernel)) (by decide +kernel)
theorem inlX1 : ∀ k, k < 12 → u_lay RX1 TX1 k ∈ GW := fun k hk => match k, hk with | 0, _ => layX1_0 | 1, _ => layX1_1 | 2, _ => layX1_2 | 3, _ => layX1_3 | 4, _ => layX1_4 | 5, _ => layX1_5 | 6, _ => layX1_6 | 7, _ => layX1_7 | 8, _ => layX1_8 | 9, _ => layX1_9 | 10, _ => layX1_10 | 11, _ => layX1_11 | k + 12, hk => absurd hk (by omega)
theorem layX5_0 : u_lay RX5 TX5 0 ∈ GW := gw_t (List.mem_of_getElem? (i := 243) (by decide +kernel)) (by decide +kernel)
theorem layX5_1 : u_lay RX5 TX5 1 ∈ GW := gw_t (List.mem_of_getElem? (i := 245) (by decide +kernel)) (by decide +kernel)
theorem inlX5 : ∀ k, k < 2 → u_lay RX5 TX5 k ∈ GW := fun k hk => match k, hk with | 0, _ => layX5_0 | 1, _ => layX5_1 | k + 2, hk => absurd hk (by omega)
theorem layX3_0 : u_lay RX3 TX3 0 ∈ GW := gw_t (List.mem_of_getElem? (i := 290) (by decide +kernel)) (by decide +kernel)
theorem layX3_1 : u_lay RX3 TX3 1 ∈ GW := gw_t (List.mem_of_getElem? (i := 292) (by decide +kernel)) (by decide +kernel)
theorem layX3_2 : u_lay RX3 TX3 2 ∈ GW := gw_t (List.mem_of_getElem? (i := 294) (by decide +kernel)) (by decide +kernel)
theorem layX3_3 : u_lay RX3 TX3 3 ∈ GW := gw_t (List.mem_of_getElem? (i := 296) (by decide +kernel)) (by decide +kernel)
theorem layX3_4 : u_lay RX3 TX3 4 ∈ GW := gw_t (List.mem_of_getElem? (i := 298) (by decide +kernel)) (by decide +kernel)
theorem layX3_5 : u_lay RX3 TX3 5 ∈ GW := gw_t (List.mem_of_getElem? (i := 300) (by decide +kernel)) (by decide +kernel)
theorem layX3_6 : u_lay RX3 TX3 6 ∈ GW := gw_t (List.mem_of_getElem? (i := 302) (by decide +kernel)) (by decide +kernel)
theorem layX3_7 : u_lay RX3 TX3 7 ∈ GW := gw_t (List.mem_of_getElem? (i := 304) (by decide +kernel)) (by decide +kernel)
theorem layX3_8 : u_lay RX3 TX3 8 ∈ GW := gw_t (List.mem_of_getElem? (i := 306) (by decide +kernel)) (by decide +kernel)
theorem layX3_9 : u_lay RX3 TX3 9 ∈ GW := gw_t (List.mem_of_getElem? (i := 308) (by decide +kernel)) (by decide +kernel)
theorem layX3_10 : u_lay RX3 TX3 10 ∈ GW := gw_t (List.mem_of_getElem? (i := 310) (by decide +kernel)) (by decide +kernel)
theorem layX3_11 : u_lay RX3 TX3 11 ∈ GW := gw_t (List.mem_of_getElem? (i := 312) (by decide +kernel)) (by decide +kernel)
theorem layX3_12 : u_lay RX3 TX3 12 ∈ GW := gw_t (List.mem_of_getElem? (i := 314) (by decide +kernel)) (by decide +kernel)
theorem layX3_13 : u_lay RX3 TX3 13 ∈ GW := gw_t (List.mem_of_getElem? (i := 316) (by decide +kernel)) (by decide +kernel)
theorem layX3_14 : u_lay RX3 TX3 14 ∈ GW := gw_t (List.mem_of_getElem? (i := 318) (by decide +kernel)) (by decide +kernel)
theorem layX3_15 : u_lay RX3 TX3 15 ∈ GW := gw_t (List.mem_of_getElem? (i := 320) (by decide +kernel)) (by decide +kernel)
theorem layX3_16 : u_lay RX3 TX3 16 ∈ GW := gw_t (List.mem_of_getElem? (i := 322) (by decide +kernel)) (by decide +kernel)
theorem layX3_17 : u_lay RX3 TX3 17 ∈ GW := gw_t (List.mem_of_getElem? (i := 324) (by decide +kernel)) (by decide +kernel)
theorem inlX3 : ∀ k, k < 18 → u_lay RX3 TX3 k ∈ GW := fun k hk => match k, hk with | 0, _ => layX3_0 | 1, _ => layX3_1 | 2, _ => layX3_2 | 3, _ => layX3_3 | 4, _ => layX3_4 | 5, _ => layX3_5 | 6, _ => layX3_6 | 7, _ => layX3_7 | 8, _ => layX3_8 | 9, _ => layX3_9 | 10, _ => layX3_10 | 11, _ => layX3_11 | 12, _ => layX3_12 | 13, _ => layX3_13 | 14, _ => layX3_14 | 15, _ => layX3_15 | 16, _ => layX3_16 | 17, _ => layX3_17 | k + 18, hk => absurd hk (by omega)
theorem layX4_0 : u_lay RX4 TX4 0 ∈ GW := gw_t (List.mem_of_getElem? (i := 337) (by decide +kernel)) (by decide +kernel)
theorem layX4_1 : u_lay RX4 TX4 1 ∈ GW := gw_t (List.mem_of_getElem? (i := 339) (by decide +kernel)) (by decide +kernel)
theorem layX4_2 : u_lay RX4 TX4 2 ∈ GW := gw_t (List.mem_of_getElem? (i := 341) (by decide +kernel)) (by decide +kernel)
theorem inlX4 : ∀ k, k < 3 → u_lay RX4 TX4 k ∈ GW := fun k hk => match k, hk with | 0, _ => layX4_0 | 1, _ => layX4_1 | 2, _ => layX4_2 | k + 3, hk => absurd hk (by omega)
theorem layX6_0 : u_lay RX6 TX6 0 ∈ GW := gw_t (List.mem_of_getElem? (i := 357) (by decide +kernel)) (by decide +kernel)
theorem layX6_1 : u_lay RX6 TX6 1 ∈ GW := gw_t (List.mem_of_getElem? (i := 359) (by decide +kernel)) (by decide +kernel)
theorem layX6_2 : u_lay RX6 TX6 2 ∈ GW := gw_t (List.mem_of_getElem? (i := 361) (by decide +kernel)) (by decide +kernel)
theorem layX6_3 : u_lay RX6 TX6 3 ∈ GW := gw_t (List.mem_of_getElem? (i := 363) (by decide +kernel)) (by decide +kernel)
theorem layX6_4 : u_lay RX6 TX6 4 ∈ GW := gw_t (List.mem_of_getElem? (i := 365) (by decide +kernel)) (by decide +kernel)
theorem layX6_5 : u_lay RX6 TX6 5 ∈ GW := gw_t (List.mem_of_getElem? (i := 367) (by decide +kernel)) (by decide +kernel)
theorem layX6_6 : u_lay RX6 TX6 6 ∈ GW := gw_t (List.mem_of_getElem? (i := 369) (by decide +kernel)) (by decide +kernel)
theorem layX6_7 : u_lay RX6 TX6 7 ∈ GW := gw_t (List.mem_of_getElem? (i := 371) (by decide +kernel)) (by decide +kernel)
theorem layX6_8 : u_lay RX6 TX6 8 ∈ GW := gw_t (List.mem_of_getElem? (i := 373) (by decide +kernel)) (by decide +kernel)
theorem layX6_9 : u_lay RX6 TX6 9 ∈ GW := gw_t (List.mem_of_getElem? (i := 375) (by decide +kernel)) (by decide +kernel)
theorem layX6_10 : u_lay RX6 TX6 10 ∈ GW := gw_t (List.mem_of_getElem? (i := 377) (by decide +kernel)) (by decide +kernel)
theorem layX6_11 : u_lay RX6 TX6 11 ∈ GW := gw_t (List.mem_of_getElem? (i := 379) (by decide +kernel)) (by decide +kernel)
theorem layX6_12 : u_lay RX6 TX6 12 ∈ GW := gw_t (List.mem_of_getElem? (i := 381) (by decide +kernel)) (by decide +kernel)
theorem inlX6 : ∀ k, k < 13 → u_lay RX6 TX6 k ∈ GW := fun k hk => match k, hk with | 0, _ => layX6_0 | 1, _ => layX6_1 | 2, _ => layX6_2 | 3, _ => layX6_3 | 4, _ => layX6_4 | 5, _ => layX6_5 | 6, _ => layX6_6 | 7, _ => layX6_7 | 8, _ => layX6_8 | 9, _ => layX6_9 | 10, _ => layX6_10 | 11, _ => layX6_11 | 12, _ => layX6_12 | k + 13, hk => absurd hk (by omega)
theorem layX7_0 : u_lay RX7 TX7 0 ∈ GW := gw_t (List.mem_of_getElem? (i := 1012) (by decide +kernel)) (by decide +kernel)
theorem layX7_1 : u_lay RX7 TX7 1 ∈ GW := gw_t (List.mem_of_getElem? (i := 1014) (by decide +kernel)) (by decide +kernel)
theorem layX7_2 : u_lay RX7 TX7 2 ∈ GW := gw_t (List.mem_of_getElem? (i := 1016) (by decide +kernel)) (by decide +kernel)
theorem layX7_3 : u_lay RX7 TX7 3 ∈ GW := gw_t (List.mem_of_getElem? (i := 1018) (by decide +kernel)) (by decide +kernel)
theorem layX7_4 : u_lay RX7 TX7 4 ∈ GW := gw_t (List.mem_of_getElem? (i := 1020) (by decide +kernel)) (by decide +kernel)
theorem layX7_5 : u_lay RX7 TX7 5 ∈ GW := gw_t (List.mem_of_getElem? (i := 1022) (by decide +kernel)) (by decide +kernel)
theorem layX7_6 : u_lay RX7 TX7 6 ∈ GW := gw_t (List.mem_of_getElem? (i := 1024) (by decide +kernel)) (by decide +kernel)
theorem layX7_7 : u_lay RX7 TX7 7 ∈ GW := gw_t (List.mem_of_getElem? (i := 1026) (by decide +kernel)) (by decide +kernel)
theorem layX7_8 : u_lay RX7 TX7 8 ∈ GW := gw_t (List.mem_of_getElem? (i := 1028) (by decide +kernel)) (by decide +kernel)
theorem layX7_9 : u_lay RX7 TX7 9 ∈ GW := gw_t (List.mem_of_getElem? (i := 1030) (by decide +kernel)) (by decide +kernel)
theorem layX7_10 : u_lay RX7 TX7 10 ∈ GW := gw_t (List.mem_of_getElem? (i := 1032) (by decide +kernel)) (by decide +kernel)
theorem layX7_11 : u_lay RX7 TX7 11 ∈ GW := gw_t (List.mem_of_getElem? (i := 1034) (by decide +kernel)) (by decide +kernel)
theorem layX7_12 : u_lay RX7 TX7 12 ∈ GW := gw_t (List.mem_of_getElem? (i := 1036) (by decide +kernel)) (by decide +kernel)
theorem layX7_13 : u_lay RX7 TX7 13 ∈ GW := gw_t (List.mem_of_getElem? (i := 1038) (by decide +kernel)) (by decide +kernel)
theorem layX7_14 : u_lay RX7 TX7 14 ∈ GW := gw_t (List.mem_of_getElem? (i := 1040) (by decide +kernel)) (by decide +kernel)
theorem layX7_15 : u_lay RX7 TX7 15 ∈ GW := gw_t (List.mem_of_getElem? (i := 1042) (by decide +kernel)) (by decide +kernel)
theorem layX7_16 : u_lay RX7 TX7 16 ∈ GW := gw_t (List.mem_of_getElem? (i := 1044) (by decide +kernel)) (by decide +kernel)
theorem layX7_17 : u_lay RX7 TX7 17 ∈ GW := gw_t (List.mem_of_getElem? (i := 1046) (by decide +kernel)) (by decide +kernel)
theorem layX7_18 : u_lay RX7 TX7 18 ∈ GW := gw_t (List.mem_of_getElem? (i := 1048) (by decide +kernel)) (by decide +kernel)
theorem layX7_19 : u_lay RX7 TX7 19 ∈ GW := gw_t (List.mem_of_getElem? (i := 1050) (by decide +kernel)) (by decide +kernel)
theorem layX7_20 : u_lay RX7 TX7 20 ∈ GW := gw_t (List.mem_of_getElem? (i := 1052) (by decide +kernel)) (by decide +kernel)
theorem layX7_21 : u_lay RX7 TX7 21 ∈ GW := gw_t (List.mem_of_getElem? (i := 1054) (by decide +kernel)) (by decide +kernel)
theorem layX7_22 : u_lay RX7 TX7 22 ∈ GW := gw_t (List.mem_of_getElem? (i := 1056) (by decide +kernel)) (by decide +kernel)
theorem layX7_23 : u_lay RX7 TX7 23 ∈ GW := gw_t (List.mem_of_getElem? (i := 1058) (by decide +kernel)) (by decide +kernel)
theorem layX7_24 : u_lay RX7 TX7 24 ∈ GW := gw_t (List.mem_of_getElem? (i := 1060) (by decide +kernel)) (by decide +kernel)
theorem layX7_25 : u_lay RX7 TX7 25 ∈ GW := gw_t (List.mem_of_getElem? (i := 1062) (by decide +kernel)) (by decide +kernel)
theorem layX7_26 : u_lay RX7 TX7 26 ∈ GW := gw_t (List.mem_of_getElem? (i := 1064) (by decide +kernel)) (by decide +kernel)
theorem layX7_27 : u_lay RX7 TX7 27 ∈ GW := gw_t (List.mem_of_getElem? (i := 1066) (by decide +kernel)) (by decide +kernel)
theorem layX7_28 : u_lay RX7 TX7 28 ∈ GW := gw_t (List.mem_of_getElem? (i := 1068) (by decide +kernel)) (by decide +kernel)
theorem layX7_29 : u_lay RX7 TX7 29 ∈ GW := gw_t (List.mem_of_getElem? (i := 1070) (by decide +kernel)) (by decide +kernel)
theorem layX7_30 : u_lay RX7 TX7 30 ∈ GW := gw_t (List.mem_of_getElem? (i := 1072) (by decide +kernel)) (by decide +kernel)
theorem layX7_31 : u_lay RX7 TX7 31 ∈ GW := gw_t (List.mem_of_getElem? (i := 1074) (by decide +kernel)) (by decide +kernel)
theorem layX7_32 : u_lay RX7 TX7 32 ∈ GW := gw_t (List.mem_of_getElem? (i := 1076) (by decide +kernel)) (by decide +kernel)
theorem layX7_33 : u_lay RX7 TX7 33 ∈ GW := gw_t (List.mem_of_getElem? (i := 1078) (by decide +kernel)) (by decide +kernel)
theorem layX7_34 : u_lay RX7 TX7 34 ∈ GW := gw_t (List.mem_of_getElem? (i := 1080) (by decide +kernel)) (by decide +kernel)
theorem layX7_35 : u_lay RX7 TX7 35 ∈ GW := gw_t (List.mem_of_getElem? (i := 1082) (by decide +kernel)) (by decide +kernel)
theorem layX7_36 : u_lay RX7 TX7 36 ∈ GW := gw_t (List.mem_of_getElem? (i := 1084) (by decide +kernel)) (by decide +kernel)
theorem layX7_37 : u_lay RX7 TX7 37 ∈ GW := gw_t (List.mem_of_getElem? (i := 1086) (by decide +kernel)) (by decide +kernel)
theorem layX7_38 : u_lay RX7 TX7 38 ∈ GW := gw_t (List.mem_of_getElem? (i := 1088) (by decide +kernel)) (by decide +kernel)
theorem layX7_39 : u_lay RX7 TX7 39 ∈ GW := gw_t (List.mem_of_getElem? (i := 1090) (by decide +kernel)) (by decide +kernel)
theorem layX7_40 : u_lay RX7 TX7 40 ∈ GW := gw_t (List.mem_of_getElem? (i := 1092) (by decide +kernel)) (by decide +kernel)
theorem layX7_41 : u_lay RX7 TX7 41 ∈ GW := gw_t (List.mem_of_getElem? (i := 1094) (by decide +kernel)) (by decide +kernel)
theorem layX7_42 : u_lay RX7 TX7 42 ∈ GW := gw_t (List.mem_of_getElem? (i := 1096) (by decide +kernel)) (by decide +kernel)
theorem layX7_43 : u_lay RX7 TX7 43 ∈ GW := gw_t (List.mem_of_getElem? (i := 1098) (by decide +kernel)) (by decide +kernel)
theorem layX7_44 : u_lay RX7 TX7 44 ∈ GW := gw_t (List.mem_of_getElem? (i := 1100) (by decide +kernel)) (by decide +kernel)
theorem layX7_45 : u_lay RX7 TX7 45 ∈ GW := gw_t (List.mem_of_getElem? (i := 1102) (by decide +kernel)) (by decide +kernel)
theorem layX7_46 : u_lay RX7 TX7 46 ∈ GW := gw_t (List.mem_of_getElem? (i := 1104) (by decide +kernel)) (by decide +kernel)
theorem layX7_47 : u_lay RX7 TX7 47 ∈ GW := gw_t (List.mem_of_getElem? (i := 1106) (by decide +kernel)) (by decide +kernel)
theorem layX7_48 : u_lay RX7 TX7 48 ∈ GW := gw_t (List.mem_of_getElem? (i := 1108) (by decide +kernel)) (by decide +kernel)
theorem layX7_49 : u_lay RX7 TX7 49 ∈ GW := gw_t (List.mem_of_getElem? (i := 1110) (by decide +kernel)) (by decide +kernel)
theorem layX7_50 : u_lay RX7 TX7 50 ∈ GW := gw_t (List.mem_of_getElem? (i := 1112) (by decide +kernel)) (by decide +kernel)
theorem layX7_51 : u_lay RX7 TX7 51 ∈ GW := gw_t (List.mem_of_getElem? (i := 1114) (by decide +kernel)) (by decide +kernel)
theorem layX7_52 : u_lay RX7 TX7 52 ∈ GW := gw_t (List.mem_of_getElem? (i := 1116) (by decide +kernel)) (by decide +kernel)
theorem layX7_53 : u_lay RX7 TX7 53 ∈ GW := gw_t (List.mem_of_getElem? (i := 1118) (by decide +kernel)) (by decide +kernel)
theorem layX7_54 : u_lay RX7 TX7 54 ∈ GW := gw_t (List.mem_of_getElem? (i := 1120) (by decide +kernel)) (by decide +kernel)
theorem layX7_55 : u_lay RX7 TX7 55 ∈ GW := gw_t (List.mem_of_getElem? (i := 1122) (by decide +kernel)) (by decide +kernel)
theorem inlX7 : ∀ k, k < 56 → u_lay RX7 TX7 k ∈ GW := fun k hk => match k, hk with | 0, _ => layX7_0 | 1, _ => layX7_1 | 2, _ => layX7_2 | 3, _ => layX7_3 | 4, _ => layX7_4 | 5, _ => layX7_5 | 6, _ => layX7_6 | 7, _ => layX7_7 | 8, _ => layX7_8 | 9, _ => layX7_9 | 10, _ => layX7_10 | 11, _ => layX7_11 | 12, _ => layX7_12 | 13, _ => layX7_13 | 14, _ => layX7_14 | 15, _ => layX7_15 | 16, _ => layX7_16 | 17, _ => layX7_17 | 18, _ => layX7_18 | 19, _ => layX7_19 | 20, _ => layX7_20 | 21, _ => layX7_21 | 22, _ => layX7_22 | 23, _ => layX7_23 | 24, _ => layX7_24 | 25, _ => layX7_25 | 26, _ => layX7_26 | 27, _ => layX7_27 | 28, _ => layX7_28 | 29, _ => layX7_29 | 30, _ => layX7_30 | 31, _ => layX7_31 | 32, _ => layX7_32 | 33, _ => layX7_33 | 34, _ => layX7_34 | 35, _ => layX7_35 | 36, _ => layX7_36 | 37, _ => layX7_37 | 38, _ => layX7_38 | 39, _ => layX7_39 | 40, _ => layX7_40 | 41, _ => layX7_41 | 42, _ => layX7_42 | 43, _ => layX7_43 | 44, _ => layX7_44 | 45, _ => layX7_45 | 46, _ => layX7_46 | 47, _ => layX7_47 | 48, _ => layX7_48 | 49, _ => layX7_49 | 50, _ => layX7_50 | 51, _ => layX7_51 | 52, _ => layX7_52 | 53, _ => layX7_53 | 54, _ => layX7_54 | 55, _ => layX7_55 | k + 56, hk => absurd hk (by omega)
