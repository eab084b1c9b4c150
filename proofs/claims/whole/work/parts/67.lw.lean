/-! words and decode rows of the law -/
set_option maxRecDepth 100000 in
theorem clL_7 : Cond.classLink R_law 7 RX7 ∈ vTbl := vTm (List.mem_of_getElem? (i := 92) (by decide +kernel)) (by decide +kernel)
set_option maxRecDepth 100000 in
theorem lkL_9 : Cond.methodLink R_law 9 yX7_init ∈ vTbl := vTm (List.mem_of_getElem? (i := 94) (by decide +kernel)) (by decide +kernel)
set_option maxRecDepth 100000 in
theorem lkL_13 : Cond.methodLink R_law 13 yX7_type ∈ vTbl := vTm (List.mem_of_getElem? (i := 372) (by decide +kernel)) (by decide +kernel)
set_option maxRecDepth 100000 in
theorem lkL_18 : Cond.methodLink R_law 18 yX7_wipe ∈ vTbl := vTm (List.mem_of_getElem? (i := 424) (by decide +kernel)) (by decide +kernel)
set_option maxRecDepth 100000 in
theorem lkL_23 : Cond.methodLink R_law 23 yX7_undo ∈ vTbl := vTm (List.mem_of_getElem? (i := 428) (by decide +kernel)) (by decide +kernel)
set_option maxRecDepth 100000 in
theorem lkL_27 : Cond.methodLink R_law 27 yX7_fault ∈ vTbl := vTm (List.mem_of_getElem? (i := 432) (by decide +kernel)) (by decide +kernel)
set_option maxRecDepth 100000 in
theorem lkL_31 : Cond.methodLink R_law 31 yX7_floor ∈ vTbl := vTm (List.mem_of_getElem? (i := 436) (by decide +kernel)) (by decide +kernel)
set_option maxRecDepth 100000 in
theorem lkL_35 : Cond.methodLink R_law 35 yX7_basket ∈ vTbl := vTm (List.mem_of_getElem? (i := 444) (by decide +kernel)) (by decide +kernel)
set_option maxRecDepth 100000 in
theorem lkL_39 : Cond.methodLink R_law 39 yX7_set ∈ vTbl := vTm (List.mem_of_getElem? (i := 456) (by decide +kernel)) (by decide +kernel)
set_option maxRecDepth 100000 in
theorem lkL_43 : Cond.methodLink R_law 43 yX7_wind ∈ vTbl := vTm (List.mem_of_getElem? (i := 460) (by decide +kernel)) (by decide +kernel)
set_option maxRecDepth 100000 in
theorem lkL_47 : Cond.methodLink R_law 47 yX7_sunday ∈ vTbl := vTm (List.mem_of_getElem? (i := 474) (by decide +kernel)) (by decide +kernel)
set_option maxRecDepth 100000 in
theorem lkL_51 : Cond.methodLink R_law 51 yX7_back ∈ vTbl := vTm (List.mem_of_getElem? (i := 478) (by decide +kernel)) (by decide +kernel)
set_option maxRecDepth 100000 in
theorem lkL_55 : Cond.methodLink R_law 55 yX7_read ∈ vTbl := vTm (List.mem_of_getElem? (i := 482) (by decide +kernel)) (by decide +kernel)
set_option maxRecDepth 100000 in
theorem lkL_59 : Cond.methodLink R_law 59 yX7_at ∈ vTbl := vTm (List.mem_of_getElem? (i := 501) (by decide +kernel)) (by decide +kernel)
set_option maxRecDepth 100000 in
theorem lkL_64 : Cond.methodLink R_law 64 yX7_note ∈ vTbl := vTm (List.mem_of_getElem? (i := 552) (by decide +kernel)) (by decide +kernel)
set_option maxRecDepth 100000 in
theorem lkL_68 : Cond.methodLink R_law 68 yX7_comes ∈ vTbl := vTm (List.mem_of_getElem? (i := 565) (by decide +kernel)) (by decide +kernel)
set_option maxRecDepth 100000 in
theorem lkL_72 : Cond.methodLink R_law 72 yX7_bites ∈ vTbl := vTm (List.mem_of_getElem? (i := 569) (by decide +kernel)) (by decide +kernel)
set_option maxRecDepth 100000 in
theorem lkL_76 : Cond.methodLink R_law 76 yX7_famine ∈ vTbl := vTm (List.mem_of_getElem? (i := 573) (by decide +kernel)) (by decide +kernel)
set_option maxRecDepth 100000 in
theorem lkL_81 : Cond.methodLink R_law 81 yX7_first ∈ vTbl := vTm (List.mem_of_getElem? (i := 585) (by decide +kernel)) (by decide +kernel)
set_option maxRecDepth 100000 in
theorem lkL_85 : Cond.methodLink R_law 85 yX7_greedy ∈ vTbl := vTm (List.mem_of_getElem? (i := 589) (by decide +kernel)) (by decide +kernel)
set_option maxRecDepth 100000 in
theorem lkL_89 : Cond.methodLink R_law 89 yX7_send ∈ vTbl := vTm (List.mem_of_getElem? (i := 601) (by decide +kernel)) (by decide +kernel)
set_option maxRecDepth 100000 in
theorem lkL_93 : Cond.methodLink R_law 93 yX7_loaf ∈ vTbl := vTm (List.mem_of_getElem? (i := 609) (by decide +kernel)) (by decide +kernel)
set_option maxRecDepth 100000 in
theorem lkL_97 : Cond.methodLink R_law 97 yX7_feed ∈ vTbl := vTm (List.mem_of_getElem? (i := 620) (by decide +kernel)) (by decide +kernel)
set_option maxRecDepth 100000 in
theorem lkL_101 : Cond.methodLink R_law 101 yX7_still ∈ vTbl := vTm (List.mem_of_getElem? (i := 650) (by decide +kernel)) (by decide +kernel)
set_option maxRecDepth 100000 in
theorem lkL_105 : Cond.methodLink R_law 105 yX7_seen ∈ vTbl := vTm (List.mem_of_getElem? (i := 662) (by decide +kernel)) (by decide +kernel)
set_option maxRecDepth 100000 in
theorem lkL_109 : Cond.methodLink R_law 109 yX7_forget ∈ vTbl := vTm (List.mem_of_getElem? (i := 670) (by decide +kernel)) (by decide +kernel)
set_option maxRecDepth 100000 in
theorem lkL_113 : Cond.methodLink R_law 113 yX7_never ∈ vTbl := vTm (List.mem_of_getElem? (i := 674) (by decide +kernel)) (by decide +kernel)
set_option maxRecDepth 100000 in
theorem lkL_117 : Cond.methodLink R_law 117 yX7_was ∈ vTbl := vTm (List.mem_of_getElem? (i := 683) (by decide +kernel)) (by decide +kernel)
set_option maxRecDepth 100000 in
theorem lkL_121 : Cond.methodLink R_law 121 yX7_ask ∈ vTbl := vTm (List.mem_of_getElem? (i := 696) (by decide +kernel)) (by decide +kernel)
set_option maxRecDepth 100000 in
theorem lkL_125 : Cond.methodLink R_law 125 yX7_gust ∈ vTbl := vTm (List.mem_of_getElem? (i := 707) (by decide +kernel)) (by decide +kernel)
set_option maxRecDepth 100000 in
theorem lkL_130 : Cond.methodLink R_law 130 yX7_week ∈ vTbl := vTm (List.mem_of_getElem? (i := 718) (by decide +kernel)) (by decide +kernel)
set_option maxRecDepth 100000 in
theorem lkL_134 : Cond.methodLink R_law 134 yX7_sheet ∈ vTbl := vTm (List.mem_of_getElem? (i := 726) (by decide +kernel)) (by decide +kernel)
set_option maxRecDepth 100000 in
theorem lkL_138 : Cond.methodLink R_law 138 yX7_lose ∈ vTbl := vTm (List.mem_of_getElem? (i := 737) (by decide +kernel)) (by decide +kernel)
set_option maxRecDepth 100000 in
theorem lkL_142 : Cond.methodLink R_law 142 yX7_put ∈ vTbl := vTm (List.mem_of_getElem? (i := 741) (by decide +kernel)) (by decide +kernel)
set_option maxRecDepth 100000 in
theorem lkL_147 : Cond.methodLink R_law 147 yX7_get ∈ vTbl := vTm (List.mem_of_getElem? (i := 758) (by decide +kernel)) (by decide +kernel)
set_option maxRecDepth 100000 in
theorem lkL_151 : Cond.methodLink R_law 151 yX7_copy ∈ vTbl := vTm (List.mem_of_getElem? (i := 763) (by decide +kernel)) (by decide +kernel)
set_option maxRecDepth 100000 in
theorem lkL_156 : Cond.methodLink R_law 156 yX7_write ∈ vTbl := vTm (List.mem_of_getElem? (i := 768) (by decide +kernel)) (by decide +kernel)
set_option maxRecDepth 100000 in
theorem lkL_160 : Cond.methodLink R_law 160 yX7_count ∈ vTbl := vTm (List.mem_of_getElem? (i := 775) (by decide +kernel)) (by decide +kernel)
set_option maxRecDepth 100000 in
theorem lkL_164 : Cond.methodLink R_law 164 yX7_digest ∈ vTbl := vTm (List.mem_of_getElem? (i := 779) (by decide +kernel)) (by decide +kernel)
set_option maxRecDepth 100000 in
theorem clL_10 : Cond.classLink R_law 10 RX8 ∈ vTbl := vTm (List.mem_of_getElem? (i := 820) (by decide +kernel)) (by decide +kernel)
set_option maxRecDepth 100000 in
theorem lkL_12 : Cond.methodLink R_law 12 yX8_init ∈ vTbl := vTm (List.mem_of_getElem? (i := 822) (by decide +kernel)) (by decide +kernel)
set_option maxRecDepth 100000 in
theorem lkL_17 : Cond.methodLink R_law 17 yX8_type ∈ vTbl := vTm (List.mem_of_getElem? (i := 972) (by decide +kernel)) (by decide +kernel)
set_option maxRecDepth 100000 in
theorem lkL_22 : Cond.methodLink R_law 22 yX8_wipe ∈ vTbl := vTm (List.mem_of_getElem? (i := 982) (by decide +kernel)) (by decide +kernel)
set_option maxRecDepth 100000 in
theorem lkL_26 : Cond.methodLink R_law 26 yX8_undo ∈ vTbl := vTm (List.mem_of_getElem? (i := 986) (by decide +kernel)) (by decide +kernel)
set_option maxRecDepth 100000 in
theorem lkL_30 : Cond.methodLink R_law 30 yX8_fault ∈ vTbl := vTm (List.mem_of_getElem? (i := 990) (by decide +kernel)) (by decide +kernel)
set_option maxRecDepth 100000 in
theorem lkL_34 : Cond.methodLink R_law 34 yX8_floor ∈ vTbl := vTm (List.mem_of_getElem? (i := 1022) (by decide +kernel)) (by decide +kernel)
set_option maxRecDepth 100000 in
theorem lkL_38 : Cond.methodLink R_law 38 yX8_basket ∈ vTbl := vTm (List.mem_of_getElem? (i := 1038) (by decide +kernel)) (by decide +kernel)
set_option maxRecDepth 100000 in
theorem lkL_42 : Cond.methodLink R_law 42 yX8_set ∈ vTbl := vTm (List.mem_of_getElem? (i := 1050) (by decide +kernel)) (by decide +kernel)
set_option maxRecDepth 100000 in
theorem lkL_46 : Cond.methodLink R_law 46 yX8_wind ∈ vTbl := vTm (List.mem_of_getElem? (i := 1054) (by decide +kernel)) (by decide +kernel)
set_option maxRecDepth 100000 in
theorem lkL_50 : Cond.methodLink R_law 50 yX8_sunday ∈ vTbl := vTm (List.mem_of_getElem? (i := 1061) (by decide +kernel)) (by decide +kernel)
set_option maxRecDepth 100000 in
theorem lkL_54 : Cond.methodLink R_law 54 yX8_back ∈ vTbl := vTm (List.mem_of_getElem? (i := 1065) (by decide +kernel)) (by decide +kernel)
set_option maxRecDepth 100000 in
theorem lkL_58 : Cond.methodLink R_law 58 yX8_read ∈ vTbl := vTm (List.mem_of_getElem? (i := 1069) (by decide +kernel)) (by decide +kernel)
set_option maxRecDepth 100000 in
theorem lkL_63 : Cond.methodLink R_law 63 yX8_at ∈ vTbl := vTm (List.mem_of_getElem? (i := 1081) (by decide +kernel)) (by decide +kernel)
set_option maxRecDepth 100000 in
theorem lkL_67 : Cond.methodLink R_law 67 yX8_note ∈ vTbl := vTm (List.mem_of_getElem? (i := 1131) (by decide +kernel)) (by decide +kernel)
set_option maxRecDepth 100000 in
theorem lkL_71 : Cond.methodLink R_law 71 yX8_comes ∈ vTbl := vTm (List.mem_of_getElem? (i := 1139) (by decide +kernel)) (by decide +kernel)
set_option maxRecDepth 100000 in
theorem lkL_75 : Cond.methodLink R_law 75 yX8_bites ∈ vTbl := vTm (List.mem_of_getElem? (i := 1147) (by decide +kernel)) (by decide +kernel)
set_option maxRecDepth 100000 in
theorem lkL_80 : Cond.methodLink R_law 80 yX8_famine ∈ vTbl := vTm (List.mem_of_getElem? (i := 1155) (by decide +kernel)) (by decide +kernel)
set_option maxRecDepth 100000 in
theorem lkL_84 : Cond.methodLink R_law 84 yX8_first ∈ vTbl := vTm (List.mem_of_getElem? (i := 1167) (by decide +kernel)) (by decide +kernel)
set_option maxRecDepth 100000 in
theorem lkL_88 : Cond.methodLink R_law 88 yX8_greedy ∈ vTbl := vTm (List.mem_of_getElem? (i := 1175) (by decide +kernel)) (by decide +kernel)
set_option maxRecDepth 100000 in
theorem lkL_92 : Cond.methodLink R_law 92 yX8_send ∈ vTbl := vTm (List.mem_of_getElem? (i := 1183) (by decide +kernel)) (by decide +kernel)
set_option maxRecDepth 100000 in
theorem lkL_96 : Cond.methodLink R_law 96 yX8_loaf ∈ vTbl := vTm (List.mem_of_getElem? (i := 1191) (by decide +kernel)) (by decide +kernel)
set_option maxRecDepth 100000 in
theorem lkL_100 : Cond.methodLink R_law 100 yX8_feed ∈ vTbl := vTm (List.mem_of_getElem? (i := 1199) (by decide +kernel)) (by decide +kernel)
set_option maxRecDepth 100000 in
theorem lkL_104 : Cond.methodLink R_law 104 yX8_still ∈ vTbl := vTm (List.mem_of_getElem? (i := 1215) (by decide +kernel)) (by decide +kernel)
set_option maxRecDepth 100000 in
theorem lkL_108 : Cond.methodLink R_law 108 yX8_seen ∈ vTbl := vTm (List.mem_of_getElem? (i := 1223) (by decide +kernel)) (by decide +kernel)
set_option maxRecDepth 100000 in
theorem lkL_112 : Cond.methodLink R_law 112 yX8_forget ∈ vTbl := vTm (List.mem_of_getElem? (i := 1227) (by decide +kernel)) (by decide +kernel)
set_option maxRecDepth 100000 in
theorem lkL_116 : Cond.methodLink R_law 116 yX8_never ∈ vTbl := vTm (List.mem_of_getElem? (i := 1231) (by decide +kernel)) (by decide +kernel)
set_option maxRecDepth 100000 in
theorem lkL_120 : Cond.methodLink R_law 120 yX8_was ∈ vTbl := vTm (List.mem_of_getElem? (i := 1243) (by decide +kernel)) (by decide +kernel)
set_option maxRecDepth 100000 in
theorem lkL_124 : Cond.methodLink R_law 124 yX8_ask ∈ vTbl := vTm (List.mem_of_getElem? (i := 1251) (by decide +kernel)) (by decide +kernel)
set_option maxRecDepth 100000 in
theorem lkL_129 : Cond.methodLink R_law 129 yX8_gust ∈ vTbl := vTm (List.mem_of_getElem? (i := 1259) (by decide +kernel)) (by decide +kernel)
set_option maxRecDepth 100000 in
theorem lkL_133 : Cond.methodLink R_law 133 yX8_week ∈ vTbl := vTm (List.mem_of_getElem? (i := 1274) (by decide +kernel)) (by decide +kernel)
set_option maxRecDepth 100000 in
theorem lkL_137 : Cond.methodLink R_law 137 yX8_sheet ∈ vTbl := vTm (List.mem_of_getElem? (i := 1287) (by decide +kernel)) (by decide +kernel)
set_option maxRecDepth 100000 in
theorem lkL_141 : Cond.methodLink R_law 141 yX8_lose ∈ vTbl := vTm (List.mem_of_getElem? (i := 1291) (by decide +kernel)) (by decide +kernel)
set_option maxRecDepth 100000 in
theorem lkL_146 : Cond.methodLink R_law 146 yX8_put ∈ vTbl := vTm (List.mem_of_getElem? (i := 1295) (by decide +kernel)) (by decide +kernel)
set_option maxRecDepth 100000 in
theorem lkL_150 : Cond.methodLink R_law 150 yX8_get ∈ vTbl := vTm (List.mem_of_getElem? (i := 1307) (by decide +kernel)) (by decide +kernel)
set_option maxRecDepth 100000 in
theorem lkL_155 : Cond.methodLink R_law 155 yX8_copy ∈ vTbl := vTm (List.mem_of_getElem? (i := 1312) (by decide +kernel)) (by decide +kernel)
set_option maxRecDepth 100000 in
theorem lkL_159 : Cond.methodLink R_law 159 yX8_write ∈ vTbl := vTm (List.mem_of_getElem? (i := 1316) (by decide +kernel)) (by decide +kernel)
set_option maxRecDepth 100000 in
theorem lkL_163 : Cond.methodLink R_law 163 yX8_count ∈ vTbl := vTm (List.mem_of_getElem? (i := 1320) (by decide +kernel)) (by decide +kernel)
set_option maxRecDepth 100000 in
theorem lkL_168 : Cond.methodLink R_law 168 yX8_digest ∈ vTbl := vTm (List.mem_of_getElem? (i := 1328) (by decide +kernel)) (by decide +kernel)
theorem dL_0 : decode code 0 = .ok (.new 7, 3) := by decide +kernel
theorem dL_3 : decode code 3 = .ok (.dup, 1) := by decide +kernel
theorem dL_4 : decode code 4 = .ok (.invokespecial 9, 3) := by decide +kernel
theorem dL_7 : decode code 7 = .ok (.astore_n 1, 1) := by decide +kernel
theorem dL_8 : decode code 8 = .ok (.new 10, 3) := by decide +kernel
theorem dL_11 : decode code 11 = .ok (.dup, 1) := by decide +kernel
theorem dL_12 : decode code 12 = .ok (.invokespecial 12, 3) := by decide +kernel
theorem dL_15 : decode code 15 = .ok (.astore_n 2, 1) := by decide +kernel
theorem dL_16 : decode code 16 = .ok (.iconst 0, 1) := by decide +kernel
theorem dL_17 : decode code 17 = .ok (.istore_n 3, 1) := by decide +kernel
theorem dL_18 : decode code 18 = .ok (.iload_n 3, 1) := by decide +kernel
theorem dL_19 : decode code 19 = .ok (.aload_n 0, 1) := by decide +kernel
theorem dL_20 : decode code 20 = .ok (.arraylength, 1) := by decide +kernel
theorem dL_21 : decode code 21 = .ok (.bipush 6, 2) := by decide +kernel
theorem dL_23 : decode code 23 = .ok (.isub, 1) := by decide +kernel
theorem dL_24 : decode code 24 = .ok (.if_icmp .gt 1291, 3) := by decide +kernel
theorem dL_27 : decode code 27 = .ok (.aload_n 0, 1) := by decide +kernel
theorem dL_28 : decode code 28 = .ok (.iload_n 3, 1) := by decide +kernel
theorem dL_29 : decode code 29 = .ok (.iaload, 1) := by decide +kernel
theorem dL_30 : decode code 30 = .ok (.bipush 63, 2) := by decide +kernel
theorem dL_32 : decode code 32 = .ok (.iand, 1) := by decide +kernel
theorem dL_33 : decode code 33 = .ok (.tableswitch 1276 0 36 #[163, 196, 219, 242, 265, 298, 331, 364, 387, 410, 433, 456, 499, 532, 555, 588, 601, 624, 637, 670, 703, 736, 759, 802, 815, 828, 861, 884, 938, 981, 1024, 1047, 1100, 1143, 1206, 1239, 1262], 163) := by decide +kernel
theorem dL_196 : decode code 196 = .ok (.aload_n 1, 1) := by decide +kernel
theorem dL_197 : decode code 197 = .ok (.aload_n 0, 1) := by decide +kernel
theorem dL_198 : decode code 198 = .ok (.iload_n 3, 1) := by decide +kernel
theorem dL_199 : decode code 199 = .ok (.iconst 1, 1) := by decide +kernel
theorem dL_200 : decode code 200 = .ok (.iadd, 1) := by decide +kernel
theorem dL_201 : decode code 201 = .ok (.iaload, 1) := by decide +kernel
theorem dL_202 : decode code 202 = .ok (.aload_n 0, 1) := by decide +kernel
theorem dL_203 : decode code 203 = .ok (.iload_n 3, 1) := by decide +kernel
theorem dL_204 : decode code 204 = .ok (.iconst 2, 1) := by decide +kernel
theorem dL_205 : decode code 205 = .ok (.iadd, 1) := by decide +kernel
theorem dL_206 : decode code 206 = .ok (.iaload, 1) := by decide +kernel
theorem dL_207 : decode code 207 = .ok (.invokevirtual 13, 3) := by decide +kernel
theorem dL_210 : decode code 210 = .ok (.aload_n 2, 1) := by decide +kernel
theorem dL_211 : decode code 211 = .ok (.aload_n 0, 1) := by decide +kernel
theorem dL_212 : decode code 212 = .ok (.iload_n 3, 1) := by decide +kernel
theorem dL_213 : decode code 213 = .ok (.iconst 1, 1) := by decide +kernel
theorem dL_214 : decode code 214 = .ok (.iadd, 1) := by decide +kernel
theorem dL_215 : decode code 215 = .ok (.iaload, 1) := by decide +kernel
theorem dL_216 : decode code 216 = .ok (.aload_n 0, 1) := by decide +kernel
theorem dL_217 : decode code 217 = .ok (.iload_n 3, 1) := by decide +kernel
theorem dL_218 : decode code 218 = .ok (.iconst 2, 1) := by decide +kernel
theorem dL_219 : decode code 219 = .ok (.iadd, 1) := by decide +kernel
theorem dL_220 : decode code 220 = .ok (.iaload, 1) := by decide +kernel
theorem dL_221 : decode code 221 = .ok (.invokevirtual 17, 3) := by decide +kernel
theorem dL_224 : decode code 224 = .ok (.if_icmp .eq 1085, 3) := by decide +kernel
theorem dL_227 : decode code 227 = .ok (.iconst 0, 1) := by decide +kernel
theorem dL_228 : decode code 228 = .ok (.ireturn, 1) := by decide +kernel
theorem dL_229 : decode code 229 = .ok (.aload_n 1, 1) := by decide +kernel
theorem dL_230 : decode code 230 = .ok (.aload_n 0, 1) := by decide +kernel
theorem dL_231 : decode code 231 = .ok (.iload_n 3, 1) := by decide +kernel
theorem dL_232 : decode code 232 = .ok (.iconst 1, 1) := by decide +kernel
theorem dL_233 : decode code 233 = .ok (.iadd, 1) := by decide +kernel
theorem dL_234 : decode code 234 = .ok (.iaload, 1) := by decide +kernel
theorem dL_235 : decode code 235 = .ok (.invokevirtual 18, 3) := by decide +kernel
theorem dL_238 : decode code 238 = .ok (.aload_n 2, 1) := by decide +kernel
theorem dL_239 : decode code 239 = .ok (.aload_n 0, 1) := by decide +kernel
theorem dL_240 : decode code 240 = .ok (.iload_n 3, 1) := by decide +kernel
theorem dL_241 : decode code 241 = .ok (.iconst 1, 1) := by decide +kernel
theorem dL_242 : decode code 242 = .ok (.iadd, 1) := by decide +kernel
theorem dL_243 : decode code 243 = .ok (.iaload, 1) := by decide +kernel
theorem dL_244 : decode code 244 = .ok (.invokevirtual 22, 3) := by decide +kernel
theorem dL_247 : decode code 247 = .ok (.if_icmp .eq 1062, 3) := by decide +kernel
theorem dL_250 : decode code 250 = .ok (.iconst 0, 1) := by decide +kernel
theorem dL_251 : decode code 251 = .ok (.ireturn, 1) := by decide +kernel
theorem dL_252 : decode code 252 = .ok (.aload_n 1, 1) := by decide +kernel
theorem dL_253 : decode code 253 = .ok (.aload_n 0, 1) := by decide +kernel
theorem dL_254 : decode code 254 = .ok (.iload_n 3, 1) := by decide +kernel
theorem dL_255 : decode code 255 = .ok (.iconst 1, 1) := by decide +kernel
theorem dL_256 : decode code 256 = .ok (.iadd, 1) := by decide +kernel
theorem dL_257 : decode code 257 = .ok (.iaload, 1) := by decide +kernel
theorem dL_258 : decode code 258 = .ok (.invokevirtual 23, 3) := by decide +kernel
theorem dL_261 : decode code 261 = .ok (.aload_n 2, 1) := by decide +kernel
theorem dL_262 : decode code 262 = .ok (.aload_n 0, 1) := by decide +kernel
theorem dL_263 : decode code 263 = .ok (.iload_n 3, 1) := by decide +kernel
theorem dL_264 : decode code 264 = .ok (.iconst 1, 1) := by decide +kernel
theorem dL_265 : decode code 265 = .ok (.iadd, 1) := by decide +kernel
theorem dL_266 : decode code 266 = .ok (.iaload, 1) := by decide +kernel
theorem dL_267 : decode code 267 = .ok (.invokevirtual 26, 3) := by decide +kernel
theorem dL_270 : decode code 270 = .ok (.if_icmp .eq 1039, 3) := by decide +kernel
theorem dL_273 : decode code 273 = .ok (.iconst 0, 1) := by decide +kernel
theorem dL_274 : decode code 274 = .ok (.ireturn, 1) := by decide +kernel
theorem dL_275 : decode code 275 = .ok (.aload_n 1, 1) := by decide +kernel
theorem dL_276 : decode code 276 = .ok (.aload_n 0, 1) := by decide +kernel
theorem dL_277 : decode code 277 = .ok (.iload_n 3, 1) := by decide +kernel
theorem dL_278 : decode code 278 = .ok (.iconst 1, 1) := by decide +kernel
theorem dL_279 : decode code 279 = .ok (.iadd, 1) := by decide +kernel
theorem dL_280 : decode code 280 = .ok (.iaload, 1) := by decide +kernel
theorem dL_281 : decode code 281 = .ok (.invokevirtual 27, 3) := by decide +kernel
theorem dL_284 : decode code 284 = .ok (.aload_n 2, 1) := by decide +kernel
theorem dL_285 : decode code 285 = .ok (.aload_n 0, 1) := by decide +kernel
theorem dL_286 : decode code 286 = .ok (.iload_n 3, 1) := by decide +kernel
theorem dL_287 : decode code 287 = .ok (.iconst 1, 1) := by decide +kernel
theorem dL_288 : decode code 288 = .ok (.iadd, 1) := by decide +kernel
theorem dL_289 : decode code 289 = .ok (.iaload, 1) := by decide +kernel
theorem dL_290 : decode code 290 = .ok (.invokevirtual 30, 3) := by decide +kernel
theorem dL_293 : decode code 293 = .ok (.if_icmp .eq 1016, 3) := by decide +kernel
theorem dL_296 : decode code 296 = .ok (.iconst 0, 1) := by decide +kernel
theorem dL_297 : decode code 297 = .ok (.ireturn, 1) := by decide +kernel
theorem dL_298 : decode code 298 = .ok (.aload_n 1, 1) := by decide +kernel
theorem dL_299 : decode code 299 = .ok (.aload_n 0, 1) := by decide +kernel
theorem dL_300 : decode code 300 = .ok (.iload_n 3, 1) := by decide +kernel
theorem dL_301 : decode code 301 = .ok (.iconst 1, 1) := by decide +kernel
theorem dL_302 : decode code 302 = .ok (.iadd, 1) := by decide +kernel
theorem dL_303 : decode code 303 = .ok (.iaload, 1) := by decide +kernel
theorem dL_304 : decode code 304 = .ok (.aload_n 0, 1) := by decide +kernel
theorem dL_305 : decode code 305 = .ok (.iload_n 3, 1) := by decide +kernel
theorem dL_306 : decode code 306 = .ok (.iconst 2, 1) := by decide +kernel
theorem dL_307 : decode code 307 = .ok (.iadd, 1) := by decide +kernel
theorem dL_308 : decode code 308 = .ok (.iaload, 1) := by decide +kernel
theorem dL_309 : decode code 309 = .ok (.invokevirtual 31, 3) := by decide +kernel
theorem dL_312 : decode code 312 = .ok (.aload_n 2, 1) := by decide +kernel
theorem dL_313 : decode code 313 = .ok (.aload_n 0, 1) := by decide +kernel
theorem dL_314 : decode code 314 = .ok (.iload_n 3, 1) := by decide +kernel
theorem dL_315 : decode code 315 = .ok (.iconst 1, 1) := by decide +kernel
theorem dL_316 : decode code 316 = .ok (.iadd, 1) := by decide +kernel
theorem dL_317 : decode code 317 = .ok (.iaload, 1) := by decide +kernel
theorem dL_318 : decode code 318 = .ok (.aload_n 0, 1) := by decide +kernel
theorem dL_319 : decode code 319 = .ok (.iload_n 3, 1) := by decide +kernel
theorem dL_320 : decode code 320 = .ok (.iconst 2, 1) := by decide +kernel
theorem dL_321 : decode code 321 = .ok (.iadd, 1) := by decide +kernel
theorem dL_322 : decode code 322 = .ok (.iaload, 1) := by decide +kernel
theorem dL_323 : decode code 323 = .ok (.invokevirtual 34, 3) := by decide +kernel
theorem dL_326 : decode code 326 = .ok (.if_icmp .eq 983, 3) := by decide +kernel
theorem dL_329 : decode code 329 = .ok (.iconst 0, 1) := by decide +kernel
theorem dL_330 : decode code 330 = .ok (.ireturn, 1) := by decide +kernel
theorem dL_331 : decode code 331 = .ok (.aload_n 1, 1) := by decide +kernel
theorem dL_332 : decode code 332 = .ok (.aload_n 0, 1) := by decide +kernel
theorem dL_333 : decode code 333 = .ok (.iload_n 3, 1) := by decide +kernel
theorem dL_334 : decode code 334 = .ok (.iconst 1, 1) := by decide +kernel
theorem dL_335 : decode code 335 = .ok (.iadd, 1) := by decide +kernel
theorem dL_336 : decode code 336 = .ok (.iaload, 1) := by decide +kernel
theorem dL_337 : decode code 337 = .ok (.aload_n 0, 1) := by decide +kernel
theorem dL_338 : decode code 338 = .ok (.iload_n 3, 1) := by decide +kernel
theorem dL_339 : decode code 339 = .ok (.iconst 2, 1) := by decide +kernel
theorem dL_340 : decode code 340 = .ok (.iadd, 1) := by decide +kernel
theorem dL_341 : decode code 341 = .ok (.iaload, 1) := by decide +kernel
theorem dL_342 : decode code 342 = .ok (.invokevirtual 35, 3) := by decide +kernel
theorem dL_345 : decode code 345 = .ok (.aload_n 2, 1) := by decide +kernel
theorem dL_346 : decode code 346 = .ok (.aload_n 0, 1) := by decide +kernel
theorem dL_347 : decode code 347 = .ok (.iload_n 3, 1) := by decide +kernel
theorem dL_348 : decode code 348 = .ok (.iconst 1, 1) := by decide +kernel
theorem dL_349 : decode code 349 = .ok (.iadd, 1) := by decide +kernel
theorem dL_350 : decode code 350 = .ok (.iaload, 1) := by decide +kernel
theorem dL_351 : decode code 351 = .ok (.aload_n 0, 1) := by decide +kernel
theorem dL_352 : decode code 352 = .ok (.iload_n 3, 1) := by decide +kernel
theorem dL_353 : decode code 353 = .ok (.iconst 2, 1) := by decide +kernel
theorem dL_354 : decode code 354 = .ok (.iadd, 1) := by decide +kernel
theorem dL_355 : decode code 355 = .ok (.iaload, 1) := by decide +kernel
theorem dL_356 : decode code 356 = .ok (.invokevirtual 38, 3) := by decide +kernel
theorem dL_359 : decode code 359 = .ok (.if_icmp .eq 950, 3) := by decide +kernel
theorem dL_362 : decode code 362 = .ok (.iconst 0, 1) := by decide +kernel
theorem dL_363 : decode code 363 = .ok (.ireturn, 1) := by decide +kernel
theorem dL_364 : decode code 364 = .ok (.aload_n 1, 1) := by decide +kernel
theorem dL_365 : decode code 365 = .ok (.aload_n 0, 1) := by decide +kernel
theorem dL_366 : decode code 366 = .ok (.iload_n 3, 1) := by decide +kernel
theorem dL_367 : decode code 367 = .ok (.iconst 1, 1) := by decide +kernel
theorem dL_368 : decode code 368 = .ok (.iadd, 1) := by decide +kernel
theorem dL_369 : decode code 369 = .ok (.iaload, 1) := by decide +kernel
theorem dL_370 : decode code 370 = .ok (.aload_n 0, 1) := by decide +kernel
theorem dL_371 : decode code 371 = .ok (.iload_n 3, 1) := by decide +kernel
theorem dL_372 : decode code 372 = .ok (.iconst 2, 1) := by decide +kernel
theorem dL_373 : decode code 373 = .ok (.iadd, 1) := by decide +kernel
theorem dL_374 : decode code 374 = .ok (.iaload, 1) := by decide +kernel
theorem dL_375 : decode code 375 = .ok (.invokevirtual 39, 3) := by decide +kernel
theorem dL_378 : decode code 378 = .ok (.aload_n 2, 1) := by decide +kernel
theorem dL_379 : decode code 379 = .ok (.aload_n 0, 1) := by decide +kernel
theorem dL_380 : decode code 380 = .ok (.iload_n 3, 1) := by decide +kernel
theorem dL_381 : decode code 381 = .ok (.iconst 1, 1) := by decide +kernel
theorem dL_382 : decode code 382 = .ok (.iadd, 1) := by decide +kernel
theorem dL_383 : decode code 383 = .ok (.iaload, 1) := by decide +kernel
theorem dL_384 : decode code 384 = .ok (.aload_n 0, 1) := by decide +kernel
theorem dL_385 : decode code 385 = .ok (.iload_n 3, 1) := by decide +kernel
theorem dL_386 : decode code 386 = .ok (.iconst 2, 1) := by decide +kernel
theorem dL_387 : decode code 387 = .ok (.iadd, 1) := by decide +kernel
theorem dL_388 : decode code 388 = .ok (.iaload, 1) := by decide +kernel
theorem dL_389 : decode code 389 = .ok (.invokevirtual 42, 3) := by decide +kernel
theorem dL_392 : decode code 392 = .ok (.if_icmp .eq 917, 3) := by decide +kernel
theorem dL_395 : decode code 395 = .ok (.iconst 0, 1) := by decide +kernel
theorem dL_396 : decode code 396 = .ok (.ireturn, 1) := by decide +kernel
theorem dL_397 : decode code 397 = .ok (.aload_n 1, 1) := by decide +kernel
theorem dL_398 : decode code 398 = .ok (.aload_n 0, 1) := by decide +kernel
theorem dL_399 : decode code 399 = .ok (.iload_n 3, 1) := by decide +kernel
theorem dL_400 : decode code 400 = .ok (.iconst 1, 1) := by decide +kernel
theorem dL_401 : decode code 401 = .ok (.iadd, 1) := by decide +kernel
theorem dL_402 : decode code 402 = .ok (.iaload, 1) := by decide +kernel
theorem dL_403 : decode code 403 = .ok (.invokevirtual 43, 3) := by decide +kernel
theorem dL_406 : decode code 406 = .ok (.aload_n 2, 1) := by decide +kernel
theorem dL_407 : decode code 407 = .ok (.aload_n 0, 1) := by decide +kernel
theorem dL_408 : decode code 408 = .ok (.iload_n 3, 1) := by decide +kernel
theorem dL_409 : decode code 409 = .ok (.iconst 1, 1) := by decide +kernel
theorem dL_410 : decode code 410 = .ok (.iadd, 1) := by decide +kernel
theorem dL_411 : decode code 411 = .ok (.iaload, 1) := by decide +kernel
theorem dL_412 : decode code 412 = .ok (.invokevirtual 46, 3) := by decide +kernel
theorem dL_415 : decode code 415 = .ok (.if_icmp .eq 894, 3) := by decide +kernel
theorem dL_418 : decode code 418 = .ok (.iconst 0, 1) := by decide +kernel
theorem dL_419 : decode code 419 = .ok (.ireturn, 1) := by decide +kernel
theorem dL_420 : decode code 420 = .ok (.aload_n 1, 1) := by decide +kernel
theorem dL_421 : decode code 421 = .ok (.aload_n 0, 1) := by decide +kernel
theorem dL_422 : decode code 422 = .ok (.iload_n 3, 1) := by decide +kernel
theorem dL_423 : decode code 423 = .ok (.iconst 1, 1) := by decide +kernel
theorem dL_424 : decode code 424 = .ok (.iadd, 1) := by decide +kernel
theorem dL_425 : decode code 425 = .ok (.iaload, 1) := by decide +kernel
theorem dL_426 : decode code 426 = .ok (.invokevirtual 47, 3) := by decide +kernel
theorem dL_429 : decode code 429 = .ok (.aload_n 2, 1) := by decide +kernel
theorem dL_430 : decode code 430 = .ok (.aload_n 0, 1) := by decide +kernel
theorem dL_431 : decode code 431 = .ok (.iload_n 3, 1) := by decide +kernel
theorem dL_432 : decode code 432 = .ok (.iconst 1, 1) := by decide +kernel
theorem dL_433 : decode code 433 = .ok (.iadd, 1) := by decide +kernel
theorem dL_434 : decode code 434 = .ok (.iaload, 1) := by decide +kernel
theorem dL_435 : decode code 435 = .ok (.invokevirtual 50, 3) := by decide +kernel
theorem dL_438 : decode code 438 = .ok (.if_icmp .eq 871, 3) := by decide +kernel
theorem dL_441 : decode code 441 = .ok (.iconst 0, 1) := by decide +kernel
theorem dL_442 : decode code 442 = .ok (.ireturn, 1) := by decide +kernel
theorem dL_443 : decode code 443 = .ok (.aload_n 1, 1) := by decide +kernel
theorem dL_444 : decode code 444 = .ok (.aload_n 0, 1) := by decide +kernel
theorem dL_445 : decode code 445 = .ok (.iload_n 3, 1) := by decide +kernel
theorem dL_446 : decode code 446 = .ok (.iconst 1, 1) := by decide +kernel
theorem dL_447 : decode code 447 = .ok (.iadd, 1) := by decide +kernel
theorem dL_448 : decode code 448 = .ok (.iaload, 1) := by decide +kernel
theorem dL_449 : decode code 449 = .ok (.invokevirtual 51, 3) := by decide +kernel
theorem dL_452 : decode code 452 = .ok (.aload_n 2, 1) := by decide +kernel
theorem dL_453 : decode code 453 = .ok (.aload_n 0, 1) := by decide +kernel
theorem dL_454 : decode code 454 = .ok (.iload_n 3, 1) := by decide +kernel
theorem dL_455 : decode code 455 = .ok (.iconst 1, 1) := by decide +kernel
theorem dL_456 : decode code 456 = .ok (.iadd, 1) := by decide +kernel
theorem dL_457 : decode code 457 = .ok (.iaload, 1) := by decide +kernel
theorem dL_458 : decode code 458 = .ok (.invokevirtual 54, 3) := by decide +kernel
theorem dL_461 : decode code 461 = .ok (.if_icmp .eq 848, 3) := by decide +kernel
theorem dL_464 : decode code 464 = .ok (.iconst 0, 1) := by decide +kernel
theorem dL_465 : decode code 465 = .ok (.ireturn, 1) := by decide +kernel
theorem dL_466 : decode code 466 = .ok (.aload_n 1, 1) := by decide +kernel
theorem dL_467 : decode code 467 = .ok (.aload_n 0, 1) := by decide +kernel
theorem dL_468 : decode code 468 = .ok (.iload_n 3, 1) := by decide +kernel
theorem dL_469 : decode code 469 = .ok (.iconst 1, 1) := by decide +kernel
theorem dL_470 : decode code 470 = .ok (.iadd, 1) := by decide +kernel
theorem dL_471 : decode code 471 = .ok (.iaload, 1) := by decide +kernel
theorem dL_472 : decode code 472 = .ok (.invokevirtual 55, 3) := by decide +kernel
theorem dL_475 : decode code 475 = .ok (.aload_n 2, 1) := by decide +kernel
theorem dL_476 : decode code 476 = .ok (.aload_n 0, 1) := by decide +kernel
theorem dL_477 : decode code 477 = .ok (.iload_n 3, 1) := by decide +kernel
theorem dL_478 : decode code 478 = .ok (.iconst 1, 1) := by decide +kernel
theorem dL_479 : decode code 479 = .ok (.iadd, 1) := by decide +kernel
theorem dL_480 : decode code 480 = .ok (.iaload, 1) := by decide +kernel
theorem dL_481 : decode code 481 = .ok (.invokevirtual 58, 3) := by decide +kernel
theorem dL_484 : decode code 484 = .ok (.if_icmp .eq 825, 3) := by decide +kernel
theorem dL_487 : decode code 487 = .ok (.iconst 0, 1) := by decide +kernel
theorem dL_488 : decode code 488 = .ok (.ireturn, 1) := by decide +kernel
theorem dL_489 : decode code 489 = .ok (.aload_n 1, 1) := by decide +kernel
theorem dL_490 : decode code 490 = .ok (.aload_n 0, 1) := by decide +kernel
theorem dL_491 : decode code 491 = .ok (.iload_n 3, 1) := by decide +kernel
theorem dL_492 : decode code 492 = .ok (.iconst 1, 1) := by decide +kernel
theorem dL_493 : decode code 493 = .ok (.iadd, 1) := by decide +kernel
theorem dL_494 : decode code 494 = .ok (.iaload, 1) := by decide +kernel
theorem dL_495 : decode code 495 = .ok (.aload_n 0, 1) := by decide +kernel
theorem dL_496 : decode code 496 = .ok (.iload_n 3, 1) := by decide +kernel
theorem dL_497 : decode code 497 = .ok (.iconst 2, 1) := by decide +kernel
theorem dL_498 : decode code 498 = .ok (.iadd, 1) := by decide +kernel
theorem dL_499 : decode code 499 = .ok (.iaload, 1) := by decide +kernel
theorem dL_500 : decode code 500 = .ok (.aload_n 0, 1) := by decide +kernel
theorem dL_501 : decode code 501 = .ok (.iload_n 3, 1) := by decide +kernel
theorem dL_502 : decode code 502 = .ok (.iconst 3, 1) := by decide +kernel
theorem dL_503 : decode code 503 = .ok (.iadd, 1) := by decide +kernel
theorem dL_504 : decode code 504 = .ok (.iaload, 1) := by decide +kernel
theorem dL_505 : decode code 505 = .ok (.invokevirtual 59, 3) := by decide +kernel
theorem dL_508 : decode code 508 = .ok (.aload_n 2, 1) := by decide +kernel
theorem dL_509 : decode code 509 = .ok (.aload_n 0, 1) := by decide +kernel
theorem dL_510 : decode code 510 = .ok (.iload_n 3, 1) := by decide +kernel
theorem dL_511 : decode code 511 = .ok (.iconst 1, 1) := by decide +kernel
theorem dL_512 : decode code 512 = .ok (.iadd, 1) := by decide +kernel
theorem dL_513 : decode code 513 = .ok (.iaload, 1) := by decide +kernel
theorem dL_514 : decode code 514 = .ok (.aload_n 0, 1) := by decide +kernel
theorem dL_515 : decode code 515 = .ok (.iload_n 3, 1) := by decide +kernel
theorem dL_516 : decode code 516 = .ok (.iconst 2, 1) := by decide +kernel
theorem dL_517 : decode code 517 = .ok (.iadd, 1) := by decide +kernel
theorem dL_518 : decode code 518 = .ok (.iaload, 1) := by decide +kernel
theorem dL_519 : decode code 519 = .ok (.aload_n 0, 1) := by decide +kernel
theorem dL_520 : decode code 520 = .ok (.iload_n 3, 1) := by decide +kernel
theorem dL_521 : decode code 521 = .ok (.iconst 3, 1) := by decide +kernel
theorem dL_522 : decode code 522 = .ok (.iadd, 1) := by decide +kernel
theorem dL_523 : decode code 523 = .ok (.iaload, 1) := by decide +kernel
theorem dL_524 : decode code 524 = .ok (.invokevirtual 63, 3) := by decide +kernel
theorem dL_527 : decode code 527 = .ok (.if_icmp .eq 782, 3) := by decide +kernel
theorem dL_530 : decode code 530 = .ok (.iconst 0, 1) := by decide +kernel
theorem dL_531 : decode code 531 = .ok (.ireturn, 1) := by decide +kernel
theorem dL_532 : decode code 532 = .ok (.aload_n 1, 1) := by decide +kernel
theorem dL_533 : decode code 533 = .ok (.aload_n 0, 1) := by decide +kernel
theorem dL_534 : decode code 534 = .ok (.iload_n 3, 1) := by decide +kernel
theorem dL_535 : decode code 535 = .ok (.iconst 1, 1) := by decide +kernel
theorem dL_536 : decode code 536 = .ok (.iadd, 1) := by decide +kernel
theorem dL_537 : decode code 537 = .ok (.iaload, 1) := by decide +kernel
theorem dL_538 : decode code 538 = .ok (.aload_n 0, 1) := by decide +kernel
theorem dL_539 : decode code 539 = .ok (.iload_n 3, 1) := by decide +kernel
theorem dL_540 : decode code 540 = .ok (.iconst 2, 1) := by decide +kernel
theorem dL_541 : decode code 541 = .ok (.iadd, 1) := by decide +kernel
theorem dL_542 : decode code 542 = .ok (.iaload, 1) := by decide +kernel
theorem dL_543 : decode code 543 = .ok (.invokevirtual 64, 3) := by decide +kernel
theorem dL_546 : decode code 546 = .ok (.aload_n 2, 1) := by decide +kernel
theorem dL_547 : decode code 547 = .ok (.aload_n 0, 1) := by decide +kernel
theorem dL_548 : decode code 548 = .ok (.iload_n 3, 1) := by decide +kernel
theorem dL_549 : decode code 549 = .ok (.iconst 1, 1) := by decide +kernel
theorem dL_550 : decode code 550 = .ok (.iadd, 1) := by decide +kernel
theorem dL_551 : decode code 551 = .ok (.iaload, 1) := by decide +kernel
theorem dL_552 : decode code 552 = .ok (.aload_n 0, 1) := by decide +kernel
theorem dL_553 : decode code 553 = .ok (.iload_n 3, 1) := by decide +kernel
theorem dL_554 : decode code 554 = .ok (.iconst 2, 1) := by decide +kernel
theorem dL_555 : decode code 555 = .ok (.iadd, 1) := by decide +kernel
theorem dL_556 : decode code 556 = .ok (.iaload, 1) := by decide +kernel
theorem dL_557 : decode code 557 = .ok (.invokevirtual 67, 3) := by decide +kernel
theorem dL_560 : decode code 560 = .ok (.if_icmp .eq 749, 3) := by decide +kernel
theorem dL_563 : decode code 563 = .ok (.iconst 0, 1) := by decide +kernel
theorem dL_564 : decode code 564 = .ok (.ireturn, 1) := by decide +kernel
theorem dL_565 : decode code 565 = .ok (.aload_n 1, 1) := by decide +kernel
theorem dL_566 : decode code 566 = .ok (.aload_n 0, 1) := by decide +kernel
theorem dL_567 : decode code 567 = .ok (.iload_n 3, 1) := by decide +kernel
theorem dL_568 : decode code 568 = .ok (.iconst 1, 1) := by decide +kernel
theorem dL_569 : decode code 569 = .ok (.iadd, 1) := by decide +kernel
theorem dL_570 : decode code 570 = .ok (.iaload, 1) := by decide +kernel
theorem dL_571 : decode code 571 = .ok (.invokevirtual 68, 3) := by decide +kernel
theorem dL_574 : decode code 574 = .ok (.aload_n 2, 1) := by decide +kernel
theorem dL_575 : decode code 575 = .ok (.aload_n 0, 1) := by decide +kernel
theorem dL_576 : decode code 576 = .ok (.iload_n 3, 1) := by decide +kernel
theorem dL_577 : decode code 577 = .ok (.iconst 1, 1) := by decide +kernel
theorem dL_578 : decode code 578 = .ok (.iadd, 1) := by decide +kernel
theorem dL_579 : decode code 579 = .ok (.iaload, 1) := by decide +kernel
theorem dL_580 : decode code 580 = .ok (.invokevirtual 71, 3) := by decide +kernel
theorem dL_583 : decode code 583 = .ok (.if_icmp .eq 726, 3) := by decide +kernel
theorem dL_586 : decode code 586 = .ok (.iconst 0, 1) := by decide +kernel
theorem dL_587 : decode code 587 = .ok (.ireturn, 1) := by decide +kernel
theorem dL_588 : decode code 588 = .ok (.aload_n 1, 1) := by decide +kernel
theorem dL_589 : decode code 589 = .ok (.aload_n 0, 1) := by decide +kernel
theorem dL_590 : decode code 590 = .ok (.iload_n 3, 1) := by decide +kernel
theorem dL_591 : decode code 591 = .ok (.iconst 1, 1) := by decide +kernel
theorem dL_592 : decode code 592 = .ok (.iadd, 1) := by decide +kernel
theorem dL_593 : decode code 593 = .ok (.iaload, 1) := by decide +kernel
theorem dL_594 : decode code 594 = .ok (.aload_n 0, 1) := by decide +kernel
theorem dL_595 : decode code 595 = .ok (.iload_n 3, 1) := by decide +kernel
theorem dL_596 : decode code 596 = .ok (.iconst 2, 1) := by decide +kernel
theorem dL_597 : decode code 597 = .ok (.iadd, 1) := by decide +kernel
theorem dL_598 : decode code 598 = .ok (.iaload, 1) := by decide +kernel
theorem dL_599 : decode code 599 = .ok (.invokevirtual 72, 3) := by decide +kernel
theorem dL_602 : decode code 602 = .ok (.aload_n 2, 1) := by decide +kernel
theorem dL_603 : decode code 603 = .ok (.aload_n 0, 1) := by decide +kernel
theorem dL_604 : decode code 604 = .ok (.iload_n 3, 1) := by decide +kernel
theorem dL_605 : decode code 605 = .ok (.iconst 1, 1) := by decide +kernel
theorem dL_606 : decode code 606 = .ok (.iadd, 1) := by decide +kernel
theorem dL_607 : decode code 607 = .ok (.iaload, 1) := by decide +kernel
theorem dL_608 : decode code 608 = .ok (.aload_n 0, 1) := by decide +kernel
theorem dL_609 : decode code 609 = .ok (.iload_n 3, 1) := by decide +kernel
theorem dL_610 : decode code 610 = .ok (.iconst 2, 1) := by decide +kernel
theorem dL_611 : decode code 611 = .ok (.iadd, 1) := by decide +kernel
theorem dL_612 : decode code 612 = .ok (.iaload, 1) := by decide +kernel
theorem dL_613 : decode code 613 = .ok (.invokevirtual 75, 3) := by decide +kernel
theorem dL_616 : decode code 616 = .ok (.if_icmp .eq 693, 3) := by decide +kernel
theorem dL_619 : decode code 619 = .ok (.iconst 0, 1) := by decide +kernel
theorem dL_620 : decode code 620 = .ok (.ireturn, 1) := by decide +kernel
theorem dL_621 : decode code 621 = .ok (.aload_n 1, 1) := by decide +kernel
theorem dL_622 : decode code 622 = .ok (.invokevirtual 76, 3) := by decide +kernel
theorem dL_625 : decode code 625 = .ok (.aload_n 2, 1) := by decide +kernel
theorem dL_626 : decode code 626 = .ok (.invokevirtual 80, 3) := by decide +kernel
theorem dL_629 : decode code 629 = .ok (.if_icmp .eq 680, 3) := by decide +kernel
theorem dL_632 : decode code 632 = .ok (.iconst 0, 1) := by decide +kernel
theorem dL_633 : decode code 633 = .ok (.ireturn, 1) := by decide +kernel
theorem dL_634 : decode code 634 = .ok (.aload_n 1, 1) := by decide +kernel
theorem dL_635 : decode code 635 = .ok (.aload_n 0, 1) := by decide +kernel
theorem dL_636 : decode code 636 = .ok (.iload_n 3, 1) := by decide +kernel
theorem dL_637 : decode code 637 = .ok (.iconst 1, 1) := by decide +kernel
theorem dL_638 : decode code 638 = .ok (.iadd, 1) := by decide +kernel
theorem dL_639 : decode code 639 = .ok (.iaload, 1) := by decide +kernel
theorem dL_640 : decode code 640 = .ok (.invokevirtual 81, 3) := by decide +kernel
theorem dL_643 : decode code 643 = .ok (.aload_n 2, 1) := by decide +kernel
theorem dL_644 : decode code 644 = .ok (.aload_n 0, 1) := by decide +kernel
theorem dL_645 : decode code 645 = .ok (.iload_n 3, 1) := by decide +kernel
theorem dL_646 : decode code 646 = .ok (.iconst 1, 1) := by decide +kernel
theorem dL_647 : decode code 647 = .ok (.iadd, 1) := by decide +kernel
theorem dL_648 : decode code 648 = .ok (.iaload, 1) := by decide +kernel
theorem dL_649 : decode code 649 = .ok (.invokevirtual 84, 3) := by decide +kernel
theorem dL_652 : decode code 652 = .ok (.if_icmp .eq 657, 3) := by decide +kernel
theorem dL_655 : decode code 655 = .ok (.iconst 0, 1) := by decide +kernel
theorem dL_656 : decode code 656 = .ok (.ireturn, 1) := by decide +kernel
theorem dL_657 : decode code 657 = .ok (.aload_n 1, 1) := by decide +kernel
theorem dL_658 : decode code 658 = .ok (.invokevirtual 85, 3) := by decide +kernel
theorem dL_661 : decode code 661 = .ok (.aload_n 2, 1) := by decide +kernel
theorem dL_662 : decode code 662 = .ok (.invokevirtual 88, 3) := by decide +kernel
theorem dL_665 : decode code 665 = .ok (.if_icmp .eq 644, 3) := by decide +kernel
theorem dL_668 : decode code 668 = .ok (.iconst 0, 1) := by decide +kernel
theorem dL_669 : decode code 669 = .ok (.ireturn, 1) := by decide +kernel
theorem dL_670 : decode code 670 = .ok (.aload_n 1, 1) := by decide +kernel
theorem dL_671 : decode code 671 = .ok (.aload_n 0, 1) := by decide +kernel
theorem dL_672 : decode code 672 = .ok (.iload_n 3, 1) := by decide +kernel
theorem dL_673 : decode code 673 = .ok (.iconst 1, 1) := by decide +kernel
theorem dL_674 : decode code 674 = .ok (.iadd, 1) := by decide +kernel
theorem dL_675 : decode code 675 = .ok (.iaload, 1) := by decide +kernel
theorem dL_676 : decode code 676 = .ok (.aload_n 0, 1) := by decide +kernel
theorem dL_677 : decode code 677 = .ok (.iload_n 3, 1) := by decide +kernel
theorem dL_678 : decode code 678 = .ok (.iconst 2, 1) := by decide +kernel
theorem dL_679 : decode code 679 = .ok (.iadd, 1) := by decide +kernel
theorem dL_680 : decode code 680 = .ok (.iaload, 1) := by decide +kernel
theorem dL_681 : decode code 681 = .ok (.invokevirtual 89, 3) := by decide +kernel
theorem dL_684 : decode code 684 = .ok (.aload_n 2, 1) := by decide +kernel
theorem dL_685 : decode code 685 = .ok (.aload_n 0, 1) := by decide +kernel
theorem dL_686 : decode code 686 = .ok (.iload_n 3, 1) := by decide +kernel
theorem dL_687 : decode code 687 = .ok (.iconst 1, 1) := by decide +kernel
theorem dL_688 : decode code 688 = .ok (.iadd, 1) := by decide +kernel
theorem dL_689 : decode code 689 = .ok (.iaload, 1) := by decide +kernel
theorem dL_690 : decode code 690 = .ok (.aload_n 0, 1) := by decide +kernel
theorem dL_691 : decode code 691 = .ok (.iload_n 3, 1) := by decide +kernel
theorem dL_692 : decode code 692 = .ok (.iconst 2, 1) := by decide +kernel
theorem dL_693 : decode code 693 = .ok (.iadd, 1) := by decide +kernel
theorem dL_694 : decode code 694 = .ok (.iaload, 1) := by decide +kernel
theorem dL_695 : decode code 695 = .ok (.invokevirtual 92, 3) := by decide +kernel
theorem dL_698 : decode code 698 = .ok (.if_icmp .eq 611, 3) := by decide +kernel
theorem dL_701 : decode code 701 = .ok (.iconst 0, 1) := by decide +kernel
theorem dL_702 : decode code 702 = .ok (.ireturn, 1) := by decide +kernel
theorem dL_703 : decode code 703 = .ok (.aload_n 1, 1) := by decide +kernel
theorem dL_704 : decode code 704 = .ok (.aload_n 0, 1) := by decide +kernel
theorem dL_705 : decode code 705 = .ok (.iload_n 3, 1) := by decide +kernel
theorem dL_706 : decode code 706 = .ok (.iconst 1, 1) := by decide +kernel
theorem dL_707 : decode code 707 = .ok (.iadd, 1) := by decide +kernel
theorem dL_708 : decode code 708 = .ok (.iaload, 1) := by decide +kernel
theorem dL_709 : decode code 709 = .ok (.aload_n 0, 1) := by decide +kernel
theorem dL_710 : decode code 710 = .ok (.iload_n 3, 1) := by decide +kernel
theorem dL_711 : decode code 711 = .ok (.iconst 2, 1) := by decide +kernel
theorem dL_712 : decode code 712 = .ok (.iadd, 1) := by decide +kernel
theorem dL_713 : decode code 713 = .ok (.iaload, 1) := by decide +kernel
theorem dL_714 : decode code 714 = .ok (.invokevirtual 93, 3) := by decide +kernel
theorem dL_717 : decode code 717 = .ok (.aload_n 2, 1) := by decide +kernel
theorem dL_718 : decode code 718 = .ok (.aload_n 0, 1) := by decide +kernel
theorem dL_719 : decode code 719 = .ok (.iload_n 3, 1) := by decide +kernel
theorem dL_720 : decode code 720 = .ok (.iconst 1, 1) := by decide +kernel
theorem dL_721 : decode code 721 = .ok (.iadd, 1) := by decide +kernel
theorem dL_722 : decode code 722 = .ok (.iaload, 1) := by decide +kernel
theorem dL_723 : decode code 723 = .ok (.aload_n 0, 1) := by decide +kernel
theorem dL_724 : decode code 724 = .ok (.iload_n 3, 1) := by decide +kernel
theorem dL_725 : decode code 725 = .ok (.iconst 2, 1) := by decide +kernel
theorem dL_726 : decode code 726 = .ok (.iadd, 1) := by decide +kernel
theorem dL_727 : decode code 727 = .ok (.iaload, 1) := by decide +kernel
theorem dL_728 : decode code 728 = .ok (.invokevirtual 96, 3) := by decide +kernel
theorem dL_731 : decode code 731 = .ok (.if_icmp .eq 578, 3) := by decide +kernel
theorem dL_734 : decode code 734 = .ok (.iconst 0, 1) := by decide +kernel
theorem dL_735 : decode code 735 = .ok (.ireturn, 1) := by decide +kernel
theorem dL_736 : decode code 736 = .ok (.aload_n 1, 1) := by decide +kernel
theorem dL_737 : decode code 737 = .ok (.aload_n 0, 1) := by decide +kernel
theorem dL_738 : decode code 738 = .ok (.iload_n 3, 1) := by decide +kernel
theorem dL_739 : decode code 739 = .ok (.iconst 1, 1) := by decide +kernel
theorem dL_740 : decode code 740 = .ok (.iadd, 1) := by decide +kernel
theorem dL_741 : decode code 741 = .ok (.iaload, 1) := by decide +kernel
theorem dL_742 : decode code 742 = .ok (.aload_n 0, 1) := by decide +kernel
theorem dL_743 : decode code 743 = .ok (.iload_n 3, 1) := by decide +kernel
theorem dL_744 : decode code 744 = .ok (.iconst 2, 1) := by decide +kernel
theorem dL_745 : decode code 745 = .ok (.iadd, 1) := by decide +kernel
theorem dL_746 : decode code 746 = .ok (.iaload, 1) := by decide +kernel
theorem dL_747 : decode code 747 = .ok (.invokevirtual 97, 3) := by decide +kernel
theorem dL_750 : decode code 750 = .ok (.aload_n 2, 1) := by decide +kernel
theorem dL_751 : decode code 751 = .ok (.aload_n 0, 1) := by decide +kernel
theorem dL_752 : decode code 752 = .ok (.iload_n 3, 1) := by decide +kernel
theorem dL_753 : decode code 753 = .ok (.iconst 1, 1) := by decide +kernel
theorem dL_754 : decode code 754 = .ok (.iadd, 1) := by decide +kernel
theorem dL_755 : decode code 755 = .ok (.iaload, 1) := by decide +kernel
theorem dL_756 : decode code 756 = .ok (.aload_n 0, 1) := by decide +kernel
theorem dL_757 : decode code 757 = .ok (.iload_n 3, 1) := by decide +kernel
theorem dL_758 : decode code 758 = .ok (.iconst 2, 1) := by decide +kernel
theorem dL_759 : decode code 759 = .ok (.iadd, 1) := by decide +kernel
theorem dL_760 : decode code 760 = .ok (.iaload, 1) := by decide +kernel
theorem dL_761 : decode code 761 = .ok (.invokevirtual 100, 3) := by decide +kernel
theorem dL_764 : decode code 764 = .ok (.if_icmp .eq 545, 3) := by decide +kernel
theorem dL_767 : decode code 767 = .ok (.iconst 0, 1) := by decide +kernel
theorem dL_768 : decode code 768 = .ok (.ireturn, 1) := by decide +kernel
theorem dL_769 : decode code 769 = .ok (.aload_n 1, 1) := by decide +kernel
theorem dL_770 : decode code 770 = .ok (.aload_n 0, 1) := by decide +kernel
theorem dL_771 : decode code 771 = .ok (.iload_n 3, 1) := by decide +kernel
theorem dL_772 : decode code 772 = .ok (.iconst 1, 1) := by decide +kernel
theorem dL_773 : decode code 773 = .ok (.iadd, 1) := by decide +kernel
theorem dL_774 : decode code 774 = .ok (.iaload, 1) := by decide +kernel
theorem dL_775 : decode code 775 = .ok (.invokevirtual 101, 3) := by decide +kernel
theorem dL_778 : decode code 778 = .ok (.aload_n 2, 1) := by decide +kernel
theorem dL_779 : decode code 779 = .ok (.aload_n 0, 1) := by decide +kernel
theorem dL_780 : decode code 780 = .ok (.iload_n 3, 1) := by decide +kernel
theorem dL_781 : decode code 781 = .ok (.iconst 1, 1) := by decide +kernel
theorem dL_782 : decode code 782 = .ok (.iadd, 1) := by decide +kernel
theorem dL_783 : decode code 783 = .ok (.iaload, 1) := by decide +kernel
theorem dL_784 : decode code 784 = .ok (.invokevirtual 104, 3) := by decide +kernel
theorem dL_787 : decode code 787 = .ok (.if_icmp .eq 522, 3) := by decide +kernel
theorem dL_790 : decode code 790 = .ok (.iconst 0, 1) := by decide +kernel
theorem dL_791 : decode code 791 = .ok (.ireturn, 1) := by decide +kernel
theorem dL_792 : decode code 792 = .ok (.aload_n 1, 1) := by decide +kernel
theorem dL_793 : decode code 793 = .ok (.aload_n 0, 1) := by decide +kernel
theorem dL_794 : decode code 794 = .ok (.iload_n 3, 1) := by decide +kernel
theorem dL_795 : decode code 795 = .ok (.iconst 1, 1) := by decide +kernel
theorem dL_796 : decode code 796 = .ok (.iadd, 1) := by decide +kernel
theorem dL_797 : decode code 797 = .ok (.iaload, 1) := by decide +kernel
theorem dL_798 : decode code 798 = .ok (.aload_n 0, 1) := by decide +kernel
theorem dL_799 : decode code 799 = .ok (.iload_n 3, 1) := by decide +kernel
theorem dL_800 : decode code 800 = .ok (.iconst 2, 1) := by decide +kernel
theorem dL_801 : decode code 801 = .ok (.iadd, 1) := by decide +kernel
theorem dL_802 : decode code 802 = .ok (.iaload, 1) := by decide +kernel
theorem dL_803 : decode code 803 = .ok (.aload_n 0, 1) := by decide +kernel
theorem dL_804 : decode code 804 = .ok (.iload_n 3, 1) := by decide +kernel
theorem dL_805 : decode code 805 = .ok (.iconst 3, 1) := by decide +kernel
theorem dL_806 : decode code 806 = .ok (.iadd, 1) := by decide +kernel
theorem dL_807 : decode code 807 = .ok (.iaload, 1) := by decide +kernel
theorem dL_808 : decode code 808 = .ok (.invokevirtual 105, 3) := by decide +kernel
theorem dL_811 : decode code 811 = .ok (.aload_n 2, 1) := by decide +kernel
theorem dL_812 : decode code 812 = .ok (.aload_n 0, 1) := by decide +kernel
theorem dL_813 : decode code 813 = .ok (.iload_n 3, 1) := by decide +kernel
theorem dL_814 : decode code 814 = .ok (.iconst 1, 1) := by decide +kernel
theorem dL_815 : decode code 815 = .ok (.iadd, 1) := by decide +kernel
theorem dL_816 : decode code 816 = .ok (.iaload, 1) := by decide +kernel
theorem dL_817 : decode code 817 = .ok (.aload_n 0, 1) := by decide +kernel
theorem dL_818 : decode code 818 = .ok (.iload_n 3, 1) := by decide +kernel
theorem dL_819 : decode code 819 = .ok (.iconst 2, 1) := by decide +kernel
theorem dL_820 : decode code 820 = .ok (.iadd, 1) := by decide +kernel
theorem dL_821 : decode code 821 = .ok (.iaload, 1) := by decide +kernel
theorem dL_822 : decode code 822 = .ok (.aload_n 0, 1) := by decide +kernel
theorem dL_823 : decode code 823 = .ok (.iload_n 3, 1) := by decide +kernel
theorem dL_824 : decode code 824 = .ok (.iconst 3, 1) := by decide +kernel
theorem dL_825 : decode code 825 = .ok (.iadd, 1) := by decide +kernel
theorem dL_826 : decode code 826 = .ok (.iaload, 1) := by decide +kernel
theorem dL_827 : decode code 827 = .ok (.invokevirtual 108, 3) := by decide +kernel
theorem dL_830 : decode code 830 = .ok (.if_icmp .eq 479, 3) := by decide +kernel
theorem dL_833 : decode code 833 = .ok (.iconst 0, 1) := by decide +kernel
theorem dL_834 : decode code 834 = .ok (.ireturn, 1) := by decide +kernel
theorem dL_835 : decode code 835 = .ok (.aload_n 1, 1) := by decide +kernel
theorem dL_836 : decode code 836 = .ok (.invokevirtual 109, 3) := by decide +kernel
theorem dL_839 : decode code 839 = .ok (.aload_n 2, 1) := by decide +kernel
theorem dL_840 : decode code 840 = .ok (.invokevirtual 112, 3) := by decide +kernel
theorem dL_843 : decode code 843 = .ok (.if_icmp .eq 466, 3) := by decide +kernel
theorem dL_846 : decode code 846 = .ok (.iconst 0, 1) := by decide +kernel
theorem dL_847 : decode code 847 = .ok (.ireturn, 1) := by decide +kernel
theorem dL_848 : decode code 848 = .ok (.aload_n 1, 1) := by decide +kernel
theorem dL_849 : decode code 849 = .ok (.invokevirtual 113, 3) := by decide +kernel
theorem dL_852 : decode code 852 = .ok (.aload_n 2, 1) := by decide +kernel
theorem dL_853 : decode code 853 = .ok (.invokevirtual 116, 3) := by decide +kernel
theorem dL_856 : decode code 856 = .ok (.if_icmp .eq 453, 3) := by decide +kernel
theorem dL_859 : decode code 859 = .ok (.iconst 0, 1) := by decide +kernel
theorem dL_860 : decode code 860 = .ok (.ireturn, 1) := by decide +kernel
theorem dL_861 : decode code 861 = .ok (.aload_n 1, 1) := by decide +kernel
theorem dL_862 : decode code 862 = .ok (.aload_n 0, 1) := by decide +kernel
theorem dL_863 : decode code 863 = .ok (.iload_n 3, 1) := by decide +kernel
theorem dL_864 : decode code 864 = .ok (.iconst 1, 1) := by decide +kernel
theorem dL_865 : decode code 865 = .ok (.iadd, 1) := by decide +kernel
theorem dL_866 : decode code 866 = .ok (.iaload, 1) := by decide +kernel
theorem dL_867 : decode code 867 = .ok (.aload_n 0, 1) := by decide +kernel
theorem dL_868 : decode code 868 = .ok (.iload_n 3, 1) := by decide +kernel
theorem dL_869 : decode code 869 = .ok (.iconst 2, 1) := by decide +kernel
theorem dL_870 : decode code 870 = .ok (.iadd, 1) := by decide +kernel
theorem dL_871 : decode code 871 = .ok (.iaload, 1) := by decide +kernel
theorem dL_872 : decode code 872 = .ok (.invokevirtual 117, 3) := by decide +kernel
theorem dL_875 : decode code 875 = .ok (.aload_n 2, 1) := by decide +kernel
theorem dL_876 : decode code 876 = .ok (.aload_n 0, 1) := by decide +kernel
theorem dL_877 : decode code 877 = .ok (.iload_n 3, 1) := by decide +kernel
theorem dL_878 : decode code 878 = .ok (.iconst 1, 1) := by decide +kernel
theorem dL_879 : decode code 879 = .ok (.iadd, 1) := by decide +kernel
theorem dL_880 : decode code 880 = .ok (.iaload, 1) := by decide +kernel
theorem dL_881 : decode code 881 = .ok (.aload_n 0, 1) := by decide +kernel
theorem dL_882 : decode code 882 = .ok (.iload_n 3, 1) := by decide +kernel
theorem dL_883 : decode code 883 = .ok (.iconst 2, 1) := by decide +kernel
theorem dL_884 : decode code 884 = .ok (.iadd, 1) := by decide +kernel
theorem dL_885 : decode code 885 = .ok (.iaload, 1) := by decide +kernel
theorem dL_886 : decode code 886 = .ok (.invokevirtual 120, 3) := by decide +kernel
theorem dL_889 : decode code 889 = .ok (.if_icmp .eq 420, 3) := by decide +kernel
theorem dL_892 : decode code 892 = .ok (.iconst 0, 1) := by decide +kernel
theorem dL_893 : decode code 893 = .ok (.ireturn, 1) := by decide +kernel
theorem dL_894 : decode code 894 = .ok (.aload_n 1, 1) := by decide +kernel
theorem dL_895 : decode code 895 = .ok (.aload_n 0, 1) := by decide +kernel
theorem dL_896 : decode code 896 = .ok (.iload_n 3, 1) := by decide +kernel
theorem dL_897 : decode code 897 = .ok (.iconst 1, 1) := by decide +kernel
theorem dL_898 : decode code 898 = .ok (.iadd, 1) := by decide +kernel
theorem dL_899 : decode code 899 = .ok (.iaload, 1) := by decide +kernel
theorem dL_900 : decode code 900 = .ok (.invokevirtual 121, 3) := by decide +kernel
theorem dL_903 : decode code 903 = .ok (.aload_n 2, 1) := by decide +kernel
theorem dL_904 : decode code 904 = .ok (.aload_n 0, 1) := by decide +kernel
theorem dL_905 : decode code 905 = .ok (.iload_n 3, 1) := by decide +kernel
theorem dL_906 : decode code 906 = .ok (.iconst 1, 1) := by decide +kernel
theorem dL_907 : decode code 907 = .ok (.iadd, 1) := by decide +kernel
theorem dL_908 : decode code 908 = .ok (.iaload, 1) := by decide +kernel
theorem dL_909 : decode code 909 = .ok (.invokevirtual 124, 3) := by decide +kernel
theorem dL_912 : decode code 912 = .ok (.if_icmp .eq 397, 3) := by decide +kernel
theorem dL_915 : decode code 915 = .ok (.iconst 0, 1) := by decide +kernel
theorem dL_916 : decode code 916 = .ok (.ireturn, 1) := by decide +kernel
theorem dL_917 : decode code 917 = .ok (.aload_n 1, 1) := by decide +kernel
theorem dL_918 : decode code 918 = .ok (.aload_n 0, 1) := by decide +kernel
theorem dL_919 : decode code 919 = .ok (.iload_n 3, 1) := by decide +kernel
theorem dL_920 : decode code 920 = .ok (.iconst 1, 1) := by decide +kernel
theorem dL_921 : decode code 921 = .ok (.iadd, 1) := by decide +kernel
theorem dL_922 : decode code 922 = .ok (.iaload, 1) := by decide +kernel
theorem dL_923 : decode code 923 = .ok (.aload_n 0, 1) := by decide +kernel
theorem dL_924 : decode code 924 = .ok (.iload_n 3, 1) := by decide +kernel
theorem dL_925 : decode code 925 = .ok (.iconst 2, 1) := by decide +kernel
theorem dL_926 : decode code 926 = .ok (.iadd, 1) := by decide +kernel
theorem dL_927 : decode code 927 = .ok (.iaload, 1) := by decide +kernel
theorem dL_928 : decode code 928 = .ok (.aload_n 0, 1) := by decide +kernel
theorem dL_929 : decode code 929 = .ok (.iload_n 3, 1) := by decide +kernel
theorem dL_930 : decode code 930 = .ok (.iconst 3, 1) := by decide +kernel
theorem dL_931 : decode code 931 = .ok (.iadd, 1) := by decide +kernel
theorem dL_932 : decode code 932 = .ok (.iaload, 1) := by decide +kernel
theorem dL_933 : decode code 933 = .ok (.aload_n 0, 1) := by decide +kernel
theorem dL_934 : decode code 934 = .ok (.iload_n 3, 1) := by decide +kernel
theorem dL_935 : decode code 935 = .ok (.iconst 4, 1) := by decide +kernel
theorem dL_936 : decode code 936 = .ok (.iadd, 1) := by decide +kernel
theorem dL_937 : decode code 937 = .ok (.iaload, 1) := by decide +kernel
theorem dL_938 : decode code 938 = .ok (.invokevirtual 125, 3) := by decide +kernel
theorem dL_941 : decode code 941 = .ok (.aload_n 2, 1) := by decide +kernel
theorem dL_942 : decode code 942 = .ok (.aload_n 0, 1) := by decide +kernel
theorem dL_943 : decode code 943 = .ok (.iload_n 3, 1) := by decide +kernel
theorem dL_944 : decode code 944 = .ok (.iconst 1, 1) := by decide +kernel
theorem dL_945 : decode code 945 = .ok (.iadd, 1) := by decide +kernel
theorem dL_946 : decode code 946 = .ok (.iaload, 1) := by decide +kernel
theorem dL_947 : decode code 947 = .ok (.aload_n 0, 1) := by decide +kernel
theorem dL_948 : decode code 948 = .ok (.iload_n 3, 1) := by decide +kernel
theorem dL_949 : decode code 949 = .ok (.iconst 2, 1) := by decide +kernel
theorem dL_950 : decode code 950 = .ok (.iadd, 1) := by decide +kernel
theorem dL_951 : decode code 951 = .ok (.iaload, 1) := by decide +kernel
theorem dL_952 : decode code 952 = .ok (.aload_n 0, 1) := by decide +kernel
theorem dL_953 : decode code 953 = .ok (.iload_n 3, 1) := by decide +kernel
theorem dL_954 : decode code 954 = .ok (.iconst 3, 1) := by decide +kernel
theorem dL_955 : decode code 955 = .ok (.iadd, 1) := by decide +kernel
theorem dL_956 : decode code 956 = .ok (.iaload, 1) := by decide +kernel
theorem dL_957 : decode code 957 = .ok (.aload_n 0, 1) := by decide +kernel
theorem dL_958 : decode code 958 = .ok (.iload_n 3, 1) := by decide +kernel
theorem dL_959 : decode code 959 = .ok (.iconst 4, 1) := by decide +kernel
theorem dL_960 : decode code 960 = .ok (.iadd, 1) := by decide +kernel
theorem dL_961 : decode code 961 = .ok (.iaload, 1) := by decide +kernel
theorem dL_962 : decode code 962 = .ok (.invokevirtual 129, 3) := by decide +kernel
theorem dL_965 : decode code 965 = .ok (.lcmp, 1) := by decide +kernel
theorem dL_966 : decode code 966 = .ok (.ifCond .eq 343, 3) := by decide +kernel
theorem dL_969 : decode code 969 = .ok (.iconst 0, 1) := by decide +kernel
theorem dL_970 : decode code 970 = .ok (.ireturn, 1) := by decide +kernel
theorem dL_971 : decode code 971 = .ok (.aload_n 1, 1) := by decide +kernel
theorem dL_972 : decode code 972 = .ok (.aload_n 0, 1) := by decide +kernel
theorem dL_973 : decode code 973 = .ok (.iload_n 3, 1) := by decide +kernel
theorem dL_974 : decode code 974 = .ok (.iconst 1, 1) := by decide +kernel
theorem dL_975 : decode code 975 = .ok (.iadd, 1) := by decide +kernel
theorem dL_976 : decode code 976 = .ok (.iaload, 1) := by decide +kernel
theorem dL_977 : decode code 977 = .ok (.aload_n 0, 1) := by decide +kernel
theorem dL_978 : decode code 978 = .ok (.iload_n 3, 1) := by decide +kernel
theorem dL_979 : decode code 979 = .ok (.iconst 2, 1) := by decide +kernel
theorem dL_980 : decode code 980 = .ok (.iadd, 1) := by decide +kernel
theorem dL_981 : decode code 981 = .ok (.iaload, 1) := by decide +kernel
theorem dL_982 : decode code 982 = .ok (.aload_n 0, 1) := by decide +kernel
theorem dL_983 : decode code 983 = .ok (.iload_n 3, 1) := by decide +kernel
theorem dL_984 : decode code 984 = .ok (.iconst 3, 1) := by decide +kernel
theorem dL_985 : decode code 985 = .ok (.iadd, 1) := by decide +kernel
theorem dL_986 : decode code 986 = .ok (.iaload, 1) := by decide +kernel
theorem dL_987 : decode code 987 = .ok (.invokevirtual 130, 3) := by decide +kernel
theorem dL_990 : decode code 990 = .ok (.aload_n 2, 1) := by decide +kernel
theorem dL_991 : decode code 991 = .ok (.aload_n 0, 1) := by decide +kernel
theorem dL_992 : decode code 992 = .ok (.iload_n 3, 1) := by decide +kernel
theorem dL_993 : decode code 993 = .ok (.iconst 1, 1) := by decide +kernel
theorem dL_994 : decode code 994 = .ok (.iadd, 1) := by decide +kernel
theorem dL_995 : decode code 995 = .ok (.iaload, 1) := by decide +kernel
theorem dL_996 : decode code 996 = .ok (.aload_n 0, 1) := by decide +kernel
theorem dL_997 : decode code 997 = .ok (.iload_n 3, 1) := by decide +kernel
theorem dL_998 : decode code 998 = .ok (.iconst 2, 1) := by decide +kernel
theorem dL_999 : decode code 999 = .ok (.iadd, 1) := by decide +kernel
theorem dL_1000 : decode code 1000 = .ok (.iaload, 1) := by decide +kernel
theorem dL_1001 : decode code 1001 = .ok (.aload_n 0, 1) := by decide +kernel
theorem dL_1002 : decode code 1002 = .ok (.iload_n 3, 1) := by decide +kernel
theorem dL_1003 : decode code 1003 = .ok (.iconst 3, 1) := by decide +kernel
theorem dL_1004 : decode code 1004 = .ok (.iadd, 1) := by decide +kernel
theorem dL_1005 : decode code 1005 = .ok (.iaload, 1) := by decide +kernel
theorem dL_1006 : decode code 1006 = .ok (.invokevirtual 133, 3) := by decide +kernel
theorem dL_1009 : decode code 1009 = .ok (.if_icmp .eq 300, 3) := by decide +kernel
theorem dL_1012 : decode code 1012 = .ok (.iconst 0, 1) := by decide +kernel
theorem dL_1013 : decode code 1013 = .ok (.ireturn, 1) := by decide +kernel
theorem dL_1014 : decode code 1014 = .ok (.aload_n 1, 1) := by decide +kernel
theorem dL_1015 : decode code 1015 = .ok (.aload_n 0, 1) := by decide +kernel
theorem dL_1016 : decode code 1016 = .ok (.iload_n 3, 1) := by decide +kernel
theorem dL_1017 : decode code 1017 = .ok (.iconst 1, 1) := by decide +kernel
theorem dL_1018 : decode code 1018 = .ok (.iadd, 1) := by decide +kernel
theorem dL_1019 : decode code 1019 = .ok (.iaload, 1) := by decide +kernel
theorem dL_1020 : decode code 1020 = .ok (.aload_n 0, 1) := by decide +kernel
theorem dL_1021 : decode code 1021 = .ok (.iload_n 3, 1) := by decide +kernel
theorem dL_1022 : decode code 1022 = .ok (.iconst 2, 1) := by decide +kernel
theorem dL_1023 : decode code 1023 = .ok (.iadd, 1) := by decide +kernel
theorem dL_1024 : decode code 1024 = .ok (.iaload, 1) := by decide +kernel
theorem dL_1025 : decode code 1025 = .ok (.aload_n 0, 1) := by decide +kernel
theorem dL_1026 : decode code 1026 = .ok (.iload_n 3, 1) := by decide +kernel
theorem dL_1027 : decode code 1027 = .ok (.iconst 3, 1) := by decide +kernel
theorem dL_1028 : decode code 1028 = .ok (.iadd, 1) := by decide +kernel
theorem dL_1029 : decode code 1029 = .ok (.iaload, 1) := by decide +kernel
theorem dL_1030 : decode code 1030 = .ok (.invokevirtual 134, 3) := by decide +kernel
theorem dL_1033 : decode code 1033 = .ok (.aload_n 2, 1) := by decide +kernel
theorem dL_1034 : decode code 1034 = .ok (.aload_n 0, 1) := by decide +kernel
theorem dL_1035 : decode code 1035 = .ok (.iload_n 3, 1) := by decide +kernel
theorem dL_1036 : decode code 1036 = .ok (.iconst 1, 1) := by decide +kernel
theorem dL_1037 : decode code 1037 = .ok (.iadd, 1) := by decide +kernel
theorem dL_1038 : decode code 1038 = .ok (.iaload, 1) := by decide +kernel
theorem dL_1039 : decode code 1039 = .ok (.aload_n 0, 1) := by decide +kernel
theorem dL_1040 : decode code 1040 = .ok (.iload_n 3, 1) := by decide +kernel
theorem dL_1041 : decode code 1041 = .ok (.iconst 2, 1) := by decide +kernel
theorem dL_1042 : decode code 1042 = .ok (.iadd, 1) := by decide +kernel
theorem dL_1043 : decode code 1043 = .ok (.iaload, 1) := by decide +kernel
theorem dL_1044 : decode code 1044 = .ok (.aload_n 0, 1) := by decide +kernel
theorem dL_1045 : decode code 1045 = .ok (.iload_n 3, 1) := by decide +kernel
theorem dL_1046 : decode code 1046 = .ok (.iconst 3, 1) := by decide +kernel
theorem dL_1047 : decode code 1047 = .ok (.iadd, 1) := by decide +kernel
theorem dL_1048 : decode code 1048 = .ok (.iaload, 1) := by decide +kernel
theorem dL_1049 : decode code 1049 = .ok (.invokevirtual 137, 3) := by decide +kernel
theorem dL_1052 : decode code 1052 = .ok (.if_icmp .eq 257, 3) := by decide +kernel
theorem dL_1055 : decode code 1055 = .ok (.iconst 0, 1) := by decide +kernel
theorem dL_1056 : decode code 1056 = .ok (.ireturn, 1) := by decide +kernel
theorem dL_1057 : decode code 1057 = .ok (.aload_n 1, 1) := by decide +kernel
theorem dL_1058 : decode code 1058 = .ok (.aload_n 0, 1) := by decide +kernel
theorem dL_1059 : decode code 1059 = .ok (.iload_n 3, 1) := by decide +kernel
theorem dL_1060 : decode code 1060 = .ok (.iconst 1, 1) := by decide +kernel
theorem dL_1061 : decode code 1061 = .ok (.iadd, 1) := by decide +kernel
theorem dL_1062 : decode code 1062 = .ok (.iaload, 1) := by decide +kernel
theorem dL_1063 : decode code 1063 = .ok (.invokevirtual 138, 3) := by decide +kernel
theorem dL_1066 : decode code 1066 = .ok (.aload_n 2, 1) := by decide +kernel
theorem dL_1067 : decode code 1067 = .ok (.aload_n 0, 1) := by decide +kernel
theorem dL_1068 : decode code 1068 = .ok (.iload_n 3, 1) := by decide +kernel
theorem dL_1069 : decode code 1069 = .ok (.iconst 1, 1) := by decide +kernel
theorem dL_1070 : decode code 1070 = .ok (.iadd, 1) := by decide +kernel
theorem dL_1071 : decode code 1071 = .ok (.iaload, 1) := by decide +kernel
theorem dL_1072 : decode code 1072 = .ok (.invokevirtual 141, 3) := by decide +kernel
theorem dL_1075 : decode code 1075 = .ok (.if_icmp .eq 234, 3) := by decide +kernel
theorem dL_1078 : decode code 1078 = .ok (.iconst 0, 1) := by decide +kernel
theorem dL_1079 : decode code 1079 = .ok (.ireturn, 1) := by decide +kernel
theorem dL_1080 : decode code 1080 = .ok (.aload_n 1, 1) := by decide +kernel
theorem dL_1081 : decode code 1081 = .ok (.aload_n 0, 1) := by decide +kernel
theorem dL_1082 : decode code 1082 = .ok (.iload_n 3, 1) := by decide +kernel
theorem dL_1083 : decode code 1083 = .ok (.iconst 1, 1) := by decide +kernel
theorem dL_1084 : decode code 1084 = .ok (.iadd, 1) := by decide +kernel
theorem dL_1085 : decode code 1085 = .ok (.iaload, 1) := by decide +kernel
theorem dL_1086 : decode code 1086 = .ok (.aload_n 0, 1) := by decide +kernel
theorem dL_1087 : decode code 1087 = .ok (.iload_n 3, 1) := by decide +kernel
theorem dL_1088 : decode code 1088 = .ok (.iconst 2, 1) := by decide +kernel
theorem dL_1089 : decode code 1089 = .ok (.iadd, 1) := by decide +kernel
theorem dL_1090 : decode code 1090 = .ok (.iaload, 1) := by decide +kernel
theorem dL_1091 : decode code 1091 = .ok (.aload_n 0, 1) := by decide +kernel
theorem dL_1092 : decode code 1092 = .ok (.iload_n 3, 1) := by decide +kernel
theorem dL_1093 : decode code 1093 = .ok (.iconst 3, 1) := by decide +kernel
theorem dL_1094 : decode code 1094 = .ok (.iadd, 1) := by decide +kernel
theorem dL_1095 : decode code 1095 = .ok (.iaload, 1) := by decide +kernel
theorem dL_1096 : decode code 1096 = .ok (.aload_n 0, 1) := by decide +kernel
theorem dL_1097 : decode code 1097 = .ok (.iload_n 3, 1) := by decide +kernel
theorem dL_1098 : decode code 1098 = .ok (.iconst 4, 1) := by decide +kernel
theorem dL_1099 : decode code 1099 = .ok (.iadd, 1) := by decide +kernel
theorem dL_1100 : decode code 1100 = .ok (.iaload, 1) := by decide +kernel
theorem dL_1101 : decode code 1101 = .ok (.invokevirtual 142, 3) := by decide +kernel
theorem dL_1104 : decode code 1104 = .ok (.aload_n 2, 1) := by decide +kernel
theorem dL_1105 : decode code 1105 = .ok (.aload_n 0, 1) := by decide +kernel
theorem dL_1106 : decode code 1106 = .ok (.iload_n 3, 1) := by decide +kernel
theorem dL_1107 : decode code 1107 = .ok (.iconst 1, 1) := by decide +kernel
theorem dL_1108 : decode code 1108 = .ok (.iadd, 1) := by decide +kernel
theorem dL_1109 : decode code 1109 = .ok (.iaload, 1) := by decide +kernel
theorem dL_1110 : decode code 1110 = .ok (.aload_n 0, 1) := by decide +kernel
theorem dL_1111 : decode code 1111 = .ok (.iload_n 3, 1) := by decide +kernel
theorem dL_1112 : decode code 1112 = .ok (.iconst 2, 1) := by decide +kernel
theorem dL_1113 : decode code 1113 = .ok (.iadd, 1) := by decide +kernel
theorem dL_1114 : decode code 1114 = .ok (.iaload, 1) := by decide +kernel
theorem dL_1115 : decode code 1115 = .ok (.aload_n 0, 1) := by decide +kernel
theorem dL_1116 : decode code 1116 = .ok (.iload_n 3, 1) := by decide +kernel
theorem dL_1117 : decode code 1117 = .ok (.iconst 3, 1) := by decide +kernel
theorem dL_1118 : decode code 1118 = .ok (.iadd, 1) := by decide +kernel
theorem dL_1119 : decode code 1119 = .ok (.iaload, 1) := by decide +kernel
theorem dL_1120 : decode code 1120 = .ok (.aload_n 0, 1) := by decide +kernel
theorem dL_1121 : decode code 1121 = .ok (.iload_n 3, 1) := by decide +kernel
theorem dL_1122 : decode code 1122 = .ok (.iconst 4, 1) := by decide +kernel
theorem dL_1123 : decode code 1123 = .ok (.iadd, 1) := by decide +kernel
theorem dL_1124 : decode code 1124 = .ok (.iaload, 1) := by decide +kernel
theorem dL_1125 : decode code 1125 = .ok (.invokevirtual 146, 3) := by decide +kernel
theorem dL_1128 : decode code 1128 = .ok (.if_icmp .eq 181, 3) := by decide +kernel
theorem dL_1131 : decode code 1131 = .ok (.iconst 0, 1) := by decide +kernel
theorem dL_1132 : decode code 1132 = .ok (.ireturn, 1) := by decide +kernel
theorem dL_1133 : decode code 1133 = .ok (.aload_n 1, 1) := by decide +kernel
theorem dL_1134 : decode code 1134 = .ok (.aload_n 0, 1) := by decide +kernel
theorem dL_1135 : decode code 1135 = .ok (.iload_n 3, 1) := by decide +kernel
theorem dL_1136 : decode code 1136 = .ok (.iconst 1, 1) := by decide +kernel
theorem dL_1137 : decode code 1137 = .ok (.iadd, 1) := by decide +kernel
theorem dL_1138 : decode code 1138 = .ok (.iaload, 1) := by decide +kernel
theorem dL_1139 : decode code 1139 = .ok (.aload_n 0, 1) := by decide +kernel
theorem dL_1140 : decode code 1140 = .ok (.iload_n 3, 1) := by decide +kernel
theorem dL_1141 : decode code 1141 = .ok (.iconst 2, 1) := by decide +kernel
theorem dL_1142 : decode code 1142 = .ok (.iadd, 1) := by decide +kernel
theorem dL_1143 : decode code 1143 = .ok (.iaload, 1) := by decide +kernel
theorem dL_1144 : decode code 1144 = .ok (.aload_n 0, 1) := by decide +kernel
theorem dL_1145 : decode code 1145 = .ok (.iload_n 3, 1) := by decide +kernel
theorem dL_1146 : decode code 1146 = .ok (.iconst 3, 1) := by decide +kernel
theorem dL_1147 : decode code 1147 = .ok (.iadd, 1) := by decide +kernel
theorem dL_1148 : decode code 1148 = .ok (.iaload, 1) := by decide +kernel
theorem dL_1149 : decode code 1149 = .ok (.invokevirtual 147, 3) := by decide +kernel
theorem dL_1152 : decode code 1152 = .ok (.aload_n 2, 1) := by decide +kernel
theorem dL_1153 : decode code 1153 = .ok (.aload_n 0, 1) := by decide +kernel
theorem dL_1154 : decode code 1154 = .ok (.iload_n 3, 1) := by decide +kernel
theorem dL_1155 : decode code 1155 = .ok (.iconst 1, 1) := by decide +kernel
theorem dL_1156 : decode code 1156 = .ok (.iadd, 1) := by decide +kernel
theorem dL_1157 : decode code 1157 = .ok (.iaload, 1) := by decide +kernel
theorem dL_1158 : decode code 1158 = .ok (.aload_n 0, 1) := by decide +kernel
theorem dL_1159 : decode code 1159 = .ok (.iload_n 3, 1) := by decide +kernel
theorem dL_1160 : decode code 1160 = .ok (.iconst 2, 1) := by decide +kernel
theorem dL_1161 : decode code 1161 = .ok (.iadd, 1) := by decide +kernel
theorem dL_1162 : decode code 1162 = .ok (.iaload, 1) := by decide +kernel
theorem dL_1163 : decode code 1163 = .ok (.aload_n 0, 1) := by decide +kernel
theorem dL_1164 : decode code 1164 = .ok (.iload_n 3, 1) := by decide +kernel
theorem dL_1165 : decode code 1165 = .ok (.iconst 3, 1) := by decide +kernel
theorem dL_1166 : decode code 1166 = .ok (.iadd, 1) := by decide +kernel
theorem dL_1167 : decode code 1167 = .ok (.iaload, 1) := by decide +kernel
theorem dL_1168 : decode code 1168 = .ok (.invokevirtual 150, 3) := by decide +kernel
theorem dL_1171 : decode code 1171 = .ok (.if_icmp .eq 138, 3) := by decide +kernel
theorem dL_1174 : decode code 1174 = .ok (.iconst 0, 1) := by decide +kernel
theorem dL_1175 : decode code 1175 = .ok (.ireturn, 1) := by decide +kernel
theorem dL_1176 : decode code 1176 = .ok (.aload_n 1, 1) := by decide +kernel
theorem dL_1177 : decode code 1177 = .ok (.aload_n 0, 1) := by decide +kernel
theorem dL_1178 : decode code 1178 = .ok (.iload_n 3, 1) := by decide +kernel
theorem dL_1179 : decode code 1179 = .ok (.iconst 1, 1) := by decide +kernel
theorem dL_1180 : decode code 1180 = .ok (.iadd, 1) := by decide +kernel
theorem dL_1181 : decode code 1181 = .ok (.iaload, 1) := by decide +kernel
theorem dL_1182 : decode code 1182 = .ok (.aload_n 0, 1) := by decide +kernel
theorem dL_1183 : decode code 1183 = .ok (.iload_n 3, 1) := by decide +kernel
theorem dL_1184 : decode code 1184 = .ok (.iconst 2, 1) := by decide +kernel
theorem dL_1185 : decode code 1185 = .ok (.iadd, 1) := by decide +kernel
theorem dL_1186 : decode code 1186 = .ok (.iaload, 1) := by decide +kernel
theorem dL_1187 : decode code 1187 = .ok (.aload_n 0, 1) := by decide +kernel
theorem dL_1188 : decode code 1188 = .ok (.iload_n 3, 1) := by decide +kernel
theorem dL_1189 : decode code 1189 = .ok (.iconst 3, 1) := by decide +kernel
theorem dL_1190 : decode code 1190 = .ok (.iadd, 1) := by decide +kernel
theorem dL_1191 : decode code 1191 = .ok (.iaload, 1) := by decide +kernel
theorem dL_1192 : decode code 1192 = .ok (.aload_n 0, 1) := by decide +kernel
theorem dL_1193 : decode code 1193 = .ok (.iload_n 3, 1) := by decide +kernel
theorem dL_1194 : decode code 1194 = .ok (.iconst 4, 1) := by decide +kernel
theorem dL_1195 : decode code 1195 = .ok (.iadd, 1) := by decide +kernel
theorem dL_1196 : decode code 1196 = .ok (.iaload, 1) := by decide +kernel
theorem dL_1197 : decode code 1197 = .ok (.aload_n 0, 1) := by decide +kernel
theorem dL_1198 : decode code 1198 = .ok (.iload_n 3, 1) := by decide +kernel
theorem dL_1199 : decode code 1199 = .ok (.iconst 5, 1) := by decide +kernel
theorem dL_1200 : decode code 1200 = .ok (.iadd, 1) := by decide +kernel
theorem dL_1201 : decode code 1201 = .ok (.iaload, 1) := by decide +kernel
theorem dL_1202 : decode code 1202 = .ok (.invokevirtual 151, 3) := by decide +kernel
theorem dL_1205 : decode code 1205 = .ok (.aload_n 2, 1) := by decide +kernel
theorem dL_1206 : decode code 1206 = .ok (.aload_n 0, 1) := by decide +kernel
theorem dL_1207 : decode code 1207 = .ok (.iload_n 3, 1) := by decide +kernel
theorem dL_1208 : decode code 1208 = .ok (.iconst 1, 1) := by decide +kernel
theorem dL_1209 : decode code 1209 = .ok (.iadd, 1) := by decide +kernel
theorem dL_1210 : decode code 1210 = .ok (.iaload, 1) := by decide +kernel
theorem dL_1211 : decode code 1211 = .ok (.aload_n 0, 1) := by decide +kernel
theorem dL_1212 : decode code 1212 = .ok (.iload_n 3, 1) := by decide +kernel
theorem dL_1213 : decode code 1213 = .ok (.iconst 2, 1) := by decide +kernel
theorem dL_1214 : decode code 1214 = .ok (.iadd, 1) := by decide +kernel
theorem dL_1215 : decode code 1215 = .ok (.iaload, 1) := by decide +kernel
theorem dL_1216 : decode code 1216 = .ok (.aload_n 0, 1) := by decide +kernel
theorem dL_1217 : decode code 1217 = .ok (.iload_n 3, 1) := by decide +kernel
theorem dL_1218 : decode code 1218 = .ok (.iconst 3, 1) := by decide +kernel
theorem dL_1219 : decode code 1219 = .ok (.iadd, 1) := by decide +kernel
theorem dL_1220 : decode code 1220 = .ok (.iaload, 1) := by decide +kernel
theorem dL_1221 : decode code 1221 = .ok (.aload_n 0, 1) := by decide +kernel
theorem dL_1222 : decode code 1222 = .ok (.iload_n 3, 1) := by decide +kernel
theorem dL_1223 : decode code 1223 = .ok (.iconst 4, 1) := by decide +kernel
theorem dL_1224 : decode code 1224 = .ok (.iadd, 1) := by decide +kernel
theorem dL_1225 : decode code 1225 = .ok (.iaload, 1) := by decide +kernel
theorem dL_1226 : decode code 1226 = .ok (.aload_n 0, 1) := by decide +kernel
theorem dL_1227 : decode code 1227 = .ok (.iload_n 3, 1) := by decide +kernel
theorem dL_1228 : decode code 1228 = .ok (.iconst 5, 1) := by decide +kernel
theorem dL_1229 : decode code 1229 = .ok (.iadd, 1) := by decide +kernel
theorem dL_1230 : decode code 1230 = .ok (.iaload, 1) := by decide +kernel
theorem dL_1231 : decode code 1231 = .ok (.invokevirtual 155, 3) := by decide +kernel
theorem dL_1234 : decode code 1234 = .ok (.if_icmp .eq 75, 3) := by decide +kernel
theorem dL_1237 : decode code 1237 = .ok (.iconst 0, 1) := by decide +kernel
theorem dL_1238 : decode code 1238 = .ok (.ireturn, 1) := by decide +kernel
theorem dL_1239 : decode code 1239 = .ok (.aload_n 1, 1) := by decide +kernel
theorem dL_1240 : decode code 1240 = .ok (.aload_n 0, 1) := by decide +kernel
theorem dL_1241 : decode code 1241 = .ok (.iload_n 3, 1) := by decide +kernel
theorem dL_1242 : decode code 1242 = .ok (.iconst 1, 1) := by decide +kernel
theorem dL_1243 : decode code 1243 = .ok (.iadd, 1) := by decide +kernel
theorem dL_1244 : decode code 1244 = .ok (.iaload, 1) := by decide +kernel
theorem dL_1245 : decode code 1245 = .ok (.aload_n 0, 1) := by decide +kernel
theorem dL_1246 : decode code 1246 = .ok (.iload_n 3, 1) := by decide +kernel
theorem dL_1247 : decode code 1247 = .ok (.iconst 2, 1) := by decide +kernel
theorem dL_1248 : decode code 1248 = .ok (.iadd, 1) := by decide +kernel
theorem dL_1249 : decode code 1249 = .ok (.iaload, 1) := by decide +kernel
theorem dL_1250 : decode code 1250 = .ok (.invokevirtual 156, 3) := by decide +kernel
theorem dL_1253 : decode code 1253 = .ok (.aload_n 2, 1) := by decide +kernel
theorem dL_1254 : decode code 1254 = .ok (.aload_n 0, 1) := by decide +kernel
theorem dL_1255 : decode code 1255 = .ok (.iload_n 3, 1) := by decide +kernel
theorem dL_1256 : decode code 1256 = .ok (.iconst 1, 1) := by decide +kernel
theorem dL_1257 : decode code 1257 = .ok (.iadd, 1) := by decide +kernel
theorem dL_1258 : decode code 1258 = .ok (.iaload, 1) := by decide +kernel
theorem dL_1259 : decode code 1259 = .ok (.aload_n 0, 1) := by decide +kernel
theorem dL_1260 : decode code 1260 = .ok (.iload_n 3, 1) := by decide +kernel
theorem dL_1261 : decode code 1261 = .ok (.iconst 2, 1) := by decide +kernel
theorem dL_1262 : decode code 1262 = .ok (.iadd, 1) := by decide +kernel
theorem dL_1263 : decode code 1263 = .ok (.iaload, 1) := by decide +kernel
theorem dL_1264 : decode code 1264 = .ok (.invokevirtual 159, 3) := by decide +kernel
theorem dL_1267 : decode code 1267 = .ok (.if_icmp .eq 42, 3) := by decide +kernel
theorem dL_1270 : decode code 1270 = .ok (.iconst 0, 1) := by decide +kernel
theorem dL_1271 : decode code 1271 = .ok (.ireturn, 1) := by decide +kernel
theorem dL_1272 : decode code 1272 = .ok (.aload_n 1, 1) := by decide +kernel
theorem dL_1273 : decode code 1273 = .ok (.aload_n 0, 1) := by decide +kernel
theorem dL_1274 : decode code 1274 = .ok (.iload_n 3, 1) := by decide +kernel
theorem dL_1275 : decode code 1275 = .ok (.iconst 1, 1) := by decide +kernel
theorem dL_1276 : decode code 1276 = .ok (.iadd, 1) := by decide +kernel
theorem dL_1277 : decode code 1277 = .ok (.iaload, 1) := by decide +kernel
theorem dL_1278 : decode code 1278 = .ok (.invokevirtual 160, 3) := by decide +kernel
theorem dL_1281 : decode code 1281 = .ok (.aload_n 2, 1) := by decide +kernel
theorem dL_1282 : decode code 1282 = .ok (.aload_n 0, 1) := by decide +kernel
theorem dL_1283 : decode code 1283 = .ok (.iload_n 3, 1) := by decide +kernel
theorem dL_1284 : decode code 1284 = .ok (.iconst 1, 1) := by decide +kernel
theorem dL_1285 : decode code 1285 = .ok (.iadd, 1) := by decide +kernel
theorem dL_1286 : decode code 1286 = .ok (.iaload, 1) := by decide +kernel
theorem dL_1287 : decode code 1287 = .ok (.invokevirtual 163, 3) := by decide +kernel
theorem dL_1290 : decode code 1290 = .ok (.if_icmp .eq 19, 3) := by decide +kernel
theorem dL_1293 : decode code 1293 = .ok (.iconst 0, 1) := by decide +kernel
theorem dL_1294 : decode code 1294 = .ok (.ireturn, 1) := by decide +kernel
theorem dL_1295 : decode code 1295 = .ok (.aload_n 1, 1) := by decide +kernel
theorem dL_1296 : decode code 1296 = .ok (.invokevirtual 164, 3) := by decide +kernel
theorem dL_1299 : decode code 1299 = .ok (.aload_n 2, 1) := by decide +kernel
theorem dL_1300 : decode code 1300 = .ok (.invokevirtual 168, 3) := by decide +kernel
theorem dL_1303 : decode code 1303 = .ok (.lcmp, 1) := by decide +kernel
theorem dL_1304 : decode code 1304 = .ok (.ifCond .eq 5, 3) := by decide +kernel
theorem dL_1307 : decode code 1307 = .ok (.iconst 0, 1) := by decide +kernel
theorem dL_1308 : decode code 1308 = .ok (.ireturn, 1) := by decide +kernel
theorem dL_1309 : decode code 1309 = .ok (.iinc 3 6, 3) := by decide +kernel
theorem dL_1312 : decode code 1312 = .ok (.goto (-1294), 3) := by decide +kernel
theorem dL_1315 : decode code 1315 = .ok (.iconst 1, 1) := by decide +kernel
theorem dL_1316 : decode code 1316 = .ok (.ireturn, 1) := by decide +kernel
