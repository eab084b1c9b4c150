theorem dX7_digest_78 : decode cX7_digest 78 = .ok (.aload_n 0, 1) := by decide +kernel
theorem dX7_digest_79 : decode cX7_digest 79 = .ok (.getfield 24, 3) := by decide +kernel
theorem dX7_digest_82 : decode cX7_digest 82 = .ok (.getfield 268, 3) := by decide +kernel
theorem dX7_digest_85 : decode cX7_digest 85 = .ok (.if_icmp .ge 21, 3) := by decide +kernel
theorem dX7_digest_88 : decode cX7_digest 88 = .ok (.aload_n 0, 1) := by decide +kernel
theorem dX7_digest_89 : decode cX7_digest 89 = .ok (.aload_n 0, 1) := by decide +kernel
theorem dX7_digest_90 : decode cX7_digest 90 = .ok (.lload_n 1, 1) := by decide +kernel
theorem dX7_digest_91 : decode cX7_digest 91 = .ok (.iload_n 3, 1) := by decide +kernel
theorem dX7_digest_92 : decode cX7_digest 92 = .ok (.invokevirtual 337, 3) := by decide +kernel
theorem dX7_digest_95 : decode cX7_digest 95 = .ok (.iload_n 3, 1) := by decide +kernel
theorem dX7_digest_96 : decode cX7_digest 96 = .ok (.invokevirtual 340, 3) := by decide +kernel
theorem dX7_digest_99 : decode cX7_digest 99 = .ok (.lstore_n 1, 1) := by decide +kernel
theorem dX7_digest_100 : decode cX7_digest 100 = .ok (.iinc 3 1, 3) := by decide +kernel
theorem dX7_digest_103 : decode cX7_digest 103 = .ok (.goto (-26), 3) := by decide +kernel
theorem dX7_digest_106 : decode cX7_digest 106 = .ok (.lload_n 1, 1) := by decide +kernel
theorem dX7_digest_107 : decode cX7_digest 107 = .ok (.aload_n 0, 1) := by decide +kernel
theorem dX7_digest_108 : decode cX7_digest 108 = .ok (.invokevirtual 343, 3) := by decide +kernel
theorem dX7_digest_111 : decode cX7_digest 111 = .ok (.i2l, 1) := by decide +kernel
theorem dX7_digest_112 : decode cX7_digest 112 = .ok (.invokestatic 326, 3) := by decide +kernel
theorem dX7_digest_115 : decode cX7_digest 115 = .ok (.lstore_n 1, 1) := by decide +kernel
theorem dX7_digest_116 : decode cX7_digest 116 = .ok (.lload_n 1, 1) := by decide +kernel
theorem dX7_digest_117 : decode cX7_digest 117 = .ok (.aload_n 0, 1) := by decide +kernel
theorem dX7_digest_118 : decode cX7_digest 118 = .ok (.iconst 0, 1) := by decide +kernel
theorem dX7_digest_119 : decode cX7_digest 119 = .ok (.invokevirtual 346, 3) := by decide +kernel
theorem dX7_digest_122 : decode cX7_digest 122 = .ok (.i2l, 1) := by decide +kernel
theorem dX7_digest_123 : decode cX7_digest 123 = .ok (.invokestatic 326, 3) := by decide +kernel
theorem dX7_digest_126 : decode cX7_digest 126 = .ok (.aload_n 0, 1) := by decide +kernel
theorem dX7_digest_127 : decode cX7_digest 127 = .ok (.iconst 1, 1) := by decide +kernel
theorem dX7_digest_128 : decode cX7_digest 128 = .ok (.invokevirtual 346, 3) := by decide +kernel
theorem dX7_digest_131 : decode cX7_digest 131 = .ok (.i2l, 1) := by decide +kernel
theorem dX7_digest_132 : decode cX7_digest 132 = .ok (.invokestatic 326, 3) := by decide +kernel
theorem dX7_digest_135 : decode cX7_digest 135 = .ok (.lstore_n 1, 1) := by decide +kernel
theorem dX7_digest_136 : decode cX7_digest 136 = .ok (.lload_n 1, 1) := by decide +kernel
theorem dX7_digest_137 : decode cX7_digest 137 = .ok (.aload_n 0, 1) := by decide +kernel
theorem dX7_digest_138 : decode cX7_digest 138 = .ok (.invokevirtual 349, 3) := by decide +kernel
theorem dX7_digest_141 : decode cX7_digest 141 = .ok (.i2l, 1) := by decide +kernel
theorem dX7_digest_142 : decode cX7_digest 142 = .ok (.invokestatic 326, 3) := by decide +kernel
theorem dX7_digest_145 : decode cX7_digest 145 = .ok (.lstore_n 1, 1) := by decide +kernel
theorem dX7_digest_146 : decode cX7_digest 146 = .ok (.aload_n 0, 1) := by decide +kernel
theorem dX7_digest_147 : decode cX7_digest 147 = .ok (.invokevirtual 246, 3) := by decide +kernel
theorem dX7_digest_150 : decode cX7_digest 150 = .ok (.lload_n 1, 1) := by decide +kernel
theorem dX7_digest_151 : decode cX7_digest 151 = .ok (.aload_n 0, 1) := by decide +kernel
theorem dX7_digest_152 : decode cX7_digest 152 = .ok (.getfield 64, 3) := by decide +kernel
theorem dX7_digest_155 : decode cX7_digest 155 = .ok (.getfield 224, 3) := by decide +kernel
theorem dX7_digest_158 : decode cX7_digest 158 = .ok (.i2l, 1) := by decide +kernel
theorem dX7_digest_159 : decode cX7_digest 159 = .ok (.invokestatic 326, 3) := by decide +kernel
theorem dX7_digest_162 : decode cX7_digest 162 = .ok (.aload_n 0, 1) := by decide +kernel
theorem dX7_digest_163 : decode cX7_digest 163 = .ok (.getfield 64, 3) := by decide +kernel
theorem dX7_digest_166 : decode cX7_digest 166 = .ok (.getfield 230, 3) := by decide +kernel
theorem dX7_digest_169 : decode cX7_digest 169 = .ok (.i2l, 1) := by decide +kernel
theorem dX7_digest_170 : decode cX7_digest 170 = .ok (.invokestatic 326, 3) := by decide +kernel
theorem dX7_digest_173 : decode cX7_digest 173 = .ok (.lstore_n 1, 1) := by decide +kernel
theorem dX7_digest_174 : decode cX7_digest 174 = .ok (.lload_n 1, 1) := by decide +kernel
theorem dX7_digest_175 : decode cX7_digest 175 = .ok (.aload_n 0, 1) := by decide +kernel
theorem dX7_digest_176 : decode cX7_digest 176 = .ok (.invokevirtual 352, 3) := by decide +kernel
theorem dX7_digest_179 : decode cX7_digest 179 = .ok (.i2l, 1) := by decide +kernel
theorem dX7_digest_180 : decode cX7_digest 180 = .ok (.invokestatic 326, 3) := by decide +kernel
theorem dX7_digest_183 : decode cX7_digest 183 = .ok (.lstore_n 1, 1) := by decide +kernel
theorem dX7_digest_184 : decode cX7_digest 184 = .ok (.lload_n 1, 1) := by decide +kernel
theorem dX7_digest_185 : decode cX7_digest 185 = .ok (.aload_n 0, 1) := by decide +kernel
theorem dX7_digest_186 : decode cX7_digest 186 = .ok (.bipush 7, 2) := by decide +kernel
theorem dX7_digest_188 : decode cX7_digest 188 = .ok (.iconst 5, 1) := by decide +kernel
theorem dX7_digest_189 : decode cX7_digest 189 = .ok (.iconst 0, 1) := by decide +kernel
theorem dX7_digest_190 : decode cX7_digest 190 = .ok (.invokevirtual 355, 3) := by decide +kernel
theorem dX7_digest_193 : decode cX7_digest 193 = .ok (.i2l, 1) := by decide +kernel
theorem dX7_digest_194 : decode cX7_digest 194 = .ok (.invokestatic 326, 3) := by decide +kernel
theorem dX7_digest_197 : decode cX7_digest 197 = .ok (.aload_n 0, 1) := by decide +kernel
theorem dX7_digest_198 : decode cX7_digest 198 = .ok (.bipush 7, 2) := by decide +kernel
theorem dX7_digest_200 : decode cX7_digest 200 = .ok (.iconst 5, 1) := by decide +kernel
theorem dX7_digest_201 : decode cX7_digest 201 = .ok (.iconst 1, 1) := by decide +kernel
theorem dX7_digest_202 : decode cX7_digest 202 = .ok (.invokevirtual 355, 3) := by decide +kernel
theorem dX7_digest_205 : decode cX7_digest 205 = .ok (.i2l, 1) := by decide +kernel
theorem dX7_digest_206 : decode cX7_digest 206 = .ok (.invokestatic 326, 3) := by decide +kernel
theorem dX7_digest_209 : decode cX7_digest 209 = .ok (.lreturn, 1) := by decide +kernel
theorem dX7_isText_0 : decode cX7_isText 0 = .ok (.iload_n 0, 1) := by decide +kernel
theorem dX7_isText_1 : decode cX7_isText 1 = .ok (.ifCond .eq 8, 3) := by decide +kernel
theorem dX7_isText_4 : decode cX7_isText 4 = .ok (.iload_n 0, 1) := by decide +kernel
theorem dX7_isText_5 : decode cX7_isText 5 = .ok (.iconst 1, 1) := by decide +kernel
theorem dX7_isText_6 : decode cX7_isText 6 = .ok (.if_icmp .ne 7, 3) := by decide +kernel
theorem dX7_isText_9 : decode cX7_isText 9 = .ok (.iconst 1, 1) := by decide +kernel
theorem dX7_isText_10 : decode cX7_isText 10 = .ok (.goto 4, 3) := by decide +kernel
theorem dX7_isText_13 : decode cX7_isText 13 = .ok (.iconst 0, 1) := by decide +kernel
theorem dX7_isText_14 : decode cX7_isText 14 = .ok (.ireturn, 1) := by decide +kernel
theorem dX7_isHour_0 : decode cX7_isHour 0 = .ok (.iload_n 0, 1) := by decide +kernel
theorem dX7_isHour_1 : decode cX7_isHour 1 = .ok (.ifCond .lt 13, 3) := by decide +kernel
theorem dX7_isHour_4 : decode cX7_isHour 4 = .ok (.iload_n 0, 1) := by decide +kernel
theorem dX7_isHour_5 : decode cX7_isHour 5 = .ok (.bipush 40, 2) := by decide +kernel
theorem dX7_isHour_7 : decode cX7_isHour 7 = .ok (.if_icmp .ge 7, 3) := by decide +kernel
theorem dX7_isHour_10 : decode cX7_isHour 10 = .ok (.iconst 1, 1) := by decide +kernel
theorem dX7_isHour_11 : decode cX7_isHour 11 = .ok (.goto 4, 3) := by decide +kernel
theorem dX7_isHour_14 : decode cX7_isHour 14 = .ok (.iconst 0, 1) := by decide +kernel
theorem dX7_isHour_15 : decode cX7_isHour 15 = .ok (.ireturn, 1) := by decide +kernel
theorem dX7_isLoad_0 : decode cX7_isLoad 0 = .ok (.iload_n 0, 1) := by decide +kernel
theorem dX7_isLoad_1 : decode cX7_isLoad 1 = .ok (.ifCond .lt 13, 3) := by decide +kernel
theorem dX7_isLoad_4 : decode cX7_isLoad 4 = .ok (.iload_n 0, 1) := by decide +kernel
theorem dX7_isLoad_5 : decode cX7_isLoad 5 = .ok (.bipush 100, 2) := by decide +kernel
theorem dX7_isLoad_7 : decode cX7_isLoad 7 = .ok (.if_icmp .ge 7, 3) := by decide +kernel
theorem dX7_isLoad_10 : decode cX7_isLoad 10 = .ok (.iconst 1, 1) := by decide +kernel
theorem dX7_isLoad_11 : decode cX7_isLoad 11 = .ok (.goto 4, 3) := by decide +kernel
theorem dX7_isLoad_14 : decode cX7_isLoad 14 = .ok (.iconst 0, 1) := by decide +kernel
theorem dX7_isLoad_15 : decode cX7_isLoad 15 = .ok (.ireturn, 1) := by decide +kernel
theorem dX7_isSheet_0 : decode cX7_isSheet 0 = .ok (.iload_n 0, 1) := by decide +kernel
theorem dX7_isSheet_1 : decode cX7_isSheet 1 = .ok (.ifCond .lt 12, 3) := by decide +kernel
theorem dX7_isSheet_4 : decode cX7_isSheet 4 = .ok (.iload_n 0, 1) := by decide +kernel
theorem dX7_isSheet_5 : decode cX7_isSheet 5 = .ok (.iconst 4, 1) := by decide +kernel
theorem dX7_isSheet_6 : decode cX7_isSheet 6 = .ok (.if_icmp .ge 7, 3) := by decide +kernel
theorem dX7_isSheet_9 : decode cX7_isSheet 9 = .ok (.iconst 1, 1) := by decide +kernel
theorem dX7_isSheet_10 : decode cX7_isSheet 10 = .ok (.goto 4, 3) := by decide +kernel
theorem dX7_isSheet_13 : decode cX7_isSheet 13 = .ok (.iconst 0, 1) := by decide +kernel
theorem dX7_isSheet_14 : decode cX7_isSheet 14 = .ok (.ireturn, 1) := by decide +kernel
theorem dX7_isForm_0 : decode cX7_isForm 0 = .ok (.iload_n 0, 1) := by decide +kernel
theorem dX7_isForm_1 : decode cX7_isForm 1 = .ok (.ifCond .lt 12, 3) := by decide +kernel
theorem dX7_isForm_4 : decode cX7_isForm 4 = .ok (.iload_n 0, 1) := by decide +kernel
theorem dX7_isForm_5 : decode cX7_isForm 5 = .ok (.iconst 3, 1) := by decide +kernel
theorem dX7_isForm_6 : decode cX7_isForm 6 = .ok (.if_icmp .ge 7, 3) := by decide +kernel
theorem dX7_isForm_9 : decode cX7_isForm 9 = .ok (.iconst 1, 1) := by decide +kernel
theorem dX7_isForm_10 : decode cX7_isForm 10 = .ok (.goto 4, 3) := by decide +kernel
theorem dX7_isForm_13 : decode cX7_isForm 13 = .ok (.iconst 0, 1) := by decide +kernel
theorem dX7_isForm_14 : decode cX7_isForm 14 = .ok (.ireturn, 1) := by decide +kernel
theorem dX7_isFloor_0 : decode cX7_isFloor 0 = .ok (.iload_n 1, 1) := by decide +kernel
theorem dX7_isFloor_1 : decode cX7_isFloor 1 = .ok (.ifCond .lt 18, 3) := by decide +kernel
theorem dX7_isFloor_4 : decode cX7_isFloor 4 = .ok (.iload_n 1, 1) := by decide +kernel
theorem dX7_isFloor_5 : decode cX7_isFloor 5 = .ok (.aload_n 0, 1) := by decide +kernel
theorem dX7_isFloor_6 : decode cX7_isFloor 6 = .ok (.getfield 24, 3) := by decide +kernel
theorem dX7_isFloor_9 : decode cX7_isFloor 9 = .ok (.getfield 217, 3) := by decide +kernel
theorem dX7_isFloor_12 : decode cX7_isFloor 12 = .ok (.if_icmp .ge 7, 3) := by decide +kernel
theorem dX7_isFloor_15 : decode cX7_isFloor 15 = .ok (.iconst 1, 1) := by decide +kernel
theorem dX7_isFloor_16 : decode cX7_isFloor 16 = .ok (.goto 4, 3) := by decide +kernel
theorem dX7_isFloor_19 : decode cX7_isFloor 19 = .ok (.iconst 0, 1) := by decide +kernel
theorem dX7_isFloor_20 : decode cX7_isFloor 20 = .ok (.ireturn, 1) := by decide +kernel
theorem dX7_isBasket_0 : decode cX7_isBasket 0 = .ok (.iload_n 1, 1) := by decide +kernel
theorem dX7_isBasket_1 : decode cX7_isBasket 1 = .ok (.ifCond .lt 18, 3) := by decide +kernel
theorem dX7_isBasket_4 : decode cX7_isBasket 4 = .ok (.iload_n 1, 1) := by decide +kernel
theorem dX7_isBasket_5 : decode cX7_isBasket 5 = .ok (.aload_n 0, 1) := by decide +kernel
theorem dX7_isBasket_6 : decode cX7_isBasket 6 = .ok (.getfield 24, 3) := by decide +kernel
theorem dX7_isBasket_9 : decode cX7_isBasket 9 = .ok (.getfield 268, 3) := by decide +kernel
theorem dX7_isBasket_12 : decode cX7_isBasket 12 = .ok (.if_icmp .ge 7, 3) := by decide +kernel
theorem dX7_isBasket_15 : decode cX7_isBasket 15 = .ok (.iconst 1, 1) := by decide +kernel
theorem dX7_isBasket_16 : decode cX7_isBasket 16 = .ok (.goto 4, 3) := by decide +kernel
theorem dX7_isBasket_19 : decode cX7_isBasket 19 = .ok (.iconst 0, 1) := by decide +kernel
theorem dX7_isBasket_20 : decode cX7_isBasket 20 = .ok (.ireturn, 1) := by decide +kernel
theorem dX7_textOf_0 : decode cX7_textOf 0 = .ok (.iload_n 1, 1) := by decide +kernel
theorem dX7_textOf_1 : decode cX7_textOf 1 = .ok (.ifCond .ne 10, 3) := by decide +kernel
theorem dX7_textOf_4 : decode cX7_textOf 4 = .ok (.aload_n 0, 1) := by decide +kernel
theorem dX7_textOf_5 : decode cX7_textOf 5 = .ok (.getfield 14, 3) := by decide +kernel
theorem dX7_textOf_8 : decode cX7_textOf 8 = .ok (.goto 7, 3) := by decide +kernel
theorem dX7_textOf_11 : decode cX7_textOf 11 = .ok (.aload_n 0, 1) := by decide +kernel
theorem dX7_textOf_12 : decode cX7_textOf 12 = .ok (.getfield 18, 3) := by decide +kernel
theorem dX7_textOf_15 : decode cX7_textOf 15 = .ok (.areturn, 1) := by decide +kernel
theorem dX7_reread_0 : decode cX7_reread 0 = .ok (.iload_n 1, 1) := by decide +kernel
theorem dX7_reread_1 : decode cX7_reread 1 = .ok (.ifCond .ne 17, 3) := by decide +kernel
theorem dX7_reread_4 : decode cX7_reread 4 = .ok (.aload_n 0, 1) := by decide +kernel
theorem dX7_reread_5 : decode cX7_reread 5 = .ok (.getfield 24, 3) := by decide +kernel
theorem dX7_reread_8 : decode cX7_reread 8 = .ok (.aload_n 0, 1) := by decide +kernel
theorem dX7_reread_9 : decode cX7_reread 9 = .ok (.getfield 14, 3) := by decide +kernel
theorem dX7_reread_12 : decode cX7_reread 12 = .ok (.invokevirtual 358, 3) := by decide +kernel
theorem dX7_reread_15 : decode cX7_reread 15 = .ok (.goto 14, 3) := by decide +kernel
theorem dX7_reread_18 : decode cX7_reread 18 = .ok (.aload_n 0, 1) := by decide +kernel
theorem dX7_reread_19 : decode cX7_reread 19 = .ok (.getfield 24, 3) := by decide +kernel
theorem dX7_reread_22 : decode cX7_reread 22 = .ok (.aload_n 0, 1) := by decide +kernel
theorem dX7_reread_23 : decode cX7_reread 23 = .ok (.getfield 18, 3) := by decide +kernel
theorem dX7_reread_26 : decode cX7_reread 26 = .ok (.invokevirtual 362, 3) := by decide +kernel
theorem dX7_reread_29 : decode cX7_reread 29 = .ok (.aload_n 0, 1) := by decide +kernel
theorem dX7_reread_30 : decode cX7_reread 30 = .ok (.iload_n 1, 1) := by decide +kernel
theorem dX7_reread_31 : decode cX7_reread 31 = .ok (.invokevirtual 93, 3) := by decide +kernel
theorem dX7_reread_34 : decode cX7_reread 34 = .ok (.getfield 104, 3) := by decide +kernel
theorem dX7_reread_37 : decode cX7_reread 37 = .ok (.ireturn, 1) := by decide +kernel
theorem dX7_oneMore_0 : decode cX7_oneMore 0 = .ok (.iload_n 1, 1) := by decide +kernel
theorem dX7_oneMore_1 : decode cX7_oneMore 1 = .ok (.invokestatic 166, 3) := by decide +kernel
theorem dX7_oneMore_4 : decode cX7_oneMore 4 = .ok (.ifCond .ne 6, 3) := by decide +kernel
theorem dX7_oneMore_7 : decode cX7_oneMore 7 = .ok (.bipush (-2), 2) := by decide +kernel
theorem dX7_oneMore_9 : decode cX7_oneMore 9 = .ok (.ireturn, 1) := by decide +kernel
theorem dX7_oneMore_10 : decode cX7_oneMore 10 = .ok (.aload_n 0, 1) := by decide +kernel
theorem dX7_oneMore_11 : decode cX7_oneMore 11 = .ok (.iload_n 1, 1) := by decide +kernel
theorem dX7_oneMore_12 : decode cX7_oneMore 12 = .ok (.invokevirtual 365, 3) := by decide +kernel
theorem dX7_oneMore_15 : decode cX7_oneMore 15 = .ok (.ifCond .eq 10, 3) := by decide +kernel
theorem dX7_oneMore_18 : decode cX7_oneMore 18 = .ok (.aload_n 0, 1) := by decide +kernel
theorem dX7_oneMore_19 : decode cX7_oneMore 19 = .ok (.getfield 151, 3) := by decide +kernel
theorem dX7_oneMore_22 : decode cX7_oneMore 22 = .ok (.goto 5, 3) := by decide +kernel
theorem dX7_oneMore_25 : decode cX7_oneMore 25 = .ok (.bipush (-4), 2) := by decide +kernel
theorem dX7_oneMore_27 : decode cX7_oneMore 27 = .ok (.ireturn, 1) := by decide +kernel
theorem dX7_found_0 : decode cX7_found 0 = .ok (.aload_n 0, 1) := by decide +kernel
theorem dX7_found_1 : decode cX7_found 1 = .ok (.iload_n 1, 1) := by decide +kernel
theorem dX7_found_2 : decode cX7_found 2 = .ok (.putfield 86, 3) := by decide +kernel
theorem dX7_found_5 : decode cX7_found 5 = .ok (.bipush (-10), 2) := by decide +kernel
theorem dX7_found_7 : decode cX7_found 7 = .ok (.iload_n 1, 1) := by decide +kernel
theorem dX7_found_8 : decode cX7_found 8 = .ok (.isub, 1) := by decide +kernel
theorem dX7_found_9 : decode cX7_found 9 = .ok (.ireturn, 1) := by decide +kernel
theorem dX7_goAsTold_0 : decode cX7_goAsTold 0 = .ok (.aload_n 0, 1) := by decide +kernel
theorem dX7_goAsTold_1 : decode cX7_goAsTold 1 = .ok (.getfield 33, 3) := by decide +kernel
theorem dX7_goAsTold_4 : decode cX7_goAsTold 4 = .ok (.aload_n 0, 1) := by decide +kernel
theorem dX7_goAsTold_5 : decode cX7_goAsTold 5 = .ok (.getfield 40, 3) := by decide +kernel
theorem dX7_goAsTold_8 : decode cX7_goAsTold 8 = .ok (.invokevirtual 169, 3) := by decide +kernel
theorem dX7_goAsTold_11 : decode cX7_goAsTold 11 = .ok (.aload_n 0, 1) := by decide +kernel
theorem dX7_goAsTold_12 : decode cX7_goAsTold 12 = .ok (.getfield 44, 3) := by decide +kernel
theorem dX7_goAsTold_15 : decode cX7_goAsTold 15 = .ok (.invokevirtual 169, 3) := by decide +kernel
theorem dX7_goAsTold_18 : decode cX7_goAsTold 18 = .ok (.bipush 40, 2) := by decide +kernel
theorem dX7_goAsTold_20 : decode cX7_goAsTold 20 = .ok (.invokevirtual 173, 3) := by decide +kernel
theorem dX7_goAsTold_23 : decode cX7_goAsTold 23 = .ok (.return_, 1) := by decide +kernel
theorem dX7_findHour_0 : decode cX7_findHour 0 = .ok (.aload_n 0, 1) := by decide +kernel
theorem dX7_findHour_1 : decode cX7_findHour 1 = .ok (.getfield 24, 3) := by decide +kernel
theorem dX7_findHour_4 : decode cX7_findHour 4 = .ok (.getfield 128, 3) := by decide +kernel
theorem dX7_findHour_7 : decode cX7_findHour 7 = .ok (.iload_n 1, 1) := by decide +kernel
theorem dX7_findHour_8 : decode cX7_findHour 8 = .ok (.iaload, 1) := by decide +kernel
theorem dX7_findHour_9 : decode cX7_findHour 9 = .ok (.istore_n 2, 1) := by decide +kernel
theorem dX7_findHour_10 : decode cX7_findHour 10 = .ok (.aload_n 0, 1) := by decide +kernel
theorem dX7_findHour_11 : decode cX7_findHour 11 = .ok (.getfield 64, 3) := by decide +kernel
theorem dX7_findHour_14 : decode cX7_findHour 14 = .ok (.invokevirtual 214, 3) := by decide +kernel
theorem dX7_findHour_17 : decode cX7_findHour 17 = .ok (.iconst 0, 1) := by decide +kernel
theorem dX7_findHour_18 : decode cX7_findHour 18 = .ok (.istore_n 3, 1) := by decide +kernel
theorem dX7_findHour_19 : decode cX7_findHour 19 = .ok (.iload_n 3, 1) := by decide +kernel
theorem dX7_findHour_20 : decode cX7_findHour 20 = .ok (.bipush 30, 2) := by decide +kernel
theorem dX7_findHour_22 : decode cX7_findHour 22 = .ok (.if_icmp .ge 38, 3) := by decide +kernel
theorem dX7_findHour_25 : decode cX7_findHour 25 = .ok (.aload_n 0, 1) := by decide +kernel
theorem dX7_findHour_26 : decode cX7_findHour 26 = .ok (.getfield 24, 3) := by decide +kernel
theorem dX7_findHour_29 : decode cX7_findHour 29 = .ok (.getfield 128, 3) := by decide +kernel
theorem dX7_findHour_32 : decode cX7_findHour 32 = .ok (.iload_n 1, 1) := by decide +kernel
theorem dX7_findHour_33 : decode cX7_findHour 33 = .ok (.iload_n 3, 1) := by decide +kernel
theorem dX7_findHour_34 : decode cX7_findHour 34 = .ok (.iastore, 1) := by decide +kernel
theorem dX7_findHour_35 : decode cX7_findHour 35 = .ok (.aload_n 0, 1) := by decide +kernel
theorem dX7_findHour_36 : decode cX7_findHour 36 = .ok (.invokevirtual 186, 3) := by decide +kernel
theorem dX7_findHour_39 : decode cX7_findHour 39 = .ok (.aload_n 0, 1) := by decide +kernel
theorem dX7_findHour_40 : decode cX7_findHour 40 = .ok (.getfield 64, 3) := by decide +kernel
theorem dX7_findHour_43 : decode cX7_findHour 43 = .ok (.iload_n 3, 1) := by decide +kernel
theorem dX7_findHour_44 : decode cX7_findHour 44 = .ok (.aload_n 0, 1) := by decide +kernel
theorem dX7_findHour_45 : decode cX7_findHour 45 = .ok (.getfield 33, 3) := by decide +kernel
theorem dX7_findHour_48 : decode cX7_findHour 48 = .ok (.invokevirtual 205, 3) := by decide +kernel
theorem dX7_findHour_51 : decode cX7_findHour 51 = .ok (.invokevirtual 220, 3) := by decide +kernel
theorem dX7_findHour_54 : decode cX7_findHour 54 = .ok (.iinc 3 1, 3) := by decide +kernel
theorem dX7_findHour_57 : decode cX7_findHour 57 = .ok (.goto (-38), 3) := by decide +kernel
theorem dX7_findHour_60 : decode cX7_findHour 60 = .ok (.aload_n 0, 1) := by decide +kernel
theorem dX7_findHour_61 : decode cX7_findHour 61 = .ok (.getfield 24, 3) := by decide +kernel
theorem dX7_findHour_64 : decode cX7_findHour 64 = .ok (.getfield 128, 3) := by decide +kernel
theorem dX7_findHour_67 : decode cX7_findHour 67 = .ok (.iload_n 1, 1) := by decide +kernel
theorem dX7_findHour_68 : decode cX7_findHour 68 = .ok (.iload_n 2, 1) := by decide +kernel
theorem dX7_findHour_69 : decode cX7_findHour 69 = .ok (.iastore, 1) := by decide +kernel
theorem dX7_findHour_70 : decode cX7_findHour 70 = .ok (.return_, 1) := by decide +kernel
theorem dX7_findStill_0 : decode cX7_findStill 0 = .ok (.aload_n 0, 1) := by decide +kernel
theorem dX7_findStill_1 : decode cX7_findStill 1 = .ok (.getfield 64, 3) := by decide +kernel
theorem dX7_findStill_4 : decode cX7_findStill 4 = .ok (.invokevirtual 214, 3) := by decide +kernel
theorem dX7_findStill_7 : decode cX7_findStill 7 = .ok (.iconst 0, 1) := by decide +kernel
theorem dX7_findStill_8 : decode cX7_findStill 8 = .ok (.istore_n 1, 1) := by decide +kernel
theorem dX7_findStill_9 : decode cX7_findStill 9 = .ok (.iload_n 1, 1) := by decide +kernel
theorem dX7_findStill_10 : decode cX7_findStill 10 = .ok (.aload_n 0, 1) := by decide +kernel
theorem dX7_findStill_11 : decode cX7_findStill 11 = .ok (.getfield 40, 3) := by decide +kernel
theorem dX7_findStill_14 : decode cX7_findStill 14 = .ok (.getfield 151, 3) := by decide +kernel
theorem dX7_findStill_17 : decode cX7_findStill 17 = .ok (.if_icmp .ge 48, 3) := by decide +kernel
theorem dX7_findStill_20 : decode cX7_findStill 20 = .ok (.aload_n 0, 1) := by decide +kernel
theorem dX7_findStill_21 : decode cX7_findStill 21 = .ok (.getfield 33, 3) := by decide +kernel
theorem dX7_findStill_24 : decode cX7_findStill 24 = .ok (.aload_n 0, 1) := by decide +kernel
theorem dX7_findStill_25 : decode cX7_findStill 25 = .ok (.getfield 40, 3) := by decide +kernel
theorem dX7_findStill_28 : decode cX7_findStill 28 = .ok (.iload_n 1, 1) := by decide +kernel
theorem dX7_findStill_29 : decode cX7_findStill 29 = .ok (.invokevirtual 254, 3) := by decide +kernel
theorem dX7_findStill_32 : decode cX7_findStill 32 = .ok (.aload_n 0, 1) := by decide +kernel
theorem dX7_findStill_33 : decode cX7_findStill 33 = .ok (.getfield 44, 3) := by decide +kernel
theorem dX7_findStill_36 : decode cX7_findStill 36 = .ok (.invokevirtual 169, 3) := by decide +kernel
theorem dX7_findStill_39 : decode cX7_findStill 39 = .ok (.bipush 40, 2) := by decide +kernel
theorem dX7_findStill_41 : decode cX7_findStill 41 = .ok (.invokevirtual 173, 3) := by decide +kernel
theorem dX7_findStill_44 : decode cX7_findStill 44 = .ok (.aload_n 0, 1) := by decide +kernel
theorem dX7_findStill_45 : decode cX7_findStill 45 = .ok (.getfield 64, 3) := by decide +kernel
theorem dX7_findStill_48 : decode cX7_findStill 48 = .ok (.iload_n 1, 1) := by decide +kernel
theorem dX7_findStill_49 : decode cX7_findStill 49 = .ok (.aload_n 0, 1) := by decide +kernel
theorem dX7_findStill_50 : decode cX7_findStill 50 = .ok (.getfield 33, 3) := by decide +kernel
theorem dX7_findStill_53 : decode cX7_findStill 53 = .ok (.invokevirtual 205, 3) := by decide +kernel
theorem dX7_findStill_56 : decode cX7_findStill 56 = .ok (.invokevirtual 220, 3) := by decide +kernel
theorem dX7_findStill_59 : decode cX7_findStill 59 = .ok (.iinc 1 1, 3) := by decide +kernel
theorem dX7_findStill_62 : decode cX7_findStill 62 = .ok (.goto (-53), 3) := by decide +kernel
theorem dX7_findStill_65 : decode cX7_findStill 65 = .ok (.return_, 1) := by decide +kernel
theorem dX7_findFed_0 : decode cX7_findFed 0 = .ok (.aload_n 0, 1) := by decide +kernel
theorem dX7_findFed_1 : decode cX7_findFed 1 = .ok (.aload_n 0, 1) := by decide +kernel
theorem dX7_findFed_2 : decode cX7_findFed 2 = .ok (.iload_n 1, 1) := by decide +kernel
theorem dX7_findFed_3 : decode cX7_findFed 3 = .ok (.iconst (-1), 1) := by decide +kernel
theorem dX7_findFed_4 : decode cX7_findFed 4 = .ok (.iconst (-1), 1) := by decide +kernel
theorem dX7_findFed_5 : decode cX7_findFed 5 = .ok (.invokevirtual 367, 3) := by decide +kernel
theorem dX7_findFed_8 : decode cX7_findFed 8 = .ok (.ifCond .eq 7, 3) := by decide +kernel
theorem dX7_findFed_11 : decode cX7_findFed 11 = .ok (.iconst 0, 1) := by decide +kernel
theorem dX7_findFed_12 : decode cX7_findFed 12 = .ok (.goto 4, 3) := by decide +kernel
theorem dX7_findFed_15 : decode cX7_findFed 15 = .ok (.iconst (-1), 1) := by decide +kernel
theorem dX7_findFed_16 : decode cX7_findFed 16 = .ok (.putfield 72, 3) := by decide +kernel
theorem dX7_findFed_19 : decode cX7_findFed 19 = .ok (.iconst 0, 1) := by decide +kernel
theorem dX7_findFed_20 : decode cX7_findFed 20 = .ok (.istore_n 2, 1) := by decide +kernel
theorem dX7_findFed_21 : decode cX7_findFed 21 = .ok (.iload_n 2, 1) := by decide +kernel
theorem dX7_findFed_22 : decode cX7_findFed 22 = .ok (.aload_n 0, 1) := by decide +kernel
theorem dX7_findFed_23 : decode cX7_findFed 23 = .ok (.getfield 24, 3) := by decide +kernel
theorem dX7_findFed_26 : decode cX7_findFed 26 = .ok (.getfield 217, 3) := by decide +kernel
theorem dX7_findFed_29 : decode cX7_findFed 29 = .ok (.if_icmp .ge 34, 3) := by decide +kernel
theorem dX7_findFed_32 : decode cX7_findFed 32 = .ok (.aload_n 0, 1) := by decide +kernel
theorem dX7_findFed_33 : decode cX7_findFed 33 = .ok (.getfield 72, 3) := by decide +kernel
theorem dX7_findFed_36 : decode cX7_findFed 36 = .ok (.iconst (-1), 1) := by decide +kernel
theorem dX7_findFed_37 : decode cX7_findFed 37 = .ok (.if_icmp .ne 26, 3) := by decide +kernel
theorem dX7_findFed_40 : decode cX7_findFed 40 = .ok (.aload_n 0, 1) := by decide +kernel
theorem dX7_findFed_41 : decode cX7_findFed 41 = .ok (.iload_n 1, 1) := by decide +kernel
theorem dX7_findFed_42 : decode cX7_findFed 42 = .ok (.iload_n 2, 1) := by decide +kernel
theorem dX7_findFed_43 : decode cX7_findFed 43 = .ok (.iconst (-1), 1) := by decide +kernel
theorem dX7_findFed_44 : decode cX7_findFed 44 = .ok (.invokevirtual 367, 3) := by decide +kernel
theorem dX7_findFed_47 : decode cX7_findFed 47 = .ok (.ifCond .eq 10, 3) := by decide +kernel
theorem dX7_findFed_50 : decode cX7_findFed 50 = .ok (.aload_n 0, 1) := by decide +kernel
theorem dX7_findFed_51 : decode cX7_findFed 51 = .ok (.iconst 1, 1) := by decide +kernel
theorem dX7_findFed_52 : decode cX7_findFed 52 = .ok (.iload_n 2, 1) := by decide +kernel
theorem dX7_findFed_53 : decode cX7_findFed 53 = .ok (.iconst (-1), 1) := by decide +kernel
theorem dX7_findFed_54 : decode cX7_findFed 54 = .ok (.invokevirtual 370, 3) := by decide +kernel
theorem dX7_findFed_57 : decode cX7_findFed 57 = .ok (.iinc 2 1, 3) := by decide +kernel
theorem dX7_findFed_60 : decode cX7_findFed 60 = .ok (.goto (-39), 3) := by decide +kernel
theorem dX7_findFed_63 : decode cX7_findFed 63 = .ok (.iconst 0, 1) := by decide +kernel
theorem dX7_findFed_64 : decode cX7_findFed 64 = .ok (.istore_n 2, 1) := by decide +kernel
theorem dX7_findFed_65 : decode cX7_findFed 65 = .ok (.iload_n 2, 1) := by decide +kernel
theorem dX7_findFed_66 : decode cX7_findFed 66 = .ok (.aload_n 0, 1) := by decide +kernel
theorem dX7_findFed_67 : decode cX7_findFed 67 = .ok (.getfield 24, 3) := by decide +kernel
theorem dX7_findFed_70 : decode cX7_findFed 70 = .ok (.getfield 217, 3) := by decide +kernel
theorem dX7_findFed_73 : decode cX7_findFed 73 = .ok (.if_icmp .ge 63, 3) := by decide +kernel
theorem dX7_findFed_76 : decode cX7_findFed 76 = .ok (.aload_n 0, 1) := by decide +kernel
theorem dX7_findFed_77 : decode cX7_findFed 77 = .ok (.getfield 72, 3) := by decide +kernel
theorem dX7_findFed_80 : decode cX7_findFed 80 = .ok (.iconst (-1), 1) := by decide +kernel
theorem dX7_findFed_81 : decode cX7_findFed 81 = .ok (.if_icmp .ne 55, 3) := by decide +kernel
theorem dX7_findFed_84 : decode cX7_findFed 84 = .ok (.iload_n 2, 1) := by decide +kernel
theorem dX7_findFed_85 : decode cX7_findFed 85 = .ok (.iconst 1, 1) := by decide +kernel
theorem dX7_findFed_86 : decode cX7_findFed 86 = .ok (.iadd, 1) := by decide +kernel
theorem dX7_findFed_87 : decode cX7_findFed 87 = .ok (.istore_n 3, 1) := by decide +kernel
theorem dX7_findFed_88 : decode cX7_findFed 88 = .ok (.iload_n 3, 1) := by decide +kernel
theorem dX7_findFed_89 : decode cX7_findFed 89 = .ok (.aload_n 0, 1) := by decide +kernel
theorem dX7_findFed_90 : decode cX7_findFed 90 = .ok (.getfield 24, 3) := by decide +kernel
theorem dX7_findFed_93 : decode cX7_findFed 93 = .ok (.getfield 217, 3) := by decide +kernel
theorem dX7_findFed_96 : decode cX7_findFed 96 = .ok (.if_icmp .ge 34, 3) := by decide +kernel
theorem dX7_findFed_99 : decode cX7_findFed 99 = .ok (.aload_n 0, 1) := by decide +kernel
theorem dX7_findFed_100 : decode cX7_findFed 100 = .ok (.getfield 72, 3) := by decide +kernel
theorem dX7_findFed_103 : decode cX7_findFed 103 = .ok (.iconst (-1), 1) := by decide +kernel
theorem dX7_findFed_104 : decode cX7_findFed 104 = .ok (.if_icmp .ne 26, 3) := by decide +kernel
theorem dX7_findFed_107 : decode cX7_findFed 107 = .ok (.aload_n 0, 1) := by decide +kernel
theorem dX7_findFed_108 : decode cX7_findFed 108 = .ok (.iload_n 1, 1) := by decide +kernel
theorem dX7_findFed_109 : decode cX7_findFed 109 = .ok (.iload_n 2, 1) := by decide +kernel
theorem dX7_findFed_110 : decode cX7_findFed 110 = .ok (.iload_n 3, 1) := by decide +kernel
theorem dX7_findFed_111 : decode cX7_findFed 111 = .ok (.invokevirtual 367, 3) := by decide +kernel
theorem dX7_findFed_114 : decode cX7_findFed 114 = .ok (.ifCond .eq 10, 3) := by decide +kernel
theorem dX7_findFed_117 : decode cX7_findFed 117 = .ok (.aload_n 0, 1) := by decide +kernel
theorem dX7_findFed_118 : decode cX7_findFed 118 = .ok (.iconst 2, 1) := by decide +kernel
theorem dX7_findFed_119 : decode cX7_findFed 119 = .ok (.iload_n 2, 1) := by decide +kernel
theorem dX7_findFed_120 : decode cX7_findFed 120 = .ok (.iload_n 3, 1) := by decide +kernel
theorem dX7_findFed_121 : decode cX7_findFed 121 = .ok (.invokevirtual 370, 3) := by decide +kernel
theorem dX7_findFed_124 : decode cX7_findFed 124 = .ok (.iinc 3 1, 3) := by decide +kernel
theorem dX7_findFed_127 : decode cX7_findFed 127 = .ok (.goto (-39), 3) := by decide +kernel
theorem dX7_findFed_130 : decode cX7_findFed 130 = .ok (.iinc 2 1, 3) := by decide +kernel
theorem dX7_findFed_133 : decode cX7_findFed 133 = .ok (.goto (-68), 3) := by decide +kernel
theorem dX7_findFed_136 : decode cX7_findFed 136 = .ok (.return_, 1) := by decide +kernel
theorem dX7_keepFed_0 : decode cX7_keepFed 0 = .ok (.aload_n 0, 1) := by decide +kernel
theorem dX7_keepFed_1 : decode cX7_keepFed 1 = .ok (.iload_n 1, 1) := by decide +kernel
theorem dX7_keepFed_2 : decode cX7_keepFed 2 = .ok (.putfield 72, 3) := by decide +kernel
theorem dX7_keepFed_5 : decode cX7_keepFed 5 = .ok (.aload_n 0, 1) := by decide +kernel
theorem dX7_keepFed_6 : decode cX7_keepFed 6 = .ok (.getfield 68, 3) := by decide +kernel
theorem dX7_keepFed_9 : decode cX7_keepFed 9 = .ok (.iconst 0, 1) := by decide +kernel
theorem dX7_keepFed_10 : decode cX7_keepFed 10 = .ok (.iload_n 2, 1) := by decide +kernel
theorem dX7_keepFed_11 : decode cX7_keepFed 11 = .ok (.iastore, 1) := by decide +kernel
theorem dX7_keepFed_12 : decode cX7_keepFed 12 = .ok (.aload_n 0, 1) := by decide +kernel
theorem dX7_keepFed_13 : decode cX7_keepFed 13 = .ok (.getfield 68, 3) := by decide +kernel
theorem dX7_keepFed_16 : decode cX7_keepFed 16 = .ok (.iconst 1, 1) := by decide +kernel
theorem dX7_keepFed_17 : decode cX7_keepFed 17 = .ok (.iload_n 3, 1) := by decide +kernel
theorem dX7_keepFed_18 : decode cX7_keepFed 18 = .ok (.iastore, 1) := by decide +kernel
theorem dX7_keepFed_19 : decode cX7_keepFed 19 = .ok (.return_, 1) := by decide +kernel
theorem dX7_fedAt_0 : decode cX7_fedAt 0 = .ok (.iload_n 1, 1) := by decide +kernel
theorem dX7_fedAt_1 : decode cX7_fedAt 1 = .ok (.ifCond .lt 25, 3) := by decide +kernel
theorem dX7_fedAt_4 : decode cX7_fedAt 4 = .ok (.iload_n 1, 1) := by decide +kernel
theorem dX7_fedAt_5 : decode cX7_fedAt 5 = .ok (.aload_n 0, 1) := by decide +kernel
theorem dX7_fedAt_6 : decode cX7_fedAt 6 = .ok (.getfield 72, 3) := by decide +kernel
theorem dX7_fedAt_9 : decode cX7_fedAt 9 = .ok (.if_icmp .ge 17, 3) := by decide +kernel
theorem dX7_fedAt_12 : decode cX7_fedAt 12 = .ok (.iload_n 1, 1) := by decide +kernel
theorem dX7_fedAt_13 : decode cX7_fedAt 13 = .ok (.iconst 2, 1) := by decide +kernel
theorem dX7_fedAt_14 : decode cX7_fedAt 14 = .ok (.if_icmp .ge 12, 3) := by decide +kernel
theorem dX7_fedAt_17 : decode cX7_fedAt 17 = .ok (.aload_n 0, 1) := by decide +kernel
theorem dX7_fedAt_18 : decode cX7_fedAt 18 = .ok (.getfield 68, 3) := by decide +kernel
theorem dX7_fedAt_21 : decode cX7_fedAt 21 = .ok (.iload_n 1, 1) := by decide +kernel
theorem dX7_fedAt_22 : decode cX7_fedAt 22 = .ok (.iaload, 1) := by decide +kernel
theorem dX7_fedAt_23 : decode cX7_fedAt 23 = .ok (.goto 4, 3) := by decide +kernel
theorem dX7_fedAt_26 : decode cX7_fedAt 26 = .ok (.iconst (-1), 1) := by decide +kernel
theorem dX7_fedAt_27 : decode cX7_fedAt 27 = .ok (.ireturn, 1) := by decide +kernel
theorem dX7_staysWhole_0 : decode cX7_staysWhole 0 = .ok (.aload_n 0, 1) := by decide +kernel
theorem dX7_staysWhole_1 : decode cX7_staysWhole 1 = .ok (.getfield 24, 3) := by decide +kernel
theorem dX7_staysWhole_4 : decode cX7_staysWhole 4 = .ok (.iload_n 2, 1) := by decide +kernel
theorem dX7_staysWhole_5 : decode cX7_staysWhole 5 = .ok (.iconst 0, 1) := by decide +kernel
theorem dX7_staysWhole_6 : decode cX7_staysWhole 6 = .ok (.invokevirtual 373, 3) := by decide +kernel
theorem dX7_staysWhole_9 : decode cX7_staysWhole 9 = .ok (.istore 4, 2) := by decide +kernel
theorem dX7_staysWhole_11 : decode cX7_staysWhole 11 = .ok (.aload_n 0, 1) := by decide +kernel
theorem dX7_staysWhole_12 : decode cX7_staysWhole 12 = .ok (.getfield 24, 3) := by decide +kernel
theorem dX7_staysWhole_15 : decode cX7_staysWhole 15 = .ok (.iload_n 3, 1) := by decide +kernel
theorem dX7_staysWhole_16 : decode cX7_staysWhole 16 = .ok (.iconst 0, 1) := by decide +kernel
theorem dX7_staysWhole_17 : decode cX7_staysWhole 17 = .ok (.invokevirtual 373, 3) := by decide +kernel
theorem dX7_staysWhole_20 : decode cX7_staysWhole 20 = .ok (.istore 5, 2) := by decide +kernel
theorem dX7_staysWhole_22 : decode cX7_staysWhole 22 = .ok (.aload_n 0, 1) := by decide +kernel
theorem dX7_staysWhole_23 : decode cX7_staysWhole 23 = .ok (.getfield 33, 3) := by decide +kernel
theorem dX7_staysWhole_26 : decode cX7_staysWhole 26 = .ok (.aload_n 0, 1) := by decide +kernel
theorem dX7_staysWhole_27 : decode cX7_staysWhole 27 = .ok (.getfield 40, 3) := by decide +kernel
theorem dX7_staysWhole_30 : decode cX7_staysWhole 30 = .ok (.invokevirtual 169, 3) := by decide +kernel
theorem dX7_staysWhole_33 : decode cX7_staysWhole 33 = .ok (.aload_n 0, 1) := by decide +kernel
theorem dX7_staysWhole_34 : decode cX7_staysWhole 34 = .ok (.getfield 44, 3) := by decide +kernel
theorem dX7_staysWhole_37 : decode cX7_staysWhole 37 = .ok (.invokevirtual 169, 3) := by decide +kernel
theorem dX7_staysWhole_40 : decode cX7_staysWhole 40 = .ok (.bipush 40, 2) := by decide +kernel
theorem dX7_staysWhole_42 : decode cX7_staysWhole 42 = .ok (.invokevirtual 173, 3) := by decide +kernel
theorem dX7_staysWhole_45 : decode cX7_staysWhole 45 = .ok (.aload_n 0, 1) := by decide +kernel
theorem dX7_staysWhole_46 : decode cX7_staysWhole 46 = .ok (.getfield 24, 3) := by decide +kernel
theorem dX7_staysWhole_49 : decode cX7_staysWhole 49 = .ok (.iload_n 3, 1) := by decide +kernel
theorem dX7_staysWhole_50 : decode cX7_staysWhole 50 = .ok (.iload 5, 2) := by decide +kernel
theorem dX7_staysWhole_52 : decode cX7_staysWhole 52 = .ok (.invokevirtual 373, 3) := by decide +kernel
theorem dX7_staysWhole_55 : decode cX7_staysWhole 55 = .ok (.pop, 1) := by decide +kernel
theorem dX7_staysWhole_56 : decode cX7_staysWhole 56 = .ok (.aload_n 0, 1) := by decide +kernel
theorem dX7_staysWhole_57 : decode cX7_staysWhole 57 = .ok (.getfield 24, 3) := by decide +kernel
theorem dX7_staysWhole_60 : decode cX7_staysWhole 60 = .ok (.iload_n 2, 1) := by decide +kernel
theorem dX7_staysWhole_61 : decode cX7_staysWhole 61 = .ok (.iload 4, 2) := by decide +kernel
theorem dX7_staysWhole_63 : decode cX7_staysWhole 63 = .ok (.invokevirtual 373, 3) := by decide +kernel
theorem dX7_staysWhole_66 : decode cX7_staysWhole 66 = .ok (.pop, 1) := by decide +kernel
theorem dX7_staysWhole_67 : decode cX7_staysWhole 67 = .ok (.aload_n 0, 1) := by decide +kernel
theorem dX7_staysWhole_68 : decode cX7_staysWhole 68 = .ok (.getfield 33, 3) := by decide +kernel
theorem dX7_staysWhole_71 : decode cX7_staysWhole 71 = .ok (.getfield 192, 3) := by decide +kernel
theorem dX7_staysWhole_74 : decode cX7_staysWhole 74 = .ok (.iload_n 1, 1) := by decide +kernel
theorem dX7_staysWhole_75 : decode cX7_staysWhole 75 = .ok (.iaload, 1) := by decide +kernel
theorem dX7_staysWhole_76 : decode cX7_staysWhole 76 = .ok (.iconst (-1), 1) := by decide +kernel
theorem dX7_staysWhole_77 : decode cX7_staysWhole 77 = .ok (.if_icmp .eq 18, 3) := by decide +kernel
theorem dX7_staysWhole_80 : decode cX7_staysWhole 80 = .ok (.aload_n 0, 1) := by decide +kernel
theorem dX7_staysWhole_81 : decode cX7_staysWhole 81 = .ok (.getfield 33, 3) := by decide +kernel
theorem dX7_staysWhole_84 : decode cX7_staysWhole 84 = .ok (.iload_n 1, 1) := by decide +kernel
theorem dX7_staysWhole_85 : decode cX7_staysWhole 85 = .ok (.invokevirtual 376, 3) := by decide +kernel
theorem dX7_staysWhole_88 : decode cX7_staysWhole 88 = .ok (.ifCond .eq 7, 3) := by decide +kernel
theorem dX7_staysWhole_91 : decode cX7_staysWhole 91 = .ok (.iconst 1, 1) := by decide +kernel
theorem dX7_staysWhole_92 : decode cX7_staysWhole 92 = .ok (.goto 4, 3) := by decide +kernel
theorem dX7_staysWhole_95 : decode cX7_staysWhole 95 = .ok (.iconst 0, 1) := by decide +kernel
theorem dX7_staysWhole_96 : decode cX7_staysWhole 96 = .ok (.ireturn, 1) := by decide +kernel
theorem dX7_fittingBites_0 : decode cX7_fittingBites 0 = .ok (.aload_n 0, 1) := by decide +kernel
theorem dX7_fittingBites_1 : decode cX7_fittingBites 1 = .ok (.getfield 24, 3) := by decide +kernel
theorem dX7_fittingBites_4 : decode cX7_fittingBites 4 = .ok (.getfield 119, 3) := by decide +kernel
theorem dX7_fittingBites_7 : decode cX7_fittingBites 7 = .ok (.iload_n 1, 1) := by decide +kernel
theorem dX7_fittingBites_8 : decode cX7_fittingBites 8 = .ok (.iaload, 1) := by decide +kernel
theorem dX7_fittingBites_9 : decode cX7_fittingBites 9 = .ok (.istore_n 2, 1) := by decide +kernel
theorem dX7_fittingBites_10 : decode cX7_fittingBites 10 = .ok (.iconst 0, 1) := by decide +kernel
theorem dX7_fittingBites_11 : decode cX7_fittingBites 11 = .ok (.istore_n 3, 1) := by decide +kernel
theorem dX7_fittingBites_12 : decode cX7_fittingBites 12 = .ok (.iconst 0, 1) := by decide +kernel
theorem dX7_fittingBites_13 : decode cX7_fittingBites 13 = .ok (.istore 4, 2) := by decide +kernel
theorem dX7_fittingBites_15 : decode cX7_fittingBites 15 = .ok (.iload 4, 2) := by decide +kernel
theorem dX7_fittingBites_17 : decode cX7_fittingBites 17 = .ok (.bipush 10, 2) := by decide +kernel
theorem dX7_fittingBites_19 : decode cX7_fittingBites 19 = .ok (.if_icmp .ge 86, 3) := by decide +kernel
theorem dX7_fittingBites_22 : decode cX7_fittingBites 22 = .ok (.aload_n 0, 1) := by decide +kernel
theorem dX7_fittingBites_23 : decode cX7_fittingBites 23 = .ok (.getfield 24, 3) := by decide +kernel
theorem dX7_fittingBites_26 : decode cX7_fittingBites 26 = .ok (.getfield 119, 3) := by decide +kernel
theorem dX7_fittingBites_29 : decode cX7_fittingBites 29 = .ok (.iload_n 1, 1) := by decide +kernel
theorem dX7_fittingBites_30 : decode cX7_fittingBites 30 = .ok (.iload 4, 2) := by decide +kernel
theorem dX7_fittingBites_32 : decode cX7_fittingBites 32 = .ok (.iastore, 1) := by decide +kernel
theorem dX7_fittingBites_33 : decode cX7_fittingBites 33 = .ok (.aload_n 0, 1) := by decide +kernel
theorem dX7_fittingBites_34 : decode cX7_fittingBites 34 = .ok (.getfield 33, 3) := by decide +kernel
theorem dX7_fittingBites_37 : decode cX7_fittingBites 37 = .ok (.aload_n 0, 1) := by decide +kernel
theorem dX7_fittingBites_38 : decode cX7_fittingBites 38 = .ok (.getfield 40, 3) := by decide +kernel
theorem dX7_fittingBites_41 : decode cX7_fittingBites 41 = .ok (.invokevirtual 169, 3) := by decide +kernel
theorem dX7_fittingBites_44 : decode cX7_fittingBites 44 = .ok (.aload_n 0, 1) := by decide +kernel
theorem dX7_fittingBites_45 : decode cX7_fittingBites 45 = .ok (.getfield 44, 3) := by decide +kernel
theorem dX7_fittingBites_48 : decode cX7_fittingBites 48 = .ok (.invokevirtual 169, 3) := by decide +kernel
theorem dX7_fittingBites_51 : decode cX7_fittingBites 51 = .ok (.bipush 40, 2) := by decide +kernel
theorem dX7_fittingBites_53 : decode cX7_fittingBites 53 = .ok (.invokevirtual 173, 3) := by decide +kernel
theorem dX7_fittingBites_56 : decode cX7_fittingBites 56 = .ok (.aload_n 0, 1) := by decide +kernel
theorem dX7_fittingBites_57 : decode cX7_fittingBites 57 = .ok (.getfield 50, 3) := by decide +kernel
theorem dX7_fittingBites_60 : decode cX7_fittingBites 60 = .ok (.aload_n 0, 1) := by decide +kernel
theorem dX7_fittingBites_61 : decode cX7_fittingBites 61 = .ok (.getfield 33, 3) := by decide +kernel
theorem dX7_fittingBites_64 : decode cX7_fittingBites 64 = .ok (.invokevirtual 258, 3) := by decide +kernel
theorem dX7_fittingBites_67 : decode cX7_fittingBites 67 = .ok (.ifCond .eq 10, 3) := by decide +kernel
theorem dX7_fittingBites_70 : decode cX7_fittingBites 70 = .ok (.iload_n 3, 1) := by decide +kernel
theorem dX7_fittingBites_71 : decode cX7_fittingBites 71 = .ok (.iconst 1, 1) := by decide +kernel
theorem dX7_fittingBites_72 : decode cX7_fittingBites 72 = .ok (.iload 4, 2) := by decide +kernel
theorem dX7_fittingBites_74 : decode cX7_fittingBites 74 = .ok (.ishl, 1) := by decide +kernel
theorem dX7_fittingBites_75 : decode cX7_fittingBites 75 = .ok (.ior, 1) := by decide +kernel
theorem dX7_fittingBites_76 : decode cX7_fittingBites 76 = .ok (.istore_n 3, 1) := by decide +kernel
theorem dX7_fittingBites_77 : decode cX7_fittingBites 77 = .ok (.aload_n 0, 1) := by decide +kernel
theorem dX7_fittingBites_78 : decode cX7_fittingBites 78 = .ok (.getfield 33, 3) := by decide +kernel
theorem dX7_fittingBites_81 : decode cX7_fittingBites 81 = .ok (.getfield 180, 3) := by decide +kernel
theorem dX7_fittingBites_84 : decode cX7_fittingBites 84 = .ok (.iconst 0, 1) := by decide +kernel
theorem dX7_fittingBites_85 : decode cX7_fittingBites 85 = .ok (.aload_n 0, 1) := by decide +kernel
theorem dX7_fittingBites_86 : decode cX7_fittingBites 86 = .ok (.getfield 76, 3) := by decide +kernel
theorem dX7_fittingBites_89 : decode cX7_fittingBites 89 = .ok (.iload 4, 2) := by decide +kernel
theorem dX7_fittingBites_91 : decode cX7_fittingBites 91 = .ok (.bipush 8, 2) := by decide +kernel
theorem dX7_fittingBites_93 : decode cX7_fittingBites 93 = .ok (.imul, 1) := by decide +kernel
theorem dX7_fittingBites_94 : decode cX7_fittingBites 94 = .ok (.bipush 8, 2) := by decide +kernel
theorem dX7_fittingBites_96 : decode cX7_fittingBites 96 = .ok (.invokestatic 310, 3) := by decide +kernel
theorem dX7_fittingBites_99 : decode cX7_fittingBites 99 = .ok (.iinc 4 1, 3) := by decide +kernel
theorem dX7_fittingBites_102 : decode cX7_fittingBites 102 = .ok (.goto (-87), 3) := by decide +kernel
theorem dX7_fittingBites_105 : decode cX7_fittingBites 105 = .ok (.aload_n 0, 1) := by decide +kernel
theorem dX7_fittingBites_106 : decode cX7_fittingBites 106 = .ok (.getfield 24, 3) := by decide +kernel
theorem dX7_fittingBites_109 : decode cX7_fittingBites 109 = .ok (.getfield 119, 3) := by decide +kernel
theorem dX7_fittingBites_112 : decode cX7_fittingBites 112 = .ok (.iload_n 1, 1) := by decide +kernel
theorem dX7_fittingBites_113 : decode cX7_fittingBites 113 = .ok (.iload_n 2, 1) := by decide +kernel
theorem dX7_fittingBites_114 : decode cX7_fittingBites 114 = .ok (.iastore, 1) := by decide +kernel
theorem dX7_fittingBites_115 : decode cX7_fittingBites 115 = .ok (.iload_n 3, 1) := by decide +kernel
theorem dX7_fittingBites_116 : decode cX7_fittingBites 116 = .ok (.ireturn, 1) := by decide +kernel
theorem dX7_fittingWords_0 : decode cX7_fittingWords 0 = .ok (.aload_n 0, 1) := by decide +kernel
theorem dX7_fittingWords_1 : decode cX7_fittingWords 1 = .ok (.getfield 24, 3) := by decide +kernel
theorem dX7_fittingWords_4 : decode cX7_fittingWords 4 = .ok (.getfield 122, 3) := by decide +kernel
theorem dX7_fittingWords_7 : decode cX7_fittingWords 7 = .ok (.iload_n 1, 1) := by decide +kernel
theorem dX7_fittingWords_8 : decode cX7_fittingWords 8 = .ok (.iaload, 1) := by decide +kernel
theorem dX7_fittingWords_9 : decode cX7_fittingWords 9 = .ok (.istore_n 2, 1) := by decide +kernel
theorem dX7_fittingWords_10 : decode cX7_fittingWords 10 = .ok (.iconst 0, 1) := by decide +kernel
theorem dX7_fittingWords_11 : decode cX7_fittingWords 11 = .ok (.istore_n 3, 1) := by decide +kernel
theorem dX7_fittingWords_12 : decode cX7_fittingWords 12 = .ok (.iconst 0, 1) := by decide +kernel
theorem dX7_fittingWords_13 : decode cX7_fittingWords 13 = .ok (.istore 4, 2) := by decide +kernel
theorem dX7_fittingWords_15 : decode cX7_fittingWords 15 = .ok (.iload 4, 2) := by decide +kernel
theorem dX7_fittingWords_17 : decode cX7_fittingWords 17 = .ok (.bipush 8, 2) := by decide +kernel
theorem dX7_fittingWords_19 : decode cX7_fittingWords 19 = .ok (.if_icmp .ge 64, 3) := by decide +kernel
theorem dX7_fittingWords_22 : decode cX7_fittingWords 22 = .ok (.aload_n 0, 1) := by decide +kernel
theorem dX7_fittingWords_23 : decode cX7_fittingWords 23 = .ok (.getfield 24, 3) := by decide +kernel
theorem dX7_fittingWords_26 : decode cX7_fittingWords 26 = .ok (.getfield 122, 3) := by decide +kernel
theorem dX7_fittingWords_29 : decode cX7_fittingWords 29 = .ok (.iload_n 1, 1) := by decide +kernel
theorem dX7_fittingWords_30 : decode cX7_fittingWords 30 = .ok (.iload 4, 2) := by decide +kernel
theorem dX7_fittingWords_32 : decode cX7_fittingWords 32 = .ok (.iastore, 1) := by decide +kernel
theorem dX7_fittingWords_33 : decode cX7_fittingWords 33 = .ok (.aload_n 0, 1) := by decide +kernel
theorem dX7_fittingWords_34 : decode cX7_fittingWords 34 = .ok (.getfield 33, 3) := by decide +kernel
theorem dX7_fittingWords_37 : decode cX7_fittingWords 37 = .ok (.aload_n 0, 1) := by decide +kernel
theorem dX7_fittingWords_38 : decode cX7_fittingWords 38 = .ok (.getfield 40, 3) := by decide +kernel
theorem dX7_fittingWords_41 : decode cX7_fittingWords 41 = .ok (.invokevirtual 169, 3) := by decide +kernel
theorem dX7_fittingWords_44 : decode cX7_fittingWords 44 = .ok (.aload_n 0, 1) := by decide +kernel
theorem dX7_fittingWords_45 : decode cX7_fittingWords 45 = .ok (.getfield 44, 3) := by decide +kernel
theorem dX7_fittingWords_48 : decode cX7_fittingWords 48 = .ok (.invokevirtual 169, 3) := by decide +kernel
theorem dX7_fittingWords_51 : decode cX7_fittingWords 51 = .ok (.bipush 40, 2) := by decide +kernel
theorem dX7_fittingWords_53 : decode cX7_fittingWords 53 = .ok (.invokevirtual 173, 3) := by decide +kernel
theorem dX7_fittingWords_56 : decode cX7_fittingWords 56 = .ok (.aload_n 0, 1) := by decide +kernel
theorem dX7_fittingWords_57 : decode cX7_fittingWords 57 = .ok (.getfield 50, 3) := by decide +kernel
theorem dX7_fittingWords_60 : decode cX7_fittingWords 60 = .ok (.aload_n 0, 1) := by decide +kernel
theorem dX7_fittingWords_61 : decode cX7_fittingWords 61 = .ok (.getfield 33, 3) := by decide +kernel
theorem dX7_fittingWords_64 : decode cX7_fittingWords 64 = .ok (.invokevirtual 258, 3) := by decide +kernel
theorem dX7_fittingWords_67 : decode cX7_fittingWords 67 = .ok (.ifCond .eq 10, 3) := by decide +kernel
theorem dX7_fittingWords_70 : decode cX7_fittingWords 70 = .ok (.iload_n 3, 1) := by decide +kernel
theorem dX7_fittingWords_71 : decode cX7_fittingWords 71 = .ok (.iconst 1, 1) := by decide +kernel
theorem dX7_fittingWords_72 : decode cX7_fittingWords 72 = .ok (.iload 4, 2) := by decide +kernel
theorem dX7_fittingWords_74 : decode cX7_fittingWords 74 = .ok (.ishl, 1) := by decide +kernel
theorem dX7_fittingWords_75 : decode cX7_fittingWords 75 = .ok (.ior, 1) := by decide +kernel
theorem dX7_fittingWords_76 : decode cX7_fittingWords 76 = .ok (.istore_n 3, 1) := by decide +kernel
theorem dX7_fittingWords_77 : decode cX7_fittingWords 77 = .ok (.iinc 4 1, 3) := by decide +kernel
theorem dX7_fittingWords_80 : decode cX7_fittingWords 80 = .ok (.goto (-65), 3) := by decide +kernel
theorem dX7_fittingWords_83 : decode cX7_fittingWords 83 = .ok (.aload_n 0, 1) := by decide +kernel
theorem dX7_fittingWords_84 : decode cX7_fittingWords 84 = .ok (.getfield 24, 3) := by decide +kernel
theorem dX7_fittingWords_87 : decode cX7_fittingWords 87 = .ok (.getfield 122, 3) := by decide +kernel
theorem dX7_fittingWords_90 : decode cX7_fittingWords 90 = .ok (.iload_n 1, 1) := by decide +kernel
theorem dX7_fittingWords_91 : decode cX7_fittingWords 91 = .ok (.iload_n 2, 1) := by decide +kernel
theorem dX7_fittingWords_92 : decode cX7_fittingWords 92 = .ok (.iastore, 1) := by decide +kernel
theorem dX7_fittingWords_93 : decode cX7_fittingWords 93 = .ok (.iload_n 3, 1) := by decide +kernel
theorem dX7_fittingWords_94 : decode cX7_fittingWords 94 = .ok (.ireturn, 1) := by decide +kernel
theorem dX7_greatestHeap_0 : decode cX7_greatestHeap 0 = .ok (.iconst 0, 1) := by decide +kernel
theorem dX7_greatestHeap_1 : decode cX7_greatestHeap 1 = .ok (.istore_n 3, 1) := by decide +kernel
theorem dX7_greatestHeap_2 : decode cX7_greatestHeap 2 = .ok (.iconst 0, 1) := by decide +kernel
theorem dX7_greatestHeap_3 : decode cX7_greatestHeap 3 = .ok (.istore 4, 2) := by decide +kernel
theorem dX7_greatestHeap_5 : decode cX7_greatestHeap 5 = .ok (.iload 4, 2) := by decide +kernel
theorem dX7_greatestHeap_7 : decode cX7_greatestHeap 7 = .ok (.bipush 10, 2) := by decide +kernel
theorem dX7_greatestHeap_9 : decode cX7_greatestHeap 9 = .ok (.if_icmp .ge 97, 3) := by decide +kernel
theorem dX7_greatestHeap_12 : decode cX7_greatestHeap 12 = .ok (.iconst 0, 1) := by decide +kernel
theorem dX7_greatestHeap_13 : decode cX7_greatestHeap 13 = .ok (.istore 5, 2) := by decide +kernel
theorem dX7_greatestHeap_15 : decode cX7_greatestHeap 15 = .ok (.iconst 0, 1) := by decide +kernel
theorem dX7_greatestHeap_16 : decode cX7_greatestHeap 16 = .ok (.istore 6, 2) := by decide +kernel
theorem dX7_greatestHeap_18 : decode cX7_greatestHeap 18 = .ok (.iload 6, 2) := by decide +kernel
theorem dX7_greatestHeap_20 : decode cX7_greatestHeap 20 = .ok (.bipush 10, 2) := by decide +kernel
theorem dX7_greatestHeap_22 : decode cX7_greatestHeap 22 = .ok (.if_icmp .ge 71, 3) := by decide +kernel
theorem dX7_greatestHeap_25 : decode cX7_greatestHeap 25 = .ok (.iload_n 2, 1) := by decide +kernel
theorem dX7_greatestHeap_26 : decode cX7_greatestHeap 26 = .ok (.iload 4, 2) := by decide +kernel
theorem dX7_greatestHeap_28 : decode cX7_greatestHeap 28 = .ok (.ishr, 1) := by decide +kernel
theorem dX7_greatestHeap_29 : decode cX7_greatestHeap 29 = .ok (.iconst 1, 1) := by decide +kernel
theorem dX7_greatestHeap_30 : decode cX7_greatestHeap 30 = .ok (.iand, 1) := by decide +kernel
theorem dX7_greatestHeap_31 : decode cX7_greatestHeap 31 = .ok (.iconst 1, 1) := by decide +kernel
theorem dX7_greatestHeap_32 : decode cX7_greatestHeap 32 = .ok (.if_icmp .ne 17, 3) := by decide +kernel
theorem dX7_greatestHeap_35 : decode cX7_greatestHeap 35 = .ok (.iload_n 2, 1) := by decide +kernel
theorem dX7_greatestHeap_36 : decode cX7_greatestHeap 36 = .ok (.iload 6, 2) := by decide +kernel
theorem dX7_greatestHeap_38 : decode cX7_greatestHeap 38 = .ok (.ishr, 1) := by decide +kernel
theorem dX7_greatestHeap_39 : decode cX7_greatestHeap 39 = .ok (.iconst 1, 1) := by decide +kernel
theorem dX7_greatestHeap_40 : decode cX7_greatestHeap 40 = .ok (.iand, 1) := by decide +kernel
theorem dX7_greatestHeap_41 : decode cX7_greatestHeap 41 = .ok (.iconst 1, 1) := by decide +kernel
theorem dX7_greatestHeap_42 : decode cX7_greatestHeap 42 = .ok (.if_icmp .ne 7, 3) := by decide +kernel
theorem dX7_greatestHeap_45 : decode cX7_greatestHeap 45 = .ok (.iconst 1, 1) := by decide +kernel
theorem dX7_greatestHeap_46 : decode cX7_greatestHeap 46 = .ok (.goto 4, 3) := by decide +kernel
theorem dX7_greatestHeap_49 : decode cX7_greatestHeap 49 = .ok (.iconst 0, 1) := by decide +kernel
theorem dX7_greatestHeap_50 : decode cX7_greatestHeap 50 = .ok (.istore 7, 2) := by decide +kernel
theorem dX7_greatestHeap_52 : decode cX7_greatestHeap 52 = .ok (.iload 7, 2) := by decide +kernel
theorem dX7_greatestHeap_54 : decode cX7_greatestHeap 54 = .ok (.ifCond .eq 33, 3) := by decide +kernel
theorem dX7_greatestHeap_57 : decode cX7_greatestHeap 57 = .ok (.aload_n 0, 1) := by decide +kernel
theorem dX7_greatestHeap_58 : decode cX7_greatestHeap 58 = .ok (.getfield 76, 3) := by decide +kernel
theorem dX7_greatestHeap_61 : decode cX7_greatestHeap 61 = .ok (.iload 4, 2) := by decide +kernel
theorem dX7_greatestHeap_63 : decode cX7_greatestHeap 63 = .ok (.bipush 8, 2) := by decide +kernel
theorem dX7_greatestHeap_65 : decode cX7_greatestHeap 65 = .ok (.imul, 1) := by decide +kernel
theorem dX7_greatestHeap_66 : decode cX7_greatestHeap 66 = .ok (.iload_n 1, 1) := by decide +kernel
theorem dX7_greatestHeap_67 : decode cX7_greatestHeap 67 = .ok (.iadd, 1) := by decide +kernel
theorem dX7_greatestHeap_68 : decode cX7_greatestHeap 68 = .ok (.iaload, 1) := by decide +kernel
theorem dX7_greatestHeap_69 : decode cX7_greatestHeap 69 = .ok (.aload_n 0, 1) := by decide +kernel
theorem dX7_greatestHeap_70 : decode cX7_greatestHeap 70 = .ok (.getfield 76, 3) := by decide +kernel
theorem dX7_greatestHeap_73 : decode cX7_greatestHeap 73 = .ok (.iload 6, 2) := by decide +kernel
theorem dX7_greatestHeap_75 : decode cX7_greatestHeap 75 = .ok (.bipush 8, 2) := by decide +kernel
theorem dX7_greatestHeap_77 : decode cX7_greatestHeap 77 = .ok (.imul, 1) := by decide +kernel
theorem dX7_greatestHeap_78 : decode cX7_greatestHeap 78 = .ok (.iload_n 1, 1) := by decide +kernel
theorem dX7_greatestHeap_79 : decode cX7_greatestHeap 79 = .ok (.iadd, 1) := by decide +kernel
theorem dX7_greatestHeap_80 : decode cX7_greatestHeap 80 = .ok (.iaload, 1) := by decide +kernel
theorem dX7_greatestHeap_81 : decode cX7_greatestHeap 81 = .ok (.if_icmp .ne 6, 3) := by decide +kernel
theorem dX7_greatestHeap_84 : decode cX7_greatestHeap 84 = .ok (.iinc 5 1, 3) := by decide +kernel
theorem dX7_greatestHeap_87 : decode cX7_greatestHeap 87 = .ok (.iinc 6 1, 3) := by decide +kernel
theorem dX7_greatestHeap_90 : decode cX7_greatestHeap 90 = .ok (.goto (-72), 3) := by decide +kernel
theorem dX7_greatestHeap_93 : decode cX7_greatestHeap 93 = .ok (.iload_n 3, 1) := by decide +kernel
theorem dX7_greatestHeap_94 : decode cX7_greatestHeap 94 = .ok (.iload 5, 2) := by decide +kernel
theorem dX7_greatestHeap_96 : decode cX7_greatestHeap 96 = .ok (.invokestatic 379, 3) := by decide +kernel
theorem dX7_greatestHeap_99 : decode cX7_greatestHeap 99 = .ok (.istore_n 3, 1) := by decide +kernel
theorem dX7_greatestHeap_100 : decode cX7_greatestHeap 100 = .ok (.iinc 4 1, 3) := by decide +kernel
theorem dX7_greatestHeap_103 : decode cX7_greatestHeap 103 = .ok (.goto (-98), 3) := by decide +kernel
theorem dX7_greatestHeap_106 : decode cX7_greatestHeap 106 = .ok (.iload_n 3, 1) := by decide +kernel
theorem dX7_greatestHeap_107 : decode cX7_greatestHeap 107 = .ok (.ireturn, 1) := by decide +kernel
theorem dX7_findChance_0 : decode cX7_findChance 0 = .ok (.aload_n 0, 1) := by decide +kernel
theorem dX7_findChance_1 : decode cX7_findChance 1 = .ok (.lconst 0, 1) := by decide +kernel
theorem dX7_findChance_2 : decode cX7_findChance 2 = .ok (.putfield 79, 3) := by decide +kernel
theorem dX7_findChance_5 : decode cX7_findChance 5 = .ok (.aload_n 0, 1) := by decide +kernel
theorem dX7_findChance_6 : decode cX7_findChance 6 = .ok (.lconst 1, 1) := by decide +kernel
theorem dX7_findChance_7 : decode cX7_findChance 7 = .ok (.iconst 4, 1) := by decide +kernel
theorem dX7_findChance_8 : decode cX7_findChance 8 = .ok (.aload_n 0, 1) := by decide +kernel
theorem dX7_findChance_9 : decode cX7_findChance 9 = .ok (.getfield 40, 3) := by decide +kernel
theorem dX7_findChance_12 : decode cX7_findChance 12 = .ok (.getfield 151, 3) := by decide +kernel
theorem dX7_findChance_15 : decode cX7_findChance 15 = .ok (.imul, 1) := by decide +kernel
theorem dX7_findChance_16 : decode cX7_findChance 16 = .ok (.lshl, 1) := by decide +kernel
theorem dX7_findChance_17 : decode cX7_findChance 17 = .ok (.putfield 83, 3) := by decide +kernel
theorem dX7_findChance_20 : decode cX7_findChance 20 = .ok (.iconst 0, 1) := by decide +kernel
theorem dX7_findChance_21 : decode cX7_findChance 21 = .ok (.istore 4, 2) := by decide +kernel
theorem dX7_findChance_23 : decode cX7_findChance 23 = .ok (.iload 4, 2) := by decide +kernel
theorem dX7_findChance_25 : decode cX7_findChance 25 = .ok (.iconst 1, 1) := by decide +kernel
theorem dX7_findChance_26 : decode cX7_findChance 26 = .ok (.aload_n 0, 1) := by decide +kernel
theorem dX7_findChance_27 : decode cX7_findChance 27 = .ok (.getfield 40, 3) := by decide +kernel
theorem dX7_findChance_30 : decode cX7_findChance 30 = .ok (.getfield 151, 3) := by decide +kernel
theorem dX7_findChance_33 : decode cX7_findChance 33 = .ok (.ishl, 1) := by decide +kernel
theorem dX7_findChance_34 : decode cX7_findChance 34 = .ok (.if_icmp .ge 118, 3) := by decide +kernel
theorem dX7_findChance_37 : decode cX7_findChance 37 = .ok (.lconst 1, 1) := by decide +kernel
theorem dX7_findChance_38 : decode cX7_findChance 38 = .ok (.lstore 5, 2) := by decide +kernel
theorem dX7_findChance_40 : decode cX7_findChance 40 = .ok (.iconst 0, 1) := by decide +kernel
theorem dX7_findChance_41 : decode cX7_findChance 41 = .ok (.istore 7, 2) := by decide +kernel
theorem dX7_findChance_43 : decode cX7_findChance 43 = .ok (.iload 7, 2) := by decide +kernel
theorem dX7_findChance_45 : decode cX7_findChance 45 = .ok (.aload_n 0, 1) := by decide +kernel
theorem dX7_findChance_46 : decode cX7_findChance 46 = .ok (.getfield 40, 3) := by decide +kernel
theorem dX7_findChance_49 : decode cX7_findChance 49 = .ok (.getfield 151, 3) := by decide +kernel
theorem dX7_findChance_52 : decode cX7_findChance 52 = .ok (.if_icmp .ge 35, 3) := by decide +kernel
theorem dX7_findChance_55 : decode cX7_findChance 55 = .ok (.lload 5, 2) := by decide +kernel
theorem dX7_findChance_57 : decode cX7_findChance 57 = .ok (.iload 4, 2) := by decide +kernel
theorem dX7_findChance_59 : decode cX7_findChance 59 = .ok (.iload 7, 2) := by decide +kernel
theorem dX7_findChance_61 : decode cX7_findChance 61 = .ok (.ishr, 1) := by decide +kernel
theorem dX7_findChance_62 : decode cX7_findChance 62 = .ok (.iconst 1, 1) := by decide +kernel
theorem dX7_findChance_63 : decode cX7_findChance 63 = .ok (.iand, 1) := by decide +kernel
theorem dX7_findChance_64 : decode cX7_findChance 64 = .ok (.iconst 1, 1) := by decide +kernel
theorem dX7_findChance_65 : decode cX7_findChance 65 = .ok (.if_icmp .ne 8, 3) := by decide +kernel
theorem dX7_findChance_68 : decode cX7_findChance 68 = .ok (.iload_n 1, 1) := by decide +kernel
theorem dX7_findChance_69 : decode cX7_findChance 69 = .ok (.i2l, 1) := by decide +kernel
theorem dX7_findChance_70 : decode cX7_findChance 70 = .ok (.goto 8, 3) := by decide +kernel
theorem dX7_findChance_73 : decode cX7_findChance 73 = .ok (.bipush 16, 2) := by decide +kernel
theorem dX7_findChance_75 : decode cX7_findChance 75 = .ok (.iload_n 1, 1) := by decide +kernel
theorem dX7_findChance_76 : decode cX7_findChance 76 = .ok (.isub, 1) := by decide +kernel
theorem dX7_findChance_77 : decode cX7_findChance 77 = .ok (.i2l, 1) := by decide +kernel
theorem dX7_findChance_78 : decode cX7_findChance 78 = .ok (.lmul, 1) := by decide +kernel
theorem dX7_findChance_79 : decode cX7_findChance 79 = .ok (.lstore 5, 2) := by decide +kernel
theorem dX7_findChance_81 : decode cX7_findChance 81 = .ok (.iinc 7 1, 3) := by decide +kernel
theorem dX7_findChance_84 : decode cX7_findChance 84 = .ok (.goto (-41), 3) := by decide +kernel
theorem dX7_findChance_87 : decode cX7_findChance 87 = .ok (.lload 5, 2) := by decide +kernel
theorem dX7_findChance_89 : decode cX7_findChance 89 = .ok (.lconst 0, 1) := by decide +kernel
theorem dX7_findChance_90 : decode cX7_findChance 90 = .ok (.lcmp, 1) := by decide +kernel
theorem dX7_findChance_91 : decode cX7_findChance 91 = .ok (.ifCond .le 55, 3) := by decide +kernel
theorem dX7_findChance_94 : decode cX7_findChance 94 = .ok (.aload_n 0, 1) := by decide +kernel
theorem dX7_findChance_95 : decode cX7_findChance 95 = .ok (.getfield 33, 3) := by decide +kernel
theorem dX7_findChance_98 : decode cX7_findChance 98 = .ok (.aload_n 0, 1) := by decide +kernel
theorem dX7_findChance_99 : decode cX7_findChance 99 = .ok (.getfield 40, 3) := by decide +kernel
theorem dX7_findChance_102 : decode cX7_findChance 102 = .ok (.iload 4, 2) := by decide +kernel
theorem dX7_findChance_104 : decode cX7_findChance 104 = .ok (.invokevirtual 382, 3) := by decide +kernel
theorem dX7_findChance_107 : decode cX7_findChance 107 = .ok (.aload_n 0, 1) := by decide +kernel
theorem dX7_findChance_108 : decode cX7_findChance 108 = .ok (.getfield 44, 3) := by decide +kernel
theorem dX7_findChance_111 : decode cX7_findChance 111 = .ok (.invokevirtual 169, 3) := by decide +kernel
theorem dX7_findChance_114 : decode cX7_findChance 114 = .ok (.bipush 40, 2) := by decide +kernel
theorem dX7_findChance_116 : decode cX7_findChance 116 = .ok (.invokevirtual 173, 3) := by decide +kernel
theorem dX7_findChance_119 : decode cX7_findChance 119 = .ok (.aload_n 0, 1) := by decide +kernel
theorem dX7_findChance_120 : decode cX7_findChance 120 = .ok (.dup, 1) := by decide +kernel
theorem dX7_findChance_121 : decode cX7_findChance 121 = .ok (.getfield 79, 3) := by decide +kernel
theorem dX7_findChance_124 : decode cX7_findChance 124 = .ok (.aload_n 0, 1) := by decide +kernel
theorem dX7_findChance_125 : decode cX7_findChance 125 = .ok (.getfield 33, 3) := by decide +kernel
theorem dX7_findChance_128 : decode cX7_findChance 128 = .ok (.iload_n 2, 1) := by decide +kernel
theorem dX7_findChance_129 : decode cX7_findChance 129 = .ok (.iload_n 3, 1) := by decide +kernel
theorem dX7_findChance_130 : decode cX7_findChance 130 = .ok (.invokevirtual 236, 3) := by decide +kernel
theorem dX7_findChance_133 : decode cX7_findChance 133 = .ok (.ifCond .eq 8, 3) := by decide +kernel
theorem dX7_findChance_136 : decode cX7_findChance 136 = .ok (.lload 5, 2) := by decide +kernel
theorem dX7_findChance_138 : decode cX7_findChance 138 = .ok (.goto 4, 3) := by decide +kernel
theorem dX7_findChance_141 : decode cX7_findChance 141 = .ok (.lconst 0, 1) := by decide +kernel
theorem dX7_findChance_142 : decode cX7_findChance 142 = .ok (.ladd, 1) := by decide +kernel
theorem dX7_findChance_143 : decode cX7_findChance 143 = .ok (.putfield 79, 3) := by decide +kernel
theorem dX7_findChance_146 : decode cX7_findChance 146 = .ok (.iinc 4 1, 3) := by decide +kernel
theorem dX7_findChance_149 : decode cX7_findChance 149 = .ok (.goto (-126), 3) := by decide +kernel
theorem dX7_findChance_152 : decode cX7_findChance 152 = .ok (.iconst 0, 1) := by decide +kernel
theorem dX7_findChance_153 : decode cX7_findChance 153 = .ok (.istore 4, 2) := by decide +kernel
theorem dX7_findChance_155 : decode cX7_findChance 155 = .ok (.iload 4, 2) := by decide +kernel
theorem dX7_findChance_157 : decode cX7_findChance 157 = .ok (.bipush 24, 2) := by decide +kernel
theorem dX7_findChance_159 : decode cX7_findChance 159 = .ok (.if_icmp .ge 55, 3) := by decide +kernel
theorem dX7_findChance_162 : decode cX7_findChance 162 = .ok (.aload_n 0, 1) := by decide +kernel
theorem dX7_findChance_163 : decode cX7_findChance 163 = .ok (.getfield 83, 3) := by decide +kernel
theorem dX7_findChance_166 : decode cX7_findChance 166 = .ok (.lconst 1, 1) := by decide +kernel
theorem dX7_findChance_167 : decode cX7_findChance 167 = .ok (.lcmp, 1) := by decide +kernel
theorem dX7_findChance_168 : decode cX7_findChance 168 = .ok (.ifCond .le 46, 3) := by decide +kernel
theorem dX7_findChance_171 : decode cX7_findChance 171 = .ok (.aload_n 0, 1) := by decide +kernel
theorem dX7_findChance_172 : decode cX7_findChance 172 = .ok (.getfield 79, 3) := by decide +kernel
theorem dX7_findChance_175 : decode cX7_findChance 175 = .ok (.ldc2_w 385, 3) := by decide +kernel
theorem dX7_findChance_178 : decode cX7_findChance 178 = .ok (.lrem, 1) := by decide +kernel
theorem dX7_findChance_179 : decode cX7_findChance 179 = .ok (.lconst 0, 1) := by decide +kernel
theorem dX7_findChance_180 : decode cX7_findChance 180 = .ok (.lcmp, 1) := by decide +kernel
theorem dX7_findChance_181 : decode cX7_findChance 181 = .ok (.ifCond .ne 33, 3) := by decide +kernel
theorem dX7_findChance_184 : decode cX7_findChance 184 = .ok (.aload_n 0, 1) := by decide +kernel
theorem dX7_findChance_185 : decode cX7_findChance 185 = .ok (.dup, 1) := by decide +kernel
theorem dX7_findChance_186 : decode cX7_findChance 186 = .ok (.getfield 79, 3) := by decide +kernel
theorem dX7_findChance_189 : decode cX7_findChance 189 = .ok (.ldc2_w 385, 3) := by decide +kernel
theorem dX7_findChance_192 : decode cX7_findChance 192 = .ok (.ldiv, 1) := by decide +kernel
theorem dX7_findChance_193 : decode cX7_findChance 193 = .ok (.putfield 79, 3) := by decide +kernel
theorem dX7_findChance_196 : decode cX7_findChance 196 = .ok (.aload_n 0, 1) := by decide +kernel
theorem dX7_findChance_197 : decode cX7_findChance 197 = .ok (.dup, 1) := by decide +kernel
theorem dX7_findChance_198 : decode cX7_findChance 198 = .ok (.getfield 83, 3) := by decide +kernel
theorem dX7_findChance_201 : decode cX7_findChance 201 = .ok (.ldc2_w 385, 3) := by decide +kernel
theorem dX7_findChance_204 : decode cX7_findChance 204 = .ok (.ldiv, 1) := by decide +kernel
theorem dX7_findChance_205 : decode cX7_findChance 205 = .ok (.putfield 83, 3) := by decide +kernel
theorem dX7_findChance_208 : decode cX7_findChance 208 = .ok (.iinc 4 1, 3) := by decide +kernel
theorem dX7_findChance_211 : decode cX7_findChance 211 = .ok (.goto (-56), 3) := by decide +kernel
theorem dX7_findChance_214 : decode cX7_findChance 214 = .ok (.return_, 1) := by decide +kernel
theorem dX7_lots_0 : decode cX7_lots 0 = .ok (.lconst 0, 1) := by decide +kernel
theorem dX7_lots_1 : decode cX7_lots 1 = .ok (.lstore_n 2, 1) := by decide +kernel
theorem dX7_lots_2 : decode cX7_lots 2 = .ok (.iload_n 0, 1) := by decide +kernel
theorem dX7_lots_3 : decode cX7_lots 3 = .ok (.istore 4, 2) := by decide +kernel
theorem dX7_lots_5 : decode cX7_lots 5 = .ok (.iconst 0, 1) := by decide +kernel
theorem dX7_lots_6 : decode cX7_lots 6 = .ok (.istore 5, 2) := by decide +kernel
theorem dX7_lots_8 : decode cX7_lots 8 = .ok (.iload 5, 2) := by decide +kernel
theorem dX7_lots_10 : decode cX7_lots 10 = .ok (.iload_n 1, 1) := by decide +kernel
theorem dX7_lots_11 : decode cX7_lots 11 = .ok (.if_icmp .ge 34, 3) := by decide +kernel
theorem dX7_lots_14 : decode cX7_lots 14 = .ok (.ldc_w 387, 3) := by decide +kernel
theorem dX7_lots_17 : decode cX7_lots 17 = .ok (.iload 4, 2) := by decide +kernel
theorem dX7_lots_19 : decode cX7_lots 19 = .ok (.imul, 1) := by decide +kernel
theorem dX7_lots_20 : decode cX7_lots 20 = .ok (.sipush 12345, 3) := by decide +kernel
theorem dX7_lots_23 : decode cX7_lots 23 = .ok (.iadd, 1) := by decide +kernel
theorem dX7_lots_24 : decode cX7_lots 24 = .ok (.istore 4, 2) := by decide +kernel
theorem dX7_lots_26 : decode cX7_lots 26 = .ok (.lload_n 2, 1) := by decide +kernel
theorem dX7_lots_27 : decode cX7_lots 27 = .ok (.lconst 1, 1) := by decide +kernel
theorem dX7_lots_28 : decode cX7_lots 28 = .ok (.iload 4, 2) := by decide +kernel
theorem dX7_lots_30 : decode cX7_lots 30 = .ok (.bipush 16, 2) := by decide +kernel
theorem dX7_lots_32 : decode cX7_lots 32 = .ok (.iushr, 1) := by decide +kernel
theorem dX7_lots_33 : decode cX7_lots 33 = .ok (.bipush 40, 2) := by decide +kernel
theorem dX7_lots_35 : decode cX7_lots 35 = .ok (.irem, 1) := by decide +kernel
theorem dX7_lots_36 : decode cX7_lots 36 = .ok (.lshl, 1) := by decide +kernel
theorem dX7_lots_37 : decode cX7_lots 37 = .ok (.lor, 1) := by decide +kernel
theorem dX7_lots_38 : decode cX7_lots 38 = .ok (.lstore_n 2, 1) := by decide +kernel
theorem dX7_lots_39 : decode cX7_lots 39 = .ok (.iinc 5 1, 3) := by decide +kernel
theorem dX7_lots_42 : decode cX7_lots 42 = .ok (.goto (-34), 3) := by decide +kernel
theorem dX7_lots_45 : decode cX7_lots 45 = .ok (.lload_n 2, 1) := by decide +kernel
theorem dX7_lots_46 : decode cX7_lots 46 = .ok (.lreturn, 1) := by decide +kernel
theorem dX7_mixed_0 : decode cX7_mixed 0 = .ok (.ldc2_w 388, 3) := by decide +kernel
theorem dX7_mixed_3 : decode cX7_mixed 3 = .ok (.lload_n 0, 1) := by decide +kernel
theorem dX7_mixed_4 : decode cX7_mixed 4 = .ok (.lmul, 1) := by decide +kernel
theorem dX7_mixed_5 : decode cX7_mixed 5 = .ok (.lload_n 2, 1) := by decide +kernel
theorem dX7_mixed_6 : decode cX7_mixed 6 = .ok (.ladd, 1) := by decide +kernel
theorem dX7_mixed_7 : decode cX7_mixed 7 = .ok (.lreturn, 1) := by decide +kernel
theorem dX7_mixedFloor_0 : decode cX7_mixedFloor 0 = .ok (.iconst 0, 1) := by decide +kernel
theorem dX7_mixedFloor_1 : decode cX7_mixedFloor 1 = .ok (.istore 4, 2) := by decide +kernel
theorem dX7_mixedFloor_3 : decode cX7_mixedFloor 3 = .ok (.iload 4, 2) := by decide +kernel
theorem dX7_mixedFloor_5 : decode cX7_mixedFloor 5 = .ok (.iconst 2, 1) := by decide +kernel
theorem dX7_mixedFloor_6 : decode cX7_mixedFloor 6 = .ok (.if_icmp .gt 22, 3) := by decide +kernel
theorem dX7_mixedFloor_9 : decode cX7_mixedFloor 9 = .ok (.lload_n 1, 1) := by decide +kernel
theorem dX7_mixedFloor_10 : decode cX7_mixedFloor 10 = .ok (.aload_n 0, 1) := by decide +kernel
theorem dX7_mixedFloor_11 : decode cX7_mixedFloor 11 = .ok (.iload_n 3, 1) := by decide +kernel
theorem dX7_mixedFloor_12 : decode cX7_mixedFloor 12 = .ok (.iload 4, 2) := by decide +kernel
theorem dX7_mixedFloor_14 : decode cX7_mixedFloor 14 = .ok (.invokevirtual 390, 3) := by decide +kernel
theorem dX7_mixedFloor_17 : decode cX7_mixedFloor 17 = .ok (.i2l, 1) := by decide +kernel
theorem dX7_mixedFloor_18 : decode cX7_mixedFloor 18 = .ok (.invokestatic 326, 3) := by decide +kernel
theorem dX7_mixedFloor_21 : decode cX7_mixedFloor 21 = .ok (.lstore_n 1, 1) := by decide +kernel
theorem dX7_mixedFloor_22 : decode cX7_mixedFloor 22 = .ok (.iinc 4 1, 3) := by decide +kernel
theorem dX7_mixedFloor_25 : decode cX7_mixedFloor 25 = .ok (.goto (-22), 3) := by decide +kernel
theorem dX7_mixedFloor_28 : decode cX7_mixedFloor 28 = .ok (.lload_n 1, 1) := by decide +kernel
theorem dX7_mixedFloor_29 : decode cX7_mixedFloor 29 = .ok (.aload_n 0, 1) := by decide +kernel
theorem dX7_mixedFloor_30 : decode cX7_mixedFloor 30 = .ok (.iload_n 3, 1) := by decide +kernel
theorem dX7_mixedFloor_31 : decode cX7_mixedFloor 31 = .ok (.iconst 0, 1) := by decide +kernel
theorem dX7_mixedFloor_32 : decode cX7_mixedFloor 32 = .ok (.invokevirtual 392, 3) := by decide +kernel
theorem dX7_mixedFloor_35 : decode cX7_mixedFloor 35 = .ok (.i2l, 1) := by decide +kernel
theorem dX7_mixedFloor_36 : decode cX7_mixedFloor 36 = .ok (.invokestatic 326, 3) := by decide +kernel
theorem dX7_mixedFloor_39 : decode cX7_mixedFloor 39 = .ok (.aload_n 0, 1) := by decide +kernel
theorem dX7_mixedFloor_40 : decode cX7_mixedFloor 40 = .ok (.iload_n 3, 1) := by decide +kernel
theorem dX7_mixedFloor_41 : decode cX7_mixedFloor 41 = .ok (.iconst 1, 1) := by decide +kernel
theorem dX7_mixedFloor_42 : decode cX7_mixedFloor 42 = .ok (.invokevirtual 392, 3) := by decide +kernel
theorem dX7_mixedFloor_45 : decode cX7_mixedFloor 45 = .ok (.i2l, 1) := by decide +kernel
theorem dX7_mixedFloor_46 : decode cX7_mixedFloor 46 = .ok (.invokestatic 326, 3) := by decide +kernel
theorem dX7_mixedFloor_49 : decode cX7_mixedFloor 49 = .ok (.lstore_n 1, 1) := by decide +kernel
theorem dX7_mixedFloor_50 : decode cX7_mixedFloor 50 = .ok (.lload_n 1, 1) := by decide +kernel
theorem dX7_mixedFloor_51 : decode cX7_mixedFloor 51 = .ok (.aload_n 0, 1) := by decide +kernel
theorem dX7_mixedFloor_52 : decode cX7_mixedFloor 52 = .ok (.iload_n 3, 1) := by decide +kernel
theorem dX7_mixedFloor_53 : decode cX7_mixedFloor 53 = .ok (.iconst 0, 1) := by decide +kernel
theorem dX7_mixedFloor_54 : decode cX7_mixedFloor 54 = .ok (.invokevirtual 394, 3) := by decide +kernel
theorem dX7_mixedFloor_57 : decode cX7_mixedFloor 57 = .ok (.i2l, 1) := by decide +kernel
theorem dX7_mixedFloor_58 : decode cX7_mixedFloor 58 = .ok (.invokestatic 326, 3) := by decide +kernel
theorem dX7_mixedFloor_61 : decode cX7_mixedFloor 61 = .ok (.aload_n 0, 1) := by decide +kernel
theorem dX7_mixedFloor_62 : decode cX7_mixedFloor 62 = .ok (.iload_n 3, 1) := by decide +kernel
theorem dX7_mixedFloor_63 : decode cX7_mixedFloor 63 = .ok (.iconst 1, 1) := by decide +kernel
theorem dX7_mixedFloor_64 : decode cX7_mixedFloor 64 = .ok (.invokevirtual 394, 3) := by decide +kernel
theorem dX7_mixedFloor_67 : decode cX7_mixedFloor 67 = .ok (.i2l, 1) := by decide +kernel
theorem dX7_mixedFloor_68 : decode cX7_mixedFloor 68 = .ok (.invokestatic 326, 3) := by decide +kernel
theorem dX7_mixedFloor_71 : decode cX7_mixedFloor 71 = .ok (.lstore_n 1, 1) := by decide +kernel
theorem dX7_mixedFloor_72 : decode cX7_mixedFloor 72 = .ok (.lload_n 1, 1) := by decide +kernel
theorem dX7_mixedFloor_73 : decode cX7_mixedFloor 73 = .ok (.aload_n 0, 1) := by decide +kernel
theorem dX7_mixedFloor_74 : decode cX7_mixedFloor 74 = .ok (.iload_n 3, 1) := by decide +kernel
theorem dX7_mixedFloor_75 : decode cX7_mixedFloor 75 = .ok (.invokevirtual 397, 3) := by decide +kernel
theorem dX7_mixedFloor_78 : decode cX7_mixedFloor 78 = .ok (.i2l, 1) := by decide +kernel
theorem dX7_mixedFloor_79 : decode cX7_mixedFloor 79 = .ok (.invokestatic 326, 3) := by decide +kernel
theorem dX7_mixedFloor_82 : decode cX7_mixedFloor 82 = .ok (.lreturn, 1) := by decide +kernel
theorem dX7_mixedWay_0 : decode cX7_mixedWay 0 = .ok (.iconst 0, 1) := by decide +kernel
theorem dX7_mixedWay_1 : decode cX7_mixedWay 1 = .ok (.istore 4, 2) := by decide +kernel
theorem dX7_mixedWay_3 : decode cX7_mixedWay 3 = .ok (.iload 4, 2) := by decide +kernel
theorem dX7_mixedWay_5 : decode cX7_mixedWay 5 = .ok (.iconst 5, 1) := by decide +kernel
theorem dX7_mixedWay_6 : decode cX7_mixedWay 6 = .ok (.if_icmp .gt 22, 3) := by decide +kernel
theorem dX7_mixedWay_9 : decode cX7_mixedWay 9 = .ok (.lload_n 1, 1) := by decide +kernel
theorem dX7_mixedWay_10 : decode cX7_mixedWay 10 = .ok (.aload_n 0, 1) := by decide +kernel
theorem dX7_mixedWay_11 : decode cX7_mixedWay 11 = .ok (.iload_n 3, 1) := by decide +kernel
theorem dX7_mixedWay_12 : decode cX7_mixedWay 12 = .ok (.iload 4, 2) := by decide +kernel
theorem dX7_mixedWay_14 : decode cX7_mixedWay 14 = .ok (.invokevirtual 400, 3) := by decide +kernel
theorem dX7_mixedWay_17 : decode cX7_mixedWay 17 = .ok (.i2l, 1) := by decide +kernel
theorem dX7_mixedWay_18 : decode cX7_mixedWay 18 = .ok (.invokestatic 326, 3) := by decide +kernel
theorem dX7_mixedWay_21 : decode cX7_mixedWay 21 = .ok (.lstore_n 1, 1) := by decide +kernel
theorem dX7_mixedWay_22 : decode cX7_mixedWay 22 = .ok (.iinc 4 1, 3) := by decide +kernel
theorem dX7_mixedWay_25 : decode cX7_mixedWay 25 = .ok (.goto (-22), 3) := by decide +kernel
theorem dX7_mixedWay_28 : decode cX7_mixedWay 28 = .ok (.aload_n 0, 1) := by decide +kernel
theorem dX7_mixedWay_29 : decode cX7_mixedWay 29 = .ok (.lload_n 1, 1) := by decide +kernel
theorem dX7_mixedWay_30 : decode cX7_mixedWay 30 = .ok (.iload_n 3, 1) := by decide +kernel
theorem dX7_mixedWay_31 : decode cX7_mixedWay 31 = .ok (.iconst 0, 1) := by decide +kernel
theorem dX7_mixedWay_32 : decode cX7_mixedWay 32 = .ok (.invokevirtual 403, 3) := by decide +kernel
theorem dX7_mixedWay_35 : decode cX7_mixedWay 35 = .ok (.lstore_n 1, 1) := by decide +kernel
theorem dX7_mixedWay_36 : decode cX7_mixedWay 36 = .ok (.aload_n 0, 1) := by decide +kernel
theorem dX7_mixedWay_37 : decode cX7_mixedWay 37 = .ok (.lload_n 1, 1) := by decide +kernel
theorem dX7_mixedWay_38 : decode cX7_mixedWay 38 = .ok (.iload_n 3, 1) := by decide +kernel
theorem dX7_mixedWay_39 : decode cX7_mixedWay 39 = .ok (.iconst 5, 1) := by decide +kernel
theorem dX7_mixedWay_40 : decode cX7_mixedWay 40 = .ok (.invokevirtual 403, 3) := by decide +kernel
theorem dX7_mixedWay_43 : decode cX7_mixedWay 43 = .ok (.lstore_n 1, 1) := by decide +kernel
theorem dX7_mixedWay_44 : decode cX7_mixedWay 44 = .ok (.aload_n 0, 1) := by decide +kernel
theorem dX7_mixedWay_45 : decode cX7_mixedWay 45 = .ok (.lload_n 1, 1) := by decide +kernel
theorem dX7_mixedWay_46 : decode cX7_mixedWay 46 = .ok (.iload_n 3, 1) := by decide +kernel
theorem dX7_mixedWay_47 : decode cX7_mixedWay 47 = .ok (.bipush 12, 2) := by decide +kernel
theorem dX7_mixedWay_49 : decode cX7_mixedWay 49 = .ok (.invokevirtual 403, 3) := by decide +kernel
theorem dX7_mixedWay_52 : decode cX7_mixedWay 52 = .ok (.lstore_n 1, 1) := by decide +kernel
theorem dX7_mixedWay_53 : decode cX7_mixedWay 53 = .ok (.aload_n 0, 1) := by decide +kernel
theorem dX7_mixedWay_54 : decode cX7_mixedWay 54 = .ok (.lload_n 1, 1) := by decide +kernel
theorem dX7_mixedWay_55 : decode cX7_mixedWay 55 = .ok (.iload_n 3, 1) := by decide +kernel
theorem dX7_mixedWay_56 : decode cX7_mixedWay 56 = .ok (.bipush 39, 2) := by decide +kernel
theorem dX7_mixedWay_58 : decode cX7_mixedWay 58 = .ok (.invokevirtual 403, 3) := by decide +kernel
theorem dX7_mixedWay_61 : decode cX7_mixedWay 61 = .ok (.lstore_n 1, 1) := by decide +kernel
theorem dX7_mixedWay_62 : decode cX7_mixedWay 62 = .ok (.lload_n 1, 1) := by decide +kernel
theorem dX7_mixedWay_63 : decode cX7_mixedWay 63 = .ok (.aload_n 0, 1) := by decide +kernel
theorem dX7_mixedWay_64 : decode cX7_mixedWay 64 = .ok (.iload_n 3, 1) := by decide +kernel
theorem dX7_mixedWay_65 : decode cX7_mixedWay 65 = .ok (.invokevirtual 407, 3) := by decide +kernel
theorem dX7_mixedWay_68 : decode cX7_mixedWay 68 = .ok (.i2l, 1) := by decide +kernel
theorem dX7_mixedWay_69 : decode cX7_mixedWay 69 = .ok (.invokestatic 326, 3) := by decide +kernel
theorem dX7_mixedWay_72 : decode cX7_mixedWay 72 = .ok (.lstore_n 1, 1) := by decide +kernel
theorem dX7_mixedWay_73 : decode cX7_mixedWay 73 = .ok (.iconst 0, 1) := by decide +kernel
theorem dX7_mixedWay_74 : decode cX7_mixedWay 74 = .ok (.istore 4, 2) := by decide +kernel
theorem dX7_mixedWay_76 : decode cX7_mixedWay 76 = .ok (.iload 4, 2) := by decide +kernel
theorem dX7_mixedWay_78 : decode cX7_mixedWay 78 = .ok (.iconst 3, 1) := by decide +kernel
theorem dX7_mixedWay_79 : decode cX7_mixedWay 79 = .ok (.if_icmp .gt 22, 3) := by decide +kernel
theorem dX7_mixedWay_82 : decode cX7_mixedWay 82 = .ok (.lload_n 1, 1) := by decide +kernel
theorem dX7_mixedWay_83 : decode cX7_mixedWay 83 = .ok (.aload_n 0, 1) := by decide +kernel
theorem dX7_mixedWay_84 : decode cX7_mixedWay 84 = .ok (.iload_n 3, 1) := by decide +kernel
theorem dX7_mixedWay_85 : decode cX7_mixedWay 85 = .ok (.iload 4, 2) := by decide +kernel
theorem dX7_mixedWay_87 : decode cX7_mixedWay 87 = .ok (.invokevirtual 410, 3) := by decide +kernel
theorem dX7_mixedWay_90 : decode cX7_mixedWay 90 = .ok (.i2l, 1) := by decide +kernel
theorem dX7_mixedWay_91 : decode cX7_mixedWay 91 = .ok (.invokestatic 326, 3) := by decide +kernel
theorem dX7_mixedWay_94 : decode cX7_mixedWay 94 = .ok (.lstore_n 1, 1) := by decide +kernel
theorem dX7_mixedWay_95 : decode cX7_mixedWay 95 = .ok (.iinc 4 1, 3) := by decide +kernel
theorem dX7_mixedWay_98 : decode cX7_mixedWay 98 = .ok (.goto (-22), 3) := by decide +kernel
theorem dX7_mixedWay_101 : decode cX7_mixedWay 101 = .ok (.lload_n 1, 1) := by decide +kernel
theorem dX7_mixedWay_102 : decode cX7_mixedWay 102 = .ok (.lreturn, 1) := by decide +kernel
theorem dX7_mixedHour_0 : decode cX7_mixedHour 0 = .ok (.iconst 0, 1) := by decide +kernel
theorem dX7_mixedHour_1 : decode cX7_mixedHour 1 = .ok (.istore 5, 2) := by decide +kernel
theorem dX7_mixedHour_3 : decode cX7_mixedHour 3 = .ok (.iload 5, 2) := by decide +kernel
theorem dX7_mixedHour_5 : decode cX7_mixedHour 5 = .ok (.iconst 3, 1) := by decide +kernel
theorem dX7_mixedHour_6 : decode cX7_mixedHour 6 = .ok (.if_icmp .gt 24, 3) := by decide +kernel
theorem dX7_mixedHour_9 : decode cX7_mixedHour 9 = .ok (.lload_n 1, 1) := by decide +kernel
theorem dX7_mixedHour_10 : decode cX7_mixedHour 10 = .ok (.aload_n 0, 1) := by decide +kernel
theorem dX7_mixedHour_11 : decode cX7_mixedHour 11 = .ok (.iload 4, 2) := by decide +kernel
theorem dX7_mixedHour_13 : decode cX7_mixedHour 13 = .ok (.iload_n 3, 1) := by decide +kernel
theorem dX7_mixedHour_14 : decode cX7_mixedHour 14 = .ok (.iload 5, 2) := by decide +kernel
theorem dX7_mixedHour_16 : decode cX7_mixedHour 16 = .ok (.invokevirtual 413, 3) := by decide +kernel
theorem dX7_mixedHour_19 : decode cX7_mixedHour 19 = .ok (.i2l, 1) := by decide +kernel
theorem dX7_mixedHour_20 : decode cX7_mixedHour 20 = .ok (.invokestatic 326, 3) := by decide +kernel
theorem dX7_mixedHour_23 : decode cX7_mixedHour 23 = .ok (.lstore_n 1, 1) := by decide +kernel
theorem dX7_mixedHour_24 : decode cX7_mixedHour 24 = .ok (.iinc 5 1, 3) := by decide +kernel
theorem dX7_mixedHour_27 : decode cX7_mixedHour 27 = .ok (.goto (-24), 3) := by decide +kernel
theorem dX7_mixedHour_30 : decode cX7_mixedHour 30 = .ok (.lload_n 1, 1) := by decide +kernel
theorem dX7_mixedHour_31 : decode cX7_mixedHour 31 = .ok (.lreturn, 1) := by decide +kernel
theorem dX7_mixedPlans_0 : decode cX7_mixedPlans 0 = .ok (.aload_n 0, 1) := by decide +kernel
theorem dX7_mixedPlans_1 : decode cX7_mixedPlans 1 = .ok (.iload_n 3, 1) := by decide +kernel
theorem dX7_mixedPlans_2 : decode cX7_mixedPlans 2 = .ok (.invokevirtual 227, 3) := by decide +kernel
theorem dX7_mixedPlans_5 : decode cX7_mixedPlans 5 = .ok (.lload_n 1, 1) := by decide +kernel
theorem dX7_mixedPlans_6 : decode cX7_mixedPlans 6 = .ok (.aload_n 0, 1) := by decide +kernel
theorem dX7_mixedPlans_7 : decode cX7_mixedPlans 7 = .ok (.getfield 64, 3) := by decide +kernel
theorem dX7_mixedPlans_10 : decode cX7_mixedPlans 10 = .ok (.getfield 224, 3) := by decide +kernel
theorem dX7_mixedPlans_13 : decode cX7_mixedPlans 13 = .ok (.i2l, 1) := by decide +kernel
theorem dX7_mixedPlans_14 : decode cX7_mixedPlans 14 = .ok (.invokestatic 326, 3) := by decide +kernel
theorem dX7_mixedPlans_17 : decode cX7_mixedPlans 17 = .ok (.aload_n 0, 1) := by decide +kernel
theorem dX7_mixedPlans_18 : decode cX7_mixedPlans 18 = .ok (.getfield 64, 3) := by decide +kernel
theorem dX7_mixedPlans_21 : decode cX7_mixedPlans 21 = .ok (.getfield 230, 3) := by decide +kernel
theorem dX7_mixedPlans_24 : decode cX7_mixedPlans 24 = .ok (.i2l, 1) := by decide +kernel
theorem dX7_mixedPlans_25 : decode cX7_mixedPlans 25 = .ok (.invokestatic 326, 3) := by decide +kernel
theorem dX7_mixedPlans_28 : decode cX7_mixedPlans 28 = .ok (.lstore_n 1, 1) := by decide +kernel
theorem dX7_mixedPlans_29 : decode cX7_mixedPlans 29 = .ok (.lload_n 1, 1) := by decide +kernel
theorem dX7_mixedPlans_30 : decode cX7_mixedPlans 30 = .ok (.aload_n 0, 1) := by decide +kernel
theorem dX7_mixedPlans_31 : decode cX7_mixedPlans 31 = .ok (.iload_n 3, 1) := by decide +kernel
theorem dX7_mixedPlans_32 : decode cX7_mixedPlans 32 = .ok (.iconst 5, 1) := by decide +kernel
theorem dX7_mixedPlans_33 : decode cX7_mixedPlans 33 = .ok (.invokevirtual 416, 3) := by decide +kernel
theorem dX7_mixedPlans_36 : decode cX7_mixedPlans 36 = .ok (.i2l, 1) := by decide +kernel
theorem dX7_mixedPlans_37 : decode cX7_mixedPlans 37 = .ok (.invokestatic 326, 3) := by decide +kernel
theorem dX7_mixedPlans_40 : decode cX7_mixedPlans 40 = .ok (.lstore_n 1, 1) := by decide +kernel
theorem dX7_mixedPlans_41 : decode cX7_mixedPlans 41 = .ok (.aload_n 0, 1) := by decide +kernel
theorem dX7_mixedPlans_42 : decode cX7_mixedPlans 42 = .ok (.iload_n 3, 1) := by decide +kernel
theorem dX7_mixedPlans_43 : decode cX7_mixedPlans 43 = .ok (.invokevirtual 240, 3) := by decide +kernel
theorem dX7_mixedPlans_46 : decode cX7_mixedPlans 46 = .ok (.lload_n 1, 1) := by decide +kernel
theorem dX7_mixedPlans_47 : decode cX7_mixedPlans 47 = .ok (.aload_n 0, 1) := by decide +kernel
theorem dX7_mixedPlans_48 : decode cX7_mixedPlans 48 = .ok (.getfield 72, 3) := by decide +kernel
theorem dX7_mixedPlans_51 : decode cX7_mixedPlans 51 = .ok (.i2l, 1) := by decide +kernel
theorem dX7_mixedPlans_52 : decode cX7_mixedPlans 52 = .ok (.invokestatic 326, 3) := by decide +kernel
theorem dX7_mixedPlans_55 : decode cX7_mixedPlans 55 = .ok (.aload_n 0, 1) := by decide +kernel
theorem dX7_mixedPlans_56 : decode cX7_mixedPlans 56 = .ok (.iconst 0, 1) := by decide +kernel
theorem dX7_mixedPlans_57 : decode cX7_mixedPlans 57 = .ok (.invokevirtual 243, 3) := by decide +kernel
theorem dX7_mixedPlans_60 : decode cX7_mixedPlans 60 = .ok (.i2l, 1) := by decide +kernel
theorem dX7_mixedPlans_61 : decode cX7_mixedPlans 61 = .ok (.invokestatic 326, 3) := by decide +kernel
theorem dX7_mixedPlans_64 : decode cX7_mixedPlans 64 = .ok (.lstore_n 1, 1) := by decide +kernel
theorem dX7_mixedPlans_65 : decode cX7_mixedPlans 65 = .ok (.aload_n 0, 1) := by decide +kernel
theorem dX7_mixedPlans_66 : decode cX7_mixedPlans 66 = .ok (.iconst 5, 1) := by decide +kernel
theorem dX7_mixedPlans_67 : decode cX7_mixedPlans 67 = .ok (.iload_n 3, 1) := by decide +kernel
theorem dX7_mixedPlans_68 : decode cX7_mixedPlans 68 = .ok (.iconst 3, 1) := by decide +kernel
theorem dX7_mixedPlans_69 : decode cX7_mixedPlans 69 = .ok (.invokevirtual 276, 3) := by decide +kernel
theorem dX7_mixedPlans_72 : decode cX7_mixedPlans 72 = .ok (.lload_n 1, 1) := by decide +kernel
theorem dX7_mixedPlans_73 : decode cX7_mixedPlans 73 = .ok (.aload_n 0, 1) := by decide +kernel
theorem dX7_mixedPlans_74 : decode cX7_mixedPlans 74 = .ok (.getfield 79, 3) := by decide +kernel
theorem dX7_mixedPlans_77 : decode cX7_mixedPlans 77 = .ok (.invokestatic 326, 3) := by decide +kernel
theorem dX7_mixedPlans_80 : decode cX7_mixedPlans 80 = .ok (.aload_n 0, 1) := by decide +kernel
theorem dX7_mixedPlans_81 : decode cX7_mixedPlans 81 = .ok (.getfield 83, 3) := by decide +kernel
theorem dX7_mixedPlans_84 : decode cX7_mixedPlans 84 = .ok (.invokestatic 326, 3) := by decide +kernel
theorem dX7_mixedPlans_87 : decode cX7_mixedPlans 87 = .ok (.lreturn, 1) := by decide +kernel
theorem dX8_in_0 : decode cX8_in 0 = .ok (.iload_n 0, 1) := by decide +kernel
theorem dX8_in_1 : decode cX8_in 1 = .ok (.iload_n 1, 1) := by decide +kernel
theorem dX8_in_2 : decode cX8_in 2 = .ok (.if_icmp .lt 12, 3) := by decide +kernel
theorem dX8_in_5 : decode cX8_in 5 = .ok (.iload_n 0, 1) := by decide +kernel
theorem dX8_in_6 : decode cX8_in 6 = .ok (.iload_n 2, 1) := by decide +kernel
theorem dX8_in_7 : decode cX8_in 7 = .ok (.if_icmp .gt 7, 3) := by decide +kernel
theorem dX8_in_10 : decode cX8_in 10 = .ok (.iconst 1, 1) := by decide +kernel
theorem dX8_in_11 : decode cX8_in 11 = .ok (.goto 4, 3) := by decide +kernel
theorem dX8_in_14 : decode cX8_in 14 = .ok (.iconst 0, 1) := by decide +kernel
theorem dX8_in_15 : decode cX8_in 15 = .ok (.ireturn, 1) := by decide +kernel
theorem dX8_isIn_0 : decode cX8_isIn 0 = .ok (.lload_n 0, 1) := by decide +kernel
theorem dX8_isIn_1 : decode cX8_isIn 1 = .ok (.iload_n 2, 1) := by decide +kernel
theorem dX8_isIn_2 : decode cX8_isIn 2 = .ok (.lshr, 1) := by decide +kernel
theorem dX8_isIn_3 : decode cX8_isIn 3 = .ok (.lconst 1, 1) := by decide +kernel
theorem dX8_isIn_4 : decode cX8_isIn 4 = .ok (.land, 1) := by decide +kernel
theorem dX8_isIn_5 : decode cX8_isIn 5 = .ok (.lconst 1, 1) := by decide +kernel
theorem dX8_isIn_6 : decode cX8_isIn 6 = .ok (.lcmp, 1) := by decide +kernel
theorem dX8_isIn_7 : decode cX8_isIn 7 = .ok (.ifCond .ne 7, 3) := by decide +kernel
theorem dX8_isIn_10 : decode cX8_isIn 10 = .ok (.iconst 1, 1) := by decide +kernel
theorem dX8_isIn_11 : decode cX8_isIn 11 = .ok (.goto 4, 3) := by decide +kernel
theorem dX8_isIn_14 : decode cX8_isIn 14 = .ok (.iconst 0, 1) := by decide +kernel
theorem dX8_isIn_15 : decode cX8_isIn 15 = .ok (.ireturn, 1) := by decide +kernel
theorem dX8_no_0 : decode cX8_no 0 = .ok (.ldc2_w 123, 3) := by decide +kernel
theorem dX8_no_3 : decode cX8_no 3 = .ok (.iload_n 0, 1) := by decide +kernel
theorem dX8_no_4 : decode cX8_no 4 = .ok (.i2l, 1) := by decide +kernel
theorem dX8_no_5 : decode cX8_no 5 = .ok (.lsub, 1) := by decide +kernel
theorem dX8_no_6 : decode cX8_no 6 = .ok (.lreturn, 1) := by decide +kernel
theorem dX8_lowest_0 : decode cX8_lowest 0 = .ok (.lload_n 0, 1) := by decide +kernel
theorem dX8_lowest_1 : decode cX8_lowest 1 = .ok (.lstore 5, 2) := by decide +kernel
theorem dX8_lowest_3 : decode cX8_lowest 3 = .ok (.lload_n 2, 1) := by decide +kernel
theorem dX8_lowest_4 : decode cX8_lowest 4 = .ok (.lstore 7, 2) := by decide +kernel
theorem dX8_lowest_6 : decode cX8_lowest 6 = .ok (.lload 7, 2) := by decide +kernel
theorem dX8_lowest_8 : decode cX8_lowest 8 = .ok (.lconst 0, 1) := by decide +kernel
theorem dX8_lowest_9 : decode cX8_lowest 9 = .ok (.lcmp, 1) := by decide +kernel
theorem dX8_lowest_10 : decode cX8_lowest 10 = .ok (.ifCond .eq 21, 3) := by decide +kernel
theorem dX8_lowest_13 : decode cX8_lowest 13 = .ok (.lload 5, 2) := by decide +kernel
theorem dX8_lowest_15 : decode cX8_lowest 15 = .ok (.lload 7, 2) := by decide +kernel
theorem dX8_lowest_17 : decode cX8_lowest 17 = .ok (.lrem, 1) := by decide +kernel
theorem dX8_lowest_18 : decode cX8_lowest 18 = .ok (.lstore 9, 2) := by decide +kernel
theorem dX8_lowest_20 : decode cX8_lowest 20 = .ok (.lload 7, 2) := by decide +kernel
theorem dX8_lowest_22 : decode cX8_lowest 22 = .ok (.lstore 5, 2) := by decide +kernel
theorem dX8_lowest_24 : decode cX8_lowest 24 = .ok (.lload 9, 2) := by decide +kernel
theorem dX8_lowest_26 : decode cX8_lowest 26 = .ok (.lstore 7, 2) := by decide +kernel
theorem dX8_lowest_28 : decode cX8_lowest 28 = .ok (.goto (-22), 3) := by decide +kernel
theorem dX8_lowest_31 : decode cX8_lowest 31 = .ok (.iload 4, 2) := by decide +kernel
theorem dX8_lowest_33 : decode cX8_lowest 33 = .ok (.ifCond .ne 10, 3) := by decide +kernel
theorem dX8_lowest_36 : decode cX8_lowest 36 = .ok (.lload_n 0, 1) := by decide +kernel
theorem dX8_lowest_37 : decode cX8_lowest 37 = .ok (.lload 5, 2) := by decide +kernel
theorem dX8_lowest_39 : decode cX8_lowest 39 = .ok (.ldiv, 1) := by decide +kernel
theorem dX8_lowest_40 : decode cX8_lowest 40 = .ok (.goto 7, 3) := by decide +kernel
theorem dX8_lowest_43 : decode cX8_lowest 43 = .ok (.lload_n 2, 1) := by decide +kernel
theorem dX8_lowest_44 : decode cX8_lowest 44 = .ok (.lload 5, 2) := by decide +kernel
theorem dX8_lowest_46 : decode cX8_lowest 46 = .ok (.ldiv, 1) := by decide +kernel
theorem dX8_lowest_47 : decode cX8_lowest 47 = .ok (.lreturn, 1) := by decide +kernel
theorem dX8_isText_0 : decode cX8_isText 0 = .ok (.iload_n 0, 1) := by decide +kernel
theorem dX8_isText_1 : decode cX8_isText 1 = .ok (.iconst 0, 1) := by decide +kernel
theorem dX8_isText_2 : decode cX8_isText 2 = .ok (.iconst 1, 1) := by decide +kernel
theorem dX8_isText_3 : decode cX8_isText 3 = .ok (.invokestatic 125, 3) := by decide +kernel
theorem dX8_isText_6 : decode cX8_isText 6 = .ok (.ireturn, 1) := by decide +kernel
theorem dX8_isHour_0 : decode cX8_isHour 0 = .ok (.iload_n 0, 1) := by decide +kernel
theorem dX8_isHour_1 : decode cX8_isHour 1 = .ok (.iconst 0, 1) := by decide +kernel
theorem dX8_isHour_2 : decode cX8_isHour 2 = .ok (.bipush 39, 2) := by decide +kernel
theorem dX8_isHour_4 : decode cX8_isHour 4 = .ok (.invokestatic 125, 3) := by decide +kernel
theorem dX8_isHour_7 : decode cX8_isHour 7 = .ok (.ireturn, 1) := by decide +kernel
theorem dX8_type_0 : decode cX8_type 0 = .ok (.iload_n 1, 1) := by decide +kernel
theorem dX8_type_1 : decode cX8_type 1 = .ok (.invokestatic 129, 3) := by decide +kernel
theorem dX8_type_4 : decode cX8_type 4 = .ok (.ifCond .eq 14, 3) := by decide +kernel
theorem dX8_type_7 : decode cX8_type 7 = .ok (.iload_n 2, 1) := by decide +kernel
theorem dX8_type_8 : decode cX8_type 8 = .ok (.iconst 0, 1) := by decide +kernel
theorem dX8_type_9 : decode cX8_type 9 = .ok (.sipush 255, 3) := by decide +kernel
theorem dX8_type_12 : decode cX8_type 12 = .ok (.invokestatic 125, 3) := by decide +kernel
theorem dX8_type_15 : decode cX8_type 15 = .ok (.ifCond .ne 6, 3) := by decide +kernel
theorem dX8_type_18 : decode cX8_type 18 = .ok (.bipush (-2), 2) := by decide +kernel
theorem dX8_type_20 : decode cX8_type 20 = .ok (.ireturn, 1) := by decide +kernel
theorem dX8_type_21 : decode cX8_type 21 = .ok (.aload_n 0, 1) := by decide +kernel
theorem dX8_type_22 : decode cX8_type 22 = .ok (.getfield 7, 3) := by decide +kernel
theorem dX8_type_25 : decode cX8_type 25 = .ok (.iload_n 1, 1) := by decide +kernel
theorem dX8_type_26 : decode cX8_type 26 = .ok (.iaload, 1) := by decide +kernel
theorem dX8_type_27 : decode cX8_type 27 = .ok (.iload_n 1, 1) := by decide +kernel
theorem dX8_type_28 : decode cX8_type 28 = .ok (.ifCond .ne 8, 3) := by decide +kernel
theorem dX8_type_31 : decode cX8_type 31 = .ok (.bipush 35, 2) := by decide +kernel
theorem dX8_type_33 : decode cX8_type 33 = .ok (.goto 5, 3) := by decide +kernel
theorem dX8_type_36 : decode cX8_type 36 = .ok (.bipush 63, 2) := by decide +kernel
theorem dX8_type_38 : decode cX8_type 38 = .ok (.if_icmp .ne 6, 3) := by decide +kernel
theorem dX8_type_41 : decode cX8_type 41 = .ok (.bipush (-4), 2) := by decide +kernel
theorem dX8_type_43 : decode cX8_type 43 = .ok (.ireturn, 1) := by decide +kernel
theorem dX8_type_44 : decode cX8_type 44 = .ok (.aload_n 0, 1) := by decide +kernel
theorem dX8_type_45 : decode cX8_type 45 = .ok (.getfield 13, 3) := by decide +kernel
theorem dX8_type_48 : decode cX8_type 48 = .ok (.bipush 63, 2) := by decide +kernel
theorem dX8_type_50 : decode cX8_type 50 = .ok (.iload_n 1, 1) := by decide +kernel
theorem dX8_type_51 : decode cX8_type 51 = .ok (.imul, 1) := by decide +kernel
theorem dX8_type_52 : decode cX8_type 52 = .ok (.aload_n 0, 1) := by decide +kernel
theorem dX8_type_53 : decode cX8_type 53 = .ok (.getfield 7, 3) := by decide +kernel
theorem dX8_type_56 : decode cX8_type 56 = .ok (.iload_n 1, 1) := by decide +kernel
theorem dX8_type_57 : decode cX8_type 57 = .ok (.iaload, 1) := by decide +kernel
theorem dX8_type_58 : decode cX8_type 58 = .ok (.iadd, 1) := by decide +kernel
theorem dX8_type_59 : decode cX8_type 59 = .ok (.iload_n 2, 1) := by decide +kernel
theorem dX8_type_60 : decode cX8_type 60 = .ok (.iastore, 1) := by decide +kernel
theorem dX8_type_61 : decode cX8_type 61 = .ok (.aload_n 0, 1) := by decide +kernel
theorem dX8_type_62 : decode cX8_type 62 = .ok (.getfield 7, 3) := by decide +kernel
theorem dX8_type_65 : decode cX8_type 65 = .ok (.iload_n 1, 1) := by decide +kernel
theorem dX8_type_66 : decode cX8_type 66 = .ok (.dup2, 1) := by decide +kernel
theorem dX8_type_67 : decode cX8_type 67 = .ok (.iaload, 1) := by decide +kernel
theorem dX8_type_68 : decode cX8_type 68 = .ok (.iconst 1, 1) := by decide +kernel
theorem dX8_type_69 : decode cX8_type 69 = .ok (.iadd, 1) := by decide +kernel
theorem dX8_type_70 : decode cX8_type 70 = .ok (.iastore, 1) := by decide +kernel
theorem dX8_type_71 : decode cX8_type 71 = .ok (.aload_n 0, 1) := by decide +kernel
theorem dX8_type_72 : decode cX8_type 72 = .ok (.getfield 7, 3) := by decide +kernel
theorem dX8_type_75 : decode cX8_type 75 = .ok (.iload_n 1, 1) := by decide +kernel
theorem dX8_type_76 : decode cX8_type 76 = .ok (.iaload, 1) := by decide +kernel
theorem dX8_type_77 : decode cX8_type 77 = .ok (.ireturn, 1) := by decide +kernel
theorem dX8_wipe_0 : decode cX8_wipe 0 = .ok (.iload_n 1, 1) := by decide +kernel
theorem dX8_wipe_1 : decode cX8_wipe 1 = .ok (.invokestatic 129, 3) := by decide +kernel
theorem dX8_wipe_4 : decode cX8_wipe 4 = .ok (.ifCond .ne 6, 3) := by decide +kernel
theorem dX8_wipe_7 : decode cX8_wipe 7 = .ok (.bipush (-2), 2) := by decide +kernel
theorem dX8_wipe_9 : decode cX8_wipe 9 = .ok (.ireturn, 1) := by decide +kernel
theorem dX8_wipe_10 : decode cX8_wipe 10 = .ok (.aload_n 0, 1) := by decide +kernel
theorem dX8_wipe_11 : decode cX8_wipe 11 = .ok (.getfield 7, 3) := by decide +kernel
theorem dX8_wipe_14 : decode cX8_wipe 14 = .ok (.iload_n 1, 1) := by decide +kernel
theorem dX8_wipe_15 : decode cX8_wipe 15 = .ok (.iaload, 1) := by decide +kernel
theorem dX8_wipe_16 : decode cX8_wipe 16 = .ok (.istore_n 2, 1) := by decide +kernel
theorem dX8_wipe_17 : decode cX8_wipe 17 = .ok (.aload_n 0, 1) := by decide +kernel
theorem dX8_wipe_18 : decode cX8_wipe 18 = .ok (.getfield 7, 3) := by decide +kernel
theorem dX8_wipe_21 : decode cX8_wipe 21 = .ok (.iload_n 1, 1) := by decide +kernel
theorem dX8_wipe_22 : decode cX8_wipe 22 = .ok (.iconst 0, 1) := by decide +kernel
theorem dX8_wipe_23 : decode cX8_wipe 23 = .ok (.iastore, 1) := by decide +kernel
theorem dX8_wipe_24 : decode cX8_wipe 24 = .ok (.iload_n 2, 1) := by decide +kernel
theorem dX8_wipe_25 : decode cX8_wipe 25 = .ok (.ireturn, 1) := by decide +kernel
theorem dX8_undo_0 : decode cX8_undo 0 = .ok (.iload_n 1, 1) := by decide +kernel
theorem dX8_undo_1 : decode cX8_undo 1 = .ok (.invokestatic 129, 3) := by decide +kernel
theorem dX8_undo_4 : decode cX8_undo 4 = .ok (.ifCond .ne 6, 3) := by decide +kernel
theorem dX8_undo_7 : decode cX8_undo 7 = .ok (.bipush (-2), 2) := by decide +kernel
theorem dX8_undo_9 : decode cX8_undo 9 = .ok (.ireturn, 1) := by decide +kernel
theorem dX8_undo_10 : decode cX8_undo 10 = .ok (.aload_n 0, 1) := by decide +kernel
theorem dX8_undo_11 : decode cX8_undo 11 = .ok (.getfield 7, 3) := by decide +kernel
theorem dX8_undo_14 : decode cX8_undo 14 = .ok (.iload_n 1, 1) := by decide +kernel
theorem dX8_undo_15 : decode cX8_undo 15 = .ok (.iaload, 1) := by decide +kernel
theorem dX8_undo_16 : decode cX8_undo 16 = .ok (.ifCond .ne 6, 3) := by decide +kernel
theorem dX8_undo_19 : decode cX8_undo 19 = .ok (.bipush (-3), 2) := by decide +kernel
theorem dX8_undo_21 : decode cX8_undo 21 = .ok (.ireturn, 1) := by decide +kernel
theorem dX8_undo_22 : decode cX8_undo 22 = .ok (.aload_n 0, 1) := by decide +kernel
theorem dX8_undo_23 : decode cX8_undo 23 = .ok (.getfield 7, 3) := by decide +kernel
theorem dX8_undo_26 : decode cX8_undo 26 = .ok (.iload_n 1, 1) := by decide +kernel
theorem dX8_undo_27 : decode cX8_undo 27 = .ok (.dup2, 1) := by decide +kernel
theorem dX8_undo_28 : decode cX8_undo 28 = .ok (.iaload, 1) := by decide +kernel
theorem dX8_undo_29 : decode cX8_undo 29 = .ok (.iconst 1, 1) := by decide +kernel
theorem dX8_undo_30 : decode cX8_undo 30 = .ok (.isub, 1) := by decide +kernel
theorem dX8_undo_31 : decode cX8_undo 31 = .ok (.iastore, 1) := by decide +kernel
theorem dX8_undo_32 : decode cX8_undo 32 = .ok (.aload_n 0, 1) := by decide +kernel
theorem dX8_undo_33 : decode cX8_undo 33 = .ok (.getfield 7, 3) := by decide +kernel
theorem dX8_undo_36 : decode cX8_undo 36 = .ok (.iload_n 1, 1) := by decide +kernel
theorem dX8_undo_37 : decode cX8_undo 37 = .ok (.iaload, 1) := by decide +kernel
theorem dX8_undo_38 : decode cX8_undo 38 = .ok (.ireturn, 1) := by decide +kernel
theorem dX8_byteAt_0 : decode cX8_byteAt 0 = .ok (.iload_n 2, 1) := by decide +kernel
theorem dX8_byteAt_1 : decode cX8_byteAt 1 = .ok (.aload_n 0, 1) := by decide +kernel
theorem dX8_byteAt_2 : decode cX8_byteAt 2 = .ok (.getfield 7, 3) := by decide +kernel
theorem dX8_byteAt_5 : decode cX8_byteAt 5 = .ok (.iload_n 1, 1) := by decide +kernel
theorem dX8_byteAt_6 : decode cX8_byteAt 6 = .ok (.iaload, 1) := by decide +kernel
theorem dX8_byteAt_7 : decode cX8_byteAt 7 = .ok (.if_icmp .ge 17, 3) := by decide +kernel
theorem dX8_byteAt_10 : decode cX8_byteAt 10 = .ok (.aload_n 0, 1) := by decide +kernel
theorem dX8_byteAt_11 : decode cX8_byteAt 11 = .ok (.getfield 13, 3) := by decide +kernel
theorem dX8_byteAt_14 : decode cX8_byteAt 14 = .ok (.bipush 63, 2) := by decide +kernel
theorem dX8_byteAt_16 : decode cX8_byteAt 16 = .ok (.iload_n 1, 1) := by decide +kernel
theorem dX8_byteAt_17 : decode cX8_byteAt 17 = .ok (.imul, 1) := by decide +kernel
theorem dX8_byteAt_18 : decode cX8_byteAt 18 = .ok (.iload_n 2, 1) := by decide +kernel
theorem dX8_byteAt_19 : decode cX8_byteAt 19 = .ok (.iadd, 1) := by decide +kernel
theorem dX8_byteAt_20 : decode cX8_byteAt 20 = .ok (.iaload, 1) := by decide +kernel
theorem dX8_byteAt_21 : decode cX8_byteAt 21 = .ok (.goto 4, 3) := by decide +kernel
theorem dX8_byteAt_24 : decode cX8_byteAt 24 = .ok (.iconst (-1), 1) := by decide +kernel
theorem dX8_byteAt_25 : decode cX8_byteAt 25 = .ok (.ireturn, 1) := by decide +kernel
theorem dX8_isLetter_0 : decode cX8_isLetter 0 = .ok (.aload_n 0, 1) := by decide +kernel
theorem dX8_isLetter_1 : decode cX8_isLetter 1 = .ok (.iload_n 1, 1) := by decide +kernel
theorem dX8_isLetter_2 : decode cX8_isLetter 2 = .ok (.iload_n 2, 1) := by decide +kernel
theorem dX8_isLetter_3 : decode cX8_isLetter 3 = .ok (.invokevirtual 133, 3) := by decide +kernel
theorem dX8_isLetter_6 : decode cX8_isLetter 6 = .ok (.bipush 97, 2) := by decide +kernel
theorem dX8_isLetter_8 : decode cX8_isLetter 8 = .ok (.bipush 104, 2) := by decide +kernel
theorem dX8_isLetter_10 : decode cX8_isLetter 10 = .ok (.invokestatic 125, 3) := by decide +kernel
theorem dX8_isLetter_13 : decode cX8_isLetter 13 = .ok (.ireturn, 1) := by decide +kernel
theorem dX8_isFigure_0 : decode cX8_isFigure 0 = .ok (.aload_n 0, 1) := by decide +kernel
theorem dX8_isFigure_1 : decode cX8_isFigure 1 = .ok (.iload_n 1, 1) := by decide +kernel
theorem dX8_isFigure_2 : decode cX8_isFigure 2 = .ok (.iload_n 2, 1) := by decide +kernel
theorem dX8_isFigure_3 : decode cX8_isFigure 3 = .ok (.invokevirtual 133, 3) := by decide +kernel
theorem dX8_isFigure_6 : decode cX8_isFigure 6 = .ok (.bipush 48, 2) := by decide +kernel
theorem dX8_isFigure_8 : decode cX8_isFigure 8 = .ok (.bipush 48, 2) := by decide +kernel
theorem dX8_isFigure_10 : decode cX8_isFigure 10 = .ok (.iload_n 3, 1) := by decide +kernel
theorem dX8_isFigure_11 : decode cX8_isFigure 11 = .ok (.iadd, 1) := by decide +kernel
theorem dX8_isFigure_12 : decode cX8_isFigure 12 = .ok (.invokestatic 125, 3) := by decide +kernel
theorem dX8_isFigure_15 : decode cX8_isFigure 15 = .ok (.ireturn, 1) := by decide +kernel
theorem dX8_readsFloor_0 : decode cX8_readsFloor 0 = .ok (.aload_n 0, 1) := by decide +kernel
theorem dX8_readsFloor_1 : decode cX8_readsFloor 1 = .ok (.iconst 0, 1) := by decide +kernel
theorem dX8_readsFloor_2 : decode cX8_readsFloor 2 = .ok (.iload_n 2, 1) := by decide +kernel
theorem dX8_readsFloor_3 : decode cX8_readsFloor 3 = .ok (.invokevirtual 133, 3) := by decide +kernel
theorem dX8_readsFloor_6 : decode cX8_readsFloor 6 = .ok (.istore_n 3, 1) := by decide +kernel
theorem dX8_readsFloor_7 : decode cX8_readsFloor 7 = .ok (.iload_n 3, 1) := by decide +kernel
theorem dX8_readsFloor_8 : decode cX8_readsFloor 8 = .ok (.bipush 112, 2) := by decide +kernel
theorem dX8_readsFloor_10 : decode cX8_readsFloor 10 = .ok (.if_icmp .ne 7, 3) := by decide +kernel
theorem dX8_readsFloor_13 : decode cX8_readsFloor 13 = .ok (.iconst 0, 1) := by decide +kernel
theorem dX8_readsFloor_14 : decode cX8_readsFloor 14 = .ok (.goto 34, 3) := by decide +kernel
theorem dX8_readsFloor_17 : decode cX8_readsFloor 17 = .ok (.iload_n 3, 1) := by decide +kernel
theorem dX8_readsFloor_18 : decode cX8_readsFloor 18 = .ok (.bipush 109, 2) := by decide +kernel
theorem dX8_readsFloor_20 : decode cX8_readsFloor 20 = .ok (.if_icmp .ne 7, 3) := by decide +kernel
theorem dX8_readsFloor_23 : decode cX8_readsFloor 23 = .ok (.iconst 1, 1) := by decide +kernel
theorem dX8_readsFloor_24 : decode cX8_readsFloor 24 = .ok (.goto 24, 3) := by decide +kernel
theorem dX8_readsFloor_27 : decode cX8_readsFloor 27 = .ok (.iload_n 3, 1) := by decide +kernel
theorem dX8_readsFloor_28 : decode cX8_readsFloor 28 = .ok (.bipush 108, 2) := by decide +kernel
theorem dX8_readsFloor_30 : decode cX8_readsFloor 30 = .ok (.if_icmp .ne 7, 3) := by decide +kernel
theorem dX8_readsFloor_33 : decode cX8_readsFloor 33 = .ok (.iconst 2, 1) := by decide +kernel
theorem dX8_readsFloor_34 : decode cX8_readsFloor 34 = .ok (.goto 14, 3) := by decide +kernel
theorem dX8_readsFloor_37 : decode cX8_readsFloor 37 = .ok (.iload_n 3, 1) := by decide +kernel
theorem dX8_readsFloor_38 : decode cX8_readsFloor 38 = .ok (.bipush 99, 2) := by decide +kernel
theorem dX8_readsFloor_40 : decode cX8_readsFloor 40 = .ok (.if_icmp .ne 7, 3) := by decide +kernel
theorem dX8_readsFloor_43 : decode cX8_readsFloor 43 = .ok (.iconst 3, 1) := by decide +kernel
theorem dX8_readsFloor_44 : decode cX8_readsFloor 44 = .ok (.goto 4, 3) := by decide +kernel
theorem dX8_readsFloor_47 : decode cX8_readsFloor 47 = .ok (.iconst (-1), 1) := by decide +kernel
theorem dX8_readsFloor_48 : decode cX8_readsFloor 48 = .ok (.istore 4, 2) := by decide +kernel
theorem dX8_readsFloor_50 : decode cX8_readsFloor 50 = .ok (.iload_n 1, 1) := by decide +kernel
theorem dX8_readsFloor_51 : decode cX8_readsFloor 51 = .ok (.bipush 9, 2) := by decide +kernel
theorem dX8_readsFloor_53 : decode cX8_readsFloor 53 = .ok (.if_icmp .eq 9, 3) := by decide +kernel
theorem dX8_readsFloor_56 : decode cX8_readsFloor 56 = .ok (.iload 4, 2) := by decide +kernel
theorem dX8_readsFloor_58 : decode cX8_readsFloor 58 = .ok (.iconst (-1), 1) := by decide +kernel
theorem dX8_readsFloor_59 : decode cX8_readsFloor 59 = .ok (.if_icmp .ne 5, 3) := by decide +kernel
theorem dX8_readsFloor_62 : decode cX8_readsFloor 62 = .ok (.iconst (-1), 1) := by decide +kernel
theorem dX8_readsFloor_63 : decode cX8_readsFloor 63 = .ok (.ireturn, 1) := by decide +kernel
theorem dX8_readsFloor_64 : decode cX8_readsFloor 64 = .ok (.aload_n 0, 1) := by decide +kernel
theorem dX8_readsFloor_65 : decode cX8_readsFloor 65 = .ok (.iconst 0, 1) := by decide +kernel
theorem dX8_readsFloor_66 : decode cX8_readsFloor 66 = .ok (.iload_n 2, 1) := by decide +kernel
theorem dX8_readsFloor_67 : decode cX8_readsFloor 67 = .ok (.iconst 1, 1) := by decide +kernel
theorem dX8_readsFloor_68 : decode cX8_readsFloor 68 = .ok (.iadd, 1) := by decide +kernel
theorem dX8_readsFloor_69 : decode cX8_readsFloor 69 = .ok (.bipush 9, 2) := by decide +kernel
theorem dX8_readsFloor_71 : decode cX8_readsFloor 71 = .ok (.invokevirtual 137, 3) := by decide +kernel
theorem dX8_readsFloor_74 : decode cX8_readsFloor 74 = .ok (.ifCond .ne 6, 3) := by decide +kernel
theorem dX8_readsFloor_77 : decode cX8_readsFloor 77 = .ok (.bipush (-2), 2) := by decide +kernel
theorem dX8_readsFloor_79 : decode cX8_readsFloor 79 = .ok (.ireturn, 1) := by decide +kernel
theorem dX8_readsFloor_80 : decode cX8_readsFloor 80 = .ok (.aload_n 0, 1) := by decide +kernel
theorem dX8_readsFloor_81 : decode cX8_readsFloor 81 = .ok (.iconst 0, 1) := by decide +kernel
theorem dX8_readsFloor_82 : decode cX8_readsFloor 82 = .ok (.iload_n 2, 1) := by decide +kernel
theorem dX8_readsFloor_83 : decode cX8_readsFloor 83 = .ok (.iconst 2, 1) := by decide +kernel
theorem dX8_readsFloor_84 : decode cX8_readsFloor 84 = .ok (.iadd, 1) := by decide +kernel
theorem dX8_readsFloor_85 : decode cX8_readsFloor 85 = .ok (.invokevirtual 140, 3) := by decide +kernel
theorem dX8_readsFloor_88 : decode cX8_readsFloor 88 = .ok (.ifCond .ne 6, 3) := by decide +kernel
theorem dX8_readsFloor_91 : decode cX8_readsFloor 91 = .ok (.bipush (-3), 2) := by decide +kernel
theorem dX8_readsFloor_93 : decode cX8_readsFloor 93 = .ok (.ireturn, 1) := by decide +kernel
theorem dX8_readsFloor_94 : decode cX8_readsFloor 94 = .ok (.aload_n 0, 1) := by decide +kernel
theorem dX8_readsFloor_95 : decode cX8_readsFloor 95 = .ok (.getfield 16, 3) := by decide +kernel
theorem dX8_readsFloor_98 : decode cX8_readsFloor 98 = .ok (.iload_n 1, 1) := by decide +kernel
theorem dX8_readsFloor_99 : decode cX8_readsFloor 99 = .ok (.iload 4, 2) := by decide +kernel
theorem dX8_readsFloor_101 : decode cX8_readsFloor 101 = .ok (.iastore, 1) := by decide +kernel
theorem dX8_readsFloor_102 : decode cX8_readsFloor 102 = .ok (.aload_n 0, 1) := by decide +kernel
theorem dX8_readsFloor_103 : decode cX8_readsFloor 103 = .ok (.getfield 19, 3) := by decide +kernel
theorem dX8_readsFloor_106 : decode cX8_readsFloor 106 = .ok (.iload_n 1, 1) := by decide +kernel
theorem dX8_readsFloor_107 : decode cX8_readsFloor 107 = .ok (.aload_n 0, 1) := by decide +kernel
theorem dX8_readsFloor_108 : decode cX8_readsFloor 108 = .ok (.iconst 0, 1) := by decide +kernel
theorem dX8_readsFloor_109 : decode cX8_readsFloor 109 = .ok (.iload_n 2, 1) := by decide +kernel
theorem dX8_readsFloor_110 : decode cX8_readsFloor 110 = .ok (.iconst 1, 1) := by decide +kernel
theorem dX8_readsFloor_111 : decode cX8_readsFloor 111 = .ok (.iadd, 1) := by decide +kernel
theorem dX8_readsFloor_112 : decode cX8_readsFloor 112 = .ok (.invokevirtual 133, 3) := by decide +kernel
theorem dX8_readsFloor_115 : decode cX8_readsFloor 115 = .ok (.bipush 48, 2) := by decide +kernel
theorem dX8_readsFloor_117 : decode cX8_readsFloor 117 = .ok (.isub, 1) := by decide +kernel
theorem dX8_readsFloor_118 : decode cX8_readsFloor 118 = .ok (.iastore, 1) := by decide +kernel
theorem dX8_readsFloor_119 : decode cX8_readsFloor 119 = .ok (.aload_n 0, 1) := by decide +kernel
theorem dX8_readsFloor_120 : decode cX8_readsFloor 120 = .ok (.getfield 22, 3) := by decide +kernel
theorem dX8_readsFloor_123 : decode cX8_readsFloor 123 = .ok (.iload_n 1, 1) := by decide +kernel
theorem dX8_readsFloor_124 : decode cX8_readsFloor 124 = .ok (.aload_n 0, 1) := by decide +kernel
theorem dX8_readsFloor_125 : decode cX8_readsFloor 125 = .ok (.iconst 0, 1) := by decide +kernel
theorem dX8_readsFloor_126 : decode cX8_readsFloor 126 = .ok (.iload_n 2, 1) := by decide +kernel
theorem dX8_readsFloor_127 : decode cX8_readsFloor 127 = .ok (.iconst 2, 1) := by decide +kernel
theorem dX8_readsFloor_128 : decode cX8_readsFloor 128 = .ok (.iadd, 1) := by decide +kernel
theorem dX8_readsFloor_129 : decode cX8_readsFloor 129 = .ok (.invokevirtual 133, 3) := by decide +kernel
theorem dX8_readsFloor_132 : decode cX8_readsFloor 132 = .ok (.bipush 97, 2) := by decide +kernel
theorem dX8_readsFloor_134 : decode cX8_readsFloor 134 = .ok (.isub, 1) := by decide +kernel
theorem dX8_readsFloor_135 : decode cX8_readsFloor 135 = .ok (.iastore, 1) := by decide +kernel
theorem dX8_readsFloor_136 : decode cX8_readsFloor 136 = .ok (.iconst 3, 1) := by decide +kernel
theorem dX8_readsFloor_137 : decode cX8_readsFloor 137 = .ok (.ireturn, 1) := by decide +kernel
theorem dX8_readsBasket_0 : decode cX8_readsBasket 0 = .ok (.iconst 0, 1) := by decide +kernel
theorem dX8_readsBasket_1 : decode cX8_readsBasket 1 = .ok (.istore_n 3, 1) := by decide +kernel
theorem dX8_readsBasket_2 : decode cX8_readsBasket 2 = .ok (.iload_n 1, 1) := by decide +kernel
theorem dX8_readsBasket_3 : decode cX8_readsBasket 3 = .ok (.bipush 8, 2) := by decide +kernel
theorem dX8_readsBasket_5 : decode cX8_readsBasket 5 = .ok (.if_icmp .ge 35, 3) := by decide +kernel
theorem dX8_readsBasket_8 : decode cX8_readsBasket 8 = .ok (.iload_n 3, 1) := by decide +kernel
theorem dX8_readsBasket_9 : decode cX8_readsBasket 9 = .ok (.iconst 4, 1) := by decide +kernel
theorem dX8_readsBasket_10 : decode cX8_readsBasket 10 = .ok (.if_icmp .ge 30, 3) := by decide +kernel
theorem dX8_readsBasket_13 : decode cX8_readsBasket 13 = .ok (.aload_n 0, 1) := by decide +kernel
theorem dX8_readsBasket_14 : decode cX8_readsBasket 14 = .ok (.iconst 1, 1) := by decide +kernel
theorem dX8_readsBasket_15 : decode cX8_readsBasket 15 = .ok (.iload_n 2, 1) := by decide +kernel
theorem dX8_readsBasket_16 : decode cX8_readsBasket 16 = .ok (.iload_n 3, 1) := by decide +kernel
theorem dX8_readsBasket_17 : decode cX8_readsBasket 17 = .ok (.iadd, 1) := by decide +kernel
theorem dX8_readsBasket_18 : decode cX8_readsBasket 18 = .ok (.iload_n 3, 1) := by decide +kernel
theorem dX8_readsBasket_19 : decode cX8_readsBasket 19 = .ok (.ifCond .ne 7, 3) := by decide +kernel
theorem dX8_readsBasket_22 : decode cX8_readsBasket 22 = .ok (.iconst 2, 1) := by decide +kernel
theorem dX8_readsBasket_23 : decode cX8_readsBasket 23 = .ok (.goto 5, 3) := by decide +kernel
theorem dX8_readsBasket_26 : decode cX8_readsBasket 26 = .ok (.bipush 9, 2) := by decide +kernel
theorem dX8_readsBasket_28 : decode cX8_readsBasket 28 = .ok (.invokevirtual 137, 3) := by decide +kernel
theorem dX8_readsBasket_31 : decode cX8_readsBasket 31 = .ok (.ifCond .eq 9, 3) := by decide +kernel
theorem dX8_readsBasket_34 : decode cX8_readsBasket 34 = .ok (.iinc 3 1, 3) := by decide +kernel
theorem dX8_readsBasket_37 : decode cX8_readsBasket 37 = .ok (.goto (-35), 3) := by decide +kernel
theorem dX8_readsBasket_40 : decode cX8_readsBasket 40 = .ok (.iload_n 3, 1) := by decide +kernel
theorem dX8_readsBasket_41 : decode cX8_readsBasket 41 = .ok (.iconst 4, 1) := by decide +kernel
theorem dX8_readsBasket_42 : decode cX8_readsBasket 42 = .ok (.if_icmp .lt 14, 3) := by decide +kernel
theorem dX8_readsBasket_45 : decode cX8_readsBasket 45 = .ok (.aload_n 0, 1) := by decide +kernel
theorem dX8_readsBasket_46 : decode cX8_readsBasket 46 = .ok (.iconst 1, 1) := by decide +kernel
theorem dX8_readsBasket_47 : decode cX8_readsBasket 47 = .ok (.iload_n 2, 1) := by decide +kernel
theorem dX8_readsBasket_48 : decode cX8_readsBasket 48 = .ok (.iconst 4, 1) := by decide +kernel
theorem dX8_readsBasket_49 : decode cX8_readsBasket 49 = .ok (.iadd, 1) := by decide +kernel
theorem dX8_readsBasket_50 : decode cX8_readsBasket 50 = .ok (.invokevirtual 140, 3) := by decide +kernel
theorem dX8_readsBasket_53 : decode cX8_readsBasket 53 = .ok (.ifCond .ne 8, 3) := by decide +kernel
theorem dX8_readsBasket_56 : decode cX8_readsBasket 56 = .ok (.iload_n 3, 1) := by decide +kernel
theorem dX8_readsBasket_57 : decode cX8_readsBasket 57 = .ok (.ineg, 1) := by decide +kernel
theorem dX8_readsBasket_58 : decode cX8_readsBasket 58 = .ok (.iconst 1, 1) := by decide +kernel
theorem dX8_readsBasket_59 : decode cX8_readsBasket 59 = .ok (.isub, 1) := by decide +kernel
theorem dX8_readsBasket_60 : decode cX8_readsBasket 60 = .ok (.ireturn, 1) := by decide +kernel
theorem dX8_readsBasket_61 : decode cX8_readsBasket 61 = .ok (.aload_n 0, 1) := by decide +kernel
theorem dX8_readsBasket_62 : decode cX8_readsBasket 62 = .ok (.getfield 25, 3) := by decide +kernel
theorem dX8_readsBasket_65 : decode cX8_readsBasket 65 = .ok (.iload_n 1, 1) := by decide +kernel
theorem dX8_readsBasket_66 : decode cX8_readsBasket 66 = .ok (.bipush 10, 2) := by decide +kernel
theorem dX8_readsBasket_68 : decode cX8_readsBasket 68 = .ok (.aload_n 0, 1) := by decide +kernel
theorem dX8_readsBasket_69 : decode cX8_readsBasket 69 = .ok (.iconst 1, 1) := by decide +kernel
theorem dX8_readsBasket_70 : decode cX8_readsBasket 70 = .ok (.iload_n 2, 1) := by decide +kernel
theorem dX8_readsBasket_71 : decode cX8_readsBasket 71 = .ok (.invokevirtual 133, 3) := by decide +kernel
theorem dX8_readsBasket_74 : decode cX8_readsBasket 74 = .ok (.bipush 48, 2) := by decide +kernel
theorem dX8_readsBasket_76 : decode cX8_readsBasket 76 = .ok (.isub, 1) := by decide +kernel
theorem dX8_readsBasket_77 : decode cX8_readsBasket 77 = .ok (.imul, 1) := by decide +kernel
theorem dX8_readsBasket_78 : decode cX8_readsBasket 78 = .ok (.aload_n 0, 1) := by decide +kernel
theorem dX8_readsBasket_79 : decode cX8_readsBasket 79 = .ok (.iconst 1, 1) := by decide +kernel
theorem dX8_readsBasket_80 : decode cX8_readsBasket 80 = .ok (.iload_n 2, 1) := by decide +kernel
theorem dX8_readsBasket_81 : decode cX8_readsBasket 81 = .ok (.iconst 1, 1) := by decide +kernel
theorem dX8_readsBasket_82 : decode cX8_readsBasket 82 = .ok (.iadd, 1) := by decide +kernel
theorem dX8_readsBasket_83 : decode cX8_readsBasket 83 = .ok (.invokevirtual 133, 3) := by decide +kernel
theorem dX8_readsBasket_86 : decode cX8_readsBasket 86 = .ok (.iadd, 1) := by decide +kernel
theorem dX8_readsBasket_87 : decode cX8_readsBasket 87 = .ok (.bipush 48, 2) := by decide +kernel
theorem dX8_readsBasket_89 : decode cX8_readsBasket 89 = .ok (.isub, 1) := by decide +kernel
theorem dX8_readsBasket_90 : decode cX8_readsBasket 90 = .ok (.iastore, 1) := by decide +kernel
theorem dX8_readsBasket_91 : decode cX8_readsBasket 91 = .ok (.aload_n 0, 1) := by decide +kernel
theorem dX8_readsBasket_92 : decode cX8_readsBasket 92 = .ok (.getfield 28, 3) := by decide +kernel
theorem dX8_readsBasket_95 : decode cX8_readsBasket 95 = .ok (.iload_n 1, 1) := by decide +kernel
theorem dX8_readsBasket_96 : decode cX8_readsBasket 96 = .ok (.bipush 10, 2) := by decide +kernel
theorem dX8_readsBasket_98 : decode cX8_readsBasket 98 = .ok (.aload_n 0, 1) := by decide +kernel
theorem dX8_readsBasket_99 : decode cX8_readsBasket 99 = .ok (.iconst 1, 1) := by decide +kernel
theorem dX8_readsBasket_100 : decode cX8_readsBasket 100 = .ok (.iload_n 2, 1) := by decide +kernel
theorem dX8_readsBasket_101 : decode cX8_readsBasket 101 = .ok (.iconst 2, 1) := by decide +kernel
theorem dX8_readsBasket_102 : decode cX8_readsBasket 102 = .ok (.iadd, 1) := by decide +kernel
theorem dX8_readsBasket_103 : decode cX8_readsBasket 103 = .ok (.invokevirtual 133, 3) := by decide +kernel
theorem dX8_readsBasket_106 : decode cX8_readsBasket 106 = .ok (.bipush 48, 2) := by decide +kernel
theorem dX8_readsBasket_108 : decode cX8_readsBasket 108 = .ok (.isub, 1) := by decide +kernel
theorem dX8_readsBasket_109 : decode cX8_readsBasket 109 = .ok (.imul, 1) := by decide +kernel
theorem dX8_readsBasket_110 : decode cX8_readsBasket 110 = .ok (.aload_n 0, 1) := by decide +kernel
theorem dX8_readsBasket_111 : decode cX8_readsBasket 111 = .ok (.iconst 1, 1) := by decide +kernel
theorem dX8_readsBasket_112 : decode cX8_readsBasket 112 = .ok (.iload_n 2, 1) := by decide +kernel
theorem dX8_readsBasket_113 : decode cX8_readsBasket 113 = .ok (.iconst 3, 1) := by decide +kernel
theorem dX8_readsBasket_114 : decode cX8_readsBasket 114 = .ok (.iadd, 1) := by decide +kernel
theorem dX8_readsBasket_115 : decode cX8_readsBasket 115 = .ok (.invokevirtual 133, 3) := by decide +kernel
theorem dX8_readsBasket_118 : decode cX8_readsBasket 118 = .ok (.iadd, 1) := by decide +kernel
theorem dX8_readsBasket_119 : decode cX8_readsBasket 119 = .ok (.bipush 48, 2) := by decide +kernel
theorem dX8_readsBasket_121 : decode cX8_readsBasket 121 = .ok (.isub, 1) := by decide +kernel
theorem dX8_readsBasket_122 : decode cX8_readsBasket 122 = .ok (.iastore, 1) := by decide +kernel
theorem dX8_readsBasket_123 : decode cX8_readsBasket 123 = .ok (.iconst 0, 1) := by decide +kernel
theorem dX8_readsBasket_124 : decode cX8_readsBasket 124 = .ok (.istore 4, 2) := by decide +kernel
theorem dX8_readsBasket_126 : decode cX8_readsBasket 126 = .ok (.iload 4, 2) := by decide +kernel
theorem dX8_readsBasket_128 : decode cX8_readsBasket 128 = .ok (.iconst 3, 1) := by decide +kernel
theorem dX8_readsBasket_129 : decode cX8_readsBasket 129 = .ok (.if_icmp .ge 48, 3) := by decide +kernel
theorem dX8_readsBasket_132 : decode cX8_readsBasket 132 = .ok (.aload_n 0, 1) := by decide +kernel
theorem dX8_readsBasket_133 : decode cX8_readsBasket 133 = .ok (.iconst 1, 1) := by decide +kernel
theorem dX8_readsBasket_134 : decode cX8_readsBasket 134 = .ok (.iload_n 2, 1) := by decide +kernel
theorem dX8_readsBasket_135 : decode cX8_readsBasket 135 = .ok (.iconst 4, 1) := by decide +kernel
theorem dX8_readsBasket_136 : decode cX8_readsBasket 136 = .ok (.iadd, 1) := by decide +kernel
theorem dX8_readsBasket_137 : decode cX8_readsBasket 137 = .ok (.iload 4, 2) := by decide +kernel
theorem dX8_readsBasket_139 : decode cX8_readsBasket 139 = .ok (.iadd, 1) := by decide +kernel
theorem dX8_readsBasket_140 : decode cX8_readsBasket 140 = .ok (.invokevirtual 140, 3) := by decide +kernel
theorem dX8_readsBasket_143 : decode cX8_readsBasket 143 = .ok (.ifCond .eq 34, 3) := by decide +kernel
theorem dX8_readsBasket_146 : decode cX8_readsBasket 146 = .ok (.aload_n 0, 1) := by decide +kernel
theorem dX8_readsBasket_147 : decode cX8_readsBasket 147 = .ok (.getfield 34, 3) := by decide +kernel
theorem dX8_readsBasket_150 : decode cX8_readsBasket 150 = .ok (.iconst 3, 1) := by decide +kernel
theorem dX8_readsBasket_151 : decode cX8_readsBasket 151 = .ok (.iload_n 1, 1) := by decide +kernel
theorem dX8_readsBasket_152 : decode cX8_readsBasket 152 = .ok (.imul, 1) := by decide +kernel
theorem dX8_readsBasket_153 : decode cX8_readsBasket 153 = .ok (.iload 4, 2) := by decide +kernel
theorem dX8_readsBasket_155 : decode cX8_readsBasket 155 = .ok (.iadd, 1) := by decide +kernel
theorem dX8_readsBasket_156 : decode cX8_readsBasket 156 = .ok (.aload_n 0, 1) := by decide +kernel
theorem dX8_readsBasket_157 : decode cX8_readsBasket 157 = .ok (.iconst 1, 1) := by decide +kernel
theorem dX8_readsBasket_158 : decode cX8_readsBasket 158 = .ok (.iload_n 2, 1) := by decide +kernel
theorem dX8_readsBasket_159 : decode cX8_readsBasket 159 = .ok (.iconst 4, 1) := by decide +kernel
theorem dX8_readsBasket_160 : decode cX8_readsBasket 160 = .ok (.iadd, 1) := by decide +kernel
theorem dX8_readsBasket_161 : decode cX8_readsBasket 161 = .ok (.iload 4, 2) := by decide +kernel
theorem dX8_readsBasket_163 : decode cX8_readsBasket 163 = .ok (.iadd, 1) := by decide +kernel
theorem dX8_readsBasket_164 : decode cX8_readsBasket 164 = .ok (.invokevirtual 133, 3) := by decide +kernel
theorem dX8_readsBasket_167 : decode cX8_readsBasket 167 = .ok (.bipush 97, 2) := by decide +kernel
theorem dX8_readsBasket_169 : decode cX8_readsBasket 169 = .ok (.isub, 1) := by decide +kernel
theorem dX8_readsBasket_170 : decode cX8_readsBasket 170 = .ok (.iastore, 1) := by decide +kernel
theorem dX8_readsBasket_171 : decode cX8_readsBasket 171 = .ok (.iinc 4 1, 3) := by decide +kernel
theorem dX8_readsBasket_174 : decode cX8_readsBasket 174 = .ok (.goto (-48), 3) := by decide +kernel
theorem dX8_readsBasket_177 : decode cX8_readsBasket 177 = .ok (.aload_n 0, 1) := by decide +kernel
theorem dX8_readsBasket_178 : decode cX8_readsBasket 178 = .ok (.getfield 31, 3) := by decide +kernel
theorem dX8_readsBasket_181 : decode cX8_readsBasket 181 = .ok (.iload_n 1, 1) := by decide +kernel
theorem dX8_readsBasket_182 : decode cX8_readsBasket 182 = .ok (.iload 4, 2) := by decide +kernel
theorem dX8_readsBasket_184 : decode cX8_readsBasket 184 = .ok (.iastore, 1) := by decide +kernel
theorem dX8_readsBasket_185 : decode cX8_readsBasket 185 = .ok (.iconst 4, 1) := by decide +kernel
theorem dX8_readsBasket_186 : decode cX8_readsBasket 186 = .ok (.iload 4, 2) := by decide +kernel
theorem dX8_readsBasket_188 : decode cX8_readsBasket 188 = .ok (.iadd, 1) := by decide +kernel
theorem dX8_readsBasket_189 : decode cX8_readsBasket 189 = .ok (.ireturn, 1) := by decide +kernel
theorem dX8_readsParts_0 : decode cX8_readsParts 0 = .ok (.iconst 0, 1) := by decide +kernel
theorem dX8_readsParts_1 : decode cX8_readsParts 1 = .ok (.istore_n 2, 1) := by decide +kernel
theorem dX8_readsParts_2 : decode cX8_readsParts 2 = .ok (.iconst 0, 1) := by decide +kernel
theorem dX8_readsParts_3 : decode cX8_readsParts 3 = .ok (.istore_n 3, 1) := by decide +kernel
theorem dX8_readsParts_4 : decode cX8_readsParts 4 = .ok (.aload_n 0, 1) := by decide +kernel
theorem dX8_readsParts_5 : decode cX8_readsParts 5 = .ok (.iload_n 1, 1) := by decide +kernel
theorem dX8_readsParts_6 : decode cX8_readsParts 6 = .ok (.ifCond .ne 7, 3) := by decide +kernel
theorem dX8_readsParts_9 : decode cX8_readsParts 9 = .ok (.iconst 0, 1) := by decide +kernel
theorem dX8_readsParts_10 : decode cX8_readsParts 10 = .ok (.goto 7, 3) := by decide +kernel
theorem dX8_readsParts_13 : decode cX8_readsParts 13 = .ok (.aload_n 0, 1) := by decide +kernel
theorem dX8_readsParts_14 : decode cX8_readsParts 14 = .ok (.getfield 144, 3) := by decide +kernel
theorem dX8_readsParts_17 : decode cX8_readsParts 17 = .ok (.putfield 144, 3) := by decide +kernel
theorem dX8_readsParts_20 : decode cX8_readsParts 20 = .ok (.aload_n 0, 1) := by decide +kernel
theorem dX8_readsParts_21 : decode cX8_readsParts 21 = .ok (.iload_n 1, 1) := by decide +kernel
theorem dX8_readsParts_22 : decode cX8_readsParts 22 = .ok (.iconst 1, 1) := by decide +kernel
theorem dX8_readsParts_23 : decode cX8_readsParts 23 = .ok (.if_icmp .ne 7, 3) := by decide +kernel
theorem dX8_readsParts_26 : decode cX8_readsParts 26 = .ok (.iconst 0, 1) := by decide +kernel
theorem dX8_readsParts_27 : decode cX8_readsParts 27 = .ok (.goto 7, 3) := by decide +kernel
theorem dX8_readsParts_30 : decode cX8_readsParts 30 = .ok (.aload_n 0, 1) := by decide +kernel
theorem dX8_readsParts_31 : decode cX8_readsParts 31 = .ok (.getfield 147, 3) := by decide +kernel
theorem dX8_readsParts_34 : decode cX8_readsParts 34 = .ok (.putfield 147, 3) := by decide +kernel
theorem dX8_readsParts_37 : decode cX8_readsParts 37 = .ok (.iload_n 3, 1) := by decide +kernel
theorem dX8_readsParts_38 : decode cX8_readsParts 38 = .ok (.aload_n 0, 1) := by decide +kernel
theorem dX8_readsParts_39 : decode cX8_readsParts 39 = .ok (.getfield 7, 3) := by decide +kernel
theorem dX8_readsParts_42 : decode cX8_readsParts 42 = .ok (.iload_n 1, 1) := by decide +kernel
theorem dX8_readsParts_43 : decode cX8_readsParts 43 = .ok (.iaload, 1) := by decide +kernel
theorem dX8_readsParts_44 : decode cX8_readsParts 44 = .ok (.if_icmp .lt 7, 3) := by decide +kernel
theorem dX8_readsParts_47 : decode cX8_readsParts 47 = .ok (.iload_n 3, 1) := by decide +kernel
theorem dX8_readsParts_48 : decode cX8_readsParts 48 = .ok (.ifCond .le 108, 3) := by decide +kernel
theorem dX8_readsParts_51 : decode cX8_readsParts 51 = .ok (.iload_n 1, 1) := by decide +kernel
theorem dX8_readsParts_52 : decode cX8_readsParts 52 = .ok (.ifCond .ne 12, 3) := by decide +kernel
theorem dX8_readsParts_55 : decode cX8_readsParts 55 = .ok (.aload_n 0, 1) := by decide +kernel
theorem dX8_readsParts_56 : decode cX8_readsParts 56 = .ok (.iload_n 2, 1) := by decide +kernel
theorem dX8_readsParts_57 : decode cX8_readsParts 57 = .ok (.iload_n 3, 1) := by decide +kernel
theorem dX8_readsParts_58 : decode cX8_readsParts 58 = .ok (.invokevirtual 150, 3) := by decide +kernel
theorem dX8_readsParts_61 : decode cX8_readsParts 61 = .ok (.goto 9, 3) := by decide +kernel
theorem dX8_readsParts_64 : decode cX8_readsParts 64 = .ok (.aload_n 0, 1) := by decide +kernel
theorem dX8_readsParts_65 : decode cX8_readsParts 65 = .ok (.iload_n 2, 1) := by decide +kernel
theorem dX8_readsParts_66 : decode cX8_readsParts 66 = .ok (.iload_n 3, 1) := by decide +kernel
theorem dX8_readsParts_67 : decode cX8_readsParts 67 = .ok (.invokevirtual 153, 3) := by decide +kernel
theorem dX8_readsParts_70 : decode cX8_readsParts 70 = .ok (.istore 4, 2) := by decide +kernel
theorem dX8_readsParts_72 : decode cX8_readsParts 72 = .ok (.iload 4, 2) := by decide +kernel
theorem dX8_readsParts_74 : decode cX8_readsParts 74 = .ok (.ifCond .ge 10, 3) := by decide +kernel
theorem dX8_readsParts_77 : decode cX8_readsParts 77 = .ok (.iload_n 3, 1) := by decide +kernel
theorem dX8_readsParts_78 : decode cX8_readsParts 78 = .ok (.iload 4, 2) := by decide +kernel
theorem dX8_readsParts_80 : decode cX8_readsParts 80 = .ok (.isub, 1) := by decide +kernel
theorem dX8_readsParts_81 : decode cX8_readsParts 81 = .ok (.iconst 1, 1) := by decide +kernel
theorem dX8_readsParts_82 : decode cX8_readsParts 82 = .ok (.isub, 1) := by decide +kernel
theorem dX8_readsParts_83 : decode cX8_readsParts 83 = .ok (.ireturn, 1) := by decide +kernel
theorem dX8_readsParts_84 : decode cX8_readsParts 84 = .ok (.iinc 2 1, 3) := by decide +kernel
theorem dX8_readsParts_87 : decode cX8_readsParts 87 = .ok (.iload_n 3, 1) := by decide +kernel
theorem dX8_readsParts_88 : decode cX8_readsParts 88 = .ok (.iload 4, 2) := by decide +kernel
theorem dX8_readsParts_90 : decode cX8_readsParts 90 = .ok (.iadd, 1) := by decide +kernel
theorem dX8_readsParts_91 : decode cX8_readsParts 91 = .ok (.istore_n 3, 1) := by decide +kernel
theorem dX8_readsParts_92 : decode cX8_readsParts 92 = .ok (.iload_n 3, 1) := by decide +kernel
theorem dX8_readsParts_93 : decode cX8_readsParts 93 = .ok (.aload_n 0, 1) := by decide +kernel
theorem dX8_readsParts_94 : decode cX8_readsParts 94 = .ok (.getfield 7, 3) := by decide +kernel
theorem dX8_readsParts_97 : decode cX8_readsParts 97 = .ok (.iload_n 1, 1) := by decide +kernel
theorem dX8_readsParts_98 : decode cX8_readsParts 98 = .ok (.iaload, 1) := by decide +kernel
theorem dX8_readsParts_99 : decode cX8_readsParts 99 = .ok (.if_icmp .ne 38, 3) := by decide +kernel
theorem dX8_readsParts_102 : decode cX8_readsParts 102 = .ok (.aload_n 0, 1) := by decide +kernel
theorem dX8_readsParts_103 : decode cX8_readsParts 103 = .ok (.iload_n 1, 1) := by decide +kernel
theorem dX8_readsParts_104 : decode cX8_readsParts 104 = .ok (.ifCond .ne 7, 3) := by decide +kernel
theorem dX8_readsParts_107 : decode cX8_readsParts 107 = .ok (.iload_n 2, 1) := by decide +kernel
theorem dX8_readsParts_108 : decode cX8_readsParts 108 = .ok (.goto 7, 3) := by decide +kernel
theorem dX8_readsParts_111 : decode cX8_readsParts 111 = .ok (.aload_n 0, 1) := by decide +kernel
theorem dX8_readsParts_112 : decode cX8_readsParts 112 = .ok (.getfield 144, 3) := by decide +kernel
theorem dX8_readsParts_115 : decode cX8_readsParts 115 = .ok (.putfield 144, 3) := by decide +kernel
theorem dX8_readsParts_118 : decode cX8_readsParts 118 = .ok (.aload_n 0, 1) := by decide +kernel
theorem dX8_readsParts_119 : decode cX8_readsParts 119 = .ok (.iload_n 1, 1) := by decide +kernel
theorem dX8_readsParts_120 : decode cX8_readsParts 120 = .ok (.iconst 1, 1) := by decide +kernel
theorem dX8_readsParts_121 : decode cX8_readsParts 121 = .ok (.if_icmp .ne 7, 3) := by decide +kernel
theorem dX8_readsParts_124 : decode cX8_readsParts 124 = .ok (.iload_n 2, 1) := by decide +kernel
theorem dX8_readsParts_125 : decode cX8_readsParts 125 = .ok (.goto 7, 3) := by decide +kernel
theorem dX8_readsParts_128 : decode cX8_readsParts 128 = .ok (.aload_n 0, 1) := by decide +kernel
theorem dX8_readsParts_129 : decode cX8_readsParts 129 = .ok (.getfield 147, 3) := by decide +kernel
theorem dX8_readsParts_132 : decode cX8_readsParts 132 = .ok (.putfield 147, 3) := by decide +kernel
theorem dX8_readsParts_135 : decode cX8_readsParts 135 = .ok (.iconst (-1), 1) := by decide +kernel
theorem dX8_readsParts_136 : decode cX8_readsParts 136 = .ok (.ireturn, 1) := by decide +kernel
theorem dX8_readsParts_137 : decode cX8_readsParts 137 = .ok (.aload_n 0, 1) := by decide +kernel
theorem dX8_readsParts_138 : decode cX8_readsParts 138 = .ok (.iload_n 1, 1) := by decide +kernel
theorem dX8_readsParts_139 : decode cX8_readsParts 139 = .ok (.iload_n 3, 1) := by decide +kernel
theorem dX8_readsParts_140 : decode cX8_readsParts 140 = .ok (.invokevirtual 133, 3) := by decide +kernel
theorem dX8_readsParts_143 : decode cX8_readsParts 143 = .ok (.bipush 59, 2) := by decide +kernel
theorem dX8_readsParts_145 : decode cX8_readsParts 145 = .ok (.if_icmp .eq 5, 3) := by decide +kernel
theorem dX8_readsParts_148 : decode cX8_readsParts 148 = .ok (.iload_n 3, 1) := by decide +kernel
theorem dX8_readsParts_149 : decode cX8_readsParts 149 = .ok (.ireturn, 1) := by decide +kernel
theorem dX8_readsParts_150 : decode cX8_readsParts 150 = .ok (.iinc 3 1, 3) := by decide +kernel
theorem dX8_readsParts_153 : decode cX8_readsParts 153 = .ok (.goto (-116), 3) := by decide +kernel
theorem dX8_readsParts_156 : decode cX8_readsParts 156 = .ok (.iconst (-1), 1) := by decide +kernel
theorem dX8_readsParts_157 : decode cX8_readsParts 157 = .ok (.ireturn, 1) := by decide +kernel
theorem dX8_faultOf_0 : decode cX8_faultOf 0 = .ok (.aload_n 0, 1) := by decide +kernel
theorem dX8_faultOf_1 : decode cX8_faultOf 1 = .ok (.iconst 0, 1) := by decide +kernel
theorem dX8_faultOf_2 : decode cX8_faultOf 2 = .ok (.invokevirtual 156, 3) := by decide +kernel
theorem dX8_faultOf_5 : decode cX8_faultOf 5 = .ok (.istore_n 2, 1) := by decide +kernel
theorem dX8_faultOf_6 : decode cX8_faultOf 6 = .ok (.aload_n 0, 1) := by decide +kernel
theorem dX8_faultOf_7 : decode cX8_faultOf 7 = .ok (.iconst 1, 1) := by decide +kernel
theorem dX8_faultOf_8 : decode cX8_faultOf 8 = .ok (.invokevirtual 156, 3) := by decide +kernel
theorem dX8_faultOf_11 : decode cX8_faultOf 11 = .ok (.istore_n 3, 1) := by decide +kernel
theorem dX8_faultOf_12 : decode cX8_faultOf 12 = .ok (.iload_n 1, 1) := by decide +kernel
theorem dX8_faultOf_13 : decode cX8_faultOf 13 = .ok (.ifCond .ne 7, 3) := by decide +kernel
theorem dX8_faultOf_16 : decode cX8_faultOf 16 = .ok (.iload_n 2, 1) := by decide +kernel
theorem dX8_faultOf_17 : decode cX8_faultOf 17 = .ok (.goto 4, 3) := by decide +kernel
theorem dX8_faultOf_20 : decode cX8_faultOf 20 = .ok (.iload_n 3, 1) := by decide +kernel
theorem dX8_faultOf_21 : decode cX8_faultOf 21 = .ok (.ireturn, 1) := by decide +kernel
theorem dX8_reads_0 : decode cX8_reads 0 = .ok (.aload_n 0, 1) := by decide +kernel
theorem dX8_reads_1 : decode cX8_reads 1 = .ok (.iconst 0, 1) := by decide +kernel
theorem dX8_reads_2 : decode cX8_reads 2 = .ok (.invokevirtual 160, 3) := by decide +kernel
theorem dX8_reads_5 : decode cX8_reads 5 = .ok (.istore_n 1, 1) := by decide +kernel
theorem dX8_reads_6 : decode cX8_reads 6 = .ok (.return_, 1) := by decide +kernel
theorem dX8_fault_0 : decode cX8_fault 0 = .ok (.iload_n 1, 1) := by decide +kernel
theorem dX8_fault_1 : decode cX8_fault 1 = .ok (.invokestatic 129, 3) := by decide +kernel
theorem dX8_fault_4 : decode cX8_fault 4 = .ok (.ifCond .eq 11, 3) := by decide +kernel
theorem dX8_fault_7 : decode cX8_fault 7 = .ok (.aload_n 0, 1) := by decide +kernel
theorem dX8_fault_8 : decode cX8_fault 8 = .ok (.iload_n 1, 1) := by decide +kernel
theorem dX8_fault_9 : decode cX8_fault 9 = .ok (.invokevirtual 160, 3) := by decide +kernel
theorem dX8_fault_12 : decode cX8_fault 12 = .ok (.goto 5, 3) := by decide +kernel
theorem dX8_fault_15 : decode cX8_fault 15 = .ok (.bipush (-2), 2) := by decide +kernel
theorem dX8_fault_17 : decode cX8_fault 17 = .ok (.ireturn, 1) := by decide +kernel
theorem dX8_isFloor_0 : decode cX8_isFloor 0 = .ok (.aload_n 0, 1) := by decide +kernel
theorem dX8_isFloor_1 : decode cX8_isFloor 1 = .ok (.invokevirtual 163, 3) := by decide +kernel
theorem dX8_isFloor_4 : decode cX8_isFloor 4 = .ok (.iload_n 1, 1) := by decide +kernel
theorem dX8_isFloor_5 : decode cX8_isFloor 5 = .ok (.iconst 0, 1) := by decide +kernel
theorem dX8_isFloor_6 : decode cX8_isFloor 6 = .ok (.aload_n 0, 1) := by decide +kernel
theorem dX8_isFloor_7 : decode cX8_isFloor 7 = .ok (.getfield 144, 3) := by decide +kernel
theorem dX8_isFloor_10 : decode cX8_isFloor 10 = .ok (.iconst 1, 1) := by decide +kernel
theorem dX8_isFloor_11 : decode cX8_isFloor 11 = .ok (.isub, 1) := by decide +kernel
theorem dX8_isFloor_12 : decode cX8_isFloor 12 = .ok (.invokestatic 125, 3) := by decide +kernel
theorem dX8_isFloor_15 : decode cX8_isFloor 15 = .ok (.ireturn, 1) := by decide +kernel
theorem dX8_isBasket_0 : decode cX8_isBasket 0 = .ok (.aload_n 0, 1) := by decide +kernel
theorem dX8_isBasket_1 : decode cX8_isBasket 1 = .ok (.invokevirtual 163, 3) := by decide +kernel
theorem dX8_isBasket_4 : decode cX8_isBasket 4 = .ok (.iload_n 1, 1) := by decide +kernel
theorem dX8_isBasket_5 : decode cX8_isBasket 5 = .ok (.iconst 0, 1) := by decide +kernel
theorem dX8_isBasket_6 : decode cX8_isBasket 6 = .ok (.aload_n 0, 1) := by decide +kernel
theorem dX8_isBasket_7 : decode cX8_isBasket 7 = .ok (.getfield 147, 3) := by decide +kernel
theorem dX8_isBasket_10 : decode cX8_isBasket 10 = .ok (.iconst 1, 1) := by decide +kernel
theorem dX8_isBasket_11 : decode cX8_isBasket 11 = .ok (.isub, 1) := by decide +kernel
theorem dX8_isBasket_12 : decode cX8_isBasket 12 = .ok (.invokestatic 125, 3) := by decide +kernel
theorem dX8_isBasket_15 : decode cX8_isBasket 15 = .ok (.ireturn, 1) := by decide +kernel
theorem dX8_floorOf_0 : decode cX8_floorOf 0 = .ok (.iload_n 2, 1) := by decide +kernel
theorem dX8_floorOf_1 : decode cX8_floorOf 1 = .ok (.ifCond .ne 12, 3) := by decide +kernel
theorem dX8_floorOf_4 : decode cX8_floorOf 4 = .ok (.aload_n 0, 1) := by decide +kernel
theorem dX8_floorOf_5 : decode cX8_floorOf 5 = .ok (.getfield 16, 3) := by decide +kernel
theorem dX8_floorOf_8 : decode cX8_floorOf 8 = .ok (.iload_n 1, 1) := by decide +kernel
theorem dX8_floorOf_9 : decode cX8_floorOf 9 = .ok (.iaload, 1) := by decide +kernel
theorem dX8_floorOf_10 : decode cX8_floorOf 10 = .ok (.goto 23, 3) := by decide +kernel
theorem dX8_floorOf_13 : decode cX8_floorOf 13 = .ok (.iload_n 2, 1) := by decide +kernel
theorem dX8_floorOf_14 : decode cX8_floorOf 14 = .ok (.iconst 1, 1) := by decide +kernel
theorem dX8_floorOf_15 : decode cX8_floorOf 15 = .ok (.if_icmp .ne 12, 3) := by decide +kernel
theorem dX8_floorOf_18 : decode cX8_floorOf 18 = .ok (.aload_n 0, 1) := by decide +kernel
theorem dX8_floorOf_19 : decode cX8_floorOf 19 = .ok (.getfield 19, 3) := by decide +kernel
theorem dX8_floorOf_22 : decode cX8_floorOf 22 = .ok (.iload_n 1, 1) := by decide +kernel
theorem dX8_floorOf_23 : decode cX8_floorOf 23 = .ok (.iaload, 1) := by decide +kernel
theorem dX8_floorOf_24 : decode cX8_floorOf 24 = .ok (.goto 9, 3) := by decide +kernel
theorem dX8_floorOf_27 : decode cX8_floorOf 27 = .ok (.aload_n 0, 1) := by decide +kernel
theorem dX8_floorOf_28 : decode cX8_floorOf 28 = .ok (.getfield 22, 3) := by decide +kernel
theorem dX8_floorOf_31 : decode cX8_floorOf 31 = .ok (.iload_n 1, 1) := by decide +kernel
theorem dX8_floorOf_32 : decode cX8_floorOf 32 = .ok (.iaload, 1) := by decide +kernel
theorem dX8_floorOf_33 : decode cX8_floorOf 33 = .ok (.ireturn, 1) := by decide +kernel
theorem dX8_floor_0 : decode cX8_floor 0 = .ok (.aload_n 0, 1) := by decide +kernel
theorem dX8_floor_1 : decode cX8_floor 1 = .ok (.iload_n 1, 1) := by decide +kernel
theorem dX8_floor_2 : decode cX8_floor 2 = .ok (.invokevirtual 166, 3) := by decide +kernel
theorem dX8_floor_5 : decode cX8_floor 5 = .ok (.ifCond .eq 21, 3) := by decide +kernel
theorem dX8_floor_8 : decode cX8_floor 8 = .ok (.iload_n 2, 1) := by decide +kernel
theorem dX8_floor_9 : decode cX8_floor 9 = .ok (.iconst 0, 1) := by decide +kernel
theorem dX8_floor_10 : decode cX8_floor 10 = .ok (.iconst 2, 1) := by decide +kernel
theorem dX8_floor_11 : decode cX8_floor 11 = .ok (.invokestatic 125, 3) := by decide +kernel
theorem dX8_floor_14 : decode cX8_floor 14 = .ok (.ifCond .eq 12, 3) := by decide +kernel
theorem dX8_floor_17 : decode cX8_floor 17 = .ok (.aload_n 0, 1) := by decide +kernel
theorem dX8_floor_18 : decode cX8_floor 18 = .ok (.iload_n 1, 1) := by decide +kernel
theorem dX8_floor_19 : decode cX8_floor 19 = .ok (.iload_n 2, 1) := by decide +kernel
theorem dX8_floor_20 : decode cX8_floor 20 = .ok (.invokevirtual 169, 3) := by decide +kernel
theorem dX8_floor_23 : decode cX8_floor 23 = .ok (.goto 5, 3) := by decide +kernel
theorem dX8_floor_26 : decode cX8_floor 26 = .ok (.bipush (-2), 2) := by decide +kernel
theorem dX8_floor_28 : decode cX8_floor 28 = .ok (.ireturn, 1) := by decide +kernel
theorem dX8_basketOf_0 : decode cX8_basketOf 0 = .ok (.iload_n 2, 1) := by decide +kernel
theorem dX8_basketOf_1 : decode cX8_basketOf 1 = .ok (.ifCond .ne 12, 3) := by decide +kernel
theorem dX8_basketOf_4 : decode cX8_basketOf 4 = .ok (.aload_n 0, 1) := by decide +kernel
theorem dX8_basketOf_5 : decode cX8_basketOf 5 = .ok (.getfield 25, 3) := by decide +kernel
theorem dX8_basketOf_8 : decode cX8_basketOf 8 = .ok (.iload_n 1, 1) := by decide +kernel
theorem dX8_basketOf_9 : decode cX8_basketOf 9 = .ok (.iaload, 1) := by decide +kernel
theorem dX8_basketOf_10 : decode cX8_basketOf 10 = .ok (.goto 59, 3) := by decide +kernel
theorem dX8_basketOf_13 : decode cX8_basketOf 13 = .ok (.iload_n 2, 1) := by decide +kernel
theorem dX8_basketOf_14 : decode cX8_basketOf 14 = .ok (.iconst 1, 1) := by decide +kernel
theorem dX8_basketOf_15 : decode cX8_basketOf 15 = .ok (.if_icmp .ne 12, 3) := by decide +kernel
theorem dX8_basketOf_18 : decode cX8_basketOf 18 = .ok (.aload_n 0, 1) := by decide +kernel
theorem dX8_basketOf_19 : decode cX8_basketOf 19 = .ok (.getfield 28, 3) := by decide +kernel
theorem dX8_basketOf_22 : decode cX8_basketOf 22 = .ok (.iload_n 1, 1) := by decide +kernel
theorem dX8_basketOf_23 : decode cX8_basketOf 23 = .ok (.iaload, 1) := by decide +kernel
theorem dX8_basketOf_24 : decode cX8_basketOf 24 = .ok (.goto 45, 3) := by decide +kernel
theorem dX8_basketOf_27 : decode cX8_basketOf 27 = .ok (.iload_n 2, 1) := by decide +kernel
theorem dX8_basketOf_28 : decode cX8_basketOf 28 = .ok (.iconst 2, 1) := by decide +kernel
theorem dX8_basketOf_29 : decode cX8_basketOf 29 = .ok (.if_icmp .ne 12, 3) := by decide +kernel
theorem dX8_basketOf_32 : decode cX8_basketOf 32 = .ok (.aload_n 0, 1) := by decide +kernel
theorem dX8_basketOf_33 : decode cX8_basketOf 33 = .ok (.getfield 31, 3) := by decide +kernel
theorem dX8_basketOf_36 : decode cX8_basketOf 36 = .ok (.iload_n 1, 1) := by decide +kernel
theorem dX8_basketOf_37 : decode cX8_basketOf 37 = .ok (.iaload, 1) := by decide +kernel
theorem dX8_basketOf_38 : decode cX8_basketOf 38 = .ok (.goto 31, 3) := by decide +kernel
theorem dX8_basketOf_41 : decode cX8_basketOf 41 = .ok (.iload_n 2, 1) := by decide +kernel
theorem dX8_basketOf_42 : decode cX8_basketOf 42 = .ok (.iconst 3, 1) := by decide +kernel
theorem dX8_basketOf_43 : decode cX8_basketOf 43 = .ok (.isub, 1) := by decide +kernel
theorem dX8_basketOf_44 : decode cX8_basketOf 44 = .ok (.aload_n 0, 1) := by decide +kernel
theorem dX8_basketOf_45 : decode cX8_basketOf 45 = .ok (.getfield 31, 3) := by decide +kernel
theorem dX8_basketOf_48 : decode cX8_basketOf 48 = .ok (.iload_n 1, 1) := by decide +kernel
theorem dX8_basketOf_49 : decode cX8_basketOf 49 = .ok (.iaload, 1) := by decide +kernel
theorem dX8_basketOf_50 : decode cX8_basketOf 50 = .ok (.if_icmp .ge 18, 3) := by decide +kernel
theorem dX8_basketOf_53 : decode cX8_basketOf 53 = .ok (.aload_n 0, 1) := by decide +kernel
theorem dX8_basketOf_54 : decode cX8_basketOf 54 = .ok (.getfield 34, 3) := by decide +kernel
theorem dX8_basketOf_57 : decode cX8_basketOf 57 = .ok (.iconst 3, 1) := by decide +kernel
theorem dX8_basketOf_58 : decode cX8_basketOf 58 = .ok (.iload_n 1, 1) := by decide +kernel
theorem dX8_basketOf_59 : decode cX8_basketOf 59 = .ok (.imul, 1) := by decide +kernel
theorem dX8_basketOf_60 : decode cX8_basketOf 60 = .ok (.iload_n 2, 1) := by decide +kernel
theorem dX8_basketOf_61 : decode cX8_basketOf 61 = .ok (.iadd, 1) := by decide +kernel
theorem dX8_basketOf_62 : decode cX8_basketOf 62 = .ok (.iconst 3, 1) := by decide +kernel
theorem dX8_basketOf_63 : decode cX8_basketOf 63 = .ok (.isub, 1) := by decide +kernel
theorem dX8_basketOf_64 : decode cX8_basketOf 64 = .ok (.iaload, 1) := by decide +kernel
theorem dX8_basketOf_65 : decode cX8_basketOf 65 = .ok (.goto 4, 3) := by decide +kernel
theorem dX8_basketOf_68 : decode cX8_basketOf 68 = .ok (.iconst (-1), 1) := by decide +kernel
theorem dX8_basketOf_69 : decode cX8_basketOf 69 = .ok (.ireturn, 1) := by decide +kernel
theorem dX8_basket_0 : decode cX8_basket 0 = .ok (.aload_n 0, 1) := by decide +kernel
theorem dX8_basket_1 : decode cX8_basket 1 = .ok (.iload_n 1, 1) := by decide +kernel
theorem dX8_basket_2 : decode cX8_basket 2 = .ok (.invokevirtual 172, 3) := by decide +kernel
theorem dX8_basket_5 : decode cX8_basket 5 = .ok (.ifCond .eq 21, 3) := by decide +kernel
theorem dX8_basket_8 : decode cX8_basket 8 = .ok (.iload_n 2, 1) := by decide +kernel
theorem dX8_basket_9 : decode cX8_basket 9 = .ok (.iconst 0, 1) := by decide +kernel
theorem dX8_basket_10 : decode cX8_basket 10 = .ok (.iconst 5, 1) := by decide +kernel
theorem dX8_basket_11 : decode cX8_basket 11 = .ok (.invokestatic 125, 3) := by decide +kernel
theorem dX8_basket_14 : decode cX8_basket 14 = .ok (.ifCond .eq 12, 3) := by decide +kernel
theorem dX8_basket_17 : decode cX8_basket 17 = .ok (.aload_n 0, 1) := by decide +kernel
theorem dX8_basket_18 : decode cX8_basket 18 = .ok (.iload_n 1, 1) := by decide +kernel
theorem dX8_basket_19 : decode cX8_basket 19 = .ok (.iload_n 2, 1) := by decide +kernel
theorem dX8_basket_20 : decode cX8_basket 20 = .ok (.invokevirtual 175, 3) := by decide +kernel
theorem dX8_basket_23 : decode cX8_basket 23 = .ok (.goto 5, 3) := by decide +kernel
theorem dX8_basket_26 : decode cX8_basket 26 = .ok (.bipush (-2), 2) := by decide +kernel
theorem dX8_basket_28 : decode cX8_basket 28 = .ok (.ireturn, 1) := by decide +kernel
theorem dX8_set_0 : decode cX8_set 0 = .ok (.iload_n 1, 1) := by decide +kernel
theorem dX8_set_1 : decode cX8_set 1 = .ok (.iconst 0, 1) := by decide +kernel
theorem dX8_set_2 : decode cX8_set 2 = .ok (.iconst 1, 1) := by decide +kernel
theorem dX8_set_3 : decode cX8_set 3 = .ok (.invokestatic 125, 3) := by decide +kernel
theorem dX8_set_6 : decode cX8_set 6 = .ok (.ifCond .eq 13, 3) := by decide +kernel
theorem dX8_set_9 : decode cX8_set 9 = .ok (.iload_n 2, 1) := by decide +kernel
theorem dX8_set_10 : decode cX8_set 10 = .ok (.iload_n 1, 1) := by decide +kernel
theorem dX8_set_11 : decode cX8_set 11 = .ok (.bipush 9, 2) := by decide +kernel
theorem dX8_set_13 : decode cX8_set 13 = .ok (.invokestatic 125, 3) := by decide +kernel
theorem dX8_set_16 : decode cX8_set 16 = .ok (.ifCond .ne 6, 3) := by decide +kernel
theorem dX8_set_19 : decode cX8_set 19 = .ok (.bipush (-2), 2) := by decide +kernel
theorem dX8_set_21 : decode cX8_set 21 = .ok (.ireturn, 1) := by decide +kernel
theorem dX8_set_22 : decode cX8_set 22 = .ok (.iload_n 1, 1) := by decide +kernel
theorem dX8_set_23 : decode cX8_set 23 = .ok (.ifCond .ne 10, 3) := by decide +kernel
theorem dX8_set_26 : decode cX8_set 26 = .ok (.aload_n 0, 1) := by decide +kernel
theorem dX8_set_27 : decode cX8_set 27 = .ok (.getfield 116, 3) := by decide +kernel
theorem dX8_set_30 : decode cX8_set 30 = .ok (.goto 7, 3) := by decide +kernel
theorem dX8_set_33 : decode cX8_set 33 = .ok (.aload_n 0, 1) := by decide +kernel
theorem dX8_set_34 : decode cX8_set 34 = .ok (.getfield 120, 3) := by decide +kernel
theorem dX8_set_37 : decode cX8_set 37 = .ok (.istore_n 3, 1) := by decide +kernel
theorem dX8_set_38 : decode cX8_set 38 = .ok (.aload_n 0, 1) := by decide +kernel
theorem dX8_set_39 : decode cX8_set 39 = .ok (.iload_n 1, 1) := by decide +kernel
theorem dX8_set_40 : decode cX8_set 40 = .ok (.ifCond .ne 7, 3) := by decide +kernel
theorem dX8_set_43 : decode cX8_set 43 = .ok (.iload_n 2, 1) := by decide +kernel
theorem dX8_set_44 : decode cX8_set 44 = .ok (.goto 7, 3) := by decide +kernel
theorem dX8_set_47 : decode cX8_set 47 = .ok (.aload_n 0, 1) := by decide +kernel
theorem dX8_set_48 : decode cX8_set 48 = .ok (.getfield 116, 3) := by decide +kernel
theorem dX8_set_51 : decode cX8_set 51 = .ok (.putfield 116, 3) := by decide +kernel
theorem dX8_set_54 : decode cX8_set 54 = .ok (.aload_n 0, 1) := by decide +kernel
theorem dX8_set_55 : decode cX8_set 55 = .ok (.iload_n 1, 1) := by decide +kernel
theorem dX8_set_56 : decode cX8_set 56 = .ok (.iconst 1, 1) := by decide +kernel
theorem dX8_set_57 : decode cX8_set 57 = .ok (.if_icmp .ne 7, 3) := by decide +kernel
theorem dX8_set_60 : decode cX8_set 60 = .ok (.iload_n 2, 1) := by decide +kernel
theorem dX8_set_61 : decode cX8_set 61 = .ok (.goto 7, 3) := by decide +kernel
theorem dX8_set_64 : decode cX8_set 64 = .ok (.aload_n 0, 1) := by decide +kernel
theorem dX8_set_65 : decode cX8_set 65 = .ok (.getfield 120, 3) := by decide +kernel
theorem dX8_set_68 : decode cX8_set 68 = .ok (.putfield 120, 3) := by decide +kernel
theorem dX8_set_71 : decode cX8_set 71 = .ok (.iload_n 3, 1) := by decide +kernel
theorem dX8_set_72 : decode cX8_set 72 = .ok (.ireturn, 1) := by decide +kernel
theorem dX8_wind_0 : decode cX8_wind 0 = .ok (.iload_n 1, 1) := by decide +kernel
theorem dX8_wind_1 : decode cX8_wind 1 = .ok (.invokestatic 178, 3) := by decide +kernel
theorem dX8_wind_4 : decode cX8_wind 4 = .ok (.ifCond .ne 6, 3) := by decide +kernel
theorem dX8_wind_7 : decode cX8_wind 7 = .ok (.bipush (-2), 2) := by decide +kernel
theorem dX8_wind_9 : decode cX8_wind 9 = .ok (.ireturn, 1) := by decide +kernel
theorem dX8_wind_10 : decode cX8_wind 10 = .ok (.aload_n 0, 1) := by decide +kernel
theorem dX8_wind_11 : decode cX8_wind 11 = .ok (.getfield 181, 3) := by decide +kernel
theorem dX8_wind_14 : decode cX8_wind 14 = .ok (.bipush 6, 2) := by decide +kernel
theorem dX8_wind_16 : decode cX8_wind 16 = .ok (.if_icmp .ne 6, 3) := by decide +kernel
theorem dX8_wind_19 : decode cX8_wind 19 = .ok (.bipush (-4), 2) := by decide +kernel
theorem dX8_wind_21 : decode cX8_wind 21 = .ok (.ireturn, 1) := by decide +kernel
theorem dX8_wind_22 : decode cX8_wind 22 = .ok (.aload_n 0, 1) := by decide +kernel
theorem dX8_wind_23 : decode cX8_wind 23 = .ok (.getfield 37, 3) := by decide +kernel
theorem dX8_wind_26 : decode cX8_wind 26 = .ok (.aload_n 0, 1) := by decide +kernel
theorem dX8_wind_27 : decode cX8_wind 27 = .ok (.getfield 181, 3) := by decide +kernel
theorem dX8_wind_30 : decode cX8_wind 30 = .ok (.iload_n 1, 1) := by decide +kernel
theorem dX8_wind_31 : decode cX8_wind 31 = .ok (.iastore, 1) := by decide +kernel
theorem dX8_wind_32 : decode cX8_wind 32 = .ok (.aload_n 0, 1) := by decide +kernel
theorem dX8_wind_33 : decode cX8_wind 33 = .ok (.dup, 1) := by decide +kernel
theorem dX8_wind_34 : decode cX8_wind 34 = .ok (.getfield 181, 3) := by decide +kernel
theorem dX8_wind_37 : decode cX8_wind 37 = .ok (.iconst 1, 1) := by decide +kernel
theorem dX8_wind_38 : decode cX8_wind 38 = .ok (.iadd, 1) := by decide +kernel
theorem dX8_wind_39 : decode cX8_wind 39 = .ok (.putfield 181, 3) := by decide +kernel
theorem dX8_wind_42 : decode cX8_wind 42 = .ok (.aload_n 0, 1) := by decide +kernel
theorem dX8_wind_43 : decode cX8_wind 43 = .ok (.getfield 181, 3) := by decide +kernel
theorem dX8_wind_46 : decode cX8_wind 46 = .ok (.ireturn, 1) := by decide +kernel
theorem dX8_sunday_0 : decode cX8_sunday 0 = .ok (.iload_n 1, 1) := by decide +kernel
theorem dX8_sunday_1 : decode cX8_sunday 1 = .ok (.invokestatic 178, 3) := by decide +kernel
theorem dX8_sunday_4 : decode cX8_sunday 4 = .ok (.ifCond .ne 6, 3) := by decide +kernel
theorem dX8_sunday_7 : decode cX8_sunday 7 = .ok (.bipush (-2), 2) := by decide +kernel
theorem dX8_sunday_9 : decode cX8_sunday 9 = .ok (.ireturn, 1) := by decide +kernel
theorem dX8_sunday_10 : decode cX8_sunday 10 = .ok (.aload_n 0, 1) := by decide +kernel
theorem dX8_sunday_11 : decode cX8_sunday 11 = .ok (.getfield 184, 3) := by decide +kernel
theorem dX8_sunday_14 : decode cX8_sunday 14 = .ok (.bipush 6, 2) := by decide +kernel
theorem dX8_sunday_16 : decode cX8_sunday 16 = .ok (.if_icmp .ne 6, 3) := by decide +kernel
theorem dX8_sunday_19 : decode cX8_sunday 19 = .ok (.bipush (-4), 2) := by decide +kernel
theorem dX8_sunday_21 : decode cX8_sunday 21 = .ok (.ireturn, 1) := by decide +kernel
theorem dX8_sunday_22 : decode cX8_sunday 22 = .ok (.aload_n 0, 1) := by decide +kernel
theorem dX8_sunday_23 : decode cX8_sunday 23 = .ok (.getfield 40, 3) := by decide +kernel
theorem dX8_sunday_26 : decode cX8_sunday 26 = .ok (.aload_n 0, 1) := by decide +kernel
theorem dX8_sunday_27 : decode cX8_sunday 27 = .ok (.getfield 184, 3) := by decide +kernel
theorem dX8_sunday_30 : decode cX8_sunday 30 = .ok (.iload_n 1, 1) := by decide +kernel
theorem dX8_sunday_31 : decode cX8_sunday 31 = .ok (.iastore, 1) := by decide +kernel
theorem dX8_sunday_32 : decode cX8_sunday 32 = .ok (.aload_n 0, 1) := by decide +kernel
theorem dX8_sunday_33 : decode cX8_sunday 33 = .ok (.dup, 1) := by decide +kernel
theorem dX8_sunday_34 : decode cX8_sunday 34 = .ok (.getfield 184, 3) := by decide +kernel
theorem dX8_sunday_37 : decode cX8_sunday 37 = .ok (.iconst 1, 1) := by decide +kernel
theorem dX8_sunday_38 : decode cX8_sunday 38 = .ok (.iadd, 1) := by decide +kernel
theorem dX8_sunday_39 : decode cX8_sunday 39 = .ok (.putfield 184, 3) := by decide +kernel
theorem dX8_sunday_42 : decode cX8_sunday 42 = .ok (.aload_n 0, 1) := by decide +kernel
theorem dX8_sunday_43 : decode cX8_sunday 43 = .ok (.getfield 184, 3) := by decide +kernel
theorem dX8_sunday_46 : decode cX8_sunday 46 = .ok (.ireturn, 1) := by decide +kernel
theorem dX8_back_0 : decode cX8_back 0 = .ok (.iload_n 1, 1) := by decide +kernel
theorem dX8_back_1 : decode cX8_back 1 = .ok (.iconst 0, 1) := by decide +kernel
theorem dX8_back_2 : decode cX8_back 2 = .ok (.iconst 1, 1) := by decide +kernel
theorem dX8_back_3 : decode cX8_back 3 = .ok (.invokestatic 125, 3) := by decide +kernel
theorem dX8_back_6 : decode cX8_back 6 = .ok (.ifCond .ne 6, 3) := by decide +kernel
theorem dX8_back_9 : decode cX8_back 9 = .ok (.bipush (-2), 2) := by decide +kernel
theorem dX8_back_11 : decode cX8_back 11 = .ok (.ireturn, 1) := by decide +kernel
theorem dX8_back_12 : decode cX8_back 12 = .ok (.iload_n 1, 1) := by decide +kernel
theorem dX8_back_13 : decode cX8_back 13 = .ok (.ifCond .ne 10, 3) := by decide +kernel
theorem dX8_back_16 : decode cX8_back 16 = .ok (.aload_n 0, 1) := by decide +kernel
theorem dX8_back_17 : decode cX8_back 17 = .ok (.getfield 181, 3) := by decide +kernel
theorem dX8_back_20 : decode cX8_back 20 = .ok (.goto 7, 3) := by decide +kernel
theorem dX8_back_23 : decode cX8_back 23 = .ok (.aload_n 0, 1) := by decide +kernel
theorem dX8_back_24 : decode cX8_back 24 = .ok (.getfield 184, 3) := by decide +kernel
theorem dX8_back_27 : decode cX8_back 27 = .ok (.istore_n 2, 1) := by decide +kernel
theorem dX8_back_28 : decode cX8_back 28 = .ok (.iload_n 2, 1) := by decide +kernel
theorem dX8_back_29 : decode cX8_back 29 = .ok (.ifCond .ne 6, 3) := by decide +kernel
theorem dX8_back_32 : decode cX8_back 32 = .ok (.bipush (-3), 2) := by decide +kernel
theorem dX8_back_34 : decode cX8_back 34 = .ok (.ireturn, 1) := by decide +kernel
theorem dX8_back_35 : decode cX8_back 35 = .ok (.aload_n 0, 1) := by decide +kernel
theorem dX8_back_36 : decode cX8_back 36 = .ok (.dup, 1) := by decide +kernel
theorem dX8_back_37 : decode cX8_back 37 = .ok (.getfield 181, 3) := by decide +kernel
theorem dX8_back_40 : decode cX8_back 40 = .ok (.iload_n 1, 1) := by decide +kernel
theorem dX8_back_41 : decode cX8_back 41 = .ok (.ifCond .ne 7, 3) := by decide +kernel
theorem dX8_back_44 : decode cX8_back 44 = .ok (.iconst 1, 1) := by decide +kernel
theorem dX8_back_45 : decode cX8_back 45 = .ok (.goto 4, 3) := by decide +kernel
theorem dX8_back_48 : decode cX8_back 48 = .ok (.iconst 0, 1) := by decide +kernel
theorem dX8_back_49 : decode cX8_back 49 = .ok (.isub, 1) := by decide +kernel
theorem dX8_back_50 : decode cX8_back 50 = .ok (.putfield 181, 3) := by decide +kernel
theorem dX8_back_53 : decode cX8_back 53 = .ok (.aload_n 0, 1) := by decide +kernel
theorem dX8_back_54 : decode cX8_back 54 = .ok (.dup, 1) := by decide +kernel
theorem dX8_back_55 : decode cX8_back 55 = .ok (.getfield 184, 3) := by decide +kernel
theorem dX8_back_58 : decode cX8_back 58 = .ok (.iload_n 1, 1) := by decide +kernel
theorem dX8_back_59 : decode cX8_back 59 = .ok (.iconst 1, 1) := by decide +kernel
theorem dX8_back_60 : decode cX8_back 60 = .ok (.if_icmp .ne 7, 3) := by decide +kernel
theorem dX8_back_63 : decode cX8_back 63 = .ok (.iconst 1, 1) := by decide +kernel
theorem dX8_back_64 : decode cX8_back 64 = .ok (.goto 4, 3) := by decide +kernel
theorem dX8_back_67 : decode cX8_back 67 = .ok (.iconst 0, 1) := by decide +kernel
theorem dX8_back_68 : decode cX8_back 68 = .ok (.isub, 1) := by decide +kernel
theorem dX8_back_69 : decode cX8_back 69 = .ok (.putfield 184, 3) := by decide +kernel
theorem dX8_back_72 : decode cX8_back 72 = .ok (.iload_n 2, 1) := by decide +kernel
theorem dX8_back_73 : decode cX8_back 73 = .ok (.iconst 1, 1) := by decide +kernel
theorem dX8_back_74 : decode cX8_back 74 = .ok (.isub, 1) := by decide +kernel
theorem dX8_back_75 : decode cX8_back 75 = .ok (.ireturn, 1) := by decide +kernel
theorem dX8_read_0 : decode cX8_read 0 = .ok (.iload_n 1, 1) := by decide +kernel
theorem dX8_read_1 : decode cX8_read 1 = .ok (.invokestatic 187, 3) := by decide +kernel
theorem dX8_read_4 : decode cX8_read 4 = .ok (.ifCond .ne 6, 3) := by decide +kernel
theorem dX8_read_7 : decode cX8_read 7 = .ok (.bipush (-2), 2) := by decide +kernel
theorem dX8_read_9 : decode cX8_read 9 = .ok (.ireturn, 1) := by decide +kernel
theorem dX8_read_10 : decode cX8_read 10 = .ok (.aload_n 0, 1) := by decide +kernel
theorem dX8_read_11 : decode cX8_read 11 = .ok (.getfield 101, 3) := by decide +kernel
theorem dX8_read_14 : decode cX8_read 14 = .ok (.iload_n 1, 1) := by decide +kernel
theorem dX8_read_15 : decode cX8_read 15 = .ok (.baload, 1) := by decide +kernel
theorem dX8_read_16 : decode cX8_read 16 = .ok (.ifCond .ne 9, 3) := by decide +kernel
theorem dX8_read_19 : decode cX8_read 19 = .ok (.aload_n 0, 1) := by decide +kernel
theorem dX8_read_20 : decode cX8_read 20 = .ok (.iconst 1, 1) := by decide +kernel
theorem dX8_read_21 : decode cX8_read 21 = .ok (.invokevirtual 190, 3) := by decide +kernel
theorem dX8_read_24 : decode cX8_read 24 = .ok (.ireturn, 1) := by decide +kernel
theorem dX8_read_25 : decode cX8_read 25 = .ok (.iconst 0, 1) := by decide +kernel
theorem dX8_read_26 : decode cX8_read 26 = .ok (.istore_n 2, 1) := by decide +kernel
theorem dX8_read_27 : decode cX8_read 27 = .ok (.iload_n 2, 1) := by decide +kernel
theorem dX8_read_28 : decode cX8_read 28 = .ok (.aload_n 0, 1) := by decide +kernel
theorem dX8_read_29 : decode cX8_read 29 = .ok (.getfield 107, 3) := by decide +kernel
theorem dX8_read_32 : decode cX8_read 32 = .ok (.iload_n 1, 1) := by decide +kernel
theorem dX8_read_33 : decode cX8_read 33 = .ok (.iaload, 1) := by decide +kernel
theorem dX8_read_34 : decode cX8_read 34 = .ok (.if_icmp .ge 27, 3) := by decide +kernel
theorem dX8_read_37 : decode cX8_read 37 = .ok (.aload_n 0, 1) := by decide +kernel
theorem dX8_read_38 : decode cX8_read 38 = .ok (.aload_n 0, 1) := by decide +kernel
theorem dX8_read_39 : decode cX8_read 39 = .ok (.getfield 110, 3) := by decide +kernel
theorem dX8_read_42 : decode cX8_read 42 = .ok (.bipush 60, 2) := by decide +kernel
theorem dX8_read_44 : decode cX8_read 44 = .ok (.iload_n 1, 1) := by decide +kernel
theorem dX8_read_45 : decode cX8_read 45 = .ok (.imul, 1) := by decide +kernel
theorem dX8_read_46 : decode cX8_read 46 = .ok (.iload_n 2, 1) := by decide +kernel
theorem dX8_read_47 : decode cX8_read 47 = .ok (.iadd, 1) := by decide +kernel
theorem dX8_read_48 : decode cX8_read 48 = .ok (.iaload, 1) := by decide +kernel
theorem dX8_read_49 : decode cX8_read 49 = .ok (.invokevirtual 193, 3) := by decide +kernel
theorem dX8_read_52 : decode cX8_read 52 = .ok (.ifCond .le 9, 3) := by decide +kernel
theorem dX8_read_55 : decode cX8_read 55 = .ok (.iinc 2 1, 3) := by decide +kernel
theorem dX8_read_58 : decode cX8_read 58 = .ok (.goto (-31), 3) := by decide +kernel
theorem dX8_read_61 : decode cX8_read 61 = .ok (.iload_n 2, 1) := by decide +kernel
theorem dX8_read_62 : decode cX8_read 62 = .ok (.ireturn, 1) := by decide +kernel
theorem dX8_bitsOf_0 : decode cX8_bitsOf 0 = .ok (.lload_n 0, 1) := by decide +kernel
theorem dX8_bitsOf_1 : decode cX8_bitsOf 1 = .ok (.lconst 1, 1) := by decide +kernel
theorem dX8_bitsOf_2 : decode cX8_bitsOf 2 = .ok (.iload_n 2, 1) := by decide +kernel
theorem dX8_bitsOf_3 : decode cX8_bitsOf 3 = .ok (.lshl, 1) := by decide +kernel
theorem dX8_bitsOf_4 : decode cX8_bitsOf 4 = .ok (.lor, 1) := by decide +kernel
theorem dX8_bitsOf_5 : decode cX8_bitsOf 5 = .ok (.lreturn, 1) := by decide +kernel
theorem dX8_windsBut_0 : decode cX8_windsBut 0 = .ok (.lconst 0, 1) := by decide +kernel
theorem dX8_windsBut_1 : decode cX8_windsBut 1 = .ok (.lstore_n 2, 1) := by decide +kernel
theorem dX8_windsBut_2 : decode cX8_windsBut 2 = .ok (.iconst 0, 1) := by decide +kernel
theorem dX8_windsBut_3 : decode cX8_windsBut 3 = .ok (.istore 4, 2) := by decide +kernel
theorem dX8_windsBut_5 : decode cX8_windsBut 5 = .ok (.iload 4, 2) := by decide +kernel
theorem dX8_windsBut_7 : decode cX8_windsBut 7 = .ok (.aload_n 0, 1) := by decide +kernel
theorem dX8_windsBut_8 : decode cX8_windsBut 8 = .ok (.getfield 181, 3) := by decide +kernel
theorem dX8_windsBut_11 : decode cX8_windsBut 11 = .ok (.if_icmp .ge 35, 3) := by decide +kernel
theorem dX8_windsBut_14 : decode cX8_windsBut 14 = .ok (.iload_n 1, 1) := by decide +kernel
theorem dX8_windsBut_15 : decode cX8_windsBut 15 = .ok (.i2l, 1) := by decide +kernel
theorem dX8_windsBut_16 : decode cX8_windsBut 16 = .ok (.iload 4, 2) := by decide +kernel
theorem dX8_windsBut_18 : decode cX8_windsBut 18 = .ok (.invokestatic 196, 3) := by decide +kernel
theorem dX8_windsBut_21 : decode cX8_windsBut 21 = .ok (.ifCond .eq 7, 3) := by decide +kernel
theorem dX8_windsBut_24 : decode cX8_windsBut 24 = .ok (.lload_n 2, 1) := by decide +kernel
theorem dX8_windsBut_25 : decode cX8_windsBut 25 = .ok (.goto 14, 3) := by decide +kernel
theorem dX8_windsBut_28 : decode cX8_windsBut 28 = .ok (.lload_n 2, 1) := by decide +kernel
theorem dX8_windsBut_29 : decode cX8_windsBut 29 = .ok (.aload_n 0, 1) := by decide +kernel
theorem dX8_windsBut_30 : decode cX8_windsBut 30 = .ok (.getfield 37, 3) := by decide +kernel
theorem dX8_windsBut_33 : decode cX8_windsBut 33 = .ok (.iload 4, 2) := by decide +kernel
theorem dX8_windsBut_35 : decode cX8_windsBut 35 = .ok (.iaload, 1) := by decide +kernel
theorem dX8_windsBut_36 : decode cX8_windsBut 36 = .ok (.invokestatic 200, 3) := by decide +kernel
theorem dX8_windsBut_39 : decode cX8_windsBut 39 = .ok (.lstore_n 2, 1) := by decide +kernel
theorem dX8_windsBut_40 : decode cX8_windsBut 40 = .ok (.iinc 4 1, 3) := by decide +kernel
theorem dX8_windsBut_43 : decode cX8_windsBut 43 = .ok (.goto (-38), 3) := by decide +kernel
theorem dX8_windsBut_46 : decode cX8_windsBut 46 = .ok (.lload_n 2, 1) := by decide +kernel
theorem dX8_windsBut_47 : decode cX8_windsBut 47 = .ok (.lreturn, 1) := by decide +kernel
theorem dX8_asTold_0 : decode cX8_asTold 0 = .ok (.aload_n 0, 1) := by decide +kernel
theorem dX8_asTold_1 : decode cX8_asTold 1 = .ok (.invokevirtual 163, 3) := by decide +kernel
theorem dX8_asTold_4 : decode cX8_asTold 4 = .ok (.aload_n 0, 1) := by decide +kernel
theorem dX8_asTold_5 : decode cX8_asTold 5 = .ok (.aload_n 0, 1) := by decide +kernel
theorem dX8_asTold_6 : decode cX8_asTold 6 = .ok (.iconst 0, 1) := by decide +kernel
theorem dX8_asTold_7 : decode cX8_asTold 7 = .ok (.invokevirtual 204, 3) := by decide +kernel
theorem dX8_asTold_10 : decode cX8_asTold 10 = .ok (.putfield 208, 3) := by decide +kernel
theorem dX8_asTold_13 : decode cX8_asTold 13 = .ok (.aload_n 0, 1) := by decide +kernel
theorem dX8_asTold_14 : decode cX8_asTold 14 = .ok (.lconst 0, 1) := by decide +kernel
theorem dX8_asTold_15 : decode cX8_asTold 15 = .ok (.putfield 212, 3) := by decide +kernel
theorem dX8_asTold_18 : decode cX8_asTold 18 = .ok (.iconst 0, 1) := by decide +kernel
theorem dX8_asTold_19 : decode cX8_asTold 19 = .ok (.istore_n 1, 1) := by decide +kernel
theorem dX8_asTold_20 : decode cX8_asTold 20 = .ok (.iload_n 1, 1) := by decide +kernel
theorem dX8_asTold_21 : decode cX8_asTold 21 = .ok (.aload_n 0, 1) := by decide +kernel
theorem dX8_asTold_22 : decode cX8_asTold 22 = .ok (.getfield 184, 3) := by decide +kernel
theorem dX8_asTold_25 : decode cX8_asTold 25 = .ok (.if_icmp .ge 26, 3) := by decide +kernel
theorem dX8_asTold_28 : decode cX8_asTold 28 = .ok (.aload_n 0, 1) := by decide +kernel
theorem dX8_asTold_29 : decode cX8_asTold 29 = .ok (.aload_n 0, 1) := by decide +kernel
theorem dX8_asTold_30 : decode cX8_asTold 30 = .ok (.getfield 212, 3) := by decide +kernel
theorem dX8_asTold_33 : decode cX8_asTold 33 = .ok (.aload_n 0, 1) := by decide +kernel
theorem dX8_asTold_34 : decode cX8_asTold 34 = .ok (.getfield 40, 3) := by decide +kernel
theorem dX8_asTold_37 : decode cX8_asTold 37 = .ok (.iload_n 1, 1) := by decide +kernel
theorem dX8_asTold_38 : decode cX8_asTold 38 = .ok (.iaload, 1) := by decide +kernel
theorem dX8_asTold_39 : decode cX8_asTold 39 = .ok (.invokestatic 200, 3) := by decide +kernel
theorem dX8_asTold_42 : decode cX8_asTold 42 = .ok (.putfield 212, 3) := by decide +kernel
theorem dX8_asTold_45 : decode cX8_asTold 45 = .ok (.iinc 1 1, 3) := by decide +kernel
theorem dX8_asTold_48 : decode cX8_asTold 48 = .ok (.goto (-28), 3) := by decide +kernel
theorem dX8_asTold_51 : decode cX8_asTold 51 = .ok (.aload_n 0, 1) := by decide +kernel
theorem dX8_asTold_52 : decode cX8_asTold 52 = .ok (.iconst 0, 1) := by decide +kernel
theorem dX8_asTold_53 : decode cX8_asTold 53 = .ok (.putfield 215, 3) := by decide +kernel
theorem dX8_asTold_56 : decode cX8_asTold 56 = .ok (.return_, 1) := by decide +kernel
theorem dX8_isTangled_0 : decode cX8_isTangled 0 = .ok (.iconst 0, 1) := by decide +kernel
theorem dX8_isTangled_1 : decode cX8_isTangled 1 = .ok (.istore_n 2, 1) := by decide +kernel
theorem dX8_isTangled_2 : decode cX8_isTangled 2 = .ok (.iconst 0, 1) := by decide +kernel
theorem dX8_isTangled_3 : decode cX8_isTangled 3 = .ok (.istore_n 3, 1) := by decide +kernel
theorem dX8_isTangled_4 : decode cX8_isTangled 4 = .ok (.iload_n 3, 1) := by decide +kernel
theorem dX8_isTangled_5 : decode cX8_isTangled 5 = .ok (.iload_n 1, 1) := by decide +kernel
theorem dX8_isTangled_6 : decode cX8_isTangled 6 = .ok (.if_icmp .ge 34, 3) := by decide +kernel
theorem dX8_isTangled_9 : decode cX8_isTangled 9 = .ok (.iload_n 2, 1) := by decide +kernel
theorem dX8_isTangled_10 : decode cX8_isTangled 10 = .ok (.ifCond .ne 18, 3) := by decide +kernel
theorem dX8_isTangled_13 : decode cX8_isTangled 13 = .ok (.aload_n 0, 1) := by decide +kernel
theorem dX8_isTangled_14 : decode cX8_isTangled 14 = .ok (.getfield 43, 3) := by decide +kernel
theorem dX8_isTangled_17 : decode cX8_isTangled 17 = .ok (.iload_n 3, 1) := by decide +kernel
theorem dX8_isTangled_18 : decode cX8_isTangled 18 = .ok (.iaload, 1) := by decide +kernel
theorem dX8_isTangled_19 : decode cX8_isTangled 19 = .ok (.aload_n 0, 1) := by decide +kernel
theorem dX8_isTangled_20 : decode cX8_isTangled 20 = .ok (.getfield 43, 3) := by decide +kernel
theorem dX8_isTangled_23 : decode cX8_isTangled 23 = .ok (.iload_n 1, 1) := by decide +kernel
theorem dX8_isTangled_24 : decode cX8_isTangled 24 = .ok (.iaload, 1) := by decide +kernel
theorem dX8_isTangled_25 : decode cX8_isTangled 25 = .ok (.if_icmp .ne 7, 3) := by decide +kernel
theorem dX8_isTangled_28 : decode cX8_isTangled 28 = .ok (.iconst 1, 1) := by decide +kernel
theorem dX8_isTangled_29 : decode cX8_isTangled 29 = .ok (.goto 4, 3) := by decide +kernel
theorem dX8_isTangled_32 : decode cX8_isTangled 32 = .ok (.iconst 0, 1) := by decide +kernel
theorem dX8_isTangled_33 : decode cX8_isTangled 33 = .ok (.istore_n 2, 1) := by decide +kernel
theorem dX8_isTangled_34 : decode cX8_isTangled 34 = .ok (.iinc 3 1, 3) := by decide +kernel
theorem dX8_isTangled_37 : decode cX8_isTangled 37 = .ok (.goto (-33), 3) := by decide +kernel
theorem dX8_isTangled_40 : decode cX8_isTangled 40 = .ok (.iload_n 2, 1) := by decide +kernel
theorem dX8_isTangled_41 : decode cX8_isTangled 41 = .ok (.ireturn, 1) := by decide +kernel
theorem dX8_takes_0 : decode cX8_takes 0 = .ok (.aload_n 0, 1) := by decide +kernel
theorem dX8_takes_1 : decode cX8_takes 1 = .ok (.getfield 65, 3) := by decide +kernel
theorem dX8_takes_4 : decode cX8_takes 4 = .ok (.iload_n 2, 1) := by decide +kernel
theorem dX8_takes_5 : decode cX8_takes 5 = .ok (.iaload, 1) := by decide +kernel
theorem dX8_takes_6 : decode cX8_takes 6 = .ok (.iconst (-1), 1) := by decide +kernel
theorem dX8_takes_7 : decode cX8_takes 7 = .ok (.if_icmp .eq 18, 3) := by decide +kernel
theorem dX8_takes_10 : decode cX8_takes 10 = .ok (.iload_n 3, 1) := by decide +kernel
theorem dX8_takes_11 : decode cX8_takes 11 = .ok (.aload_n 0, 1) := by decide +kernel
theorem dX8_takes_12 : decode cX8_takes 12 = .ok (.getfield 65, 3) := by decide +kernel
theorem dX8_takes_15 : decode cX8_takes 15 = .ok (.iload_n 2, 1) := by decide +kernel
theorem dX8_takes_16 : decode cX8_takes 16 = .ok (.iaload, 1) := by decide +kernel
theorem dX8_takes_17 : decode cX8_takes 17 = .ok (.isub, 1) := by decide +kernel
theorem dX8_takes_18 : decode cX8_takes 18 = .ok (.aload_n 0, 1) := by decide +kernel
theorem dX8_takes_19 : decode cX8_takes 19 = .ok (.getfield 116, 3) := by decide +kernel
theorem dX8_takes_22 : decode cX8_takes 22 = .ok (.if_icmp .le 7, 3) := by decide +kernel
theorem dX8_takes_25 : decode cX8_takes 25 = .ok (.iconst 1, 1) := by decide +kernel
theorem dX8_takes_26 : decode cX8_takes 26 = .ok (.goto 4, 3) := by decide +kernel
theorem dX8_takes_29 : decode cX8_takes 29 = .ok (.iconst 0, 1) := by decide +kernel
theorem dX8_takes_30 : decode cX8_takes 30 = .ok (.istore 4, 2) := by decide +kernel
theorem dX8_takes_32 : decode cX8_takes 32 = .ok (.aload_n 0, 1) := by decide +kernel
theorem dX8_takes_33 : decode cX8_takes 33 = .ok (.getfield 212, 3) := by decide +kernel
theorem dX8_takes_36 : decode cX8_takes 36 = .ok (.iload_n 3, 1) := by decide +kernel
theorem dX8_takes_37 : decode cX8_takes 37 = .ok (.invokestatic 196, 3) := by decide +kernel
theorem dX8_takes_40 : decode cX8_takes 40 = .ok (.ifCond .ne 38, 3) := by decide +kernel
theorem dX8_takes_43 : decode cX8_takes 43 = .ok (.aload_n 0, 1) := by decide +kernel
theorem dX8_takes_44 : decode cX8_takes 44 = .ok (.getfield 215, 3) := by decide +kernel
theorem dX8_takes_47 : decode cX8_takes 47 = .ok (.i2l, 1) := by decide +kernel
theorem dX8_takes_48 : decode cX8_takes 48 = .ok (.iload_n 2, 1) := by decide +kernel
theorem dX8_takes_49 : decode cX8_takes 49 = .ok (.invokestatic 196, 3) := by decide +kernel
theorem dX8_takes_52 : decode cX8_takes 52 = .ok (.ifCond .ne 26, 3) := by decide +kernel
theorem dX8_takes_55 : decode cX8_takes 55 = .ok (.iload 4, 2) := by decide +kernel
theorem dX8_takes_57 : decode cX8_takes 57 = .ok (.ifCond .eq 21, 3) := by decide +kernel
theorem dX8_takes_60 : decode cX8_takes 60 = .ok (.aload_n 0, 1) := by decide +kernel
theorem dX8_takes_61 : decode cX8_takes 61 = .ok (.getfield 46, 3) := by decide +kernel
theorem dX8_takes_64 : decode cX8_takes 64 = .ok (.iload_n 1, 1) := by decide +kernel
theorem dX8_takes_65 : decode cX8_takes 65 = .ok (.iaload, 1) := by decide +kernel
theorem dX8_takes_66 : decode cX8_takes 66 = .ok (.ifCond .eq 12, 3) := by decide +kernel
theorem dX8_takes_69 : decode cX8_takes 69 = .ok (.aload_n 0, 1) := by decide +kernel
theorem dX8_takes_70 : decode cX8_takes 70 = .ok (.getfield 19, 3) := by decide +kernel
theorem dX8_takes_73 : decode cX8_takes 73 = .ok (.iload_n 2, 1) := by decide +kernel
theorem dX8_takes_74 : decode cX8_takes 74 = .ok (.iaload, 1) := by decide +kernel
theorem dX8_takes_75 : decode cX8_takes 75 = .ok (.ifCond .ne 4, 3) := by decide +kernel
theorem dX8_takes_78 : decode cX8_takes 78 = .ok (.return_, 1) := by decide +kernel
theorem dX8_takes_79 : decode cX8_takes 79 = .ok (.aload_n 0, 1) := by decide +kernel
theorem dX8_takes_80 : decode cX8_takes 80 = .ok (.getfield 19, 3) := by decide +kernel
theorem dX8_takes_83 : decode cX8_takes 83 = .ok (.iload_n 2, 1) := by decide +kernel
theorem dX8_takes_84 : decode cX8_takes 84 = .ok (.iaload, 1) := by decide +kernel
theorem dX8_takes_85 : decode cX8_takes 85 = .ok (.aload_n 0, 1) := by decide +kernel
theorem dX8_takes_86 : decode cX8_takes 86 = .ok (.getfield 46, 3) := by decide +kernel
theorem dX8_takes_89 : decode cX8_takes 89 = .ok (.iload_n 1, 1) := by decide +kernel
theorem dX8_takes_90 : decode cX8_takes 90 = .ok (.iaload, 1) := by decide +kernel
theorem dX8_takes_91 : decode cX8_takes 91 = .ok (.if_icmp .ge 12, 3) := by decide +kernel
theorem dX8_takes_94 : decode cX8_takes 94 = .ok (.aload_n 0, 1) := by decide +kernel
theorem dX8_takes_95 : decode cX8_takes 95 = .ok (.getfield 19, 3) := by decide +kernel
theorem dX8_takes_98 : decode cX8_takes 98 = .ok (.iload_n 2, 1) := by decide +kernel
theorem dX8_takes_99 : decode cX8_takes 99 = .ok (.iaload, 1) := by decide +kernel
theorem dX8_takes_100 : decode cX8_takes 100 = .ok (.goto 9, 3) := by decide +kernel
theorem dX8_takes_103 : decode cX8_takes 103 = .ok (.aload_n 0, 1) := by decide +kernel
theorem dX8_takes_104 : decode cX8_takes 104 = .ok (.getfield 46, 3) := by decide +kernel
theorem dX8_takes_107 : decode cX8_takes 107 = .ok (.iload_n 1, 1) := by decide +kernel
theorem dX8_takes_108 : decode cX8_takes 108 = .ok (.iaload, 1) := by decide +kernel
theorem dX8_takes_109 : decode cX8_takes 109 = .ok (.istore 5, 2) := by decide +kernel
theorem dX8_takes_111 : decode cX8_takes 111 = .ok (.aload_n 0, 1) := by decide +kernel
theorem dX8_takes_112 : decode cX8_takes 112 = .ok (.getfield 46, 3) := by decide +kernel
theorem dX8_takes_115 : decode cX8_takes 115 = .ok (.iload_n 1, 1) := by decide +kernel
theorem dX8_takes_116 : decode cX8_takes 116 = .ok (.dup2, 1) := by decide +kernel
theorem dX8_takes_117 : decode cX8_takes 117 = .ok (.iaload, 1) := by decide +kernel
theorem dX8_takes_118 : decode cX8_takes 118 = .ok (.iload 5, 2) := by decide +kernel
theorem dX8_takes_120 : decode cX8_takes 120 = .ok (.isub, 1) := by decide +kernel
theorem dX8_takes_121 : decode cX8_takes 121 = .ok (.iastore, 1) := by decide +kernel
theorem dX8_takes_122 : decode cX8_takes 122 = .ok (.aload_n 0, 1) := by decide +kernel
theorem dX8_takes_123 : decode cX8_takes 123 = .ok (.getfield 65, 3) := by decide +kernel
theorem dX8_takes_126 : decode cX8_takes 126 = .ok (.iload_n 2, 1) := by decide +kernel
theorem dX8_takes_127 : decode cX8_takes 127 = .ok (.iload_n 3, 1) := by decide +kernel
theorem dX8_takes_128 : decode cX8_takes 128 = .ok (.iastore, 1) := by decide +kernel
theorem dX8_takes_129 : decode cX8_takes 129 = .ok (.aload_n 0, 1) := by decide +kernel
theorem dX8_takes_130 : decode cX8_takes 130 = .ok (.getfield 68, 3) := by decide +kernel
theorem dX8_takes_133 : decode cX8_takes 133 = .ok (.iload_n 2, 1) := by decide +kernel
theorem dX8_takes_134 : decode cX8_takes 134 = .ok (.dup2, 1) := by decide +kernel
theorem dX8_takes_135 : decode cX8_takes 135 = .ok (.iaload, 1) := by decide +kernel
theorem dX8_takes_136 : decode cX8_takes 136 = .ok (.iconst 1, 1) := by decide +kernel
theorem dX8_takes_137 : decode cX8_takes 137 = .ok (.iadd, 1) := by decide +kernel
theorem dX8_takes_138 : decode cX8_takes 138 = .ok (.iastore, 1) := by decide +kernel
theorem dX8_takes_139 : decode cX8_takes 139 = .ok (.aload_n 0, 1) := by decide +kernel
theorem dX8_takes_140 : decode cX8_takes 140 = .ok (.getfield 71, 3) := by decide +kernel
theorem dX8_takes_143 : decode cX8_takes 143 = .ok (.iload_n 2, 1) := by decide +kernel
theorem dX8_takes_144 : decode cX8_takes 144 = .ok (.dup2, 1) := by decide +kernel
theorem dX8_takes_145 : decode cX8_takes 145 = .ok (.iaload, 1) := by decide +kernel
theorem dX8_takes_146 : decode cX8_takes 146 = .ok (.iload 5, 2) := by decide +kernel
theorem dX8_takes_148 : decode cX8_takes 148 = .ok (.iadd, 1) := by decide +kernel
theorem dX8_takes_149 : decode cX8_takes 149 = .ok (.iastore, 1) := by decide +kernel
theorem dX8_takes_150 : decode cX8_takes 150 = .ok (.aload_n 0, 1) := by decide +kernel
theorem dX8_takes_151 : decode cX8_takes 151 = .ok (.aload_n 0, 1) := by decide +kernel
theorem dX8_takes_152 : decode cX8_takes 152 = .ok (.getfield 218, 3) := by decide +kernel
theorem dX8_takes_155 : decode cX8_takes 155 = .ok (.iconst (-1), 1) := by decide +kernel
theorem dX8_takes_156 : decode cX8_takes 156 = .ok (.if_icmp .ne 7, 3) := by decide +kernel
theorem dX8_takes_159 : decode cX8_takes 159 = .ok (.iload_n 2, 1) := by decide +kernel
theorem dX8_takes_160 : decode cX8_takes 160 = .ok (.goto 7, 3) := by decide +kernel
theorem dX8_takes_163 : decode cX8_takes 163 = .ok (.aload_n 0, 1) := by decide +kernel
theorem dX8_takes_164 : decode cX8_takes 164 = .ok (.getfield 221, 3) := by decide +kernel
theorem dX8_takes_167 : decode cX8_takes 167 = .ok (.putfield 221, 3) := by decide +kernel
theorem dX8_takes_170 : decode cX8_takes 170 = .ok (.aload_n 0, 1) := by decide +kernel
theorem dX8_takes_171 : decode cX8_takes 171 = .ok (.aload_n 0, 1) := by decide +kernel
theorem dX8_takes_172 : decode cX8_takes 172 = .ok (.getfield 218, 3) := by decide +kernel
theorem dX8_takes_175 : decode cX8_takes 175 = .ok (.iconst (-1), 1) := by decide +kernel
theorem dX8_takes_176 : decode cX8_takes 176 = .ok (.if_icmp .ne 7, 3) := by decide +kernel
theorem dX8_takes_179 : decode cX8_takes 179 = .ok (.iload_n 3, 1) := by decide +kernel
theorem dX8_takes_180 : decode cX8_takes 180 = .ok (.goto 7, 3) := by decide +kernel
theorem dX8_takes_183 : decode cX8_takes 183 = .ok (.aload_n 0, 1) := by decide +kernel
theorem dX8_takes_184 : decode cX8_takes 184 = .ok (.getfield 218, 3) := by decide +kernel
theorem dX8_takes_187 : decode cX8_takes 187 = .ok (.putfield 218, 3) := by decide +kernel
theorem dX8_takes_190 : decode cX8_takes 190 = .ok (.aload_n 0, 1) := by decide +kernel
theorem dX8_takes_191 : decode cX8_takes 191 = .ok (.getfield 16, 3) := by decide +kernel
theorem dX8_takes_194 : decode cX8_takes 194 = .ok (.iload_n 2, 1) := by decide +kernel
theorem dX8_takes_195 : decode cX8_takes 195 = .ok (.iaload, 1) := by decide +kernel
theorem dX8_takes_196 : decode cX8_takes 196 = .ok (.iconst 1, 1) := by decide +kernel
theorem dX8_takes_197 : decode cX8_takes 197 = .ok (.if_icmp .ne 21, 3) := by decide +kernel
theorem dX8_takes_200 : decode cX8_takes 200 = .ok (.aload_n 0, 1) := by decide +kernel
theorem dX8_takes_201 : decode cX8_takes 201 = .ok (.getfield 52, 3) := by decide +kernel
theorem dX8_takes_204 : decode cX8_takes 204 = .ok (.bipush 24, 2) := by decide +kernel
theorem dX8_takes_206 : decode cX8_takes 206 = .ok (.iload_n 1, 1) := by decide +kernel
theorem dX8_takes_207 : decode cX8_takes 207 = .ok (.imul, 1) := by decide +kernel
theorem dX8_takes_208 : decode cX8_takes 208 = .ok (.aload_n 0, 1) := by decide +kernel
theorem dX8_takes_209 : decode cX8_takes 209 = .ok (.getfield 22, 3) := by decide +kernel
theorem dX8_takes_212 : decode cX8_takes 212 = .ok (.iload_n 2, 1) := by decide +kernel
theorem dX8_takes_213 : decode cX8_takes 213 = .ok (.iaload, 1) := by decide +kernel
theorem dX8_takes_214 : decode cX8_takes 214 = .ok (.iastore, 1) := by decide +kernel
theorem dX8_takes_215 : decode cX8_takes 215 = .ok (.goto 35, 3) := by decide +kernel
theorem dX8_takes_218 : decode cX8_takes 218 = .ok (.aload_n 0, 1) := by decide +kernel
theorem dX8_takes_219 : decode cX8_takes 219 = .ok (.getfield 52, 3) := by decide +kernel
theorem dX8_takes_222 : decode cX8_takes 222 = .ok (.bipush 24, 2) := by decide +kernel
theorem dX8_takes_224 : decode cX8_takes 224 = .ok (.iload_n 1, 1) := by decide +kernel
theorem dX8_takes_225 : decode cX8_takes 225 = .ok (.imul, 1) := by decide +kernel
theorem dX8_takes_226 : decode cX8_takes 226 = .ok (.aload_n 0, 1) := by decide +kernel
theorem dX8_takes_227 : decode cX8_takes 227 = .ok (.getfield 49, 3) := by decide +kernel
theorem dX8_takes_230 : decode cX8_takes 230 = .ok (.iload_n 1, 1) := by decide +kernel
theorem dX8_takes_231 : decode cX8_takes 231 = .ok (.iaload, 1) := by decide +kernel
theorem dX8_takes_232 : decode cX8_takes 232 = .ok (.iadd, 1) := by decide +kernel
theorem dX8_takes_233 : decode cX8_takes 233 = .ok (.aload_n 0, 1) := by decide +kernel
theorem dX8_takes_234 : decode cX8_takes 234 = .ok (.getfield 22, 3) := by decide +kernel
theorem dX8_takes_237 : decode cX8_takes 237 = .ok (.iload_n 2, 1) := by decide +kernel
theorem dX8_takes_238 : decode cX8_takes 238 = .ok (.iaload, 1) := by decide +kernel
theorem dX8_takes_239 : decode cX8_takes 239 = .ok (.iastore, 1) := by decide +kernel
theorem dX8_takes_240 : decode cX8_takes 240 = .ok (.aload_n 0, 1) := by decide +kernel
theorem dX8_takes_241 : decode cX8_takes 241 = .ok (.getfield 49, 3) := by decide +kernel
theorem dX8_takes_244 : decode cX8_takes 244 = .ok (.iload_n 1, 1) := by decide +kernel
theorem dX8_takes_245 : decode cX8_takes 245 = .ok (.dup2, 1) := by decide +kernel
theorem dX8_takes_246 : decode cX8_takes 246 = .ok (.iaload, 1) := by decide +kernel
theorem dX8_takes_247 : decode cX8_takes 247 = .ok (.iconst 1, 1) := by decide +kernel
theorem dX8_takes_248 : decode cX8_takes 248 = .ok (.iadd, 1) := by decide +kernel
theorem dX8_takes_249 : decode cX8_takes 249 = .ok (.iastore, 1) := by decide +kernel
theorem dX8_takes_250 : decode cX8_takes 250 = .ok (.return_, 1) := by decide +kernel
theorem dX8_wears_0 : decode cX8_wears 0 = .ok (.aload_n 0, 1) := by decide +kernel
theorem dX8_wears_1 : decode cX8_wears 1 = .ok (.getfield 59, 3) := by decide +kernel
theorem dX8_wears_4 : decode cX8_wears 4 = .ok (.iload_n 1, 1) := by decide +kernel
theorem dX8_wears_5 : decode cX8_wears 5 = .ok (.dup2, 1) := by decide +kernel
theorem dX8_wears_6 : decode cX8_wears 6 = .ok (.iaload, 1) := by decide +kernel
theorem dX8_wears_7 : decode cX8_wears 7 = .ok (.iconst 1, 1) := by decide +kernel
theorem dX8_wears_8 : decode cX8_wears 8 = .ok (.iadd, 1) := by decide +kernel
theorem dX8_wears_9 : decode cX8_wears 9 = .ok (.iastore, 1) := by decide +kernel
theorem dX8_wears_10 : decode cX8_wears 10 = .ok (.aload_n 0, 1) := by decide +kernel
theorem dX8_wears_11 : decode cX8_wears 11 = .ok (.getfield 59, 3) := by decide +kernel
theorem dX8_wears_14 : decode cX8_wears 14 = .ok (.iload_n 1, 1) := by decide +kernel
theorem dX8_wears_15 : decode cX8_wears 15 = .ok (.iaload, 1) := by decide +kernel
theorem dX8_wears_16 : decode cX8_wears 16 = .ok (.aload_n 0, 1) := by decide +kernel
theorem dX8_wears_17 : decode cX8_wears 17 = .ok (.getfield 120, 3) := by decide +kernel
theorem dX8_wears_20 : decode cX8_wears 20 = .ok (.irem, 1) := by decide +kernel
theorem dX8_wears_21 : decode cX8_wears 21 = .ok (.ifCond .ne 65, 3) := by decide +kernel
theorem dX8_wears_24 : decode cX8_wears 24 = .ok (.aload_n 0, 1) := by decide +kernel
theorem dX8_wears_25 : decode cX8_wears 25 = .ok (.getfield 49, 3) := by decide +kernel
theorem dX8_wears_28 : decode cX8_wears 28 = .ok (.iload_n 1, 1) := by decide +kernel
theorem dX8_wears_29 : decode cX8_wears 29 = .ok (.iaload, 1) := by decide +kernel
theorem dX8_wears_30 : decode cX8_wears 30 = .ok (.iconst 1, 1) := by decide +kernel
theorem dX8_wears_31 : decode cX8_wears 31 = .ok (.if_icmp .le 55, 3) := by decide +kernel
theorem dX8_wears_34 : decode cX8_wears 34 = .ok (.aload_n 0, 1) := by decide +kernel
theorem dX8_wears_35 : decode cX8_wears 35 = .ok (.getfield 49, 3) := by decide +kernel
theorem dX8_wears_38 : decode cX8_wears 38 = .ok (.iload_n 1, 1) := by decide +kernel
theorem dX8_wears_39 : decode cX8_wears 39 = .ok (.dup2, 1) := by decide +kernel
theorem dX8_wears_40 : decode cX8_wears 40 = .ok (.iaload, 1) := by decide +kernel
theorem dX8_wears_41 : decode cX8_wears 41 = .ok (.iconst 1, 1) := by decide +kernel
theorem dX8_wears_42 : decode cX8_wears 42 = .ok (.isub, 1) := by decide +kernel
theorem dX8_wears_43 : decode cX8_wears 43 = .ok (.iastore, 1) := by decide +kernel
theorem dX8_wears_44 : decode cX8_wears 44 = .ok (.iconst 0, 1) := by decide +kernel
theorem dX8_wears_45 : decode cX8_wears 45 = .ok (.istore_n 2, 1) := by decide +kernel
theorem dX8_wears_46 : decode cX8_wears 46 = .ok (.iload_n 2, 1) := by decide +kernel
theorem dX8_wears_47 : decode cX8_wears 47 = .ok (.aload_n 0, 1) := by decide +kernel
theorem dX8_wears_48 : decode cX8_wears 48 = .ok (.getfield 49, 3) := by decide +kernel
theorem dX8_wears_51 : decode cX8_wears 51 = .ok (.iload_n 1, 1) := by decide +kernel
theorem dX8_wears_52 : decode cX8_wears 52 = .ok (.iaload, 1) := by decide +kernel
theorem dX8_wears_53 : decode cX8_wears 53 = .ok (.if_icmp .ge 33, 3) := by decide +kernel
theorem dX8_wears_56 : decode cX8_wears 56 = .ok (.aload_n 0, 1) := by decide +kernel
theorem dX8_wears_57 : decode cX8_wears 57 = .ok (.getfield 52, 3) := by decide +kernel
theorem dX8_wears_60 : decode cX8_wears 60 = .ok (.bipush 24, 2) := by decide +kernel
theorem dX8_wears_62 : decode cX8_wears 62 = .ok (.iload_n 1, 1) := by decide +kernel
theorem dX8_wears_63 : decode cX8_wears 63 = .ok (.imul, 1) := by decide +kernel
theorem dX8_wears_64 : decode cX8_wears 64 = .ok (.iload_n 2, 1) := by decide +kernel
theorem dX8_wears_65 : decode cX8_wears 65 = .ok (.iadd, 1) := by decide +kernel
theorem dX8_wears_66 : decode cX8_wears 66 = .ok (.aload_n 0, 1) := by decide +kernel
theorem dX8_wears_67 : decode cX8_wears 67 = .ok (.getfield 52, 3) := by decide +kernel
theorem dX8_wears_70 : decode cX8_wears 70 = .ok (.bipush 24, 2) := by decide +kernel
theorem dX8_wears_72 : decode cX8_wears 72 = .ok (.iload_n 1, 1) := by decide +kernel
theorem dX8_wears_73 : decode cX8_wears 73 = .ok (.imul, 1) := by decide +kernel
theorem dX8_wears_74 : decode cX8_wears 74 = .ok (.iload_n 2, 1) := by decide +kernel
theorem dX8_wears_75 : decode cX8_wears 75 = .ok (.iadd, 1) := by decide +kernel
theorem dX8_wears_76 : decode cX8_wears 76 = .ok (.iconst 1, 1) := by decide +kernel
theorem dX8_wears_77 : decode cX8_wears 77 = .ok (.iadd, 1) := by decide +kernel
theorem dX8_wears_78 : decode cX8_wears 78 = .ok (.iaload, 1) := by decide +kernel
theorem dX8_wears_79 : decode cX8_wears 79 = .ok (.iastore, 1) := by decide +kernel
theorem dX8_wears_80 : decode cX8_wears 80 = .ok (.iinc 2 1, 3) := by decide +kernel
theorem dX8_wears_83 : decode cX8_wears 83 = .ok (.goto (-37), 3) := by decide +kernel
theorem dX8_wears_86 : decode cX8_wears 86 = .ok (.return_, 1) := by decide +kernel
theorem dX8_goesUp_0 : decode cX8_goesUp 0 = .ok (.aload_n 0, 1) := by decide +kernel
theorem dX8_goesUp_1 : decode cX8_goesUp 1 = .ok (.getfield 16, 3) := by decide +kernel
theorem dX8_goesUp_4 : decode cX8_goesUp 4 = .ok (.aload_n 0, 1) := by decide +kernel
theorem dX8_goesUp_5 : decode cX8_goesUp 5 = .ok (.getfield 43, 3) := by decide +kernel
theorem dX8_goesUp_8 : decode cX8_goesUp 8 = .ok (.iload_n 1, 1) := by decide +kernel
theorem dX8_goesUp_9 : decode cX8_goesUp 9 = .ok (.iaload, 1) := by decide +kernel
theorem dX8_goesUp_10 : decode cX8_goesUp 10 = .ok (.iaload, 1) := by decide +kernel
theorem dX8_goesUp_11 : decode cX8_goesUp 11 = .ok (.iconst 2, 1) := by decide +kernel
theorem dX8_goesUp_12 : decode cX8_goesUp 12 = .ok (.if_icmp .ne 27, 3) := by decide +kernel
theorem dX8_goesUp_15 : decode cX8_goesUp 15 = .ok (.aload_n 0, 1) := by decide +kernel
theorem dX8_goesUp_16 : decode cX8_goesUp 16 = .ok (.getfield 55, 3) := by decide +kernel
theorem dX8_goesUp_19 : decode cX8_goesUp 19 = .ok (.iload_n 1, 1) := by decide +kernel
theorem dX8_goesUp_20 : decode cX8_goesUp 20 = .ok (.baload, 1) := by decide +kernel
theorem dX8_goesUp_21 : decode cX8_goesUp 21 = .ok (.ifCond .ne 18, 3) := by decide +kernel
theorem dX8_goesUp_24 : decode cX8_goesUp 24 = .ok (.aload_n 0, 1) := by decide +kernel
theorem dX8_goesUp_25 : decode cX8_goesUp 25 = .ok (.getfield 212, 3) := by decide +kernel
theorem dX8_goesUp_28 : decode cX8_goesUp 28 = .ok (.iload_n 2, 1) := by decide +kernel
theorem dX8_goesUp_29 : decode cX8_goesUp 29 = .ok (.invokestatic 196, 3) := by decide +kernel
theorem dX8_goesUp_32 : decode cX8_goesUp 32 = .ok (.ifCond .ne 7, 3) := by decide +kernel
theorem dX8_goesUp_35 : decode cX8_goesUp 35 = .ok (.iconst 1, 1) := by decide +kernel
theorem dX8_goesUp_36 : decode cX8_goesUp 36 = .ok (.goto 4, 3) := by decide +kernel
theorem dX8_goesUp_39 : decode cX8_goesUp 39 = .ok (.iconst 0, 1) := by decide +kernel
theorem dX8_goesUp_40 : decode cX8_goesUp 40 = .ok (.istore_n 3, 1) := by decide +kernel
theorem dX8_goesUp_41 : decode cX8_goesUp 41 = .ok (.aload_n 0, 1) := by decide +kernel
theorem dX8_goesUp_42 : decode cX8_goesUp 42 = .ok (.getfield 55, 3) := by decide +kernel
theorem dX8_goesUp_45 : decode cX8_goesUp 45 = .ok (.iload_n 1, 1) := by decide +kernel
theorem dX8_goesUp_46 : decode cX8_goesUp 46 = .ok (.iload_n 3, 1) := by decide +kernel
theorem dX8_goesUp_47 : decode cX8_goesUp 47 = .ok (.bastore, 1) := by decide +kernel
theorem dX8_goesUp_48 : decode cX8_goesUp 48 = .ok (.iload_n 3, 1) := by decide +kernel
theorem dX8_goesUp_49 : decode cX8_goesUp 49 = .ok (.ifCond .ne 44, 3) := by decide +kernel
theorem dX8_goesUp_52 : decode cX8_goesUp 52 = .ok (.aload_n 0, 1) := by decide +kernel
theorem dX8_goesUp_53 : decode cX8_goesUp 53 = .ok (.getfield 43, 3) := by decide +kernel
theorem dX8_goesUp_56 : decode cX8_goesUp 56 = .ok (.iload_n 1, 1) := by decide +kernel
theorem dX8_goesUp_57 : decode cX8_goesUp 57 = .ok (.dup2, 1) := by decide +kernel
theorem dX8_goesUp_58 : decode cX8_goesUp 58 = .ok (.iaload, 1) := by decide +kernel
theorem dX8_goesUp_59 : decode cX8_goesUp 59 = .ok (.iconst 1, 1) := by decide +kernel
theorem dX8_goesUp_60 : decode cX8_goesUp 60 = .ok (.iadd, 1) := by decide +kernel
theorem dX8_goesUp_61 : decode cX8_goesUp 61 = .ok (.iastore, 1) := by decide +kernel
theorem dX8_goesUp_62 : decode cX8_goesUp 62 = .ok (.aload_n 0, 1) := by decide +kernel
theorem dX8_goesUp_63 : decode cX8_goesUp 63 = .ok (.iload_n 1, 1) := by decide +kernel
theorem dX8_goesUp_64 : decode cX8_goesUp 64 = .ok (.invokevirtual 224, 3) := by decide +kernel
theorem dX8_goesUp_67 : decode cX8_goesUp 67 = .ok (.aload_n 0, 1) := by decide +kernel
theorem dX8_goesUp_68 : decode cX8_goesUp 68 = .ok (.getfield 62, 3) := by decide +kernel
theorem dX8_goesUp_71 : decode cX8_goesUp 71 = .ok (.iload_n 1, 1) := by decide +kernel
theorem dX8_goesUp_72 : decode cX8_goesUp 72 = .ok (.aload_n 0, 1) := by decide +kernel
theorem dX8_goesUp_73 : decode cX8_goesUp 73 = .ok (.getfield 43, 3) := by decide +kernel
theorem dX8_goesUp_76 : decode cX8_goesUp 76 = .ok (.iload_n 1, 1) := by decide +kernel
theorem dX8_goesUp_77 : decode cX8_goesUp 77 = .ok (.iaload, 1) := by decide +kernel
theorem dX8_goesUp_78 : decode cX8_goesUp 78 = .ok (.aload_n 0, 1) := by decide +kernel
theorem dX8_goesUp_79 : decode cX8_goesUp 79 = .ok (.getfield 144, 3) := by decide +kernel
theorem dX8_goesUp_82 : decode cX8_goesUp 82 = .ok (.if_icmp .ne 9, 3) := by decide +kernel
theorem dX8_goesUp_85 : decode cX8_goesUp 85 = .ok (.iload_n 2, 1) := by decide +kernel
theorem dX8_goesUp_86 : decode cX8_goesUp 86 = .ok (.iconst 1, 1) := by decide +kernel
theorem dX8_goesUp_87 : decode cX8_goesUp 87 = .ok (.iadd, 1) := by decide +kernel
theorem dX8_goesUp_88 : decode cX8_goesUp 88 = .ok (.goto 4, 3) := by decide +kernel
theorem dX8_goesUp_91 : decode cX8_goesUp 91 = .ok (.iconst (-1), 1) := by decide +kernel
theorem dX8_goesUp_92 : decode cX8_goesUp 92 = .ok (.iastore, 1) := by decide +kernel
theorem dX8_goesUp_93 : decode cX8_goesUp 93 = .ok (.return_, 1) := by decide +kernel
theorem dX8_goesBy_0 : decode cX8_goesBy 0 = .ok (.iconst 0, 1) := by decide +kernel
theorem dX8_goesBy_1 : decode cX8_goesBy 1 = .ok (.istore_n 2, 1) := by decide +kernel
theorem dX8_goesBy_2 : decode cX8_goesBy 2 = .ok (.iload_n 2, 1) := by decide +kernel
theorem dX8_goesBy_3 : decode cX8_goesBy 3 = .ok (.aload_n 0, 1) := by decide +kernel
theorem dX8_goesBy_4 : decode cX8_goesBy 4 = .ok (.getfield 147, 3) := by decide +kernel
theorem dX8_goesBy_7 : decode cX8_goesBy 7 = .ok (.if_icmp .ge 68, 3) := by decide +kernel
theorem dX8_goesBy_10 : decode cX8_goesBy 10 = .ok (.aload_n 0, 1) := by decide +kernel
theorem dX8_goesBy_11 : decode cX8_goesBy 11 = .ok (.getfield 43, 3) := by decide +kernel
theorem dX8_goesBy_14 : decode cX8_goesBy 14 = .ok (.iload_n 2, 1) := by decide +kernel
theorem dX8_goesBy_15 : decode cX8_goesBy 15 = .ok (.aload_n 0, 1) := by decide +kernel
theorem dX8_goesBy_16 : decode cX8_goesBy 16 = .ok (.getfield 25, 3) := by decide +kernel
theorem dX8_goesBy_19 : decode cX8_goesBy 19 = .ok (.iload_n 2, 1) := by decide +kernel
theorem dX8_goesBy_20 : decode cX8_goesBy 20 = .ok (.iaload, 1) := by decide +kernel
theorem dX8_goesBy_21 : decode cX8_goesBy 21 = .ok (.iload_n 1, 1) := by decide +kernel
theorem dX8_goesBy_22 : decode cX8_goesBy 22 = .ok (.if_icmp .ne 7, 3) := by decide +kernel
theorem dX8_goesBy_25 : decode cX8_goesBy 25 = .ok (.iconst 0, 1) := by decide +kernel
theorem dX8_goesBy_26 : decode cX8_goesBy 26 = .ok (.goto 9, 3) := by decide +kernel
theorem dX8_goesBy_29 : decode cX8_goesBy 29 = .ok (.aload_n 0, 1) := by decide +kernel
theorem dX8_goesBy_30 : decode cX8_goesBy 30 = .ok (.getfield 43, 3) := by decide +kernel
theorem dX8_goesBy_33 : decode cX8_goesBy 33 = .ok (.iload_n 2, 1) := by decide +kernel
theorem dX8_goesBy_34 : decode cX8_goesBy 34 = .ok (.iaload, 1) := by decide +kernel
theorem dX8_goesBy_35 : decode cX8_goesBy 35 = .ok (.iastore, 1) := by decide +kernel
theorem dX8_goesBy_36 : decode cX8_goesBy 36 = .ok (.aload_n 0, 1) := by decide +kernel
theorem dX8_goesBy_37 : decode cX8_goesBy 37 = .ok (.getfield 62, 3) := by decide +kernel
theorem dX8_goesBy_40 : decode cX8_goesBy 40 = .ok (.iload_n 2, 1) := by decide +kernel
theorem dX8_goesBy_41 : decode cX8_goesBy 41 = .ok (.aload_n 0, 1) := by decide +kernel
theorem dX8_goesBy_42 : decode cX8_goesBy 42 = .ok (.getfield 25, 3) := by decide +kernel
theorem dX8_goesBy_45 : decode cX8_goesBy 45 = .ok (.iload_n 2, 1) := by decide +kernel
theorem dX8_goesBy_46 : decode cX8_goesBy 46 = .ok (.iaload, 1) := by decide +kernel
theorem dX8_goesBy_47 : decode cX8_goesBy 47 = .ok (.iload_n 1, 1) := by decide +kernel
theorem dX8_goesBy_48 : decode cX8_goesBy 48 = .ok (.if_icmp .ne 14, 3) := by decide +kernel
theorem dX8_goesBy_51 : decode cX8_goesBy 51 = .ok (.aload_n 0, 1) := by decide +kernel
theorem dX8_goesBy_52 : decode cX8_goesBy 52 = .ok (.getfield 144, 3) := by decide +kernel
theorem dX8_goesBy_55 : decode cX8_goesBy 55 = .ok (.ifCond .ne 7, 3) := by decide +kernel
theorem dX8_goesBy_58 : decode cX8_goesBy 58 = .ok (.iload_n 1, 1) := by decide +kernel
theorem dX8_goesBy_59 : decode cX8_goesBy 59 = .ok (.goto 9, 3) := by decide +kernel
theorem dX8_goesBy_62 : decode cX8_goesBy 62 = .ok (.aload_n 0, 1) := by decide +kernel
theorem dX8_goesBy_63 : decode cX8_goesBy 63 = .ok (.getfield 62, 3) := by decide +kernel
theorem dX8_goesBy_66 : decode cX8_goesBy 66 = .ok (.iload_n 2, 1) := by decide +kernel
theorem dX8_goesBy_67 : decode cX8_goesBy 67 = .ok (.iaload, 1) := by decide +kernel
theorem dX8_goesBy_68 : decode cX8_goesBy 68 = .ok (.iastore, 1) := by decide +kernel
theorem dX8_goesBy_69 : decode cX8_goesBy 69 = .ok (.iinc 2 1, 3) := by decide +kernel
theorem dX8_goesBy_72 : decode cX8_goesBy 72 = .ok (.goto (-70), 3) := by decide +kernel
theorem dX8_goesBy_75 : decode cX8_goesBy 75 = .ok (.iconst 0, 1) := by decide +kernel
theorem dX8_goesBy_76 : decode cX8_goesBy 76 = .ok (.istore_n 2, 1) := by decide +kernel
theorem dX8_goesBy_77 : decode cX8_goesBy 77 = .ok (.iload_n 2, 1) := by decide +kernel
theorem dX8_goesBy_78 : decode cX8_goesBy 78 = .ok (.aload_n 0, 1) := by decide +kernel
theorem dX8_goesBy_79 : decode cX8_goesBy 79 = .ok (.getfield 147, 3) := by decide +kernel
theorem dX8_goesBy_82 : decode cX8_goesBy 82 = .ok (.if_icmp .ge 128, 3) := by decide +kernel
theorem dX8_goesBy_85 : decode cX8_goesBy 85 = .ok (.aload_n 0, 1) := by decide +kernel
theorem dX8_goesBy_86 : decode cX8_goesBy 86 = .ok (.getfield 43, 3) := by decide +kernel
theorem dX8_goesBy_89 : decode cX8_goesBy 89 = .ok (.iload_n 2, 1) := by decide +kernel
theorem dX8_goesBy_90 : decode cX8_goesBy 90 = .ok (.iaload, 1) := by decide +kernel
theorem dX8_goesBy_91 : decode cX8_goesBy 91 = .ok (.iconst 0, 1) := by decide +kernel
theorem dX8_goesBy_92 : decode cX8_goesBy 92 = .ok (.aload_n 0, 1) := by decide +kernel
theorem dX8_goesBy_93 : decode cX8_goesBy 93 = .ok (.getfield 144, 3) := by decide +kernel
theorem dX8_goesBy_96 : decode cX8_goesBy 96 = .ok (.iconst 1, 1) := by decide +kernel
theorem dX8_goesBy_97 : decode cX8_goesBy 97 = .ok (.isub, 1) := by decide +kernel
theorem dX8_goesBy_98 : decode cX8_goesBy 98 = .ok (.invokestatic 125, 3) := by decide +kernel
theorem dX8_goesBy_101 : decode cX8_goesBy 101 = .ok (.istore_n 3, 1) := by decide +kernel
theorem dX8_goesBy_102 : decode cX8_goesBy 102 = .ok (.iload_n 3, 1) := by decide +kernel
theorem dX8_goesBy_103 : decode cX8_goesBy 103 = .ok (.ifCond .eq 15, 3) := by decide +kernel
theorem dX8_goesBy_106 : decode cX8_goesBy 106 = .ok (.aload_n 0, 1) := by decide +kernel
theorem dX8_goesBy_107 : decode cX8_goesBy 107 = .ok (.iload_n 2, 1) := by decide +kernel
theorem dX8_goesBy_108 : decode cX8_goesBy 108 = .ok (.invokevirtual 228, 3) := by decide +kernel
theorem dX8_goesBy_111 : decode cX8_goesBy 111 = .ok (.ifCond .eq 7, 3) := by decide +kernel
theorem dX8_goesBy_114 : decode cX8_goesBy 114 = .ok (.iconst 1, 1) := by decide +kernel
theorem dX8_goesBy_115 : decode cX8_goesBy 115 = .ok (.goto 4, 3) := by decide +kernel
theorem dX8_goesBy_118 : decode cX8_goesBy 118 = .ok (.iconst 0, 1) := by decide +kernel
theorem dX8_goesBy_119 : decode cX8_goesBy 119 = .ok (.istore 4, 2) := by decide +kernel
theorem dX8_goesBy_121 : decode cX8_goesBy 121 = .ok (.aload_n 0, 1) := by decide +kernel
theorem dX8_goesBy_122 : decode cX8_goesBy 122 = .ok (.getfield 83, 3) := by decide +kernel
theorem dX8_goesBy_125 : decode cX8_goesBy 125 = .ok (.bipush 8, 2) := by decide +kernel
theorem dX8_goesBy_127 : decode cX8_goesBy 127 = .ok (.iload_n 1, 1) := by decide +kernel
theorem dX8_goesBy_128 : decode cX8_goesBy 128 = .ok (.imul, 1) := by decide +kernel
theorem dX8_goesBy_129 : decode cX8_goesBy 129 = .ok (.iload_n 2, 1) := by decide +kernel
theorem dX8_goesBy_130 : decode cX8_goesBy 130 = .ok (.iadd, 1) := by decide +kernel
theorem dX8_goesBy_131 : decode cX8_goesBy 131 = .ok (.iload 4, 2) := by decide +kernel
theorem dX8_goesBy_133 : decode cX8_goesBy 133 = .ok (.bastore, 1) := by decide +kernel
theorem dX8_goesBy_134 : decode cX8_goesBy 134 = .ok (.iload_n 3, 1) := by decide +kernel
theorem dX8_goesBy_135 : decode cX8_goesBy 135 = .ok (.ifCond .eq 69, 3) := by decide +kernel
theorem dX8_goesBy_138 : decode cX8_goesBy 138 = .ok (.iload 4, 2) := by decide +kernel
theorem dX8_goesBy_140 : decode cX8_goesBy 140 = .ok (.ifCond .ne 64, 3) := by decide +kernel
theorem dX8_goesBy_143 : decode cX8_goesBy 143 = .ok (.aload_n 0, 1) := by decide +kernel
theorem dX8_goesBy_144 : decode cX8_goesBy 144 = .ok (.getfield 46, 3) := by decide +kernel
theorem dX8_goesBy_147 : decode cX8_goesBy 147 = .ok (.iload_n 2, 1) := by decide +kernel
theorem dX8_goesBy_148 : decode cX8_goesBy 148 = .ok (.aload_n 0, 1) := by decide +kernel
theorem dX8_goesBy_149 : decode cX8_goesBy 149 = .ok (.getfield 16, 3) := by decide +kernel
theorem dX8_goesBy_152 : decode cX8_goesBy 152 = .ok (.aload_n 0, 1) := by decide +kernel
theorem dX8_goesBy_153 : decode cX8_goesBy 153 = .ok (.getfield 43, 3) := by decide +kernel
theorem dX8_goesBy_156 : decode cX8_goesBy 156 = .ok (.iload_n 2, 1) := by decide +kernel
theorem dX8_goesBy_157 : decode cX8_goesBy 157 = .ok (.iaload, 1) := by decide +kernel
theorem dX8_goesBy_158 : decode cX8_goesBy 158 = .ok (.iaload, 1) := by decide +kernel
theorem dX8_goesBy_159 : decode cX8_goesBy 159 = .ok (.iconst 3, 1) := by decide +kernel
theorem dX8_goesBy_160 : decode cX8_goesBy 160 = .ok (.if_icmp .ne 25, 3) := by decide +kernel
theorem dX8_goesBy_163 : decode cX8_goesBy 163 = .ok (.aload_n 0, 1) := by decide +kernel
theorem dX8_goesBy_164 : decode cX8_goesBy 164 = .ok (.getfield 208, 3) := by decide +kernel
theorem dX8_goesBy_167 : decode cX8_goesBy 167 = .ok (.iload_n 1, 1) := by decide +kernel
theorem dX8_goesBy_168 : decode cX8_goesBy 168 = .ok (.invokestatic 196, 3) := by decide +kernel
theorem dX8_goesBy_171 : decode cX8_goesBy 171 = .ok (.ifCond .eq 14, 3) := by decide +kernel
theorem dX8_goesBy_174 : decode cX8_goesBy 174 = .ok (.aload_n 0, 1) := by decide +kernel
theorem dX8_goesBy_175 : decode cX8_goesBy 175 = .ok (.getfield 46, 3) := by decide +kernel
theorem dX8_goesBy_178 : decode cX8_goesBy 178 = .ok (.iload_n 2, 1) := by decide +kernel
theorem dX8_goesBy_179 : decode cX8_goesBy 179 = .ok (.iaload, 1) := by decide +kernel
theorem dX8_goesBy_180 : decode cX8_goesBy 180 = .ok (.iconst 2, 1) := by decide +kernel
theorem dX8_goesBy_181 : decode cX8_goesBy 181 = .ok (.idiv, 1) := by decide +kernel
theorem dX8_goesBy_182 : decode cX8_goesBy 182 = .ok (.goto 9, 3) := by decide +kernel
theorem dX8_goesBy_185 : decode cX8_goesBy 185 = .ok (.aload_n 0, 1) := by decide +kernel
theorem dX8_goesBy_186 : decode cX8_goesBy 186 = .ok (.getfield 46, 3) := by decide +kernel
theorem dX8_goesBy_189 : decode cX8_goesBy 189 = .ok (.iload_n 2, 1) := by decide +kernel
theorem dX8_goesBy_190 : decode cX8_goesBy 190 = .ok (.iaload, 1) := by decide +kernel
theorem dX8_goesBy_191 : decode cX8_goesBy 191 = .ok (.iastore, 1) := by decide +kernel
theorem dX8_goesBy_192 : decode cX8_goesBy 192 = .ok (.aload_n 0, 1) := by decide +kernel
theorem dX8_goesBy_193 : decode cX8_goesBy 193 = .ok (.iload_n 2, 1) := by decide +kernel
theorem dX8_goesBy_194 : decode cX8_goesBy 194 = .ok (.aload_n 0, 1) := by decide +kernel
theorem dX8_goesBy_195 : decode cX8_goesBy 195 = .ok (.getfield 43, 3) := by decide +kernel
theorem dX8_goesBy_198 : decode cX8_goesBy 198 = .ok (.iload_n 2, 1) := by decide +kernel
theorem dX8_goesBy_199 : decode cX8_goesBy 199 = .ok (.iaload, 1) := by decide +kernel
theorem dX8_goesBy_200 : decode cX8_goesBy 200 = .ok (.iload_n 1, 1) := by decide +kernel
theorem dX8_goesBy_201 : decode cX8_goesBy 201 = .ok (.invokevirtual 231, 3) := by decide +kernel
theorem dX8_goesBy_204 : decode cX8_goesBy 204 = .ok (.iinc 2 1, 3) := by decide +kernel
theorem dX8_goesBy_207 : decode cX8_goesBy 207 = .ok (.goto (-130), 3) := by decide +kernel
theorem dX8_goesBy_210 : decode cX8_goesBy 210 = .ok (.iconst 0, 1) := by decide +kernel
theorem dX8_goesBy_211 : decode cX8_goesBy 211 = .ok (.istore_n 2, 1) := by decide +kernel
theorem dX8_goesBy_212 : decode cX8_goesBy 212 = .ok (.iload_n 2, 1) := by decide +kernel
theorem dX8_goesBy_213 : decode cX8_goesBy 213 = .ok (.aload_n 0, 1) := by decide +kernel
theorem dX8_goesBy_214 : decode cX8_goesBy 214 = .ok (.getfield 147, 3) := by decide +kernel
theorem dX8_goesBy_217 : decode cX8_goesBy 217 = .ok (.if_icmp .ge 60, 3) := by decide +kernel
theorem dX8_goesBy_220 : decode cX8_goesBy 220 = .ok (.aload_n 0, 1) := by decide +kernel
theorem dX8_goesBy_221 : decode cX8_goesBy 221 = .ok (.getfield 74, 3) := by decide +kernel
theorem dX8_goesBy_224 : decode cX8_goesBy 224 = .ok (.bipush 8, 2) := by decide +kernel
theorem dX8_goesBy_226 : decode cX8_goesBy 226 = .ok (.iload_n 1, 1) := by decide +kernel
theorem dX8_goesBy_227 : decode cX8_goesBy 227 = .ok (.imul, 1) := by decide +kernel
theorem dX8_goesBy_228 : decode cX8_goesBy 228 = .ok (.iload_n 2, 1) := by decide +kernel
theorem dX8_goesBy_229 : decode cX8_goesBy 229 = .ok (.iadd, 1) := by decide +kernel
theorem dX8_goesBy_230 : decode cX8_goesBy 230 = .ok (.aload_n 0, 1) := by decide +kernel
theorem dX8_goesBy_231 : decode cX8_goesBy 231 = .ok (.getfield 43, 3) := by decide +kernel
theorem dX8_goesBy_234 : decode cX8_goesBy 234 = .ok (.iload_n 2, 1) := by decide +kernel
theorem dX8_goesBy_235 : decode cX8_goesBy 235 = .ok (.iaload, 1) := by decide +kernel
theorem dX8_goesBy_236 : decode cX8_goesBy 236 = .ok (.iastore, 1) := by decide +kernel
theorem dX8_goesBy_237 : decode cX8_goesBy 237 = .ok (.aload_n 0, 1) := by decide +kernel
theorem dX8_goesBy_238 : decode cX8_goesBy 238 = .ok (.getfield 77, 3) := by decide +kernel
theorem dX8_goesBy_241 : decode cX8_goesBy 241 = .ok (.bipush 8, 2) := by decide +kernel
theorem dX8_goesBy_243 : decode cX8_goesBy 243 = .ok (.iload_n 1, 1) := by decide +kernel
theorem dX8_goesBy_244 : decode cX8_goesBy 244 = .ok (.imul, 1) := by decide +kernel
theorem dX8_goesBy_245 : decode cX8_goesBy 245 = .ok (.iload_n 2, 1) := by decide +kernel
theorem dX8_goesBy_246 : decode cX8_goesBy 246 = .ok (.iadd, 1) := by decide +kernel
theorem dX8_goesBy_247 : decode cX8_goesBy 247 = .ok (.aload_n 0, 1) := by decide +kernel
theorem dX8_goesBy_248 : decode cX8_goesBy 248 = .ok (.getfield 46, 3) := by decide +kernel
theorem dX8_goesBy_251 : decode cX8_goesBy 251 = .ok (.iload_n 2, 1) := by decide +kernel
theorem dX8_goesBy_252 : decode cX8_goesBy 252 = .ok (.iaload, 1) := by decide +kernel
theorem dX8_goesBy_253 : decode cX8_goesBy 253 = .ok (.iastore, 1) := by decide +kernel
theorem dX8_goesBy_254 : decode cX8_goesBy 254 = .ok (.aload_n 0, 1) := by decide +kernel
theorem dX8_goesBy_255 : decode cX8_goesBy 255 = .ok (.getfield 80, 3) := by decide +kernel
theorem dX8_goesBy_258 : decode cX8_goesBy 258 = .ok (.bipush 8, 2) := by decide +kernel
theorem dX8_goesBy_260 : decode cX8_goesBy 260 = .ok (.iload_n 1, 1) := by decide +kernel
theorem dX8_goesBy_261 : decode cX8_goesBy 261 = .ok (.imul, 1) := by decide +kernel
theorem dX8_goesBy_262 : decode cX8_goesBy 262 = .ok (.iload_n 2, 1) := by decide +kernel
theorem dX8_goesBy_263 : decode cX8_goesBy 263 = .ok (.iadd, 1) := by decide +kernel
theorem dX8_goesBy_264 : decode cX8_goesBy 264 = .ok (.aload_n 0, 1) := by decide +kernel
theorem dX8_goesBy_265 : decode cX8_goesBy 265 = .ok (.getfield 49, 3) := by decide +kernel
theorem dX8_goesBy_268 : decode cX8_goesBy 268 = .ok (.iload_n 2, 1) := by decide +kernel
theorem dX8_goesBy_269 : decode cX8_goesBy 269 = .ok (.iaload, 1) := by decide +kernel
theorem dX8_goesBy_270 : decode cX8_goesBy 270 = .ok (.iastore, 1) := by decide +kernel
theorem dX8_goesBy_271 : decode cX8_goesBy 271 = .ok (.iinc 2 1, 3) := by decide +kernel
theorem dX8_goesBy_274 : decode cX8_goesBy 274 = .ok (.goto (-62), 3) := by decide +kernel
theorem dX8_goesBy_277 : decode cX8_goesBy 277 = .ok (.iconst 0, 1) := by decide +kernel
theorem dX8_goesBy_278 : decode cX8_goesBy 278 = .ok (.istore_n 2, 1) := by decide +kernel
theorem dX8_goesBy_279 : decode cX8_goesBy 279 = .ok (.iload_n 2, 1) := by decide +kernel
theorem dX8_goesBy_280 : decode cX8_goesBy 280 = .ok (.aload_n 0, 1) := by decide +kernel
theorem dX8_goesBy_281 : decode cX8_goesBy 281 = .ok (.getfield 147, 3) := by decide +kernel
theorem dX8_goesBy_284 : decode cX8_goesBy 284 = .ok (.if_icmp .ge 48, 3) := by decide +kernel
theorem dX8_goesBy_287 : decode cX8_goesBy 287 = .ok (.aload_n 0, 1) := by decide +kernel
theorem dX8_goesBy_288 : decode cX8_goesBy 288 = .ok (.getfield 43, 3) := by decide +kernel
theorem dX8_goesBy_291 : decode cX8_goesBy 291 = .ok (.iload_n 2, 1) := by decide +kernel
theorem dX8_goesBy_292 : decode cX8_goesBy 292 = .ok (.iaload, 1) := by decide +kernel
theorem dX8_goesBy_293 : decode cX8_goesBy 293 = .ok (.iconst 0, 1) := by decide +kernel
theorem dX8_goesBy_294 : decode cX8_goesBy 294 = .ok (.aload_n 0, 1) := by decide +kernel
theorem dX8_goesBy_295 : decode cX8_goesBy 295 = .ok (.getfield 144, 3) := by decide +kernel
theorem dX8_goesBy_298 : decode cX8_goesBy 298 = .ok (.iconst 1, 1) := by decide +kernel
theorem dX8_goesBy_299 : decode cX8_goesBy 299 = .ok (.isub, 1) := by decide +kernel
theorem dX8_goesBy_300 : decode cX8_goesBy 300 = .ok (.invokestatic 125, 3) := by decide +kernel
theorem dX8_goesBy_303 : decode cX8_goesBy 303 = .ok (.ifCond .eq 23, 3) := by decide +kernel
theorem dX8_goesBy_306 : decode cX8_goesBy 306 = .ok (.aload_n 0, 1) := by decide +kernel
theorem dX8_goesBy_307 : decode cX8_goesBy 307 = .ok (.getfield 83, 3) := by decide +kernel
theorem dX8_goesBy_310 : decode cX8_goesBy 310 = .ok (.bipush 8, 2) := by decide +kernel
theorem dX8_goesBy_312 : decode cX8_goesBy 312 = .ok (.iload_n 1, 1) := by decide +kernel
theorem dX8_goesBy_313 : decode cX8_goesBy 313 = .ok (.imul, 1) := by decide +kernel
theorem dX8_goesBy_314 : decode cX8_goesBy 314 = .ok (.iload_n 2, 1) := by decide +kernel
theorem dX8_goesBy_315 : decode cX8_goesBy 315 = .ok (.iadd, 1) := by decide +kernel
theorem dX8_goesBy_316 : decode cX8_goesBy 316 = .ok (.baload, 1) := by decide +kernel
theorem dX8_goesBy_317 : decode cX8_goesBy 317 = .ok (.ifCond .ne 9, 3) := by decide +kernel
theorem dX8_goesBy_320 : decode cX8_goesBy 320 = .ok (.aload_n 0, 1) := by decide +kernel
theorem dX8_goesBy_321 : decode cX8_goesBy 321 = .ok (.iload_n 2, 1) := by decide +kernel
theorem dX8_goesBy_322 : decode cX8_goesBy 322 = .ok (.iload_n 1, 1) := by decide +kernel
theorem dX8_goesBy_323 : decode cX8_goesBy 323 = .ok (.invokevirtual 235, 3) := by decide +kernel
theorem dX8_goesBy_326 : decode cX8_goesBy 326 = .ok (.iinc 2 1, 3) := by decide +kernel
theorem dX8_goesBy_329 : decode cX8_goesBy 329 = .ok (.goto (-50), 3) := by decide +kernel
theorem dX8_goesBy_332 : decode cX8_goesBy 332 = .ok (.return_, 1) := by decide +kernel
theorem dX8_runs_0 : decode cX8_runs 0 = .ok (.iconst 0, 1) := by decide +kernel
theorem dX8_runs_1 : decode cX8_runs 1 = .ok (.istore_n 1, 1) := by decide +kernel
theorem dX8_runs_2 : decode cX8_runs 2 = .ok (.iload_n 1, 1) := by decide +kernel
theorem dX8_runs_3 : decode cX8_runs 3 = .ok (.aload_n 0, 1) := by decide +kernel
theorem dX8_runs_4 : decode cX8_runs 4 = .ok (.getfield 147, 3) := by decide +kernel
theorem dX8_runs_7 : decode cX8_runs 7 = .ok (.if_icmp .ge 100, 3) := by decide +kernel
theorem dX8_runs_10 : decode cX8_runs 10 = .ok (.aload_n 0, 1) := by decide +kernel
theorem dX8_runs_11 : decode cX8_runs 11 = .ok (.getfield 43, 3) := by decide +kernel
theorem dX8_runs_14 : decode cX8_runs 14 = .ok (.iload_n 1, 1) := by decide +kernel
theorem dX8_runs_15 : decode cX8_runs 15 = .ok (.iconst (-1), 1) := by decide +kernel
theorem dX8_runs_16 : decode cX8_runs 16 = .ok (.iastore, 1) := by decide +kernel
theorem dX8_runs_17 : decode cX8_runs 17 = .ok (.aload_n 0, 1) := by decide +kernel
theorem dX8_runs_18 : decode cX8_runs 18 = .ok (.getfield 46, 3) := by decide +kernel
theorem dX8_runs_21 : decode cX8_runs 21 = .ok (.iload_n 1, 1) := by decide +kernel
theorem dX8_runs_22 : decode cX8_runs 22 = .ok (.aload_n 0, 1) := by decide +kernel
theorem dX8_runs_23 : decode cX8_runs 23 = .ok (.getfield 28, 3) := by decide +kernel
theorem dX8_runs_26 : decode cX8_runs 26 = .ok (.iload_n 1, 1) := by decide +kernel
theorem dX8_runs_27 : decode cX8_runs 27 = .ok (.iaload, 1) := by decide +kernel
theorem dX8_runs_28 : decode cX8_runs 28 = .ok (.iastore, 1) := by decide +kernel
theorem dX8_runs_29 : decode cX8_runs 29 = .ok (.aload_n 0, 1) := by decide +kernel
theorem dX8_runs_30 : decode cX8_runs 30 = .ok (.getfield 49, 3) := by decide +kernel
theorem dX8_runs_33 : decode cX8_runs 33 = .ok (.iload_n 1, 1) := by decide +kernel
theorem dX8_runs_34 : decode cX8_runs 34 = .ok (.aload_n 0, 1) := by decide +kernel
theorem dX8_runs_35 : decode cX8_runs 35 = .ok (.getfield 31, 3) := by decide +kernel
theorem dX8_runs_38 : decode cX8_runs 38 = .ok (.iload_n 1, 1) := by decide +kernel
theorem dX8_runs_39 : decode cX8_runs 39 = .ok (.iaload, 1) := by decide +kernel
theorem dX8_runs_40 : decode cX8_runs 40 = .ok (.iastore, 1) := by decide +kernel
theorem dX8_runs_41 : decode cX8_runs 41 = .ok (.aload_n 0, 1) := by decide +kernel
theorem dX8_runs_42 : decode cX8_runs 42 = .ok (.getfield 55, 3) := by decide +kernel
theorem dX8_runs_45 : decode cX8_runs 45 = .ok (.iload_n 1, 1) := by decide +kernel
theorem dX8_runs_46 : decode cX8_runs 46 = .ok (.iconst 0, 1) := by decide +kernel
theorem dX8_runs_47 : decode cX8_runs 47 = .ok (.bastore, 1) := by decide +kernel
theorem dX8_runs_48 : decode cX8_runs 48 = .ok (.aload_n 0, 1) := by decide +kernel
theorem dX8_runs_49 : decode cX8_runs 49 = .ok (.getfield 59, 3) := by decide +kernel
theorem dX8_runs_52 : decode cX8_runs 52 = .ok (.iload_n 1, 1) := by decide +kernel
theorem dX8_runs_53 : decode cX8_runs 53 = .ok (.iconst 0, 1) := by decide +kernel
theorem dX8_runs_54 : decode cX8_runs 54 = .ok (.iastore, 1) := by decide +kernel
theorem dX8_runs_55 : decode cX8_runs 55 = .ok (.aload_n 0, 1) := by decide +kernel
theorem dX8_runs_56 : decode cX8_runs 56 = .ok (.getfield 62, 3) := by decide +kernel
theorem dX8_runs_59 : decode cX8_runs 59 = .ok (.iload_n 1, 1) := by decide +kernel
theorem dX8_runs_60 : decode cX8_runs 60 = .ok (.iconst (-1), 1) := by decide +kernel
theorem dX8_runs_61 : decode cX8_runs 61 = .ok (.iastore, 1) := by decide +kernel
theorem dX8_runs_62 : decode cX8_runs 62 = .ok (.iconst 0, 1) := by decide +kernel
theorem dX8_runs_63 : decode cX8_runs 63 = .ok (.istore_n 2, 1) := by decide +kernel
theorem dX8_runs_64 : decode cX8_runs 64 = .ok (.iload_n 2, 1) := by decide +kernel
theorem dX8_runs_65 : decode cX8_runs 65 = .ok (.aload_n 0, 1) := by decide +kernel
theorem dX8_runs_66 : decode cX8_runs 66 = .ok (.getfield 31, 3) := by decide +kernel
theorem dX8_runs_69 : decode cX8_runs 69 = .ok (.iload_n 1, 1) := by decide +kernel
theorem dX8_runs_70 : decode cX8_runs 70 = .ok (.iaload, 1) := by decide +kernel
theorem dX8_runs_71 : decode cX8_runs 71 = .ok (.if_icmp .ge 30, 3) := by decide +kernel
theorem dX8_runs_74 : decode cX8_runs 74 = .ok (.aload_n 0, 1) := by decide +kernel
theorem dX8_runs_75 : decode cX8_runs 75 = .ok (.getfield 52, 3) := by decide +kernel
theorem dX8_runs_78 : decode cX8_runs 78 = .ok (.bipush 24, 2) := by decide +kernel
theorem dX8_runs_80 : decode cX8_runs 80 = .ok (.iload_n 1, 1) := by decide +kernel
theorem dX8_runs_81 : decode cX8_runs 81 = .ok (.imul, 1) := by decide +kernel
theorem dX8_runs_82 : decode cX8_runs 82 = .ok (.iload_n 2, 1) := by decide +kernel
theorem dX8_runs_83 : decode cX8_runs 83 = .ok (.iadd, 1) := by decide +kernel
theorem dX8_runs_84 : decode cX8_runs 84 = .ok (.aload_n 0, 1) := by decide +kernel
theorem dX8_runs_85 : decode cX8_runs 85 = .ok (.getfield 34, 3) := by decide +kernel
theorem dX8_runs_88 : decode cX8_runs 88 = .ok (.iconst 3, 1) := by decide +kernel
theorem dX8_runs_89 : decode cX8_runs 89 = .ok (.iload_n 1, 1) := by decide +kernel
theorem dX8_runs_90 : decode cX8_runs 90 = .ok (.imul, 1) := by decide +kernel
theorem dX8_runs_91 : decode cX8_runs 91 = .ok (.iload_n 2, 1) := by decide +kernel
theorem dX8_runs_92 : decode cX8_runs 92 = .ok (.iadd, 1) := by decide +kernel
theorem dX8_runs_93 : decode cX8_runs 93 = .ok (.iaload, 1) := by decide +kernel
theorem dX8_runs_94 : decode cX8_runs 94 = .ok (.iastore, 1) := by decide +kernel
theorem dX8_runs_95 : decode cX8_runs 95 = .ok (.iinc 2 1, 3) := by decide +kernel
theorem dX8_runs_98 : decode cX8_runs 98 = .ok (.goto (-34), 3) := by decide +kernel
theorem dX8_runs_101 : decode cX8_runs 101 = .ok (.iinc 1 1, 3) := by decide +kernel
theorem dX8_runs_104 : decode cX8_runs 104 = .ok (.goto (-102), 3) := by decide +kernel
theorem dX8_runs_107 : decode cX8_runs 107 = .ok (.iconst 0, 1) := by decide +kernel
theorem dX8_runs_108 : decode cX8_runs 108 = .ok (.istore_n 1, 1) := by decide +kernel
theorem dX8_runs_109 : decode cX8_runs 109 = .ok (.iload_n 1, 1) := by decide +kernel
theorem dX8_runs_110 : decode cX8_runs 110 = .ok (.aload_n 0, 1) := by decide +kernel
theorem dX8_runs_111 : decode cX8_runs 111 = .ok (.getfield 144, 3) := by decide +kernel
theorem dX8_runs_114 : decode cX8_runs 114 = .ok (.if_icmp .ge 30, 3) := by decide +kernel
theorem dX8_runs_117 : decode cX8_runs 117 = .ok (.aload_n 0, 1) := by decide +kernel
theorem dX8_runs_118 : decode cX8_runs 118 = .ok (.getfield 65, 3) := by decide +kernel
theorem dX8_runs_121 : decode cX8_runs 121 = .ok (.iload_n 1, 1) := by decide +kernel
theorem dX8_runs_122 : decode cX8_runs 122 = .ok (.iconst (-1), 1) := by decide +kernel
theorem dX8_runs_123 : decode cX8_runs 123 = .ok (.iastore, 1) := by decide +kernel
theorem dX8_runs_124 : decode cX8_runs 124 = .ok (.aload_n 0, 1) := by decide +kernel
theorem dX8_runs_125 : decode cX8_runs 125 = .ok (.getfield 68, 3) := by decide +kernel
theorem dX8_runs_128 : decode cX8_runs 128 = .ok (.iload_n 1, 1) := by decide +kernel
theorem dX8_runs_129 : decode cX8_runs 129 = .ok (.iconst 0, 1) := by decide +kernel
theorem dX8_runs_130 : decode cX8_runs 130 = .ok (.iastore, 1) := by decide +kernel
theorem dX8_runs_131 : decode cX8_runs 131 = .ok (.aload_n 0, 1) := by decide +kernel
theorem dX8_runs_132 : decode cX8_runs 132 = .ok (.getfield 71, 3) := by decide +kernel
theorem dX8_runs_135 : decode cX8_runs 135 = .ok (.iload_n 1, 1) := by decide +kernel
theorem dX8_runs_136 : decode cX8_runs 136 = .ok (.iconst 0, 1) := by decide +kernel
theorem dX8_runs_137 : decode cX8_runs 137 = .ok (.iastore, 1) := by decide +kernel
theorem dX8_runs_138 : decode cX8_runs 138 = .ok (.iinc 1 1, 3) := by decide +kernel
theorem dX8_runs_141 : decode cX8_runs 141 = .ok (.goto (-32), 3) := by decide +kernel
theorem dX8_runs_144 : decode cX8_runs 144 = .ok (.aload_n 0, 1) := by decide +kernel
theorem dX8_runs_145 : decode cX8_runs 145 = .ok (.iconst (-1), 1) := by decide +kernel
theorem dX8_runs_146 : decode cX8_runs 146 = .ok (.putfield 218, 3) := by decide +kernel
theorem dX8_runs_149 : decode cX8_runs 149 = .ok (.aload_n 0, 1) := by decide +kernel
theorem dX8_runs_150 : decode cX8_runs 150 = .ok (.iconst (-1), 1) := by decide +kernel
theorem dX8_runs_151 : decode cX8_runs 151 = .ok (.putfield 221, 3) := by decide +kernel
theorem dX8_runs_154 : decode cX8_runs 154 = .ok (.iconst 0, 1) := by decide +kernel
theorem dX8_runs_155 : decode cX8_runs 155 = .ok (.istore_n 1, 1) := by decide +kernel
theorem dX8_runs_156 : decode cX8_runs 156 = .ok (.iload_n 1, 1) := by decide +kernel
theorem dX8_runs_157 : decode cX8_runs 157 = .ok (.bipush 40, 2) := by decide +kernel
theorem dX8_runs_159 : decode cX8_runs 159 = .ok (.if_icmp .ge 14, 3) := by decide +kernel
theorem dX8_runs_162 : decode cX8_runs 162 = .ok (.aload_n 0, 1) := by decide +kernel
theorem dX8_runs_163 : decode cX8_runs 163 = .ok (.iload_n 1, 1) := by decide +kernel
theorem dX8_runs_164 : decode cX8_runs 164 = .ok (.invokevirtual 239, 3) := by decide +kernel
theorem dX8_runs_167 : decode cX8_runs 167 = .ok (.iinc 1 1, 3) := by decide +kernel
theorem dX8_runs_170 : decode cX8_runs 170 = .ok (.goto (-14), 3) := by decide +kernel
theorem dX8_runs_173 : decode cX8_runs 173 = .ok (.return_, 1) := by decide +kernel
theorem dX8_runsTold_0 : decode cX8_runsTold 0 = .ok (.aload_n 0, 1) := by decide +kernel
theorem dX8_runsTold_1 : decode cX8_runsTold 1 = .ok (.invokevirtual 242, 3) := by decide +kernel
theorem dX8_runsTold_4 : decode cX8_runsTold 4 = .ok (.aload_n 0, 1) := by decide +kernel
