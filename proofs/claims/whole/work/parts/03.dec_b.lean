theorem dX12_init_0 : decode cX12_init 0 = .ok (.aload_n 0, 1) := by decide +kernel
theorem dX12_init_1 : decode cX12_init 1 = .ok (.invokespecial 1, 3) := by decide +kernel
theorem dX12_init_4 : decode cX12_init 4 = .ok (.aload_n 0, 1) := by decide +kernel
theorem dX12_init_5 : decode cX12_init 5 = .ok (.iconst (-1), 1) := by decide +kernel
theorem dX12_init_6 : decode cX12_init 6 = .ok (.putfield 9, 3) := by decide +kernel
theorem dX12_init_9 : decode cX12_init 9 = .ok (.aload_n 0, 1) := by decide +kernel
theorem dX12_init_10 : decode cX12_init 10 = .ok (.sipush 600, 3) := by decide +kernel
theorem dX12_init_13 : decode cX12_init 13 = .ok (.newarray .int, 2) := by decide +kernel
theorem dX12_init_15 : decode cX12_init 15 = .ok (.putfield 13, 3) := by decide +kernel
theorem dX12_init_18 : decode cX12_init 18 = .ok (.aload_n 0, 1) := by decide +kernel
theorem dX12_init_19 : decode cX12_init 19 = .ok (.iconst 2, 1) := by decide +kernel
theorem dX12_init_20 : decode cX12_init 20 = .ok (.newarray .int, 2) := by decide +kernel
theorem dX12_init_22 : decode cX12_init 22 = .ok (.putfield 17, 3) := by decide +kernel
theorem dX12_init_25 : decode cX12_init 25 = .ok (.aload_n 0, 1) := by decide +kernel
theorem dX12_init_26 : decode cX12_init 26 = .ok (.iconst 4, 1) := by decide +kernel
theorem dX12_init_27 : decode cX12_init 27 = .ok (.newarray .int, 2) := by decide +kernel
theorem dX12_init_29 : decode cX12_init 29 = .ok (.putfield 20, 3) := by decide +kernel
theorem dX12_init_32 : decode cX12_init 32 = .ok (.aload_n 0, 1) := by decide +kernel
theorem dX12_init_33 : decode cX12_init 33 = .ok (.iconst 4, 1) := by decide +kernel
theorem dX12_init_34 : decode cX12_init 34 = .ok (.newarray .int, 2) := by decide +kernel
theorem dX12_init_36 : decode cX12_init 36 = .ok (.putfield 23, 3) := by decide +kernel
theorem dX12_init_39 : decode cX12_init 39 = .ok (.aload_n 0, 1) := by decide +kernel
theorem dX12_init_40 : decode cX12_init 40 = .ok (.bipush 48, 2) := by decide +kernel
theorem dX12_init_42 : decode cX12_init 42 = .ok (.iconst 3, 1) := by decide +kernel
theorem dX12_init_43 : decode cX12_init 43 = .ok (.multianewarray 26 2, 4) := by decide +kernel
theorem dX12_init_47 : decode cX12_init 47 = .ok (.putfield 28, 3) := by decide +kernel
theorem dX12_init_50 : decode cX12_init 50 = .ok (.aload_n 0, 1) := by decide +kernel
theorem dX12_init_51 : decode cX12_init 51 = .ok (.bipush 48, 2) := by decide +kernel
theorem dX12_init_53 : decode cX12_init 53 = .ok (.iconst 3, 1) := by decide +kernel
theorem dX12_init_54 : decode cX12_init 54 = .ok (.multianewarray 26 2, 4) := by decide +kernel
theorem dX12_init_58 : decode cX12_init 58 = .ok (.putfield 31, 3) := by decide +kernel
theorem dX12_init_61 : decode cX12_init 61 = .ok (.aload_n 0, 1) := by decide +kernel
theorem dX12_init_62 : decode cX12_init 62 = .ok (.sipush 160, 3) := by decide +kernel
theorem dX12_init_65 : decode cX12_init 65 = .ok (.iconst 2, 1) := by decide +kernel
theorem dX12_init_66 : decode cX12_init 66 = .ok (.multianewarray 26 2, 4) := by decide +kernel
theorem dX12_init_70 : decode cX12_init 70 = .ok (.putfield 34, 3) := by decide +kernel
theorem dX12_init_73 : decode cX12_init 73 = .ok (.aload_n 0, 1) := by decide +kernel
theorem dX12_init_74 : decode cX12_init 74 = .ok (.sipush 160, 3) := by decide +kernel
theorem dX12_init_77 : decode cX12_init 77 = .ok (.iconst 2, 1) := by decide +kernel
theorem dX12_init_78 : decode cX12_init 78 = .ok (.multianewarray 26 2, 4) := by decide +kernel
theorem dX12_init_82 : decode cX12_init 82 = .ok (.putfield 37, 3) := by decide +kernel
theorem dX12_init_85 : decode cX12_init 85 = .ok (.aload_n 0, 1) := by decide +kernel
theorem dX12_init_86 : decode cX12_init 86 = .ok (.iconst 5, 1) := by decide +kernel
theorem dX12_init_87 : decode cX12_init 87 = .ok (.iconst 2, 1) := by decide +kernel
theorem dX12_init_88 : decode cX12_init 88 = .ok (.multianewarray 26 2, 4) := by decide +kernel
theorem dX12_init_92 : decode cX12_init 92 = .ok (.putfield 40, 3) := by decide +kernel
theorem dX12_init_95 : decode cX12_init 95 = .ok (.aload_n 0, 1) := by decide +kernel
theorem dX12_init_96 : decode cX12_init 96 = .ok (.iconst 5, 1) := by decide +kernel
theorem dX12_init_97 : decode cX12_init 97 = .ok (.iconst 2, 1) := by decide +kernel
theorem dX12_init_98 : decode cX12_init 98 = .ok (.multianewarray 26 2, 4) := by decide +kernel
theorem dX12_init_102 : decode cX12_init 102 = .ok (.putfield 43, 3) := by decide +kernel
theorem dX12_init_105 : decode cX12_init 105 = .ok (.aload_n 0, 1) := by decide +kernel
theorem dX12_init_106 : decode cX12_init 106 = .ok (.sipush 160, 3) := by decide +kernel
theorem dX12_init_109 : decode cX12_init 109 = .ok (.newarray .int, 2) := by decide +kernel
theorem dX12_init_111 : decode cX12_init 111 = .ok (.putfield 46, 3) := by decide +kernel
theorem dX12_init_114 : decode cX12_init 114 = .ok (.aload_n 0, 1) := by decide +kernel
theorem dX12_init_115 : decode cX12_init 115 = .ok (.bipush 7, 2) := by decide +kernel
theorem dX12_init_117 : decode cX12_init 117 = .ok (.newarray .int, 2) := by decide +kernel
theorem dX12_init_119 : decode cX12_init 119 = .ok (.putfield 49, 3) := by decide +kernel
theorem dX12_init_122 : decode cX12_init 122 = .ok (.aload_n 0, 1) := by decide +kernel
theorem dX12_init_123 : decode cX12_init 123 = .ok (.bipush 80, 2) := by decide +kernel
theorem dX12_init_125 : decode cX12_init 125 = .ok (.iconst 4, 1) := by decide +kernel
theorem dX12_init_126 : decode cX12_init 126 = .ok (.multianewarray 26 2, 4) := by decide +kernel
theorem dX12_init_130 : decode cX12_init 130 = .ok (.putfield 52, 3) := by decide +kernel
theorem dX12_init_133 : decode cX12_init 133 = .ok (.aload_n 0, 1) := by decide +kernel
theorem dX12_init_134 : decode cX12_init 134 = .ok (.bipush 47, 2) := by decide +kernel
theorem dX12_init_136 : decode cX12_init 136 = .ok (.newarray .int, 2) := by decide +kernel
theorem dX12_init_138 : decode cX12_init 138 = .ok (.putfield 55, 3) := by decide +kernel
theorem dX12_init_141 : decode cX12_init 141 = .ok (.aload_n 0, 1) := by decide +kernel
theorem dX12_init_142 : decode cX12_init 142 = .ok (.bipush 47, 2) := by decide +kernel
theorem dX12_init_144 : decode cX12_init 144 = .ok (.newarray .int, 2) := by decide +kernel
theorem dX12_init_146 : decode cX12_init 146 = .ok (.putfield 58, 3) := by decide +kernel
theorem dX12_init_149 : decode cX12_init 149 = .ok (.aload_n 0, 1) := by decide +kernel
theorem dX12_init_150 : decode cX12_init 150 = .ok (.bipush 47, 2) := by decide +kernel
theorem dX12_init_152 : decode cX12_init 152 = .ok (.newarray .int, 2) := by decide +kernel
theorem dX12_init_154 : decode cX12_init 154 = .ok (.putfield 61, 3) := by decide +kernel
theorem dX12_init_157 : decode cX12_init 157 = .ok (.aload_n 0, 1) := by decide +kernel
theorem dX12_init_158 : decode cX12_init 158 = .ok (.bipush 16, 2) := by decide +kernel
theorem dX12_init_160 : decode cX12_init 160 = .ok (.bipush 47, 2) := by decide +kernel
theorem dX12_init_162 : decode cX12_init 162 = .ok (.multianewarray 26 2, 4) := by decide +kernel
theorem dX12_init_166 : decode cX12_init 166 = .ok (.putfield 64, 3) := by decide +kernel
theorem dX12_init_169 : decode cX12_init 169 = .ok (.aload_n 0, 1) := by decide +kernel
theorem dX12_init_170 : decode cX12_init 170 = .ok (.iconst 3, 1) := by decide +kernel
theorem dX12_init_171 : decode cX12_init 171 = .ok (.sipush 800, 3) := by decide +kernel
theorem dX12_init_174 : decode cX12_init 174 = .ok (.multianewarray 26 2, 4) := by decide +kernel
theorem dX12_init_178 : decode cX12_init 178 = .ok (.putfield 67, 3) := by decide +kernel
theorem dX12_init_181 : decode cX12_init 181 = .ok (.aload_n 0, 1) := by decide +kernel
theorem dX12_init_182 : decode cX12_init 182 = .ok (.sipush 8000, 3) := by decide +kernel
theorem dX12_init_185 : decode cX12_init 185 = .ok (.newarray .boolean, 2) := by decide +kernel
theorem dX12_init_187 : decode cX12_init 187 = .ok (.putfield 70, 3) := by decide +kernel
theorem dX12_init_190 : decode cX12_init 190 = .ok (.aload_n 0, 1) := by decide +kernel
theorem dX12_init_191 : decode cX12_init 191 = .ok (.sipush 8000, 3) := by decide +kernel
theorem dX12_init_194 : decode cX12_init 194 = .ok (.newarray .boolean, 2) := by decide +kernel
theorem dX12_init_196 : decode cX12_init 196 = .ok (.putfield 74, 3) := by decide +kernel
theorem dX12_init_199 : decode cX12_init 199 = .ok (.aload_n 0, 1) := by decide +kernel
theorem dX12_init_200 : decode cX12_init 200 = .ok (.iconst 5, 1) := by decide +kernel
theorem dX12_init_201 : decode cX12_init 201 = .ok (.newarray .int, 2) := by decide +kernel
theorem dX12_init_203 : decode cX12_init 203 = .ok (.putfield 77, 3) := by decide +kernel
theorem dX12_init_206 : decode cX12_init 206 = .ok (.aload_n 0, 1) := by decide +kernel
theorem dX12_init_207 : decode cX12_init 207 = .ok (.iconst 5, 1) := by decide +kernel
theorem dX12_init_208 : decode cX12_init 208 = .ok (.newarray .int, 2) := by decide +kernel
theorem dX12_init_210 : decode cX12_init 210 = .ok (.putfield 80, 3) := by decide +kernel
theorem dX12_init_213 : decode cX12_init 213 = .ok (.aload_n 0, 1) := by decide +kernel
theorem dX12_init_214 : decode cX12_init 214 = .ok (.bipush 14, 2) := by decide +kernel
theorem dX12_init_216 : decode cX12_init 216 = .ok (.newarray .long, 2) := by decide +kernel
theorem dX12_init_218 : decode cX12_init 218 = .ok (.putfield 83, 3) := by decide +kernel
theorem dX12_init_221 : decode cX12_init 221 = .ok (.aload_n 0, 1) := by decide +kernel
theorem dX12_init_222 : decode cX12_init 222 = .ok (.invokevirtual 87, 3) := by decide +kernel
theorem dX12_init_225 : decode cX12_init 225 = .ok (.aload_n 0, 1) := by decide +kernel
theorem dX12_init_226 : decode cX12_init 226 = .ok (.invokevirtual 90, 3) := by decide +kernel
theorem dX12_init_229 : decode cX12_init 229 = .ok (.return_, 1) := by decide +kernel
theorem dX12_tellsNothing_0 : decode cX12_tellsNothing 0 = .ok (.iconst 0, 1) := by decide +kernel
theorem dX12_tellsNothing_1 : decode cX12_tellsNothing 1 = .ok (.istore_n 1, 1) := by decide +kernel
theorem dX12_tellsNothing_2 : decode cX12_tellsNothing 2 = .ok (.iload_n 1, 1) := by decide +kernel
theorem dX12_tellsNothing_3 : decode cX12_tellsNothing 3 = .ok (.iconst 4, 1) := by decide +kernel
theorem dX12_tellsNothing_4 : decode cX12_tellsNothing 4 = .ok (.if_icmp .ge 16, 3) := by decide +kernel
theorem dX12_tellsNothing_7 : decode cX12_tellsNothing 7 = .ok (.aload_n 0, 1) := by decide +kernel
theorem dX12_tellsNothing_8 : decode cX12_tellsNothing 8 = .ok (.getfield 20, 3) := by decide +kernel
theorem dX12_tellsNothing_11 : decode cX12_tellsNothing 11 = .ok (.iload_n 1, 1) := by decide +kernel
theorem dX12_tellsNothing_12 : decode cX12_tellsNothing 12 = .ok (.iconst 0, 1) := by decide +kernel
theorem dX12_tellsNothing_13 : decode cX12_tellsNothing 13 = .ok (.iastore, 1) := by decide +kernel
theorem dX12_tellsNothing_14 : decode cX12_tellsNothing 14 = .ok (.iinc 1 1, 3) := by decide +kernel
theorem dX12_tellsNothing_17 : decode cX12_tellsNothing 17 = .ok (.goto (-15), 3) := by decide +kernel
theorem dX12_tellsNothing_20 : decode cX12_tellsNothing 20 = .ok (.return_, 1) := by decide +kernel
theorem dX12_thrown_0 : decode cX12_thrown 0 = .ok (.aload_n 0, 1) := by decide +kernel
theorem dX12_thrown_1 : decode cX12_thrown 1 = .ok (.getfield 93, 3) := by decide +kernel
theorem dX12_thrown_4 : decode cX12_thrown 4 = .ok (.ireturn, 1) := by decide +kernel
theorem dX12_bad_0 : decode cX12_bad 0 = .ok (.iload_n 1, 1) := by decide +kernel
theorem dX12_bad_1 : decode cX12_bad 1 = .ok (.ifCond .eq 25, 3) := by decide +kernel
theorem dX12_bad_4 : decode cX12_bad 4 = .ok (.aload_n 0, 1) := by decide +kernel
theorem dX12_bad_5 : decode cX12_bad 5 = .ok (.getfield 93, 3) := by decide +kernel
theorem dX12_bad_8 : decode cX12_bad 8 = .ok (.ifCond .ne 18, 3) := by decide +kernel
theorem dX12_bad_11 : decode cX12_bad 11 = .ok (.aload_n 0, 1) := by decide +kernel
theorem dX12_bad_12 : decode cX12_bad 12 = .ok (.iload_n 2, 1) := by decide +kernel
theorem dX12_bad_13 : decode cX12_bad 13 = .ok (.putfield 93, 3) := by decide +kernel
theorem dX12_bad_16 : decode cX12_bad 16 = .ok (.aload_n 0, 1) := by decide +kernel
theorem dX12_bad_17 : decode cX12_bad 17 = .ok (.getfield 17, 3) := by decide +kernel
theorem dX12_bad_20 : decode cX12_bad 20 = .ok (.iload_n 3, 1) := by decide +kernel
theorem dX12_bad_21 : decode cX12_bad 21 = .ok (.dup2, 1) := by decide +kernel
theorem dX12_bad_22 : decode cX12_bad 22 = .ok (.iaload, 1) := by decide +kernel
theorem dX12_bad_23 : decode cX12_bad 23 = .ok (.iconst 1, 1) := by decide +kernel
theorem dX12_bad_24 : decode cX12_bad 24 = .ok (.iadd, 1) := by decide +kernel
theorem dX12_bad_25 : decode cX12_bad 25 = .ok (.iastore, 1) := by decide +kernel
theorem dX12_bad_26 : decode cX12_bad 26 = .ok (.aload_n 0, 1) := by decide +kernel
theorem dX12_bad_27 : decode cX12_bad 27 = .ok (.getfield 93, 3) := by decide +kernel
theorem dX12_bad_30 : decode cX12_bad 30 = .ok (.ifCond .eq 7, 3) := by decide +kernel
theorem dX12_bad_33 : decode cX12_bad 33 = .ok (.iconst 1, 1) := by decide +kernel
theorem dX12_bad_34 : decode cX12_bad 34 = .ok (.goto 4, 3) := by decide +kernel
theorem dX12_bad_37 : decode cX12_bad 37 = .ok (.iconst 0, 1) := by decide +kernel
theorem dX12_bad_38 : decode cX12_bad 38 = .ok (.ireturn, 1) := by decide +kernel
theorem dX12_in_0 : decode cX12_in 0 = .ok (.iload_n 0, 1) := by decide +kernel
theorem dX12_in_1 : decode cX12_in 1 = .ok (.iload_n 1, 1) := by decide +kernel
theorem dX12_in_2 : decode cX12_in 2 = .ok (.if_icmp .lt 12, 3) := by decide +kernel
theorem dX12_in_5 : decode cX12_in 5 = .ok (.iload_n 0, 1) := by decide +kernel
theorem dX12_in_6 : decode cX12_in 6 = .ok (.iload_n 2, 1) := by decide +kernel
theorem dX12_in_7 : decode cX12_in 7 = .ok (.if_icmp .gt 7, 3) := by decide +kernel
theorem dX12_in_10 : decode cX12_in 10 = .ok (.iconst 1, 1) := by decide +kernel
theorem dX12_in_11 : decode cX12_in 11 = .ok (.goto 4, 3) := by decide +kernel
theorem dX12_in_14 : decode cX12_in 14 = .ok (.iconst 0, 1) := by decide +kernel
theorem dX12_in_15 : decode cX12_in 15 = .ok (.ireturn, 1) := by decide +kernel
theorem dX12_less_0 : decode cX12_less 0 = .ok (.iload_n 0, 1) := by decide +kernel
theorem dX12_less_1 : decode cX12_less 1 = .ok (.iload_n 1, 1) := by decide +kernel
theorem dX12_less_2 : decode cX12_less 2 = .ok (.if_icmp .ge 7, 3) := by decide +kernel
theorem dX12_less_5 : decode cX12_less 5 = .ok (.iload_n 0, 1) := by decide +kernel
theorem dX12_less_6 : decode cX12_less 6 = .ok (.goto 4, 3) := by decide +kernel
theorem dX12_less_9 : decode cX12_less 9 = .ok (.iload_n 1, 1) := by decide +kernel
theorem dX12_less_10 : decode cX12_less 10 = .ok (.ireturn, 1) := by decide +kernel
theorem dX12_more2_0 : decode cX12_more2 0 = .ok (.iload_n 0, 1) := by decide +kernel
theorem dX12_more2_1 : decode cX12_more2 1 = .ok (.iload_n 1, 1) := by decide +kernel
theorem dX12_more2_2 : decode cX12_more2 2 = .ok (.if_icmp .le 7, 3) := by decide +kernel
theorem dX12_more2_5 : decode cX12_more2 5 = .ok (.iload_n 0, 1) := by decide +kernel
theorem dX12_more2_6 : decode cX12_more2 6 = .ok (.goto 4, 3) := by decide +kernel
theorem dX12_more2_9 : decode cX12_more2 9 = .ok (.iload_n 1, 1) := by decide +kernel
theorem dX12_more2_10 : decode cX12_more2 10 = .ok (.ireturn, 1) := by decide +kernel
theorem dX12_has_0 : decode cX12_has 0 = .ok (.iload_n 0, 1) := by decide +kernel
theorem dX12_has_1 : decode cX12_has 1 = .ok (.iload_n 1, 1) := by decide +kernel
theorem dX12_has_2 : decode cX12_has 2 = .ok (.ishr, 1) := by decide +kernel
theorem dX12_has_3 : decode cX12_has 3 = .ok (.iconst 1, 1) := by decide +kernel
theorem dX12_has_4 : decode cX12_has 4 = .ok (.iand, 1) := by decide +kernel
theorem dX12_has_5 : decode cX12_has 5 = .ok (.iconst 1, 1) := by decide +kernel
theorem dX12_has_6 : decode cX12_has 6 = .ok (.if_icmp .ne 7, 3) := by decide +kernel
theorem dX12_has_9 : decode cX12_has 9 = .ok (.iconst 1, 1) := by decide +kernel
theorem dX12_has_10 : decode cX12_has 10 = .ok (.goto 4, 3) := by decide +kernel
theorem dX12_has_13 : decode cX12_has 13 = .ok (.iconst 0, 1) := by decide +kernel
theorem dX12_has_14 : decode cX12_has 14 = .ok (.ireturn, 1) := by decide +kernel
theorem dX12_feed_0 : decode cX12_feed 0 = .ok (.aload_n 0, 1) := by decide +kernel
theorem dX12_feed_1 : decode cX12_feed 1 = .ok (.iconst 0, 1) := by decide +kernel
theorem dX12_feed_2 : decode cX12_feed 2 = .ok (.putfield 93, 3) := by decide +kernel
theorem dX12_feed_5 : decode cX12_feed 5 = .ok (.aload_n 0, 1) := by decide +kernel
theorem dX12_feed_6 : decode cX12_feed 6 = .ok (.getfield 96, 3) := by decide +kernel
theorem dX12_feed_9 : decode cX12_feed 9 = .ok (.bipush 20, 2) := by decide +kernel
theorem dX12_feed_11 : decode cX12_feed 11 = .ok (.iadd, 1) := by decide +kernel
theorem dX12_feed_12 : decode cX12_feed 12 = .ok (.sipush 600, 3) := by decide +kernel
theorem dX12_feed_15 : decode cX12_feed 15 = .ok (.if_icmp .le 5, 3) := by decide +kernel
theorem dX12_feed_18 : decode cX12_feed 18 = .ok (.iconst (-1), 1) := by decide +kernel
theorem dX12_feed_19 : decode cX12_feed 19 = .ok (.ireturn, 1) := by decide +kernel
theorem dX12_feed_20 : decode cX12_feed 20 = .ok (.iconst 0, 1) := by decide +kernel
theorem dX12_feed_21 : decode cX12_feed 21 = .ok (.istore 6, 2) := by decide +kernel
theorem dX12_feed_23 : decode cX12_feed 23 = .ok (.iload 6, 2) := by decide +kernel
theorem dX12_feed_25 : decode cX12_feed 25 = .ok (.bipush 20, 2) := by decide +kernel
theorem dX12_feed_27 : decode cX12_feed 27 = .ok (.if_icmp .ge 93, 3) := by decide +kernel
theorem dX12_feed_30 : decode cX12_feed 30 = .ok (.iload 6, 2) := by decide +kernel
theorem dX12_feed_32 : decode cX12_feed 32 = .ok (.iconst 4, 1) := by decide +kernel
theorem dX12_feed_33 : decode cX12_feed 33 = .ok (.if_icmp .ge 7, 3) := by decide +kernel
theorem dX12_feed_36 : decode cX12_feed 36 = .ok (.iload_n 1, 1) := by decide +kernel
theorem dX12_feed_37 : decode cX12_feed 37 = .ok (.goto 39, 3) := by decide +kernel
theorem dX12_feed_40 : decode cX12_feed 40 = .ok (.iload 6, 2) := by decide +kernel
theorem dX12_feed_42 : decode cX12_feed 42 = .ok (.bipush 8, 2) := by decide +kernel
theorem dX12_feed_44 : decode cX12_feed 44 = .ok (.if_icmp .ge 7, 3) := by decide +kernel
theorem dX12_feed_47 : decode cX12_feed 47 = .ok (.iload_n 2, 1) := by decide +kernel
theorem dX12_feed_48 : decode cX12_feed 48 = .ok (.goto 28, 3) := by decide +kernel
theorem dX12_feed_51 : decode cX12_feed 51 = .ok (.iload 6, 2) := by decide +kernel
theorem dX12_feed_53 : decode cX12_feed 53 = .ok (.bipush 12, 2) := by decide +kernel
theorem dX12_feed_55 : decode cX12_feed 55 = .ok (.if_icmp .ge 7, 3) := by decide +kernel
theorem dX12_feed_58 : decode cX12_feed 58 = .ok (.iload_n 3, 1) := by decide +kernel
theorem dX12_feed_59 : decode cX12_feed 59 = .ok (.goto 17, 3) := by decide +kernel
theorem dX12_feed_62 : decode cX12_feed 62 = .ok (.iload 6, 2) := by decide +kernel
theorem dX12_feed_64 : decode cX12_feed 64 = .ok (.bipush 16, 2) := by decide +kernel
theorem dX12_feed_66 : decode cX12_feed 66 = .ok (.if_icmp .ge 8, 3) := by decide +kernel
theorem dX12_feed_69 : decode cX12_feed 69 = .ok (.iload 4, 2) := by decide +kernel
theorem dX12_feed_71 : decode cX12_feed 71 = .ok (.goto 5, 3) := by decide +kernel
theorem dX12_feed_74 : decode cX12_feed 74 = .ok (.iload 5, 2) := by decide +kernel
theorem dX12_feed_76 : decode cX12_feed 76 = .ok (.istore 7, 2) := by decide +kernel
theorem dX12_feed_78 : decode cX12_feed 78 = .ok (.aload_n 0, 1) := by decide +kernel
theorem dX12_feed_79 : decode cX12_feed 79 = .ok (.getfield 13, 3) := by decide +kernel
theorem dX12_feed_82 : decode cX12_feed 82 = .ok (.aload_n 0, 1) := by decide +kernel
theorem dX12_feed_83 : decode cX12_feed 83 = .ok (.getfield 96, 3) := by decide +kernel
theorem dX12_feed_86 : decode cX12_feed 86 = .ok (.iload 7, 2) := by decide +kernel
theorem dX12_feed_88 : decode cX12_feed 88 = .ok (.bipush 24, 2) := by decide +kernel
theorem dX12_feed_90 : decode cX12_feed 90 = .ok (.bipush 8, 2) := by decide +kernel
theorem dX12_feed_92 : decode cX12_feed 92 = .ok (.iload 6, 2) := by decide +kernel
theorem dX12_feed_94 : decode cX12_feed 94 = .ok (.iconst 4, 1) := by decide +kernel
theorem dX12_feed_95 : decode cX12_feed 95 = .ok (.irem, 1) := by decide +kernel
theorem dX12_feed_96 : decode cX12_feed 96 = .ok (.imul, 1) := by decide +kernel
theorem dX12_feed_97 : decode cX12_feed 97 = .ok (.isub, 1) := by decide +kernel
theorem dX12_feed_98 : decode cX12_feed 98 = .ok (.ishr, 1) := by decide +kernel
theorem dX12_feed_99 : decode cX12_feed 99 = .ok (.sipush 255, 3) := by decide +kernel
theorem dX12_feed_102 : decode cX12_feed 102 = .ok (.iand, 1) := by decide +kernel
theorem dX12_feed_103 : decode cX12_feed 103 = .ok (.iastore, 1) := by decide +kernel
theorem dX12_feed_104 : decode cX12_feed 104 = .ok (.aload_n 0, 1) := by decide +kernel
theorem dX12_feed_105 : decode cX12_feed 105 = .ok (.dup, 1) := by decide +kernel
theorem dX12_feed_106 : decode cX12_feed 106 = .ok (.getfield 96, 3) := by decide +kernel
theorem dX12_feed_109 : decode cX12_feed 109 = .ok (.iconst 1, 1) := by decide +kernel
theorem dX12_feed_110 : decode cX12_feed 110 = .ok (.iadd, 1) := by decide +kernel
theorem dX12_feed_111 : decode cX12_feed 111 = .ok (.putfield 96, 3) := by decide +kernel
theorem dX12_feed_114 : decode cX12_feed 114 = .ok (.iinc 6 1, 3) := by decide +kernel
theorem dX12_feed_117 : decode cX12_feed 117 = .ok (.goto (-94), 3) := by decide +kernel
theorem dX12_feed_120 : decode cX12_feed 120 = .ok (.aload_n 0, 1) := by decide +kernel
theorem dX12_feed_121 : decode cX12_feed 121 = .ok (.getfield 96, 3) := by decide +kernel
theorem dX12_feed_124 : decode cX12_feed 124 = .ok (.ireturn, 1) := by decide +kernel
theorem dX12_byteAt_0 : decode cX12_byteAt 0 = .ok (.iload_n 1, 1) := by decide +kernel
theorem dX12_byteAt_1 : decode cX12_byteAt 1 = .ok (.aload_n 0, 1) := by decide +kernel
theorem dX12_byteAt_2 : decode cX12_byteAt 2 = .ok (.getfield 99, 3) := by decide +kernel
theorem dX12_byteAt_5 : decode cX12_byteAt 5 = .ok (.if_icmp .lt 7, 3) := by decide +kernel
theorem dX12_byteAt_8 : decode cX12_byteAt 8 = .ok (.iconst (-1), 1) := by decide +kernel
theorem dX12_byteAt_9 : decode cX12_byteAt 9 = .ok (.goto 9, 3) := by decide +kernel
theorem dX12_byteAt_12 : decode cX12_byteAt 12 = .ok (.aload_n 0, 1) := by decide +kernel
theorem dX12_byteAt_13 : decode cX12_byteAt 13 = .ok (.getfield 13, 3) := by decide +kernel
theorem dX12_byteAt_16 : decode cX12_byteAt 16 = .ok (.iload_n 1, 1) := by decide +kernel
theorem dX12_byteAt_17 : decode cX12_byteAt 17 = .ok (.iaload, 1) := by decide +kernel
theorem dX12_byteAt_18 : decode cX12_byteAt 18 = .ok (.ireturn, 1) := by decide +kernel
theorem dX12_blanks_0 : decode cX12_blanks 0 = .ok (.aload_n 0, 1) := by decide +kernel
theorem dX12_blanks_1 : decode cX12_blanks 1 = .ok (.aload_n 0, 1) := by decide +kernel
theorem dX12_blanks_2 : decode cX12_blanks 2 = .ok (.getfield 102, 3) := by decide +kernel
theorem dX12_blanks_5 : decode cX12_blanks 5 = .ok (.invokevirtual 105, 3) := by decide +kernel
theorem dX12_blanks_8 : decode cX12_blanks 8 = .ok (.bipush 32, 2) := by decide +kernel
theorem dX12_blanks_10 : decode cX12_blanks 10 = .ok (.if_icmp .ne 16, 3) := by decide +kernel
theorem dX12_blanks_13 : decode cX12_blanks 13 = .ok (.aload_n 0, 1) := by decide +kernel
theorem dX12_blanks_14 : decode cX12_blanks 14 = .ok (.dup, 1) := by decide +kernel
theorem dX12_blanks_15 : decode cX12_blanks 15 = .ok (.getfield 102, 3) := by decide +kernel
theorem dX12_blanks_18 : decode cX12_blanks 18 = .ok (.iconst 1, 1) := by decide +kernel
theorem dX12_blanks_19 : decode cX12_blanks 19 = .ok (.iadd, 1) := by decide +kernel
theorem dX12_blanks_20 : decode cX12_blanks 20 = .ok (.putfield 102, 3) := by decide +kernel
theorem dX12_blanks_23 : decode cX12_blanks 23 = .ok (.goto (-23), 3) := by decide +kernel
theorem dX12_blanks_26 : decode cX12_blanks 26 = .ok (.return_, 1) := by decide +kernel
theorem dX12_wrong_0 : decode cX12_wrong 0 = .ok (.aload_n 0, 1) := by decide +kernel
theorem dX12_wrong_1 : decode cX12_wrong 1 = .ok (.getfield 109, 3) := by decide +kernel
theorem dX12_wrong_4 : decode cX12_wrong 4 = .ok (.ifCond .ne 13, 3) := by decide +kernel
theorem dX12_wrong_7 : decode cX12_wrong 7 = .ok (.aload_n 0, 1) := by decide +kernel
theorem dX12_wrong_8 : decode cX12_wrong 8 = .ok (.iload_n 1, 1) := by decide +kernel
theorem dX12_wrong_9 : decode cX12_wrong 9 = .ok (.putfield 109, 3) := by decide +kernel
theorem dX12_wrong_12 : decode cX12_wrong 12 = .ok (.aload_n 0, 1) := by decide +kernel
theorem dX12_wrong_13 : decode cX12_wrong 13 = .ok (.iload_n 2, 1) := by decide +kernel
theorem dX12_wrong_14 : decode cX12_wrong 14 = .ok (.putfield 112, 3) := by decide +kernel
theorem dX12_wrong_17 : decode cX12_wrong 17 = .ok (.return_, 1) := by decide +kernel
theorem dX12_isDigit_0 : decode cX12_isDigit 0 = .ok (.iload_n 0, 1) := by decide +kernel
theorem dX12_isDigit_1 : decode cX12_isDigit 1 = .ok (.bipush 48, 2) := by decide +kernel
theorem dX12_isDigit_3 : decode cX12_isDigit 3 = .ok (.if_icmp .lt 13, 3) := by decide +kernel
theorem dX12_isDigit_6 : decode cX12_isDigit 6 = .ok (.iload_n 0, 1) := by decide +kernel
theorem dX12_isDigit_7 : decode cX12_isDigit 7 = .ok (.bipush 57, 2) := by decide +kernel
theorem dX12_isDigit_9 : decode cX12_isDigit 9 = .ok (.if_icmp .gt 7, 3) := by decide +kernel
theorem dX12_isDigit_12 : decode cX12_isDigit 12 = .ok (.iconst 1, 1) := by decide +kernel
theorem dX12_isDigit_13 : decode cX12_isDigit 13 = .ok (.goto 4, 3) := by decide +kernel
theorem dX12_isDigit_16 : decode cX12_isDigit 16 = .ok (.iconst 0, 1) := by decide +kernel
theorem dX12_isDigit_17 : decode cX12_isDigit 17 = .ok (.ireturn, 1) := by decide +kernel
theorem dX12_isSmall_0 : decode cX12_isSmall 0 = .ok (.iload_n 0, 1) := by decide +kernel
theorem dX12_isSmall_1 : decode cX12_isSmall 1 = .ok (.bipush 97, 2) := by decide +kernel
theorem dX12_isSmall_3 : decode cX12_isSmall 3 = .ok (.if_icmp .lt 13, 3) := by decide +kernel
theorem dX12_isSmall_6 : decode cX12_isSmall 6 = .ok (.iload_n 0, 1) := by decide +kernel
theorem dX12_isSmall_7 : decode cX12_isSmall 7 = .ok (.bipush 122, 2) := by decide +kernel
theorem dX12_isSmall_9 : decode cX12_isSmall 9 = .ok (.if_icmp .gt 7, 3) := by decide +kernel
theorem dX12_isSmall_12 : decode cX12_isSmall 12 = .ok (.iconst 1, 1) := by decide +kernel
theorem dX12_isSmall_13 : decode cX12_isSmall 13 = .ok (.goto 4, 3) := by decide +kernel
theorem dX12_isSmall_16 : decode cX12_isSmall 16 = .ok (.iconst 0, 1) := by decide +kernel
theorem dX12_isSmall_17 : decode cX12_isSmall 17 = .ok (.ireturn, 1) := by decide +kernel
theorem dX12_number_0 : decode cX12_number 0 = .ok (.aload_n 0, 1) := by decide +kernel
theorem dX12_number_1 : decode cX12_number 1 = .ok (.getfield 109, 3) := by decide +kernel
theorem dX12_number_4 : decode cX12_number 4 = .ok (.ifCond .eq 5, 3) := by decide +kernel
theorem dX12_number_7 : decode cX12_number 7 = .ok (.iconst 0, 1) := by decide +kernel
theorem dX12_number_8 : decode cX12_number 8 = .ok (.ireturn, 1) := by decide +kernel
theorem dX12_number_9 : decode cX12_number 9 = .ok (.aload_n 0, 1) := by decide +kernel
theorem dX12_number_10 : decode cX12_number 10 = .ok (.invokevirtual 115, 3) := by decide +kernel
theorem dX12_number_13 : decode cX12_number 13 = .ok (.aload_n 0, 1) := by decide +kernel
theorem dX12_number_14 : decode cX12_number 14 = .ok (.getfield 102, 3) := by decide +kernel
theorem dX12_number_17 : decode cX12_number 17 = .ok (.istore_n 3, 1) := by decide +kernel
theorem dX12_number_18 : decode cX12_number 18 = .ok (.iconst 0, 1) := by decide +kernel
theorem dX12_number_19 : decode cX12_number 19 = .ok (.istore 4, 2) := by decide +kernel
theorem dX12_number_21 : decode cX12_number 21 = .ok (.aload_n 0, 1) := by decide +kernel
theorem dX12_number_22 : decode cX12_number 22 = .ok (.aload_n 0, 1) := by decide +kernel
theorem dX12_number_23 : decode cX12_number 23 = .ok (.getfield 102, 3) := by decide +kernel
theorem dX12_number_26 : decode cX12_number 26 = .ok (.invokevirtual 105, 3) := by decide +kernel
theorem dX12_number_29 : decode cX12_number 29 = .ok (.invokestatic 118, 3) := by decide +kernel
theorem dX12_number_32 : decode cX12_number 32 = .ok (.ifCond .ne 12, 3) := by decide +kernel
theorem dX12_number_35 : decode cX12_number 35 = .ok (.aload_n 0, 1) := by decide +kernel
theorem dX12_number_36 : decode cX12_number 36 = .ok (.iconst 1, 1) := by decide +kernel
theorem dX12_number_37 : decode cX12_number 37 = .ok (.aload_n 0, 1) := by decide +kernel
theorem dX12_number_38 : decode cX12_number 38 = .ok (.getfield 102, 3) := by decide +kernel
theorem dX12_number_41 : decode cX12_number 41 = .ok (.invokevirtual 122, 3) := by decide +kernel
theorem dX12_number_44 : decode cX12_number 44 = .ok (.aload_n 0, 1) := by decide +kernel
theorem dX12_number_45 : decode cX12_number 45 = .ok (.aload_n 0, 1) := by decide +kernel
theorem dX12_number_46 : decode cX12_number 46 = .ok (.getfield 102, 3) := by decide +kernel
theorem dX12_number_49 : decode cX12_number 49 = .ok (.invokevirtual 105, 3) := by decide +kernel
theorem dX12_number_52 : decode cX12_number 52 = .ok (.invokestatic 118, 3) := by decide +kernel
theorem dX12_number_55 : decode cX12_number 55 = .ok (.ifCond .eq 51, 3) := by decide +kernel
theorem dX12_number_58 : decode cX12_number 58 = .ok (.bipush 10, 2) := by decide +kernel
theorem dX12_number_60 : decode cX12_number 60 = .ok (.iload 4, 2) := by decide +kernel
theorem dX12_number_62 : decode cX12_number 62 = .ok (.imul, 1) := by decide +kernel
theorem dX12_number_63 : decode cX12_number 63 = .ok (.aload_n 0, 1) := by decide +kernel
theorem dX12_number_64 : decode cX12_number 64 = .ok (.aload_n 0, 1) := by decide +kernel
theorem dX12_number_65 : decode cX12_number 65 = .ok (.getfield 102, 3) := by decide +kernel
theorem dX12_number_68 : decode cX12_number 68 = .ok (.invokevirtual 105, 3) := by decide +kernel
theorem dX12_number_71 : decode cX12_number 71 = .ok (.iadd, 1) := by decide +kernel
theorem dX12_number_72 : decode cX12_number 72 = .ok (.bipush 48, 2) := by decide +kernel
theorem dX12_number_74 : decode cX12_number 74 = .ok (.isub, 1) := by decide +kernel
theorem dX12_number_75 : decode cX12_number 75 = .ok (.istore 4, 2) := by decide +kernel
theorem dX12_number_77 : decode cX12_number 77 = .ok (.iload 4, 2) := by decide +kernel
theorem dX12_number_79 : decode cX12_number 79 = .ok (.ldc 126, 2) := by decide +kernel
theorem dX12_number_81 : decode cX12_number 81 = .ok (.if_icmp .le 8, 3) := by decide +kernel
theorem dX12_number_84 : decode cX12_number 84 = .ok (.ldc 126, 2) := by decide +kernel
theorem dX12_number_86 : decode cX12_number 86 = .ok (.goto 5, 3) := by decide +kernel
theorem dX12_number_89 : decode cX12_number 89 = .ok (.iload 4, 2) := by decide +kernel
theorem dX12_number_91 : decode cX12_number 91 = .ok (.istore 4, 2) := by decide +kernel
theorem dX12_number_93 : decode cX12_number 93 = .ok (.aload_n 0, 1) := by decide +kernel
theorem dX12_number_94 : decode cX12_number 94 = .ok (.dup, 1) := by decide +kernel
theorem dX12_number_95 : decode cX12_number 95 = .ok (.getfield 102, 3) := by decide +kernel
theorem dX12_number_98 : decode cX12_number 98 = .ok (.iconst 1, 1) := by decide +kernel
theorem dX12_number_99 : decode cX12_number 99 = .ok (.iadd, 1) := by decide +kernel
theorem dX12_number_100 : decode cX12_number 100 = .ok (.putfield 102, 3) := by decide +kernel
theorem dX12_number_103 : decode cX12_number 103 = .ok (.goto (-59), 3) := by decide +kernel
theorem dX12_number_106 : decode cX12_number 106 = .ok (.iload 4, 2) := by decide +kernel
theorem dX12_number_108 : decode cX12_number 108 = .ok (.iload_n 1, 1) := by decide +kernel
theorem dX12_number_109 : decode cX12_number 109 = .ok (.iload_n 2, 1) := by decide +kernel
theorem dX12_number_110 : decode cX12_number 110 = .ok (.invokestatic 127, 3) := by decide +kernel
theorem dX12_number_113 : decode cX12_number 113 = .ok (.ifCond .ne 9, 3) := by decide +kernel
theorem dX12_number_116 : decode cX12_number 116 = .ok (.aload_n 0, 1) := by decide +kernel
theorem dX12_number_117 : decode cX12_number 117 = .ok (.iconst 2, 1) := by decide +kernel
theorem dX12_number_118 : decode cX12_number 118 = .ok (.iload_n 3, 1) := by decide +kernel
theorem dX12_number_119 : decode cX12_number 119 = .ok (.invokevirtual 122, 3) := by decide +kernel
theorem dX12_number_122 : decode cX12_number 122 = .ok (.aload_n 0, 1) := by decide +kernel
theorem dX12_number_123 : decode cX12_number 123 = .ok (.getfield 109, 3) := by decide +kernel
theorem dX12_number_126 : decode cX12_number 126 = .ok (.ifCond .ne 8, 3) := by decide +kernel
theorem dX12_number_129 : decode cX12_number 129 = .ok (.iload 4, 2) := by decide +kernel
theorem dX12_number_131 : decode cX12_number 131 = .ok (.goto 4, 3) := by decide +kernel
theorem dX12_number_134 : decode cX12_number 134 = .ok (.iconst 0, 1) := by decide +kernel
theorem dX12_number_135 : decode cX12_number 135 = .ok (.ireturn, 1) := by decide +kernel
theorem dX12_wordHere_0 : decode cX12_wordHere 0 = .ok (.aload_n 0, 1) := by decide +kernel
theorem dX12_wordHere_1 : decode cX12_wordHere 1 = .ok (.invokevirtual 115, 3) := by decide +kernel
theorem dX12_wordHere_4 : decode cX12_wordHere 4 = .ok (.iconst 0, 1) := by decide +kernel
theorem dX12_wordHere_5 : decode cX12_wordHere 5 = .ok (.istore_n 1, 1) := by decide +kernel
theorem dX12_wordHere_6 : decode cX12_wordHere 6 = .ok (.iconst 0, 1) := by decide +kernel
theorem dX12_wordHere_7 : decode cX12_wordHere 7 = .ok (.istore_n 2, 1) := by decide +kernel
theorem dX12_wordHere_8 : decode cX12_wordHere 8 = .ok (.aload_n 0, 1) := by decide +kernel
theorem dX12_wordHere_9 : decode cX12_wordHere 9 = .ok (.aload_n 0, 1) := by decide +kernel
theorem dX12_wordHere_10 : decode cX12_wordHere 10 = .ok (.getfield 102, 3) := by decide +kernel
theorem dX12_wordHere_13 : decode cX12_wordHere 13 = .ok (.iload_n 2, 1) := by decide +kernel
theorem dX12_wordHere_14 : decode cX12_wordHere 14 = .ok (.iadd, 1) := by decide +kernel
theorem dX12_wordHere_15 : decode cX12_wordHere 15 = .ok (.invokevirtual 105, 3) := by decide +kernel
theorem dX12_wordHere_18 : decode cX12_wordHere 18 = .ok (.invokestatic 131, 3) := by decide +kernel
theorem dX12_wordHere_21 : decode cX12_wordHere 21 = .ok (.ifCond .eq 40, 3) := by decide +kernel
theorem dX12_wordHere_24 : decode cX12_wordHere 24 = .ok (.iload_n 2, 1) := by decide +kernel
theorem dX12_wordHere_25 : decode cX12_wordHere 25 = .ok (.bipush 6, 2) := by decide +kernel
theorem dX12_wordHere_27 : decode cX12_wordHere 27 = .ok (.if_icmp .ge 26, 3) := by decide +kernel
theorem dX12_wordHere_30 : decode cX12_wordHere 30 = .ok (.bipush 27, 2) := by decide +kernel
theorem dX12_wordHere_32 : decode cX12_wordHere 32 = .ok (.iload_n 1, 1) := by decide +kernel
theorem dX12_wordHere_33 : decode cX12_wordHere 33 = .ok (.imul, 1) := by decide +kernel
theorem dX12_wordHere_34 : decode cX12_wordHere 34 = .ok (.aload_n 0, 1) := by decide +kernel
theorem dX12_wordHere_35 : decode cX12_wordHere 35 = .ok (.aload_n 0, 1) := by decide +kernel
theorem dX12_wordHere_36 : decode cX12_wordHere 36 = .ok (.getfield 102, 3) := by decide +kernel
theorem dX12_wordHere_39 : decode cX12_wordHere 39 = .ok (.iload_n 2, 1) := by decide +kernel
theorem dX12_wordHere_40 : decode cX12_wordHere 40 = .ok (.iadd, 1) := by decide +kernel
theorem dX12_wordHere_41 : decode cX12_wordHere 41 = .ok (.invokevirtual 105, 3) := by decide +kernel
theorem dX12_wordHere_44 : decode cX12_wordHere 44 = .ok (.iadd, 1) := by decide +kernel
theorem dX12_wordHere_45 : decode cX12_wordHere 45 = .ok (.bipush 97, 2) := by decide +kernel
theorem dX12_wordHere_47 : decode cX12_wordHere 47 = .ok (.isub, 1) := by decide +kernel
theorem dX12_wordHere_48 : decode cX12_wordHere 48 = .ok (.iconst 1, 1) := by decide +kernel
theorem dX12_wordHere_49 : decode cX12_wordHere 49 = .ok (.iadd, 1) := by decide +kernel
theorem dX12_wordHere_50 : decode cX12_wordHere 50 = .ok (.goto 4, 3) := by decide +kernel
theorem dX12_wordHere_53 : decode cX12_wordHere 53 = .ok (.iload_n 1, 1) := by decide +kernel
theorem dX12_wordHere_54 : decode cX12_wordHere 54 = .ok (.istore_n 1, 1) := by decide +kernel
theorem dX12_wordHere_55 : decode cX12_wordHere 55 = .ok (.iinc 2 1, 3) := by decide +kernel
theorem dX12_wordHere_58 : decode cX12_wordHere 58 = .ok (.goto (-50), 3) := by decide +kernel
theorem dX12_wordHere_61 : decode cX12_wordHere 61 = .ok (.iload_n 2, 1) := by decide +kernel
theorem dX12_wordHere_62 : decode cX12_wordHere 62 = .ok (.bipush 6, 2) := by decide +kernel
theorem dX12_wordHere_64 : decode cX12_wordHere 64 = .ok (.if_icmp .le 7, 3) := by decide +kernel
theorem dX12_wordHere_67 : decode cX12_wordHere 67 = .ok (.iconst (-1), 1) := by decide +kernel
theorem dX12_wordHere_68 : decode cX12_wordHere 68 = .ok (.goto 4, 3) := by decide +kernel
theorem dX12_wordHere_71 : decode cX12_wordHere 71 = .ok (.iload_n 1, 1) := by decide +kernel
theorem dX12_wordHere_72 : decode cX12_wordHere 72 = .ok (.ireturn, 1) := by decide +kernel
theorem dX12_six_0 : decode cX12_six 0 = .ok (.bipush 27, 2) := by decide +kernel
theorem dX12_six_2 : decode cX12_six 2 = .ok (.bipush 27, 2) := by decide +kernel
theorem dX12_six_4 : decode cX12_six 4 = .ok (.iload_n 0, 1) := by decide +kernel
theorem dX12_six_5 : decode cX12_six 5 = .ok (.imul, 1) := by decide +kernel
theorem dX12_six_6 : decode cX12_six 6 = .ok (.iload_n 1, 1) := by decide +kernel
theorem dX12_six_7 : decode cX12_six 7 = .ok (.iadd, 1) := by decide +kernel
theorem dX12_six_8 : decode cX12_six 8 = .ok (.imul, 1) := by decide +kernel
theorem dX12_six_9 : decode cX12_six 9 = .ok (.iload_n 2, 1) := by decide +kernel
theorem dX12_six_10 : decode cX12_six 10 = .ok (.iadd, 1) := by decide +kernel
theorem dX12_six_11 : decode cX12_six 11 = .ok (.istore 6, 2) := by decide +kernel
theorem dX12_six_13 : decode cX12_six 13 = .ok (.iload_n 3, 1) := by decide +kernel
theorem dX12_six_14 : decode cX12_six 14 = .ok (.ifCond .ne 8, 3) := by decide +kernel
theorem dX12_six_17 : decode cX12_six 17 = .ok (.iload 6, 2) := by decide +kernel
theorem dX12_six_19 : decode cX12_six 19 = .ok (.goto 10, 3) := by decide +kernel
theorem dX12_six_22 : decode cX12_six 22 = .ok (.bipush 27, 2) := by decide +kernel
theorem dX12_six_24 : decode cX12_six 24 = .ok (.iload 6, 2) := by decide +kernel
theorem dX12_six_26 : decode cX12_six 26 = .ok (.imul, 1) := by decide +kernel
theorem dX12_six_27 : decode cX12_six 27 = .ok (.iload_n 3, 1) := by decide +kernel
theorem dX12_six_28 : decode cX12_six 28 = .ok (.iadd, 1) := by decide +kernel
theorem dX12_six_29 : decode cX12_six 29 = .ok (.istore 6, 2) := by decide +kernel
theorem dX12_six_31 : decode cX12_six 31 = .ok (.iload 4, 2) := by decide +kernel
theorem dX12_six_33 : decode cX12_six 33 = .ok (.ifCond .ne 8, 3) := by decide +kernel
theorem dX12_six_36 : decode cX12_six 36 = .ok (.iload 6, 2) := by decide +kernel
theorem dX12_six_38 : decode cX12_six 38 = .ok (.goto 11, 3) := by decide +kernel
theorem dX12_six_41 : decode cX12_six 41 = .ok (.bipush 27, 2) := by decide +kernel
theorem dX12_six_43 : decode cX12_six 43 = .ok (.iload 6, 2) := by decide +kernel
theorem dX12_six_45 : decode cX12_six 45 = .ok (.imul, 1) := by decide +kernel
theorem dX12_six_46 : decode cX12_six 46 = .ok (.iload 4, 2) := by decide +kernel
theorem dX12_six_48 : decode cX12_six 48 = .ok (.iadd, 1) := by decide +kernel
theorem dX12_six_49 : decode cX12_six 49 = .ok (.istore 6, 2) := by decide +kernel
theorem dX12_six_51 : decode cX12_six 51 = .ok (.iload 5, 2) := by decide +kernel
theorem dX12_six_53 : decode cX12_six 53 = .ok (.ifCond .ne 8, 3) := by decide +kernel
theorem dX12_six_56 : decode cX12_six 56 = .ok (.iload 6, 2) := by decide +kernel
theorem dX12_six_58 : decode cX12_six 58 = .ok (.goto 11, 3) := by decide +kernel
theorem dX12_six_61 : decode cX12_six 61 = .ok (.bipush 27, 2) := by decide +kernel
theorem dX12_six_63 : decode cX12_six 63 = .ok (.iload 6, 2) := by decide +kernel
theorem dX12_six_65 : decode cX12_six 65 = .ok (.imul, 1) := by decide +kernel
theorem dX12_six_66 : decode cX12_six 66 = .ok (.iload 5, 2) := by decide +kernel
theorem dX12_six_68 : decode cX12_six 68 = .ok (.iadd, 1) := by decide +kernel
theorem dX12_six_69 : decode cX12_six 69 = .ok (.ireturn, 1) := by decide +kernel
theorem dX12_isWord_0 : decode cX12_isWord 0 = .ok (.aload_n 0, 1) := by decide +kernel
theorem dX12_isWord_1 : decode cX12_isWord 1 = .ok (.getfield 109, 3) := by decide +kernel
theorem dX12_isWord_4 : decode cX12_isWord 4 = .ok (.ifCond .ne 26, 3) := by decide +kernel
theorem dX12_isWord_7 : decode cX12_isWord 7 = .ok (.aload_n 0, 1) := by decide +kernel
theorem dX12_isWord_8 : decode cX12_isWord 8 = .ok (.invokevirtual 134, 3) := by decide +kernel
theorem dX12_isWord_11 : decode cX12_isWord 11 = .ok (.iload_n 1, 1) := by decide +kernel
theorem dX12_isWord_12 : decode cX12_isWord 12 = .ok (.iload_n 2, 1) := by decide +kernel
theorem dX12_isWord_13 : decode cX12_isWord 13 = .ok (.iload_n 3, 1) := by decide +kernel
theorem dX12_isWord_14 : decode cX12_isWord 14 = .ok (.iload 4, 2) := by decide +kernel
theorem dX12_isWord_16 : decode cX12_isWord 16 = .ok (.iload 5, 2) := by decide +kernel
theorem dX12_isWord_18 : decode cX12_isWord 18 = .ok (.iload 6, 2) := by decide +kernel
theorem dX12_isWord_20 : decode cX12_isWord 20 = .ok (.invokestatic 138, 3) := by decide +kernel
theorem dX12_isWord_23 : decode cX12_isWord 23 = .ok (.if_icmp .ne 7, 3) := by decide +kernel
theorem dX12_isWord_26 : decode cX12_isWord 26 = .ok (.iconst 1, 1) := by decide +kernel
theorem dX12_isWord_27 : decode cX12_isWord 27 = .ok (.goto 4, 3) := by decide +kernel
theorem dX12_isWord_30 : decode cX12_isWord 30 = .ok (.iconst 0, 1) := by decide +kernel
theorem dX12_isWord_31 : decode cX12_isWord 31 = .ok (.ireturn, 1) := by decide +kernel
theorem dX12_skipWord_0 : decode cX12_skipWord 0 = .ok (.aload_n 0, 1) := by decide +kernel
theorem dX12_skipWord_1 : decode cX12_skipWord 1 = .ok (.aload_n 0, 1) := by decide +kernel
theorem dX12_skipWord_2 : decode cX12_skipWord 2 = .ok (.getfield 102, 3) := by decide +kernel
theorem dX12_skipWord_5 : decode cX12_skipWord 5 = .ok (.invokevirtual 105, 3) := by decide +kernel
theorem dX12_skipWord_8 : decode cX12_skipWord 8 = .ok (.invokestatic 131, 3) := by decide +kernel
theorem dX12_skipWord_11 : decode cX12_skipWord 11 = .ok (.ifCond .eq 16, 3) := by decide +kernel
theorem dX12_skipWord_14 : decode cX12_skipWord 14 = .ok (.aload_n 0, 1) := by decide +kernel
theorem dX12_skipWord_15 : decode cX12_skipWord 15 = .ok (.dup, 1) := by decide +kernel
theorem dX12_skipWord_16 : decode cX12_skipWord 16 = .ok (.getfield 102, 3) := by decide +kernel
theorem dX12_skipWord_19 : decode cX12_skipWord 19 = .ok (.iconst 1, 1) := by decide +kernel
theorem dX12_skipWord_20 : decode cX12_skipWord 20 = .ok (.iadd, 1) := by decide +kernel
theorem dX12_skipWord_21 : decode cX12_skipWord 21 = .ok (.putfield 102, 3) := by decide +kernel
theorem dX12_skipWord_24 : decode cX12_skipWord 24 = .ok (.goto (-24), 3) := by decide +kernel
theorem dX12_skipWord_27 : decode cX12_skipWord 27 = .ok (.return_, 1) := by decide +kernel
theorem dX12_takes_0 : decode cX12_takes 0 = .ok (.aload_n 0, 1) := by decide +kernel
theorem dX12_takes_1 : decode cX12_takes 1 = .ok (.iload_n 1, 1) := by decide +kernel
theorem dX12_takes_2 : decode cX12_takes 2 = .ok (.iload_n 2, 1) := by decide +kernel
theorem dX12_takes_3 : decode cX12_takes 3 = .ok (.iload_n 3, 1) := by decide +kernel
theorem dX12_takes_4 : decode cX12_takes 4 = .ok (.iload 4, 2) := by decide +kernel
theorem dX12_takes_6 : decode cX12_takes 6 = .ok (.iload 5, 2) := by decide +kernel
theorem dX12_takes_8 : decode cX12_takes 8 = .ok (.iload 6, 2) := by decide +kernel
theorem dX12_takes_10 : decode cX12_takes 10 = .ok (.invokevirtual 142, 3) := by decide +kernel
theorem dX12_takes_13 : decode cX12_takes 13 = .ok (.istore 7, 2) := by decide +kernel
theorem dX12_takes_15 : decode cX12_takes 15 = .ok (.iload 7, 2) := by decide +kernel
theorem dX12_takes_17 : decode cX12_takes 17 = .ok (.ifCond .eq 7, 3) := by decide +kernel
theorem dX12_takes_20 : decode cX12_takes 20 = .ok (.aload_n 0, 1) := by decide +kernel
theorem dX12_takes_21 : decode cX12_takes 21 = .ok (.invokevirtual 146, 3) := by decide +kernel
theorem dX12_takes_24 : decode cX12_takes 24 = .ok (.iload 7, 2) := by decide +kernel
theorem dX12_takes_26 : decode cX12_takes 26 = .ok (.ireturn, 1) := by decide +kernel
theorem dX12_sign_0 : decode cX12_sign 0 = .ok (.aload_n 0, 1) := by decide +kernel
theorem dX12_sign_1 : decode cX12_sign 1 = .ok (.getfield 109, 3) := by decide +kernel
theorem dX12_sign_4 : decode cX12_sign 4 = .ok (.ifCond .eq 4, 3) := by decide +kernel
theorem dX12_sign_7 : decode cX12_sign 7 = .ok (.return_, 1) := by decide +kernel
theorem dX12_sign_8 : decode cX12_sign 8 = .ok (.aload_n 0, 1) := by decide +kernel
theorem dX12_sign_9 : decode cX12_sign 9 = .ok (.invokevirtual 115, 3) := by decide +kernel
theorem dX12_sign_12 : decode cX12_sign 12 = .ok (.aload_n 0, 1) := by decide +kernel
theorem dX12_sign_13 : decode cX12_sign 13 = .ok (.aload_n 0, 1) := by decide +kernel
theorem dX12_sign_14 : decode cX12_sign 14 = .ok (.getfield 102, 3) := by decide +kernel
theorem dX12_sign_17 : decode cX12_sign 17 = .ok (.invokevirtual 105, 3) := by decide +kernel
theorem dX12_sign_20 : decode cX12_sign 20 = .ok (.iload_n 1, 1) := by decide +kernel
theorem dX12_sign_21 : decode cX12_sign 21 = .ok (.if_icmp .ne 16, 3) := by decide +kernel
theorem dX12_sign_24 : decode cX12_sign 24 = .ok (.aload_n 0, 1) := by decide +kernel
theorem dX12_sign_25 : decode cX12_sign 25 = .ok (.dup, 1) := by decide +kernel
theorem dX12_sign_26 : decode cX12_sign 26 = .ok (.getfield 102, 3) := by decide +kernel
theorem dX12_sign_29 : decode cX12_sign 29 = .ok (.iconst 1, 1) := by decide +kernel
theorem dX12_sign_30 : decode cX12_sign 30 = .ok (.iadd, 1) := by decide +kernel
theorem dX12_sign_31 : decode cX12_sign 31 = .ok (.putfield 102, 3) := by decide +kernel
theorem dX12_sign_34 : decode cX12_sign 34 = .ok (.goto 12, 3) := by decide +kernel
theorem dX12_sign_37 : decode cX12_sign 37 = .ok (.aload_n 0, 1) := by decide +kernel
theorem dX12_sign_38 : decode cX12_sign 38 = .ok (.iconst 1, 1) := by decide +kernel
theorem dX12_sign_39 : decode cX12_sign 39 = .ok (.aload_n 0, 1) := by decide +kernel
theorem dX12_sign_40 : decode cX12_sign 40 = .ok (.getfield 102, 3) := by decide +kernel
theorem dX12_sign_43 : decode cX12_sign 43 = .ok (.invokevirtual 122, 3) := by decide +kernel
theorem dX12_sign_46 : decode cX12_sign 46 = .ok (.return_, 1) := by decide +kernel
theorem dX12_takesSign_0 : decode cX12_takesSign 0 = .ok (.aload_n 0, 1) := by decide +kernel
theorem dX12_takesSign_1 : decode cX12_takesSign 1 = .ok (.getfield 109, 3) := by decide +kernel
theorem dX12_takesSign_4 : decode cX12_takesSign 4 = .ok (.ifCond .eq 5, 3) := by decide +kernel
theorem dX12_takesSign_7 : decode cX12_takesSign 7 = .ok (.iconst 0, 1) := by decide +kernel
theorem dX12_takesSign_8 : decode cX12_takesSign 8 = .ok (.ireturn, 1) := by decide +kernel
theorem dX12_takesSign_9 : decode cX12_takesSign 9 = .ok (.aload_n 0, 1) := by decide +kernel
theorem dX12_takesSign_10 : decode cX12_takesSign 10 = .ok (.invokevirtual 115, 3) := by decide +kernel
theorem dX12_takesSign_13 : decode cX12_takesSign 13 = .ok (.aload_n 0, 1) := by decide +kernel
theorem dX12_takesSign_14 : decode cX12_takesSign 14 = .ok (.aload_n 0, 1) := by decide +kernel
theorem dX12_takesSign_15 : decode cX12_takesSign 15 = .ok (.getfield 102, 3) := by decide +kernel
theorem dX12_takesSign_18 : decode cX12_takesSign 18 = .ok (.invokevirtual 105, 3) := by decide +kernel
theorem dX12_takesSign_21 : decode cX12_takesSign 21 = .ok (.iload_n 1, 1) := by decide +kernel
theorem dX12_takesSign_22 : decode cX12_takesSign 22 = .ok (.if_icmp .ne 7, 3) := by decide +kernel
theorem dX12_takesSign_25 : decode cX12_takesSign 25 = .ok (.iconst 1, 1) := by decide +kernel
theorem dX12_takesSign_26 : decode cX12_takesSign 26 = .ok (.goto 4, 3) := by decide +kernel
theorem dX12_takesSign_29 : decode cX12_takesSign 29 = .ok (.iconst 0, 1) := by decide +kernel
theorem dX12_takesSign_30 : decode cX12_takesSign 30 = .ok (.istore_n 2, 1) := by decide +kernel
theorem dX12_takesSign_31 : decode cX12_takesSign 31 = .ok (.iload_n 2, 1) := by decide +kernel
theorem dX12_takesSign_32 : decode cX12_takesSign 32 = .ok (.ifCond .eq 13, 3) := by decide +kernel
theorem dX12_takesSign_35 : decode cX12_takesSign 35 = .ok (.aload_n 0, 1) := by decide +kernel
theorem dX12_takesSign_36 : decode cX12_takesSign 36 = .ok (.dup, 1) := by decide +kernel
theorem dX12_takesSign_37 : decode cX12_takesSign 37 = .ok (.getfield 102, 3) := by decide +kernel
theorem dX12_takesSign_40 : decode cX12_takesSign 40 = .ok (.iconst 1, 1) := by decide +kernel
theorem dX12_takesSign_41 : decode cX12_takesSign 41 = .ok (.iadd, 1) := by decide +kernel
theorem dX12_takesSign_42 : decode cX12_takesSign 42 = .ok (.putfield 102, 3) := by decide +kernel
theorem dX12_takesSign_45 : decode cX12_takesSign 45 = .ok (.iload_n 2, 1) := by decide +kernel
theorem dX12_takesSign_46 : decode cX12_takesSign 46 = .ok (.ireturn, 1) := by decide +kernel
theorem dX12_starts_0 : decode cX12_starts 0 = .ok (.aload_n 0, 1) := by decide +kernel
theorem dX12_starts_1 : decode cX12_starts 1 = .ok (.iconst 0, 1) := by decide +kernel
theorem dX12_starts_2 : decode cX12_starts 2 = .ok (.putfield 96, 3) := by decide +kernel
theorem dX12_starts_5 : decode cX12_starts 5 = .ok (.aload_n 0, 1) := by decide +kernel
theorem dX12_starts_6 : decode cX12_starts 6 = .ok (.iload_n 1, 1) := by decide +kernel
theorem dX12_starts_7 : decode cX12_starts 7 = .ok (.putfield 99, 3) := by decide +kernel
theorem dX12_starts_10 : decode cX12_starts 10 = .ok (.aload_n 0, 1) := by decide +kernel
theorem dX12_starts_11 : decode cX12_starts 11 = .ok (.iconst 0, 1) := by decide +kernel
theorem dX12_starts_12 : decode cX12_starts 12 = .ok (.putfield 102, 3) := by decide +kernel
theorem dX12_starts_15 : decode cX12_starts 15 = .ok (.aload_n 0, 1) := by decide +kernel
theorem dX12_starts_16 : decode cX12_starts 16 = .ok (.iconst 0, 1) := by decide +kernel
theorem dX12_starts_17 : decode cX12_starts 17 = .ok (.putfield 109, 3) := by decide +kernel
theorem dX12_starts_20 : decode cX12_starts 20 = .ok (.aload_n 0, 1) := by decide +kernel
theorem dX12_starts_21 : decode cX12_starts 21 = .ok (.iconst (-1), 1) := by decide +kernel
theorem dX12_starts_22 : decode cX12_starts 22 = .ok (.putfield 112, 3) := by decide +kernel
theorem dX12_starts_25 : decode cX12_starts 25 = .ok (.aload_n 0, 1) := by decide +kernel
theorem dX12_starts_26 : decode cX12_starts 26 = .ok (.iconst 0, 1) := by decide +kernel
theorem dX12_starts_27 : decode cX12_starts 27 = .ok (.putfield 149, 3) := by decide +kernel
theorem dX12_starts_30 : decode cX12_starts 30 = .ok (.aload_n 0, 1) := by decide +kernel
theorem dX12_starts_31 : decode cX12_starts 31 = .ok (.iconst 0, 1) := by decide +kernel
theorem dX12_starts_32 : decode cX12_starts 32 = .ok (.putfield 152, 3) := by decide +kernel
theorem dX12_starts_35 : decode cX12_starts 35 = .ok (.aload_n 0, 1) := by decide +kernel
theorem dX12_starts_36 : decode cX12_starts 36 = .ok (.invokevirtual 115, 3) := by decide +kernel
theorem dX12_starts_39 : decode cX12_starts 39 = .ok (.return_, 1) := by decide +kernel
theorem dX12_ends_0 : decode cX12_ends 0 = .ok (.aload_n 0, 1) := by decide +kernel
theorem dX12_ends_1 : decode cX12_ends 1 = .ok (.aload_n 0, 1) := by decide +kernel
theorem dX12_ends_2 : decode cX12_ends 2 = .ok (.getfield 112, 3) := by decide +kernel
theorem dX12_ends_5 : decode cX12_ends 5 = .ok (.putfield 9, 3) := by decide +kernel
theorem dX12_ends_8 : decode cX12_ends 8 = .ok (.aload_n 0, 1) := by decide +kernel
theorem dX12_ends_9 : decode cX12_ends 9 = .ok (.getfield 109, 3) := by decide +kernel
theorem dX12_ends_12 : decode cX12_ends 12 = .ok (.bipush 10, 2) := by decide +kernel
theorem dX12_ends_14 : decode cX12_ends 14 = .ok (.isub, 1) := by decide +kernel
theorem dX12_ends_15 : decode cX12_ends 15 = .ok (.ireturn, 1) := by decide +kernel
theorem dX12_kindHere_0 : decode cX12_kindHere 0 = .ok (.aload_n 0, 1) := by decide +kernel
theorem dX12_kindHere_1 : decode cX12_kindHere 1 = .ok (.bipush 18, 2) := by decide +kernel
theorem dX12_kindHere_3 : decode cX12_kindHere 3 = .ok (.bipush 15, 2) := by decide +kernel
theorem dX12_kindHere_5 : decode cX12_kindHere 5 = .ok (.bipush 15, 2) := by decide +kernel
theorem dX12_kindHere_7 : decode cX12_kindHere 7 = .ok (.bipush 13, 2) := by decide +kernel
theorem dX12_kindHere_9 : decode cX12_kindHere 9 = .ok (.iconst 0, 1) := by decide +kernel
theorem dX12_kindHere_10 : decode cX12_kindHere 10 = .ok (.iconst 0, 1) := by decide +kernel
theorem dX12_kindHere_11 : decode cX12_kindHere 11 = .ok (.invokevirtual 142, 3) := by decide +kernel
theorem dX12_kindHere_14 : decode cX12_kindHere 14 = .ok (.ifCond .eq 5, 3) := by decide +kernel
theorem dX12_kindHere_17 : decode cX12_kindHere 17 = .ok (.iconst 0, 1) := by decide +kernel
theorem dX12_kindHere_18 : decode cX12_kindHere 18 = .ok (.ireturn, 1) := by decide +kernel
theorem dX12_kindHere_19 : decode cX12_kindHere 19 = .ok (.aload_n 0, 1) := by decide +kernel
theorem dX12_kindHere_20 : decode cX12_kindHere 20 = .ok (.bipush 23, 2) := by decide +kernel
theorem dX12_kindHere_22 : decode cX12_kindHere 22 = .ok (.iconst 1, 1) := by decide +kernel
theorem dX12_kindHere_23 : decode cX12_kindHere 23 = .ok (.bipush 25, 2) := by decide +kernel
theorem dX12_kindHere_25 : decode cX12_kindHere 25 = .ok (.iconst 0, 1) := by decide +kernel
theorem dX12_kindHere_26 : decode cX12_kindHere 26 = .ok (.iconst 0, 1) := by decide +kernel
theorem dX12_kindHere_27 : decode cX12_kindHere 27 = .ok (.iconst 0, 1) := by decide +kernel
theorem dX12_kindHere_28 : decode cX12_kindHere 28 = .ok (.invokevirtual 142, 3) := by decide +kernel
theorem dX12_kindHere_31 : decode cX12_kindHere 31 = .ok (.ifCond .eq 5, 3) := by decide +kernel
theorem dX12_kindHere_34 : decode cX12_kindHere 34 = .ok (.iconst 1, 1) := by decide +kernel
theorem dX12_kindHere_35 : decode cX12_kindHere 35 = .ok (.ireturn, 1) := by decide +kernel
theorem dX12_kindHere_36 : decode cX12_kindHere 36 = .ok (.aload_n 0, 1) := by decide +kernel
theorem dX12_kindHere_37 : decode cX12_kindHere 37 = .ok (.bipush 19, 2) := by decide +kernel
theorem dX12_kindHere_39 : decode cX12_kindHere 39 = .ok (.iconst 3, 1) := by decide +kernel
theorem dX12_kindHere_40 : decode cX12_kindHere 40 = .ok (.bipush 8, 2) := by decide +kernel
theorem dX12_kindHere_42 : decode cX12_kindHere 42 = .ok (.iconst 5, 1) := by decide +kernel
theorem dX12_kindHere_43 : decode cX12_kindHere 43 = .ok (.bipush 13, 2) := by decide +kernel
theorem dX12_kindHere_45 : decode cX12_kindHere 45 = .ok (.iconst 5, 1) := by decide +kernel
theorem dX12_kindHere_46 : decode cX12_kindHere 46 = .ok (.invokevirtual 142, 3) := by decide +kernel
theorem dX12_kindHere_49 : decode cX12_kindHere 49 = .ok (.ifCond .eq 5, 3) := by decide +kernel
theorem dX12_kindHere_52 : decode cX12_kindHere 52 = .ok (.iconst 2, 1) := by decide +kernel
theorem dX12_kindHere_53 : decode cX12_kindHere 53 = .ok (.ireturn, 1) := by decide +kernel
theorem dX12_kindHere_54 : decode cX12_kindHere 54 = .ok (.aload_n 0, 1) := by decide +kernel
theorem dX12_kindHere_55 : decode cX12_kindHere 55 = .ok (.iconst 3, 1) := by decide +kernel
theorem dX12_kindHere_56 : decode cX12_kindHere 56 = .ok (.iconst 1, 1) := by decide +kernel
theorem dX12_kindHere_57 : decode cX12_kindHere 57 = .ok (.bipush 20, 2) := by decide +kernel
theorem dX12_kindHere_59 : decode cX12_kindHere 59 = .ok (.iconst 0, 1) := by decide +kernel
theorem dX12_kindHere_60 : decode cX12_kindHere 60 = .ok (.iconst 0, 1) := by decide +kernel
theorem dX12_kindHere_61 : decode cX12_kindHere 61 = .ok (.iconst 0, 1) := by decide +kernel
theorem dX12_kindHere_62 : decode cX12_kindHere 62 = .ok (.invokevirtual 142, 3) := by decide +kernel
theorem dX12_kindHere_65 : decode cX12_kindHere 65 = .ok (.ifCond .eq 7, 3) := by decide +kernel
theorem dX12_kindHere_68 : decode cX12_kindHere 68 = .ok (.iconst 3, 1) := by decide +kernel
theorem dX12_kindHere_69 : decode cX12_kindHere 69 = .ok (.goto 4, 3) := by decide +kernel
theorem dX12_kindHere_72 : decode cX12_kindHere 72 = .ok (.iconst (-1), 1) := by decide +kernel
theorem dX12_kindHere_73 : decode cX12_kindHere 73 = .ok (.ireturn, 1) := by decide +kernel
theorem dX12_mostOf_0 : decode cX12_mostOf 0 = .ok (.iload_n 0, 1) := by decide +kernel
theorem dX12_mostOf_1 : decode cX12_mostOf 1 = .ok (.iconst 1, 1) := by decide +kernel
theorem dX12_mostOf_2 : decode cX12_mostOf 2 = .ok (.if_icmp .ne 8, 3) := by decide +kernel
theorem dX12_mostOf_5 : decode cX12_mostOf 5 = .ok (.bipush 12, 2) := by decide +kernel
theorem dX12_mostOf_7 : decode cX12_mostOf 7 = .ok (.goto 14, 3) := by decide +kernel
theorem dX12_mostOf_10 : decode cX12_mostOf 10 = .ok (.iload_n 0, 1) := by decide +kernel
theorem dX12_mostOf_11 : decode cX12_mostOf 11 = .ok (.iconst 3, 1) := by decide +kernel
theorem dX12_mostOf_12 : decode cX12_mostOf 12 = .ok (.if_icmp .ne 7, 3) := by decide +kernel
theorem dX12_mostOf_15 : decode cX12_mostOf 15 = .ok (.iconst 5, 1) := by decide +kernel
theorem dX12_mostOf_16 : decode cX12_mostOf 16 = .ok (.goto 5, 3) := by decide +kernel
theorem dX12_mostOf_19 : decode cX12_mostOf 19 = .ok (.bipush 8, 2) := by decide +kernel
theorem dX12_mostOf_21 : decode cX12_mostOf 21 = .ok (.ireturn, 1) := by decide +kernel
theorem dX12_placeOf_0 : decode cX12_placeOf 0 = .ok (.bipush 12, 2) := by decide +kernel
theorem dX12_placeOf_2 : decode cX12_placeOf 2 = .ok (.iload_n 0, 1) := by decide +kernel
theorem dX12_placeOf_3 : decode cX12_placeOf 3 = .ok (.imul, 1) := by decide +kernel
theorem dX12_placeOf_4 : decode cX12_placeOf 4 = .ok (.iload_n 1, 1) := by decide +kernel
theorem dX12_placeOf_5 : decode cX12_placeOf 5 = .ok (.iadd, 1) := by decide +kernel
theorem dX12_placeOf_6 : decode cX12_placeOf 6 = .ok (.ireturn, 1) := by decide +kernel
theorem dX12_clause_0 : decode cX12_clause 0 = .ok (.aload_n 0, 1) := by decide +kernel
theorem dX12_clause_1 : decode cX12_clause 1 = .ok (.invokevirtual 155, 3) := by decide +kernel
theorem dX12_clause_4 : decode cX12_clause 4 = .ok (.istore_n 1, 1) := by decide +kernel
theorem dX12_clause_5 : decode cX12_clause 5 = .ok (.iload_n 1, 1) := by decide +kernel
theorem dX12_clause_6 : decode cX12_clause 6 = .ok (.iconst (-1), 1) := by decide +kernel
theorem dX12_clause_7 : decode cX12_clause 7 = .ok (.if_icmp .ne 15, 3) := by decide +kernel
theorem dX12_clause_10 : decode cX12_clause 10 = .ok (.aload_n 0, 1) := by decide +kernel
theorem dX12_clause_11 : decode cX12_clause 11 = .ok (.iconst 1, 1) := by decide +kernel
theorem dX12_clause_12 : decode cX12_clause 12 = .ok (.aload_n 0, 1) := by decide +kernel
theorem dX12_clause_13 : decode cX12_clause 13 = .ok (.getfield 102, 3) := by decide +kernel
theorem dX12_clause_16 : decode cX12_clause 16 = .ok (.invokevirtual 122, 3) := by decide +kernel
theorem dX12_clause_19 : decode cX12_clause 19 = .ok (.goto 34, 3) := by decide +kernel
theorem dX12_clause_22 : decode cX12_clause 22 = .ok (.aload_n 0, 1) := by decide +kernel
theorem dX12_clause_23 : decode cX12_clause 23 = .ok (.getfield 149, 3) := by decide +kernel
theorem dX12_clause_26 : decode cX12_clause 26 = .ok (.bipush 60, 2) := by decide +kernel
theorem dX12_clause_28 : decode cX12_clause 28 = .ok (.if_icmp .eq 16, 3) := by decide +kernel
theorem dX12_clause_31 : decode cX12_clause 31 = .ok (.aload_n 0, 1) := by decide +kernel
theorem dX12_clause_32 : decode cX12_clause 32 = .ok (.getfield 20, 3) := by decide +kernel
theorem dX12_clause_35 : decode cX12_clause 35 = .ok (.iload_n 1, 1) := by decide +kernel
theorem dX12_clause_36 : decode cX12_clause 36 = .ok (.iaload, 1) := by decide +kernel
theorem dX12_clause_37 : decode cX12_clause 37 = .ok (.iload_n 1, 1) := by decide +kernel
theorem dX12_clause_38 : decode cX12_clause 38 = .ok (.invokestatic 158, 3) := by decide +kernel
theorem dX12_clause_41 : decode cX12_clause 41 = .ok (.if_icmp .ne 12, 3) := by decide +kernel
theorem dX12_clause_44 : decode cX12_clause 44 = .ok (.aload_n 0, 1) := by decide +kernel
theorem dX12_clause_45 : decode cX12_clause 45 = .ok (.iconst 3, 1) := by decide +kernel
theorem dX12_clause_46 : decode cX12_clause 46 = .ok (.aload_n 0, 1) := by decide +kernel
theorem dX12_clause_47 : decode cX12_clause 47 = .ok (.getfield 102, 3) := by decide +kernel
theorem dX12_clause_50 : decode cX12_clause 50 = .ok (.invokevirtual 122, 3) := by decide +kernel
theorem dX12_clause_53 : decode cX12_clause 53 = .ok (.aload_n 0, 1) := by decide +kernel
theorem dX12_clause_54 : decode cX12_clause 54 = .ok (.getfield 109, 3) := by decide +kernel
theorem dX12_clause_57 : decode cX12_clause 57 = .ok (.ifCond .eq 4, 3) := by decide +kernel
theorem dX12_clause_60 : decode cX12_clause 60 = .ok (.return_, 1) := by decide +kernel
theorem dX12_clause_61 : decode cX12_clause 61 = .ok (.aload_n 0, 1) := by decide +kernel
theorem dX12_clause_62 : decode cX12_clause 62 = .ok (.invokevirtual 146, 3) := by decide +kernel
theorem dX12_clause_65 : decode cX12_clause 65 = .ok (.aload_n 0, 1) := by decide +kernel
theorem dX12_clause_66 : decode cX12_clause 66 = .ok (.dup, 1) := by decide +kernel
theorem dX12_clause_67 : decode cX12_clause 67 = .ok (.getfield 149, 3) := by decide +kernel
theorem dX12_clause_70 : decode cX12_clause 70 = .ok (.iconst 1, 1) := by decide +kernel
theorem dX12_clause_71 : decode cX12_clause 71 = .ok (.iadd, 1) := by decide +kernel
theorem dX12_clause_72 : decode cX12_clause 72 = .ok (.putfield 149, 3) := by decide +kernel
theorem dX12_clause_75 : decode cX12_clause 75 = .ok (.aload_n 0, 1) := by decide +kernel
theorem dX12_clause_76 : decode cX12_clause 76 = .ok (.getfield 28, 3) := by decide +kernel
theorem dX12_clause_79 : decode cX12_clause 79 = .ok (.iload_n 1, 1) := by decide +kernel
theorem dX12_clause_80 : decode cX12_clause 80 = .ok (.aload_n 0, 1) := by decide +kernel
theorem dX12_clause_81 : decode cX12_clause 81 = .ok (.getfield 20, 3) := by decide +kernel
theorem dX12_clause_84 : decode cX12_clause 84 = .ok (.iload_n 1, 1) := by decide +kernel
theorem dX12_clause_85 : decode cX12_clause 85 = .ok (.iaload, 1) := by decide +kernel
theorem dX12_clause_86 : decode cX12_clause 86 = .ok (.invokestatic 161, 3) := by decide +kernel
theorem dX12_clause_89 : decode cX12_clause 89 = .ok (.aaload, 1) := by decide +kernel
theorem dX12_clause_90 : decode cX12_clause 90 = .ok (.astore_n 2, 1) := by decide +kernel
theorem dX12_clause_91 : decode cX12_clause 91 = .ok (.aload_n 2, 1) := by decide +kernel
theorem dX12_clause_92 : decode cX12_clause 92 = .ok (.iconst 0, 1) := by decide +kernel
theorem dX12_clause_93 : decode cX12_clause 93 = .ok (.aload_n 0, 1) := by decide +kernel
theorem dX12_clause_94 : decode cX12_clause 94 = .ok (.iconst 0, 1) := by decide +kernel
theorem dX12_clause_95 : decode cX12_clause 95 = .ok (.iload_n 1, 1) := by decide +kernel
theorem dX12_clause_96 : decode cX12_clause 96 = .ok (.ifCond .ne 8, 3) := by decide +kernel
theorem dX12_clause_99 : decode cX12_clause 99 = .ok (.bipush 60, 2) := by decide +kernel
theorem dX12_clause_101 : decode cX12_clause 101 = .ok (.goto 11, 3) := by decide +kernel
theorem dX12_clause_104 : decode cX12_clause 104 = .ok (.aload_n 0, 1) := by decide +kernel
theorem dX12_clause_105 : decode cX12_clause 105 = .ok (.getfield 20, 3) := by decide +kernel
theorem dX12_clause_108 : decode cX12_clause 108 = .ok (.iconst 0, 1) := by decide +kernel
theorem dX12_clause_109 : decode cX12_clause 109 = .ok (.iaload, 1) := by decide +kernel
theorem dX12_clause_110 : decode cX12_clause 110 = .ok (.iconst 1, 1) := by decide +kernel
theorem dX12_clause_111 : decode cX12_clause 111 = .ok (.isub, 1) := by decide +kernel
theorem dX12_clause_112 : decode cX12_clause 112 = .ok (.invokevirtual 165, 3) := by decide +kernel
theorem dX12_clause_115 : decode cX12_clause 115 = .ok (.iastore, 1) := by decide +kernel
theorem dX12_clause_116 : decode cX12_clause 116 = .ok (.iload_n 1, 1) := by decide +kernel
theorem dX12_clause_117 : decode cX12_clause 117 = .ok (.iconst 1, 1) := by decide +kernel
theorem dX12_clause_118 : decode cX12_clause 118 = .ok (.if_icmp .ne 50, 3) := by decide +kernel
theorem dX12_clause_121 : decode cX12_clause 121 = .ok (.aload_n 0, 1) := by decide +kernel
theorem dX12_clause_122 : decode cX12_clause 122 = .ok (.invokevirtual 115, 3) := by decide +kernel
theorem dX12_clause_125 : decode cX12_clause 125 = .ok (.aload_n 0, 1) := by decide +kernel
theorem dX12_clause_126 : decode cX12_clause 126 = .ok (.getfield 102, 3) := by decide +kernel
theorem dX12_clause_129 : decode cX12_clause 129 = .ok (.istore_n 3, 1) := by decide +kernel
theorem dX12_clause_130 : decode cX12_clause 130 = .ok (.aload_n 2, 1) := by decide +kernel
theorem dX12_clause_131 : decode cX12_clause 131 = .ok (.iconst 1, 1) := by decide +kernel
theorem dX12_clause_132 : decode cX12_clause 132 = .ok (.aload_n 0, 1) := by decide +kernel
theorem dX12_clause_133 : decode cX12_clause 133 = .ok (.iconst 0, 1) := by decide +kernel
theorem dX12_clause_134 : decode cX12_clause 134 = .ok (.aload_n 0, 1) := by decide +kernel
theorem dX12_clause_135 : decode cX12_clause 135 = .ok (.getfield 20, 3) := by decide +kernel
theorem dX12_clause_138 : decode cX12_clause 138 = .ok (.iconst 0, 1) := by decide +kernel
theorem dX12_clause_139 : decode cX12_clause 139 = .ok (.iaload, 1) := by decide +kernel
theorem dX12_clause_140 : decode cX12_clause 140 = .ok (.iconst 1, 1) := by decide +kernel
theorem dX12_clause_141 : decode cX12_clause 141 = .ok (.isub, 1) := by decide +kernel
theorem dX12_clause_142 : decode cX12_clause 142 = .ok (.invokevirtual 165, 3) := by decide +kernel
theorem dX12_clause_145 : decode cX12_clause 145 = .ok (.iastore, 1) := by decide +kernel
theorem dX12_clause_146 : decode cX12_clause 146 = .ok (.aload_n 0, 1) := by decide +kernel
theorem dX12_clause_147 : decode cX12_clause 147 = .ok (.getfield 109, 3) := by decide +kernel
theorem dX12_clause_150 : decode cX12_clause 150 = .ok (.ifCond .ne 18, 3) := by decide +kernel
theorem dX12_clause_153 : decode cX12_clause 153 = .ok (.aload_n 2, 1) := by decide +kernel
theorem dX12_clause_154 : decode cX12_clause 154 = .ok (.iconst 0, 1) := by decide +kernel
theorem dX12_clause_155 : decode cX12_clause 155 = .ok (.iaload, 1) := by decide +kernel
theorem dX12_clause_156 : decode cX12_clause 156 = .ok (.aload_n 2, 1) := by decide +kernel
theorem dX12_clause_157 : decode cX12_clause 157 = .ok (.iconst 1, 1) := by decide +kernel
theorem dX12_clause_158 : decode cX12_clause 158 = .ok (.iaload, 1) := by decide +kernel
theorem dX12_clause_159 : decode cX12_clause 159 = .ok (.if_icmp .ne 9, 3) := by decide +kernel
theorem dX12_clause_162 : decode cX12_clause 162 = .ok (.aload_n 0, 1) := by decide +kernel
theorem dX12_clause_163 : decode cX12_clause 163 = .ok (.iconst 2, 1) := by decide +kernel
theorem dX12_clause_164 : decode cX12_clause 164 = .ok (.iload_n 3, 1) := by decide +kernel
theorem dX12_clause_165 : decode cX12_clause 165 = .ok (.invokevirtual 122, 3) := by decide +kernel
theorem dX12_clause_168 : decode cX12_clause 168 = .ok (.iload_n 1, 1) := by decide +kernel
theorem dX12_clause_169 : decode cX12_clause 169 = .ok (.iconst 2, 1) := by decide +kernel
theorem dX12_clause_170 : decode cX12_clause 170 = .ok (.if_icmp .ne 23, 3) := by decide +kernel
theorem dX12_clause_173 : decode cX12_clause 173 = .ok (.aload_n 2, 1) := by decide +kernel
theorem dX12_clause_174 : decode cX12_clause 174 = .ok (.iconst 1, 1) := by decide +kernel
theorem dX12_clause_175 : decode cX12_clause 175 = .ok (.aload_n 0, 1) := by decide +kernel
theorem dX12_clause_176 : decode cX12_clause 176 = .ok (.iconst 1, 1) := by decide +kernel
theorem dX12_clause_177 : decode cX12_clause 177 = .ok (.bipush 60, 2) := by decide +kernel
theorem dX12_clause_179 : decode cX12_clause 179 = .ok (.invokevirtual 165, 3) := by decide +kernel
theorem dX12_clause_182 : decode cX12_clause 182 = .ok (.iastore, 1) := by decide +kernel
theorem dX12_clause_183 : decode cX12_clause 183 = .ok (.aload_n 2, 1) := by decide +kernel
theorem dX12_clause_184 : decode cX12_clause 184 = .ok (.iconst 2, 1) := by decide +kernel
theorem dX12_clause_185 : decode cX12_clause 185 = .ok (.aload_n 0, 1) := by decide +kernel
theorem dX12_clause_186 : decode cX12_clause 186 = .ok (.iconst 0, 1) := by decide +kernel
theorem dX12_clause_187 : decode cX12_clause 187 = .ok (.bipush 9, 2) := by decide +kernel
theorem dX12_clause_189 : decode cX12_clause 189 = .ok (.invokevirtual 165, 3) := by decide +kernel
theorem dX12_clause_192 : decode cX12_clause 192 = .ok (.iastore, 1) := by decide +kernel
theorem dX12_clause_193 : decode cX12_clause 193 = .ok (.iload_n 1, 1) := by decide +kernel
theorem dX12_clause_194 : decode cX12_clause 194 = .ok (.iconst 3, 1) := by decide +kernel
theorem dX12_clause_195 : decode cX12_clause 195 = .ok (.if_icmp .ne 13, 3) := by decide +kernel
theorem dX12_clause_198 : decode cX12_clause 198 = .ok (.aload_n 2, 1) := by decide +kernel
theorem dX12_clause_199 : decode cX12_clause 199 = .ok (.iconst 1, 1) := by decide +kernel
theorem dX12_clause_200 : decode cX12_clause 200 = .ok (.aload_n 0, 1) := by decide +kernel
theorem dX12_clause_201 : decode cX12_clause 201 = .ok (.iconst 0, 1) := by decide +kernel
theorem dX12_clause_202 : decode cX12_clause 202 = .ok (.bipush 20, 2) := by decide +kernel
theorem dX12_clause_204 : decode cX12_clause 204 = .ok (.invokevirtual 165, 3) := by decide +kernel
theorem dX12_clause_207 : decode cX12_clause 207 = .ok (.iastore, 1) := by decide +kernel
theorem dX12_clause_208 : decode cX12_clause 208 = .ok (.aload_n 0, 1) := by decide +kernel
theorem dX12_clause_209 : decode cX12_clause 209 = .ok (.bipush 59, 2) := by decide +kernel
theorem dX12_clause_211 : decode cX12_clause 211 = .ok (.invokevirtual 168, 3) := by decide +kernel
theorem dX12_clause_214 : decode cX12_clause 214 = .ok (.aload_n 0, 1) := by decide +kernel
theorem dX12_clause_215 : decode cX12_clause 215 = .ok (.getfield 20, 3) := by decide +kernel
theorem dX12_clause_218 : decode cX12_clause 218 = .ok (.iload_n 1, 1) := by decide +kernel
theorem dX12_clause_219 : decode cX12_clause 219 = .ok (.dup2, 1) := by decide +kernel
theorem dX12_clause_220 : decode cX12_clause 220 = .ok (.iaload, 1) := by decide +kernel
theorem dX12_clause_221 : decode cX12_clause 221 = .ok (.aload_n 0, 1) := by decide +kernel
theorem dX12_clause_222 : decode cX12_clause 222 = .ok (.getfield 109, 3) := by decide +kernel
theorem dX12_clause_225 : decode cX12_clause 225 = .ok (.ifCond .ne 7, 3) := by decide +kernel
theorem dX12_clause_228 : decode cX12_clause 228 = .ok (.iconst 1, 1) := by decide +kernel
theorem dX12_clause_229 : decode cX12_clause 229 = .ok (.goto 4, 3) := by decide +kernel
theorem dX12_clause_232 : decode cX12_clause 232 = .ok (.iconst 0, 1) := by decide +kernel
theorem dX12_clause_233 : decode cX12_clause 233 = .ok (.iadd, 1) := by decide +kernel
theorem dX12_clause_234 : decode cX12_clause 234 = .ok (.iastore, 1) := by decide +kernel
theorem dX12_clause_235 : decode cX12_clause 235 = .ok (.return_, 1) := by decide +kernel
theorem dX12_house_0 : decode cX12_house 0 = .ok (.aload_n 0, 1) := by decide +kernel
theorem dX12_house_1 : decode cX12_house 1 = .ok (.iconst 0, 1) := by decide +kernel
theorem dX12_house_2 : decode cX12_house 2 = .ok (.putfield 93, 3) := by decide +kernel
theorem dX12_house_5 : decode cX12_house 5 = .ok (.aload_n 0, 1) := by decide +kernel
theorem dX12_house_6 : decode cX12_house 6 = .ok (.iload_n 1, 1) := by decide +kernel
theorem dX12_house_7 : decode cX12_house 7 = .ok (.iconst 0, 1) := by decide +kernel
theorem dX12_house_8 : decode cX12_house 8 = .ok (.aload_n 0, 1) := by decide +kernel
theorem dX12_house_9 : decode cX12_house 9 = .ok (.getfield 96, 3) := by decide +kernel
theorem dX12_house_12 : decode cX12_house 12 = .ok (.invokestatic 127, 3) := by decide +kernel
theorem dX12_house_15 : decode cX12_house 15 = .ok (.ifCond .ne 7, 3) := by decide +kernel
theorem dX12_house_18 : decode cX12_house 18 = .ok (.iconst 1, 1) := by decide +kernel
theorem dX12_house_19 : decode cX12_house 19 = .ok (.goto 4, 3) := by decide +kernel
theorem dX12_house_22 : decode cX12_house 22 = .ok (.iconst 0, 1) := by decide +kernel
theorem dX12_house_23 : decode cX12_house 23 = .ok (.iconst 1, 1) := by decide +kernel
theorem dX12_house_24 : decode cX12_house 24 = .ok (.iconst 1, 1) := by decide +kernel
theorem dX12_house_25 : decode cX12_house 25 = .ok (.invokevirtual 172, 3) := by decide +kernel
theorem dX12_house_28 : decode cX12_house 28 = .ok (.ifCond .eq 5, 3) := by decide +kernel
theorem dX12_house_31 : decode cX12_house 31 = .ok (.iconst 0, 1) := by decide +kernel
theorem dX12_house_32 : decode cX12_house 32 = .ok (.ireturn, 1) := by decide +kernel
theorem dX12_house_33 : decode cX12_house 33 = .ok (.aload_n 0, 1) := by decide +kernel
theorem dX12_house_34 : decode cX12_house 34 = .ok (.iload_n 1, 1) := by decide +kernel
theorem dX12_house_35 : decode cX12_house 35 = .ok (.invokevirtual 176, 3) := by decide +kernel
theorem dX12_house_38 : decode cX12_house 38 = .ok (.aload_n 0, 1) := by decide +kernel
theorem dX12_house_39 : decode cX12_house 39 = .ok (.invokevirtual 87, 3) := by decide +kernel
theorem dX12_house_42 : decode cX12_house 42 = .ok (.aload_n 0, 1) := by decide +kernel
theorem dX12_house_43 : decode cX12_house 43 = .ok (.getfield 109, 3) := by decide +kernel
theorem dX12_house_46 : decode cX12_house 46 = .ok (.ifCond .ne 25, 3) := by decide +kernel
theorem dX12_house_49 : decode cX12_house 49 = .ok (.aload_n 0, 1) := by decide +kernel
theorem dX12_house_50 : decode cX12_house 50 = .ok (.getfield 102, 3) := by decide +kernel
theorem dX12_house_53 : decode cX12_house 53 = .ok (.aload_n 0, 1) := by decide +kernel
theorem dX12_house_54 : decode cX12_house 54 = .ok (.getfield 99, 3) := by decide +kernel
theorem dX12_house_57 : decode cX12_house 57 = .ok (.if_icmp .ge 14, 3) := by decide +kernel
theorem dX12_house_60 : decode cX12_house 60 = .ok (.aload_n 0, 1) := by decide +kernel
theorem dX12_house_61 : decode cX12_house 61 = .ok (.invokevirtual 179, 3) := by decide +kernel
theorem dX12_house_64 : decode cX12_house 64 = .ok (.aload_n 0, 1) := by decide +kernel
theorem dX12_house_65 : decode cX12_house 65 = .ok (.invokevirtual 115, 3) := by decide +kernel
theorem dX12_house_68 : decode cX12_house 68 = .ok (.goto (-26), 3) := by decide +kernel
theorem dX12_house_71 : decode cX12_house 71 = .ok (.aload_n 0, 1) := by decide +kernel
theorem dX12_house_72 : decode cX12_house 72 = .ok (.getfield 109, 3) := by decide +kernel
theorem dX12_house_75 : decode cX12_house 75 = .ok (.ifCond .eq 8, 3) := by decide +kernel
theorem dX12_house_78 : decode cX12_house 78 = .ok (.aload_n 0, 1) := by decide +kernel
theorem dX12_house_79 : decode cX12_house 79 = .ok (.invokevirtual 182, 3) := by decide +kernel
theorem dX12_house_82 : decode cX12_house 82 = .ok (.ireturn, 1) := by decide +kernel
theorem dX12_house_83 : decode cX12_house 83 = .ok (.aload_n 0, 1) := by decide +kernel
theorem dX12_house_84 : decode cX12_house 84 = .ok (.iconst (-1), 1) := by decide +kernel
theorem dX12_house_85 : decode cX12_house 85 = .ok (.putfield 9, 3) := by decide +kernel
theorem dX12_house_88 : decode cX12_house 88 = .ok (.aload_n 0, 1) := by decide +kernel
theorem dX12_house_89 : decode cX12_house 89 = .ok (.invokevirtual 90, 3) := by decide +kernel
theorem dX12_house_92 : decode cX12_house 92 = .ok (.aload_n 0, 1) := by decide +kernel
theorem dX12_house_93 : decode cX12_house 93 = .ok (.getfield 23, 3) := by decide +kernel
theorem dX12_house_96 : decode cX12_house 96 = .ok (.iconst 2, 1) := by decide +kernel
theorem dX12_house_97 : decode cX12_house 97 = .ok (.iaload, 1) := by decide +kernel
theorem dX12_house_98 : decode cX12_house 98 = .ok (.ireturn, 1) := by decide +kernel
theorem dX12_lays_0 : decode cX12_lays 0 = .ok (.iconst 0, 1) := by decide +kernel
theorem dX12_lays_1 : decode cX12_lays 1 = .ok (.istore_n 3, 1) := by decide +kernel
theorem dX12_lays_2 : decode cX12_lays 2 = .ok (.iload_n 3, 1) := by decide +kernel
theorem dX12_lays_3 : decode cX12_lays 3 = .ok (.iload_n 2, 1) := by decide +kernel
theorem dX12_lays_4 : decode cX12_lays 4 = .ok (.if_icmp .ge 39, 3) := by decide +kernel
theorem dX12_lays_7 : decode cX12_lays 7 = .ok (.iconst 0, 1) := by decide +kernel
theorem dX12_lays_8 : decode cX12_lays 8 = .ok (.istore 4, 2) := by decide +kernel
theorem dX12_lays_10 : decode cX12_lays 10 = .ok (.iload 4, 2) := by decide +kernel
theorem dX12_lays_12 : decode cX12_lays 12 = .ok (.aload_n 1, 1) := by decide +kernel
theorem dX12_lays_13 : decode cX12_lays 13 = .ok (.iload_n 3, 1) := by decide +kernel
theorem dX12_lays_14 : decode cX12_lays 14 = .ok (.aaload, 1) := by decide +kernel
theorem dX12_lays_15 : decode cX12_lays 15 = .ok (.arraylength, 1) := by decide +kernel
theorem dX12_lays_16 : decode cX12_lays 16 = .ok (.if_icmp .ge 21, 3) := by decide +kernel
theorem dX12_lays_19 : decode cX12_lays 19 = .ok (.aload_n 1, 1) := by decide +kernel
theorem dX12_lays_20 : decode cX12_lays 20 = .ok (.iload_n 3, 1) := by decide +kernel
theorem dX12_lays_21 : decode cX12_lays 21 = .ok (.aaload, 1) := by decide +kernel
theorem dX12_lays_22 : decode cX12_lays 22 = .ok (.iload 4, 2) := by decide +kernel
theorem dX12_lays_24 : decode cX12_lays 24 = .ok (.aload_n 0, 1) := by decide +kernel
theorem dX12_lays_25 : decode cX12_lays 25 = .ok (.iload_n 3, 1) := by decide +kernel
theorem dX12_lays_26 : decode cX12_lays 26 = .ok (.aaload, 1) := by decide +kernel
theorem dX12_lays_27 : decode cX12_lays 27 = .ok (.iload 4, 2) := by decide +kernel
theorem dX12_lays_29 : decode cX12_lays 29 = .ok (.iaload, 1) := by decide +kernel
theorem dX12_lays_30 : decode cX12_lays 30 = .ok (.iastore, 1) := by decide +kernel
theorem dX12_lays_31 : decode cX12_lays 31 = .ok (.iinc 4 1, 3) := by decide +kernel
theorem dX12_lays_34 : decode cX12_lays 34 = .ok (.goto (-24), 3) := by decide +kernel
theorem dX12_lays_37 : decode cX12_lays 37 = .ok (.iinc 3 1, 3) := by decide +kernel
theorem dX12_lays_40 : decode cX12_lays 40 = .ok (.goto (-38), 3) := by decide +kernel
theorem dX12_lays_43 : decode cX12_lays 43 = .ok (.return_, 1) := by decide +kernel
theorem dX12_copies_0 : decode cX12_copies 0 = .ok (.iconst 0, 1) := by decide +kernel
theorem dX12_copies_1 : decode cX12_copies 1 = .ok (.istore_n 2, 1) := by decide +kernel
theorem dX12_copies_2 : decode cX12_copies 2 = .ok (.iload_n 2, 1) := by decide +kernel
theorem dX12_copies_3 : decode cX12_copies 3 = .ok (.bipush 47, 2) := by decide +kernel
theorem dX12_copies_5 : decode cX12_copies 5 = .ok (.if_icmp .ge 15, 3) := by decide +kernel
theorem dX12_copies_8 : decode cX12_copies 8 = .ok (.aload_n 1, 1) := by decide +kernel
theorem dX12_copies_9 : decode cX12_copies 9 = .ok (.iload_n 2, 1) := by decide +kernel
theorem dX12_copies_10 : decode cX12_copies 10 = .ok (.aload_n 0, 1) := by decide +kernel
theorem dX12_copies_11 : decode cX12_copies 11 = .ok (.iload_n 2, 1) := by decide +kernel
theorem dX12_copies_12 : decode cX12_copies 12 = .ok (.iaload, 1) := by decide +kernel
theorem dX12_copies_13 : decode cX12_copies 13 = .ok (.iastore, 1) := by decide +kernel
theorem dX12_copies_14 : decode cX12_copies 14 = .ok (.iinc 2 1, 3) := by decide +kernel
theorem dX12_copies_17 : decode cX12_copies 17 = .ok (.goto (-15), 3) := by decide +kernel
theorem dX12_copies_20 : decode cX12_copies 20 = .ok (.return_, 1) := by decide +kernel
theorem dX12_hide_0 : decode cX12_hide 0 = .ok (.aload_n 0, 1) := by decide +kernel
theorem dX12_hide_1 : decode cX12_hide 1 = .ok (.getfield 31, 3) := by decide +kernel
theorem dX12_hide_4 : decode cX12_hide 4 = .ok (.iconst 0, 1) := by decide +kernel
theorem dX12_hide_5 : decode cX12_hide 5 = .ok (.iload_n 1, 1) := by decide +kernel
theorem dX12_hide_6 : decode cX12_hide 6 = .ok (.invokestatic 161, 3) := by decide +kernel
theorem dX12_hide_9 : decode cX12_hide 9 = .ok (.aaload, 1) := by decide +kernel
theorem dX12_hide_10 : decode cX12_hide 10 = .ok (.iconst 0, 1) := by decide +kernel
theorem dX12_hide_11 : decode cX12_hide 11 = .ok (.iaload, 1) := by decide +kernel
theorem dX12_hide_12 : decode cX12_hide 12 = .ok (.ireturn, 1) := by decide +kernel
theorem dX12_wayEnd_0 : decode cX12_wayEnd 0 = .ok (.aload_n 0, 1) := by decide +kernel
theorem dX12_wayEnd_1 : decode cX12_wayEnd 1 = .ok (.getfield 31, 3) := by decide +kernel
theorem dX12_wayEnd_4 : decode cX12_wayEnd 4 = .ok (.iconst 1, 1) := by decide +kernel
theorem dX12_wayEnd_5 : decode cX12_wayEnd 5 = .ok (.iload_n 1, 1) := by decide +kernel
theorem dX12_wayEnd_6 : decode cX12_wayEnd 6 = .ok (.invokestatic 161, 3) := by decide +kernel
theorem dX12_wayEnd_9 : decode cX12_wayEnd 9 = .ok (.aaload, 1) := by decide +kernel
theorem dX12_wayEnd_10 : decode cX12_wayEnd 10 = .ok (.iload_n 2, 1) := by decide +kernel
theorem dX12_wayEnd_11 : decode cX12_wayEnd 11 = .ok (.iaload, 1) := by decide +kernel
theorem dX12_wayEnd_12 : decode cX12_wayEnd 12 = .ok (.ireturn, 1) := by decide +kernel
theorem dX12_grow_0 : decode cX12_grow 0 = .ok (.aload_n 0, 1) := by decide +kernel
theorem dX12_grow_1 : decode cX12_grow 1 = .ok (.getfield 31, 3) := by decide +kernel
theorem dX12_grow_4 : decode cX12_grow 4 = .ok (.iconst 2, 1) := by decide +kernel
theorem dX12_grow_5 : decode cX12_grow 5 = .ok (.iload_n 1, 1) := by decide +kernel
theorem dX12_grow_6 : decode cX12_grow 6 = .ok (.invokestatic 161, 3) := by decide +kernel
theorem dX12_grow_9 : decode cX12_grow 9 = .ok (.aaload, 1) := by decide +kernel
theorem dX12_grow_10 : decode cX12_grow 10 = .ok (.iconst 2, 1) := by decide +kernel
theorem dX12_grow_11 : decode cX12_grow 11 = .ok (.iaload, 1) := by decide +kernel
theorem dX12_grow_12 : decode cX12_grow 12 = .ok (.ireturn, 1) := by decide +kernel
theorem dX12_nose_0 : decode cX12_nose 0 = .ok (.aload_n 0, 1) := by decide +kernel
theorem dX12_nose_1 : decode cX12_nose 1 = .ok (.getfield 31, 3) := by decide +kernel
theorem dX12_nose_4 : decode cX12_nose 4 = .ok (.iconst 3, 1) := by decide +kernel
theorem dX12_nose_5 : decode cX12_nose 5 = .ok (.iload_n 1, 1) := by decide +kernel
theorem dX12_nose_6 : decode cX12_nose 6 = .ok (.invokestatic 161, 3) := by decide +kernel
theorem dX12_nose_9 : decode cX12_nose 9 = .ok (.aaload, 1) := by decide +kernel
theorem dX12_nose_10 : decode cX12_nose 10 = .ok (.iconst 1, 1) := by decide +kernel
theorem dX12_nose_11 : decode cX12_nose 11 = .ok (.iaload, 1) := by decide +kernel
theorem dX12_nose_12 : decode cX12_nose 12 = .ok (.ireturn, 1) := by decide +kernel
theorem dX12_beginsAnew_0 : decode cX12_beginsAnew 0 = .ok (.iconst 0, 1) := by decide +kernel
theorem dX12_beginsAnew_1 : decode cX12_beginsAnew 1 = .ok (.istore_n 1, 1) := by decide +kernel
theorem dX12_beginsAnew_2 : decode cX12_beginsAnew 2 = .ok (.iload_n 1, 1) := by decide +kernel
theorem dX12_beginsAnew_3 : decode cX12_beginsAnew 3 = .ok (.iconst 4, 1) := by decide +kernel
theorem dX12_beginsAnew_4 : decode cX12_beginsAnew 4 = .ok (.if_icmp .ge 21, 3) := by decide +kernel
theorem dX12_beginsAnew_7 : decode cX12_beginsAnew 7 = .ok (.aload_n 0, 1) := by decide +kernel
theorem dX12_beginsAnew_8 : decode cX12_beginsAnew 8 = .ok (.getfield 23, 3) := by decide +kernel
theorem dX12_beginsAnew_11 : decode cX12_beginsAnew 11 = .ok (.iload_n 1, 1) := by decide +kernel
theorem dX12_beginsAnew_12 : decode cX12_beginsAnew 12 = .ok (.aload_n 0, 1) := by decide +kernel
theorem dX12_beginsAnew_13 : decode cX12_beginsAnew 13 = .ok (.getfield 20, 3) := by decide +kernel
theorem dX12_beginsAnew_16 : decode cX12_beginsAnew 16 = .ok (.iload_n 1, 1) := by decide +kernel
theorem dX12_beginsAnew_17 : decode cX12_beginsAnew 17 = .ok (.iaload, 1) := by decide +kernel
theorem dX12_beginsAnew_18 : decode cX12_beginsAnew 18 = .ok (.iastore, 1) := by decide +kernel
theorem dX12_beginsAnew_19 : decode cX12_beginsAnew 19 = .ok (.iinc 1 1, 3) := by decide +kernel
theorem dX12_beginsAnew_22 : decode cX12_beginsAnew 22 = .ok (.goto (-20), 3) := by decide +kernel
theorem dX12_beginsAnew_25 : decode cX12_beginsAnew 25 = .ok (.aload_n 0, 1) := by decide +kernel
theorem dX12_beginsAnew_26 : decode cX12_beginsAnew 26 = .ok (.getfield 28, 3) := by decide +kernel
theorem dX12_beginsAnew_29 : decode cX12_beginsAnew 29 = .ok (.aload_n 0, 1) := by decide +kernel
theorem dX12_beginsAnew_30 : decode cX12_beginsAnew 30 = .ok (.getfield 31, 3) := by decide +kernel
theorem dX12_beginsAnew_33 : decode cX12_beginsAnew 33 = .ok (.bipush 48, 2) := by decide +kernel
theorem dX12_beginsAnew_35 : decode cX12_beginsAnew 35 = .ok (.invokestatic 185, 3) := by decide +kernel
theorem dX12_beginsAnew_38 : decode cX12_beginsAnew 38 = .ok (.iconst 0, 1) := by decide +kernel
theorem dX12_beginsAnew_39 : decode cX12_beginsAnew 39 = .ok (.istore_n 1, 1) := by decide +kernel
theorem dX12_beginsAnew_40 : decode cX12_beginsAnew 40 = .ok (.iload_n 1, 1) := by decide +kernel
theorem dX12_beginsAnew_41 : decode cX12_beginsAnew 41 = .ok (.bipush 47, 2) := by decide +kernel
theorem dX12_beginsAnew_43 : decode cX12_beginsAnew 43 = .ok (.if_icmp .ge 16, 3) := by decide +kernel
theorem dX12_beginsAnew_46 : decode cX12_beginsAnew 46 = .ok (.aload_n 0, 1) := by decide +kernel
theorem dX12_beginsAnew_47 : decode cX12_beginsAnew 47 = .ok (.getfield 55, 3) := by decide +kernel
theorem dX12_beginsAnew_50 : decode cX12_beginsAnew 50 = .ok (.iload_n 1, 1) := by decide +kernel
theorem dX12_beginsAnew_51 : decode cX12_beginsAnew 51 = .ok (.iconst 0, 1) := by decide +kernel
theorem dX12_beginsAnew_52 : decode cX12_beginsAnew 52 = .ok (.iastore, 1) := by decide +kernel
theorem dX12_beginsAnew_53 : decode cX12_beginsAnew 53 = .ok (.iinc 1 1, 3) := by decide +kernel
theorem dX12_beginsAnew_56 : decode cX12_beginsAnew 56 = .ok (.goto (-16), 3) := by decide +kernel
theorem dX12_beginsAnew_59 : decode cX12_beginsAnew 59 = .ok (.iconst 0, 1) := by decide +kernel
theorem dX12_beginsAnew_60 : decode cX12_beginsAnew 60 = .ok (.istore_n 1, 1) := by decide +kernel
theorem dX12_beginsAnew_61 : decode cX12_beginsAnew 61 = .ok (.iload_n 1, 1) := by decide +kernel
theorem dX12_beginsAnew_62 : decode cX12_beginsAnew 62 = .ok (.bipush 8, 2) := by decide +kernel
theorem dX12_beginsAnew_64 : decode cX12_beginsAnew 64 = .ok (.if_icmp .ge 98, 3) := by decide +kernel
theorem dX12_beginsAnew_67 : decode cX12_beginsAnew 67 = .ok (.aload_n 0, 1) := by decide +kernel
theorem dX12_beginsAnew_68 : decode cX12_beginsAnew 68 = .ok (.getfield 55, 3) := by decide +kernel
theorem dX12_beginsAnew_71 : decode cX12_beginsAnew 71 = .ok (.iconst 0, 1) := by decide +kernel
theorem dX12_beginsAnew_72 : decode cX12_beginsAnew 72 = .ok (.iload_n 1, 1) := by decide +kernel
theorem dX12_beginsAnew_73 : decode cX12_beginsAnew 73 = .ok (.iadd, 1) := by decide +kernel
theorem dX12_beginsAnew_74 : decode cX12_beginsAnew 74 = .ok (.iload_n 1, 1) := by decide +kernel
theorem dX12_beginsAnew_75 : decode cX12_beginsAnew 75 = .ok (.aload_n 0, 1) := by decide +kernel
theorem dX12_beginsAnew_76 : decode cX12_beginsAnew 76 = .ok (.getfield 23, 3) := by decide +kernel
theorem dX12_beginsAnew_79 : decode cX12_beginsAnew 79 = .ok (.iconst 2, 1) := by decide +kernel
theorem dX12_beginsAnew_80 : decode cX12_beginsAnew 80 = .ok (.iaload, 1) := by decide +kernel
theorem dX12_beginsAnew_81 : decode cX12_beginsAnew 81 = .ok (.if_icmp .ge 18, 3) := by decide +kernel
theorem dX12_beginsAnew_84 : decode cX12_beginsAnew 84 = .ok (.aload_n 0, 1) := by decide +kernel
theorem dX12_beginsAnew_85 : decode cX12_beginsAnew 85 = .ok (.getfield 31, 3) := by decide +kernel
theorem dX12_beginsAnew_88 : decode cX12_beginsAnew 88 = .ok (.iconst 2, 1) := by decide +kernel
theorem dX12_beginsAnew_89 : decode cX12_beginsAnew 89 = .ok (.iload_n 1, 1) := by decide +kernel
theorem dX12_beginsAnew_90 : decode cX12_beginsAnew 90 = .ok (.invokestatic 161, 3) := by decide +kernel
theorem dX12_beginsAnew_93 : decode cX12_beginsAnew 93 = .ok (.aaload, 1) := by decide +kernel
theorem dX12_beginsAnew_94 : decode cX12_beginsAnew 94 = .ok (.iconst 0, 1) := by decide +kernel
theorem dX12_beginsAnew_95 : decode cX12_beginsAnew 95 = .ok (.iaload, 1) := by decide +kernel
theorem dX12_beginsAnew_96 : decode cX12_beginsAnew 96 = .ok (.goto 4, 3) := by decide +kernel
theorem dX12_beginsAnew_99 : decode cX12_beginsAnew 99 = .ok (.iconst 0, 1) := by decide +kernel
theorem dX12_beginsAnew_100 : decode cX12_beginsAnew 100 = .ok (.iastore, 1) := by decide +kernel
theorem dX12_beginsAnew_101 : decode cX12_beginsAnew 101 = .ok (.aload_n 0, 1) := by decide +kernel
theorem dX12_beginsAnew_102 : decode cX12_beginsAnew 102 = .ok (.getfield 55, 3) := by decide +kernel
theorem dX12_beginsAnew_105 : decode cX12_beginsAnew 105 = .ok (.bipush 8, 2) := by decide +kernel
theorem dX12_beginsAnew_107 : decode cX12_beginsAnew 107 = .ok (.iload_n 1, 1) := by decide +kernel
theorem dX12_beginsAnew_108 : decode cX12_beginsAnew 108 = .ok (.iadd, 1) := by decide +kernel
theorem dX12_beginsAnew_109 : decode cX12_beginsAnew 109 = .ok (.iload_n 1, 1) := by decide +kernel
theorem dX12_beginsAnew_110 : decode cX12_beginsAnew 110 = .ok (.aload_n 0, 1) := by decide +kernel
theorem dX12_beginsAnew_111 : decode cX12_beginsAnew 111 = .ok (.getfield 23, 3) := by decide +kernel
theorem dX12_beginsAnew_114 : decode cX12_beginsAnew 114 = .ok (.iconst 2, 1) := by decide +kernel
theorem dX12_beginsAnew_115 : decode cX12_beginsAnew 115 = .ok (.iaload, 1) := by decide +kernel
theorem dX12_beginsAnew_116 : decode cX12_beginsAnew 116 = .ok (.if_icmp .ge 18, 3) := by decide +kernel
theorem dX12_beginsAnew_119 : decode cX12_beginsAnew 119 = .ok (.aload_n 0, 1) := by decide +kernel
theorem dX12_beginsAnew_120 : decode cX12_beginsAnew 120 = .ok (.getfield 31, 3) := by decide +kernel
theorem dX12_beginsAnew_123 : decode cX12_beginsAnew 123 = .ok (.iconst 2, 1) := by decide +kernel
theorem dX12_beginsAnew_124 : decode cX12_beginsAnew 124 = .ok (.iload_n 1, 1) := by decide +kernel
theorem dX12_beginsAnew_125 : decode cX12_beginsAnew 125 = .ok (.invokestatic 161, 3) := by decide +kernel
theorem dX12_beginsAnew_128 : decode cX12_beginsAnew 128 = .ok (.aaload, 1) := by decide +kernel
theorem dX12_beginsAnew_129 : decode cX12_beginsAnew 129 = .ok (.iconst 1, 1) := by decide +kernel
theorem dX12_beginsAnew_130 : decode cX12_beginsAnew 130 = .ok (.iaload, 1) := by decide +kernel
theorem dX12_beginsAnew_131 : decode cX12_beginsAnew 131 = .ok (.goto 4, 3) := by decide +kernel
theorem dX12_beginsAnew_134 : decode cX12_beginsAnew 134 = .ok (.iconst 0, 1) := by decide +kernel
theorem dX12_beginsAnew_135 : decode cX12_beginsAnew 135 = .ok (.iastore, 1) := by decide +kernel
theorem dX12_beginsAnew_136 : decode cX12_beginsAnew 136 = .ok (.aload_n 0, 1) := by decide +kernel
theorem dX12_beginsAnew_137 : decode cX12_beginsAnew 137 = .ok (.getfield 55, 3) := by decide +kernel
theorem dX12_beginsAnew_140 : decode cX12_beginsAnew 140 = .ok (.bipush 16, 2) := by decide +kernel
theorem dX12_beginsAnew_142 : decode cX12_beginsAnew 142 = .ok (.iload_n 1, 1) := by decide +kernel
theorem dX12_beginsAnew_143 : decode cX12_beginsAnew 143 = .ok (.iadd, 1) := by decide +kernel
theorem dX12_beginsAnew_144 : decode cX12_beginsAnew 144 = .ok (.iconst (-1), 1) := by decide +kernel
theorem dX12_beginsAnew_145 : decode cX12_beginsAnew 145 = .ok (.iastore, 1) := by decide +kernel
theorem dX12_beginsAnew_146 : decode cX12_beginsAnew 146 = .ok (.aload_n 0, 1) := by decide +kernel
theorem dX12_beginsAnew_147 : decode cX12_beginsAnew 147 = .ok (.getfield 55, 3) := by decide +kernel
theorem dX12_beginsAnew_150 : decode cX12_beginsAnew 150 = .ok (.bipush 24, 2) := by decide +kernel
theorem dX12_beginsAnew_152 : decode cX12_beginsAnew 152 = .ok (.iload_n 1, 1) := by decide +kernel
theorem dX12_beginsAnew_153 : decode cX12_beginsAnew 153 = .ok (.iadd, 1) := by decide +kernel
theorem dX12_beginsAnew_154 : decode cX12_beginsAnew 154 = .ok (.iconst (-1), 1) := by decide +kernel
theorem dX12_beginsAnew_155 : decode cX12_beginsAnew 155 = .ok (.iastore, 1) := by decide +kernel
theorem dX12_beginsAnew_156 : decode cX12_beginsAnew 156 = .ok (.iinc 1 1, 3) := by decide +kernel
theorem dX12_beginsAnew_159 : decode cX12_beginsAnew 159 = .ok (.goto (-98), 3) := by decide +kernel
theorem dX12_beginsAnew_162 : decode cX12_beginsAnew 162 = .ok (.iconst 0, 1) := by decide +kernel
theorem dX12_beginsAnew_163 : decode cX12_beginsAnew 163 = .ok (.istore_n 1, 1) := by decide +kernel
theorem dX12_beginsAnew_164 : decode cX12_beginsAnew 164 = .ok (.iload_n 1, 1) := by decide +kernel
theorem dX12_beginsAnew_165 : decode cX12_beginsAnew 165 = .ok (.aload_n 0, 1) := by decide +kernel
theorem dX12_beginsAnew_166 : decode cX12_beginsAnew 166 = .ok (.getfield 23, 3) := by decide +kernel
theorem dX12_beginsAnew_169 : decode cX12_beginsAnew 169 = .ok (.iconst 3, 1) := by decide +kernel
theorem dX12_beginsAnew_170 : decode cX12_beginsAnew 170 = .ok (.iaload, 1) := by decide +kernel
theorem dX12_beginsAnew_171 : decode cX12_beginsAnew 171 = .ok (.if_icmp .ge 30, 3) := by decide +kernel
theorem dX12_beginsAnew_174 : decode cX12_beginsAnew 174 = .ok (.aload_n 0, 1) := by decide +kernel
theorem dX12_beginsAnew_175 : decode cX12_beginsAnew 175 = .ok (.getfield 55, 3) := by decide +kernel
theorem dX12_beginsAnew_178 : decode cX12_beginsAnew 178 = .ok (.bipush 32, 2) := by decide +kernel
theorem dX12_beginsAnew_180 : decode cX12_beginsAnew 180 = .ok (.iload_n 1, 1) := by decide +kernel
theorem dX12_beginsAnew_181 : decode cX12_beginsAnew 181 = .ok (.iadd, 1) := by decide +kernel
theorem dX12_beginsAnew_182 : decode cX12_beginsAnew 182 = .ok (.aload_n 0, 1) := by decide +kernel
theorem dX12_beginsAnew_183 : decode cX12_beginsAnew 183 = .ok (.getfield 31, 3) := by decide +kernel
theorem dX12_beginsAnew_186 : decode cX12_beginsAnew 186 = .ok (.iconst 3, 1) := by decide +kernel
theorem dX12_beginsAnew_187 : decode cX12_beginsAnew 187 = .ok (.iload_n 1, 1) := by decide +kernel
theorem dX12_beginsAnew_188 : decode cX12_beginsAnew 188 = .ok (.invokestatic 161, 3) := by decide +kernel
theorem dX12_beginsAnew_191 : decode cX12_beginsAnew 191 = .ok (.aaload, 1) := by decide +kernel
theorem dX12_beginsAnew_192 : decode cX12_beginsAnew 192 = .ok (.iconst 0, 1) := by decide +kernel
theorem dX12_beginsAnew_193 : decode cX12_beginsAnew 193 = .ok (.iaload, 1) := by decide +kernel
theorem dX12_beginsAnew_194 : decode cX12_beginsAnew 194 = .ok (.iastore, 1) := by decide +kernel
theorem dX12_beginsAnew_195 : decode cX12_beginsAnew 195 = .ok (.iinc 1 1, 3) := by decide +kernel
theorem dX12_beginsAnew_198 : decode cX12_beginsAnew 198 = .ok (.goto (-34), 3) := by decide +kernel
theorem dX12_beginsAnew_201 : decode cX12_beginsAnew 201 = .ok (.aload_n 0, 1) := by decide +kernel
theorem dX12_beginsAnew_202 : decode cX12_beginsAnew 202 = .ok (.getfield 55, 3) := by decide +kernel
theorem dX12_beginsAnew_205 : decode cX12_beginsAnew 205 = .ok (.bipush 42, 2) := by decide +kernel
theorem dX12_beginsAnew_207 : decode cX12_beginsAnew 207 = .ok (.iconst 1, 1) := by decide +kernel
theorem dX12_beginsAnew_208 : decode cX12_beginsAnew 208 = .ok (.aload_n 0, 1) := by decide +kernel
theorem dX12_beginsAnew_209 : decode cX12_beginsAnew 209 = .ok (.getfield 23, 3) := by decide +kernel
theorem dX12_beginsAnew_212 : decode cX12_beginsAnew 212 = .ok (.iconst 2, 1) := by decide +kernel
theorem dX12_beginsAnew_213 : decode cX12_beginsAnew 213 = .ok (.iaload, 1) := by decide +kernel
theorem dX12_beginsAnew_214 : decode cX12_beginsAnew 214 = .ok (.ishl, 1) := by decide +kernel
theorem dX12_beginsAnew_215 : decode cX12_beginsAnew 215 = .ok (.iconst 1, 1) := by decide +kernel
theorem dX12_beginsAnew_216 : decode cX12_beginsAnew 216 = .ok (.isub, 1) := by decide +kernel
theorem dX12_beginsAnew_217 : decode cX12_beginsAnew 217 = .ok (.iastore, 1) := by decide +kernel
theorem dX12_beginsAnew_218 : decode cX12_beginsAnew 218 = .ok (.aload_n 0, 1) := by decide +kernel
theorem dX12_beginsAnew_219 : decode cX12_beginsAnew 219 = .ok (.iconst 0, 1) := by decide +kernel
theorem dX12_beginsAnew_220 : decode cX12_beginsAnew 220 = .ok (.putfield 189, 3) := by decide +kernel
theorem dX12_beginsAnew_223 : decode cX12_beginsAnew 223 = .ok (.aload_n 0, 1) := by decide +kernel
theorem dX12_beginsAnew_224 : decode cX12_beginsAnew 224 = .ok (.iconst 0, 1) := by decide +kernel
theorem dX12_beginsAnew_225 : decode cX12_beginsAnew 225 = .ok (.putfield 192, 3) := by decide +kernel
theorem dX12_beginsAnew_228 : decode cX12_beginsAnew 228 = .ok (.aload_n 0, 1) := by decide +kernel
theorem dX12_beginsAnew_229 : decode cX12_beginsAnew 229 = .ok (.iconst 0, 1) := by decide +kernel
theorem dX12_beginsAnew_230 : decode cX12_beginsAnew 230 = .ok (.putfield 195, 3) := by decide +kernel
theorem dX12_beginsAnew_233 : decode cX12_beginsAnew 233 = .ok (.aload_n 0, 1) := by decide +kernel
theorem dX12_beginsAnew_234 : decode cX12_beginsAnew 234 = .ok (.iconst 0, 1) := by decide +kernel
theorem dX12_beginsAnew_235 : decode cX12_beginsAnew 235 = .ok (.putfield 198, 3) := by decide +kernel
theorem dX12_beginsAnew_238 : decode cX12_beginsAnew 238 = .ok (.aload_n 0, 1) := by decide +kernel
theorem dX12_beginsAnew_239 : decode cX12_beginsAnew 239 = .ok (.iconst 0, 1) := by decide +kernel
theorem dX12_beginsAnew_240 : decode cX12_beginsAnew 240 = .ok (.putfield 201, 3) := by decide +kernel
theorem dX12_beginsAnew_243 : decode cX12_beginsAnew 243 = .ok (.return_, 1) := by decide +kernel
theorem dX12_notes_0 : decode cX12_notes 0 = .ok (.aload_n 0, 1) := by decide +kernel
theorem dX12_notes_1 : decode cX12_notes 1 = .ok (.getfield 109, 3) := by decide +kernel
theorem dX12_notes_4 : decode cX12_notes 4 = .ok (.ifCond .eq 4, 3) := by decide +kernel
theorem dX12_notes_7 : decode cX12_notes 7 = .ok (.return_, 1) := by decide +kernel
theorem dX12_notes_8 : decode cX12_notes 8 = .ok (.aload_n 0, 1) := by decide +kernel
theorem dX12_notes_9 : decode cX12_notes 9 = .ok (.getfield 37, 3) := by decide +kernel
theorem dX12_notes_12 : decode cX12_notes 12 = .ok (.aload_n 0, 1) := by decide +kernel
theorem dX12_notes_13 : decode cX12_notes 13 = .ok (.getfield 204, 3) := by decide +kernel
theorem dX12_notes_16 : decode cX12_notes 16 = .ok (.aaload, 1) := by decide +kernel
theorem dX12_notes_17 : decode cX12_notes 17 = .ok (.iconst 0, 1) := by decide +kernel
theorem dX12_notes_18 : decode cX12_notes 18 = .ok (.iload_n 1, 1) := by decide +kernel
theorem dX12_notes_19 : decode cX12_notes 19 = .ok (.iastore, 1) := by decide +kernel
theorem dX12_notes_20 : decode cX12_notes 20 = .ok (.aload_n 0, 1) := by decide +kernel
theorem dX12_notes_21 : decode cX12_notes 21 = .ok (.getfield 37, 3) := by decide +kernel
theorem dX12_notes_24 : decode cX12_notes 24 = .ok (.aload_n 0, 1) := by decide +kernel
theorem dX12_notes_25 : decode cX12_notes 25 = .ok (.getfield 204, 3) := by decide +kernel
theorem dX12_notes_28 : decode cX12_notes 28 = .ok (.aaload, 1) := by decide +kernel
theorem dX12_notes_29 : decode cX12_notes 29 = .ok (.iconst 1, 1) := by decide +kernel
theorem dX12_notes_30 : decode cX12_notes 30 = .ok (.iload_n 2, 1) := by decide +kernel
theorem dX12_notes_31 : decode cX12_notes 31 = .ok (.iastore, 1) := by decide +kernel
theorem dX12_notes_32 : decode cX12_notes 32 = .ok (.aload_n 0, 1) := by decide +kernel
theorem dX12_notes_33 : decode cX12_notes 33 = .ok (.dup, 1) := by decide +kernel
theorem dX12_notes_34 : decode cX12_notes 34 = .ok (.getfield 204, 3) := by decide +kernel
theorem dX12_notes_37 : decode cX12_notes 37 = .ok (.iconst 1, 1) := by decide +kernel
theorem dX12_notes_38 : decode cX12_notes 38 = .ok (.iadd, 1) := by decide +kernel
theorem dX12_notes_39 : decode cX12_notes 39 = .ok (.putfield 204, 3) := by decide +kernel
theorem dX12_notes_42 : decode cX12_notes 42 = .ok (.return_, 1) := by decide +kernel
theorem dX12_opensOne_0 : decode cX12_opensOne 0 = .ok (.aload_n 0, 1) := by decide +kernel
theorem dX12_opensOne_1 : decode cX12_opensOne 1 = .ok (.getfield 109, 3) := by decide +kernel
theorem dX12_opensOne_4 : decode cX12_opensOne 4 = .ok (.ifCond .ne 24, 3) := by decide +kernel
theorem dX12_opensOne_7 : decode cX12_opensOne 7 = .ok (.aload_n 0, 1) := by decide +kernel
theorem dX12_opensOne_8 : decode cX12_opensOne 8 = .ok (.getfield 152, 3) := by decide +kernel
theorem dX12_opensOne_11 : decode cX12_opensOne 11 = .ok (.bipush 6, 2) := by decide +kernel
theorem dX12_opensOne_13 : decode cX12_opensOne 13 = .ok (.if_icmp .ne 15, 3) := by decide +kernel
theorem dX12_opensOne_16 : decode cX12_opensOne 16 = .ok (.aload_n 0, 1) := by decide +kernel
theorem dX12_opensOne_17 : decode cX12_opensOne 17 = .ok (.iconst 3, 1) := by decide +kernel
theorem dX12_opensOne_18 : decode cX12_opensOne 18 = .ok (.aload_n 0, 1) := by decide +kernel
theorem dX12_opensOne_19 : decode cX12_opensOne 19 = .ok (.getfield 102, 3) := by decide +kernel
theorem dX12_opensOne_22 : decode cX12_opensOne 22 = .ok (.invokevirtual 122, 3) := by decide +kernel
theorem dX12_opensOne_25 : decode cX12_opensOne 25 = .ok (.goto 20, 3) := by decide +kernel
theorem dX12_opensOne_28 : decode cX12_opensOne 28 = .ok (.aload_n 0, 1) := by decide +kernel
theorem dX12_opensOne_29 : decode cX12_opensOne 29 = .ok (.getfield 109, 3) := by decide +kernel
theorem dX12_opensOne_32 : decode cX12_opensOne 32 = .ok (.ifCond .ne 13, 3) := by decide +kernel
theorem dX12_opensOne_35 : decode cX12_opensOne 35 = .ok (.aload_n 0, 1) := by decide +kernel
theorem dX12_opensOne_36 : decode cX12_opensOne 36 = .ok (.dup, 1) := by decide +kernel
theorem dX12_opensOne_37 : decode cX12_opensOne 37 = .ok (.getfield 152, 3) := by decide +kernel
theorem dX12_opensOne_40 : decode cX12_opensOne 40 = .ok (.iconst 1, 1) := by decide +kernel
theorem dX12_opensOne_41 : decode cX12_opensOne 41 = .ok (.iadd, 1) := by decide +kernel
theorem dX12_opensOne_42 : decode cX12_opensOne 42 = .ok (.putfield 152, 3) := by decide +kernel
theorem dX12_opensOne_45 : decode cX12_opensOne 45 = .ok (.aload_n 0, 1) := by decide +kernel
theorem dX12_opensOne_46 : decode cX12_opensOne 46 = .ok (.getfield 109, 3) := by decide +kernel
theorem dX12_opensOne_49 : decode cX12_opensOne 49 = .ok (.ifCond .ne 7, 3) := by decide +kernel
theorem dX12_opensOne_52 : decode cX12_opensOne 52 = .ok (.iconst 1, 1) := by decide +kernel
theorem dX12_opensOne_53 : decode cX12_opensOne 53 = .ok (.goto 4, 3) := by decide +kernel
theorem dX12_opensOne_56 : decode cX12_opensOne 56 = .ok (.iconst 0, 1) := by decide +kernel
theorem dX12_opensOne_57 : decode cX12_opensOne 57 = .ok (.ireturn, 1) := by decide +kernel
theorem dX12_sum_0 : decode cX12_sum 0 = .ok (.aload_n 0, 1) := by decide +kernel
theorem dX12_sum_1 : decode cX12_sum 1 = .ok (.invokevirtual 207, 3) := by decide +kernel
theorem dX12_sum_4 : decode cX12_sum 4 = .ok (.aload_n 0, 1) := by decide +kernel
theorem dX12_sum_5 : decode cX12_sum 5 = .ok (.getfield 109, 3) := by decide +kernel
theorem dX12_sum_8 : decode cX12_sum 8 = .ok (.ifCond .ne 50, 3) := by decide +kernel
theorem dX12_sum_11 : decode cX12_sum 11 = .ok (.aload_n 0, 1) := by decide +kernel
theorem dX12_sum_12 : decode cX12_sum 12 = .ok (.bipush 43, 2) := by decide +kernel
theorem dX12_sum_14 : decode cX12_sum 14 = .ok (.invokevirtual 210, 3) := by decide +kernel
theorem dX12_sum_17 : decode cX12_sum 17 = .ok (.ifCond .eq 7, 3) := by decide +kernel
theorem dX12_sum_20 : decode cX12_sum 20 = .ok (.iconst 2, 1) := by decide +kernel
theorem dX12_sum_21 : decode cX12_sum 21 = .ok (.goto 17, 3) := by decide +kernel
theorem dX12_sum_24 : decode cX12_sum 24 = .ok (.aload_n 0, 1) := by decide +kernel
theorem dX12_sum_25 : decode cX12_sum 25 = .ok (.bipush 45, 2) := by decide +kernel
theorem dX12_sum_27 : decode cX12_sum 27 = .ok (.invokevirtual 210, 3) := by decide +kernel
theorem dX12_sum_30 : decode cX12_sum 30 = .ok (.ifCond .eq 7, 3) := by decide +kernel
theorem dX12_sum_33 : decode cX12_sum 33 = .ok (.iconst 3, 1) := by decide +kernel
theorem dX12_sum_34 : decode cX12_sum 34 = .ok (.goto 4, 3) := by decide +kernel
theorem dX12_sum_37 : decode cX12_sum 37 = .ok (.iconst (-1), 1) := by decide +kernel
theorem dX12_sum_38 : decode cX12_sum 38 = .ok (.istore_n 1, 1) := by decide +kernel
theorem dX12_sum_39 : decode cX12_sum 39 = .ok (.iload_n 1, 1) := by decide +kernel
theorem dX12_sum_40 : decode cX12_sum 40 = .ok (.iconst (-1), 1) := by decide +kernel
theorem dX12_sum_41 : decode cX12_sum 41 = .ok (.if_icmp .ne 4, 3) := by decide +kernel
theorem dX12_sum_44 : decode cX12_sum 44 = .ok (.return_, 1) := by decide +kernel
theorem dX12_sum_45 : decode cX12_sum 45 = .ok (.aload_n 0, 1) := by decide +kernel
theorem dX12_sum_46 : decode cX12_sum 46 = .ok (.invokevirtual 207, 3) := by decide +kernel
theorem dX12_sum_49 : decode cX12_sum 49 = .ok (.aload_n 0, 1) := by decide +kernel
theorem dX12_sum_50 : decode cX12_sum 50 = .ok (.iload_n 1, 1) := by decide +kernel
theorem dX12_sum_51 : decode cX12_sum 51 = .ok (.iconst 0, 1) := by decide +kernel
theorem dX12_sum_52 : decode cX12_sum 52 = .ok (.invokevirtual 213, 3) := by decide +kernel
theorem dX12_sum_55 : decode cX12_sum 55 = .ok (.goto (-51), 3) := by decide +kernel
theorem dX12_sum_58 : decode cX12_sum 58 = .ok (.return_, 1) := by decide +kernel
theorem dX12_product_0 : decode cX12_product 0 = .ok (.aload_n 0, 1) := by decide +kernel
theorem dX12_product_1 : decode cX12_product 1 = .ok (.invokevirtual 216, 3) := by decide +kernel
theorem dX12_product_4 : decode cX12_product 4 = .ok (.aload_n 0, 1) := by decide +kernel
theorem dX12_product_5 : decode cX12_product 5 = .ok (.getfield 109, 3) := by decide +kernel
theorem dX12_product_8 : decode cX12_product 8 = .ok (.ifCond .ne 64, 3) := by decide +kernel
theorem dX12_product_11 : decode cX12_product 11 = .ok (.aload_n 0, 1) := by decide +kernel
theorem dX12_product_12 : decode cX12_product 12 = .ok (.bipush 42, 2) := by decide +kernel
theorem dX12_product_14 : decode cX12_product 14 = .ok (.invokevirtual 210, 3) := by decide +kernel
theorem dX12_product_17 : decode cX12_product 17 = .ok (.ifCond .eq 7, 3) := by decide +kernel
theorem dX12_product_20 : decode cX12_product 20 = .ok (.iconst 4, 1) := by decide +kernel
theorem dX12_product_21 : decode cX12_product 21 = .ok (.goto 31, 3) := by decide +kernel
theorem dX12_product_24 : decode cX12_product 24 = .ok (.aload_n 0, 1) := by decide +kernel
theorem dX12_product_25 : decode cX12_product 25 = .ok (.bipush 47, 2) := by decide +kernel
theorem dX12_product_27 : decode cX12_product 27 = .ok (.invokevirtual 210, 3) := by decide +kernel
theorem dX12_product_30 : decode cX12_product 30 = .ok (.ifCond .eq 7, 3) := by decide +kernel
theorem dX12_product_33 : decode cX12_product 33 = .ok (.iconst 5, 1) := by decide +kernel
theorem dX12_product_34 : decode cX12_product 34 = .ok (.goto 18, 3) := by decide +kernel
theorem dX12_product_37 : decode cX12_product 37 = .ok (.aload_n 0, 1) := by decide +kernel
theorem dX12_product_38 : decode cX12_product 38 = .ok (.bipush 37, 2) := by decide +kernel
theorem dX12_product_40 : decode cX12_product 40 = .ok (.invokevirtual 210, 3) := by decide +kernel
theorem dX12_product_43 : decode cX12_product 43 = .ok (.ifCond .eq 8, 3) := by decide +kernel
theorem dX12_product_46 : decode cX12_product 46 = .ok (.bipush 6, 2) := by decide +kernel
theorem dX12_product_48 : decode cX12_product 48 = .ok (.goto 4, 3) := by decide +kernel
theorem dX12_product_51 : decode cX12_product 51 = .ok (.iconst (-1), 1) := by decide +kernel
theorem dX12_product_52 : decode cX12_product 52 = .ok (.istore_n 1, 1) := by decide +kernel
theorem dX12_product_53 : decode cX12_product 53 = .ok (.iload_n 1, 1) := by decide +kernel
theorem dX12_product_54 : decode cX12_product 54 = .ok (.iconst (-1), 1) := by decide +kernel
theorem dX12_product_55 : decode cX12_product 55 = .ok (.if_icmp .ne 4, 3) := by decide +kernel
theorem dX12_product_58 : decode cX12_product 58 = .ok (.return_, 1) := by decide +kernel
theorem dX12_product_59 : decode cX12_product 59 = .ok (.aload_n 0, 1) := by decide +kernel
theorem dX12_product_60 : decode cX12_product 60 = .ok (.invokevirtual 216, 3) := by decide +kernel
theorem dX12_product_63 : decode cX12_product 63 = .ok (.aload_n 0, 1) := by decide +kernel
theorem dX12_product_64 : decode cX12_product 64 = .ok (.iload_n 1, 1) := by decide +kernel
theorem dX12_product_65 : decode cX12_product 65 = .ok (.iconst 0, 1) := by decide +kernel
theorem dX12_product_66 : decode cX12_product 66 = .ok (.invokevirtual 213, 3) := by decide +kernel
theorem dX12_product_69 : decode cX12_product 69 = .ok (.goto (-65), 3) := by decide +kernel
theorem dX12_product_72 : decode cX12_product 72 = .ok (.return_, 1) := by decide +kernel
theorem dX12_knownHere_0 : decode cX12_knownHere 0 = .ok (.aload_n 0, 1) := by decide +kernel
theorem dX12_knownHere_1 : decode cX12_knownHere 1 = .ok (.bipush 19, 2) := by decide +kernel
theorem dX12_knownHere_3 : decode cX12_knownHere 3 = .ok (.bipush 9, 2) := by decide +kernel
theorem dX12_knownHere_5 : decode cX12_knownHere 5 = .ok (.bipush 26, 2) := by decide +kernel
theorem dX12_knownHere_7 : decode cX12_knownHere 7 = .ok (.iconst 5, 1) := by decide +kernel
theorem dX12_knownHere_8 : decode cX12_knownHere 8 = .ok (.iconst 0, 1) := by decide +kernel
theorem dX12_knownHere_9 : decode cX12_knownHere 9 = .ok (.iconst 0, 1) := by decide +kernel
theorem dX12_knownHere_10 : decode cX12_knownHere 10 = .ok (.invokevirtual 219, 3) := by decide +kernel
theorem dX12_knownHere_13 : decode cX12_knownHere 13 = .ok (.ifCond .eq 5, 3) := by decide +kernel
theorem dX12_knownHere_16 : decode cX12_knownHere 16 = .ok (.iconst 0, 1) := by decide +kernel
theorem dX12_knownHere_17 : decode cX12_knownHere 17 = .ok (.ireturn, 1) := by decide +kernel
theorem dX12_knownHere_18 : decode cX12_knownHere 18 = .ok (.aload_n 0, 1) := by decide +kernel
theorem dX12_knownHere_19 : decode cX12_knownHere 19 = .ok (.bipush 7, 2) := by decide +kernel
theorem dX12_knownHere_21 : decode cX12_knownHere 21 = .ok (.bipush 18, 2) := by decide +kernel
theorem dX12_knownHere_23 : decode cX12_knownHere 23 = .ok (.bipush 15, 2) := by decide +kernel
theorem dX12_knownHere_25 : decode cX12_knownHere 25 = .ok (.bipush 23, 2) := by decide +kernel
theorem dX12_knownHere_27 : decode cX12_knownHere 27 = .ok (.iconst 0, 1) := by decide +kernel
theorem dX12_knownHere_28 : decode cX12_knownHere 28 = .ok (.iconst 0, 1) := by decide +kernel
theorem dX12_knownHere_29 : decode cX12_knownHere 29 = .ok (.invokevirtual 219, 3) := by decide +kernel
theorem dX12_knownHere_32 : decode cX12_knownHere 32 = .ok (.ifCond .eq 5, 3) := by decide +kernel
theorem dX12_knownHere_35 : decode cX12_knownHere 35 = .ok (.iconst 1, 1) := by decide +kernel
theorem dX12_knownHere_36 : decode cX12_knownHere 36 = .ok (.ireturn, 1) := by decide +kernel
theorem dX12_knownHere_37 : decode cX12_knownHere 37 = .ok (.aload_n 0, 1) := by decide +kernel
theorem dX12_knownHere_38 : decode cX12_knownHere 38 = .ok (.bipush 8, 2) := by decide +kernel
theorem dX12_knownHere_40 : decode cX12_knownHere 40 = .ok (.bipush 9, 2) := by decide +kernel
theorem dX12_knownHere_42 : decode cX12_knownHere 42 = .ok (.iconst 4, 1) := by decide +kernel
theorem dX12_knownHere_43 : decode cX12_knownHere 43 = .ok (.iconst 5, 1) := by decide +kernel
theorem dX12_knownHere_44 : decode cX12_knownHere 44 = .ok (.iconst 0, 1) := by decide +kernel
theorem dX12_knownHere_45 : decode cX12_knownHere 45 = .ok (.iconst 0, 1) := by decide +kernel
theorem dX12_knownHere_46 : decode cX12_knownHere 46 = .ok (.invokevirtual 219, 3) := by decide +kernel
theorem dX12_knownHere_49 : decode cX12_knownHere 49 = .ok (.ifCond .eq 5, 3) := by decide +kernel
theorem dX12_knownHere_52 : decode cX12_knownHere 52 = .ok (.iconst 2, 1) := by decide +kernel
theorem dX12_knownHere_53 : decode cX12_knownHere 53 = .ok (.ireturn, 1) := by decide +kernel
theorem dX12_knownHere_54 : decode cX12_knownHere 54 = .ok (.aload_n 0, 1) := by decide +kernel
theorem dX12_knownHere_55 : decode cX12_knownHere 55 = .ok (.iconst 3, 1) := by decide +kernel
theorem dX12_knownHere_56 : decode cX12_knownHere 56 = .ok (.iconst 1, 1) := by decide +kernel
theorem dX12_knownHere_57 : decode cX12_knownHere 57 = .ok (.bipush 20, 2) := by decide +kernel
theorem dX12_knownHere_59 : decode cX12_knownHere 59 = .ok (.bipush 19, 2) := by decide +kernel
theorem dX12_knownHere_61 : decode cX12_knownHere 61 = .ok (.iconst 0, 1) := by decide +kernel
theorem dX12_knownHere_62 : decode cX12_knownHere 62 = .ok (.iconst 0, 1) := by decide +kernel
theorem dX12_knownHere_63 : decode cX12_knownHere 63 = .ok (.invokevirtual 219, 3) := by decide +kernel
theorem dX12_knownHere_66 : decode cX12_knownHere 66 = .ok (.ifCond .eq 5, 3) := by decide +kernel
theorem dX12_knownHere_69 : decode cX12_knownHere 69 = .ok (.iconst 3, 1) := by decide +kernel
theorem dX12_knownHere_70 : decode cX12_knownHere 70 = .ok (.ireturn, 1) := by decide +kernel
theorem dX12_knownHere_71 : decode cX12_knownHere 71 = .ok (.aload_n 0, 1) := by decide +kernel
theorem dX12_knownHere_72 : decode cX12_knownHere 72 = .ok (.bipush 14, 2) := by decide +kernel
theorem dX12_knownHere_74 : decode cX12_knownHere 74 = .ok (.bipush 9, 2) := by decide +kernel
theorem dX12_knownHere_76 : decode cX12_knownHere 76 = .ok (.bipush 7, 2) := by decide +kernel
theorem dX12_knownHere_78 : decode cX12_knownHere 78 = .ok (.bipush 8, 2) := by decide +kernel
theorem dX12_knownHere_80 : decode cX12_knownHere 80 = .ok (.bipush 20, 2) := by decide +kernel
theorem dX12_knownHere_82 : decode cX12_knownHere 82 = .ok (.iconst 0, 1) := by decide +kernel
theorem dX12_knownHere_83 : decode cX12_knownHere 83 = .ok (.invokevirtual 219, 3) := by decide +kernel
theorem dX12_knownHere_86 : decode cX12_knownHere 86 = .ok (.ifCond .eq 5, 3) := by decide +kernel
theorem dX12_knownHere_89 : decode cX12_knownHere 89 = .ok (.iconst 4, 1) := by decide +kernel
theorem dX12_knownHere_90 : decode cX12_knownHere 90 = .ok (.ireturn, 1) := by decide +kernel
theorem dX12_knownHere_91 : decode cX12_knownHere 91 = .ok (.aload_n 0, 1) := by decide +kernel
theorem dX12_knownHere_92 : decode cX12_knownHere 92 = .ok (.bipush 13, 2) := by decide +kernel
theorem dX12_knownHere_94 : decode cX12_knownHere 94 = .ok (.iconst 1, 1) := by decide +kernel
theorem dX12_knownHere_95 : decode cX12_knownHere 95 = .ok (.bipush 20, 2) := by decide +kernel
theorem dX12_knownHere_97 : decode cX12_knownHere 97 = .ok (.iconst 0, 1) := by decide +kernel
theorem dX12_knownHere_98 : decode cX12_knownHere 98 = .ok (.iconst 0, 1) := by decide +kernel
theorem dX12_knownHere_99 : decode cX12_knownHere 99 = .ok (.iconst 0, 1) := by decide +kernel
theorem dX12_knownHere_100 : decode cX12_knownHere 100 = .ok (.invokevirtual 219, 3) := by decide +kernel
theorem dX12_knownHere_103 : decode cX12_knownHere 103 = .ok (.ifCond .eq 5, 3) := by decide +kernel
theorem dX12_knownHere_106 : decode cX12_knownHere 106 = .ok (.iconst 5, 1) := by decide +kernel
theorem dX12_knownHere_107 : decode cX12_knownHere 107 = .ok (.ireturn, 1) := by decide +kernel
theorem dX12_knownHere_108 : decode cX12_knownHere 108 = .ok (.aload_n 0, 1) := by decide +kernel
theorem dX12_knownHere_109 : decode cX12_knownHere 109 = .ok (.bipush 19, 2) := by decide +kernel
theorem dX12_knownHere_111 : decode cX12_knownHere 111 = .ok (.iconst 3, 1) := by decide +kernel
theorem dX12_knownHere_112 : decode cX12_knownHere 112 = .ok (.bipush 8, 2) := by decide +kernel
theorem dX12_knownHere_114 : decode cX12_knownHere 114 = .ok (.iconst 5, 1) := by decide +kernel
theorem dX12_knownHere_115 : decode cX12_knownHere 115 = .ok (.bipush 13, 2) := by decide +kernel
theorem dX12_knownHere_117 : decode cX12_knownHere 117 = .ok (.iconst 5, 1) := by decide +kernel
theorem dX12_knownHere_118 : decode cX12_knownHere 118 = .ok (.invokevirtual 219, 3) := by decide +kernel
theorem dX12_knownHere_121 : decode cX12_knownHere 121 = .ok (.ifCond .eq 8, 3) := by decide +kernel
theorem dX12_knownHere_124 : decode cX12_knownHere 124 = .ok (.bipush 6, 2) := by decide +kernel
theorem dX12_knownHere_126 : decode cX12_knownHere 126 = .ok (.goto 4, 3) := by decide +kernel
theorem dX12_knownHere_129 : decode cX12_knownHere 129 = .ok (.iconst (-1), 1) := by decide +kernel
theorem dX12_knownHere_130 : decode cX12_knownHere 130 = .ok (.ireturn, 1) := by decide +kernel
theorem dX12_one_0 : decode cX12_one 0 = .ok (.aload_n 0, 1) := by decide +kernel
theorem dX12_one_1 : decode cX12_one 1 = .ok (.getfield 109, 3) := by decide +kernel
theorem dX12_one_4 : decode cX12_one 4 = .ok (.ifCond .eq 4, 3) := by decide +kernel
theorem dX12_one_7 : decode cX12_one 7 = .ok (.return_, 1) := by decide +kernel
theorem dX12_one_8 : decode cX12_one 8 = .ok (.aload_n 0, 1) := by decide +kernel
theorem dX12_one_9 : decode cX12_one 9 = .ok (.invokevirtual 115, 3) := by decide +kernel
theorem dX12_one_12 : decode cX12_one 12 = .ok (.aload_n 0, 1) := by decide +kernel
theorem dX12_one_13 : decode cX12_one 13 = .ok (.bipush 12, 2) := by decide +kernel
theorem dX12_one_15 : decode cX12_one 15 = .ok (.iconst 5, 1) := by decide +kernel
theorem dX12_one_16 : decode cX12_one 16 = .ok (.iconst 1, 1) := by decide +kernel
theorem dX12_one_17 : decode cX12_one 17 = .ok (.bipush 19, 2) := by decide +kernel
theorem dX12_one_19 : decode cX12_one 19 = .ok (.bipush 20, 2) := by decide +kernel
theorem dX12_one_21 : decode cX12_one 21 = .ok (.iconst 0, 1) := by decide +kernel
theorem dX12_one_22 : decode cX12_one 22 = .ok (.invokevirtual 142, 3) := by decide +kernel
theorem dX12_one_25 : decode cX12_one 25 = .ok (.ifCond .eq 8, 3) := by decide +kernel
theorem dX12_one_28 : decode cX12_one 28 = .ok (.bipush 7, 2) := by decide +kernel
theorem dX12_one_30 : decode cX12_one 30 = .ok (.goto 26, 3) := by decide +kernel
theorem dX12_one_33 : decode cX12_one 33 = .ok (.aload_n 0, 1) := by decide +kernel
theorem dX12_one_34 : decode cX12_one 34 = .ok (.bipush 13, 2) := by decide +kernel
theorem dX12_one_36 : decode cX12_one 36 = .ok (.bipush 15, 2) := by decide +kernel
theorem dX12_one_38 : decode cX12_one 38 = .ok (.bipush 19, 2) := by decide +kernel
theorem dX12_one_40 : decode cX12_one 40 = .ok (.bipush 20, 2) := by decide +kernel
theorem dX12_one_42 : decode cX12_one 42 = .ok (.iconst 0, 1) := by decide +kernel
theorem dX12_one_43 : decode cX12_one 43 = .ok (.iconst 0, 1) := by decide +kernel
theorem dX12_one_44 : decode cX12_one 44 = .ok (.invokevirtual 142, 3) := by decide +kernel
theorem dX12_one_47 : decode cX12_one 47 = .ok (.ifCond .eq 8, 3) := by decide +kernel
theorem dX12_one_50 : decode cX12_one 50 = .ok (.bipush 8, 2) := by decide +kernel
theorem dX12_one_52 : decode cX12_one 52 = .ok (.goto 4, 3) := by decide +kernel
theorem dX12_one_55 : decode cX12_one 55 = .ok (.iconst (-1), 1) := by decide +kernel
theorem dX12_one_56 : decode cX12_one 56 = .ok (.istore_n 1, 1) := by decide +kernel
theorem dX12_one_57 : decode cX12_one 57 = .ok (.iload_n 1, 1) := by decide +kernel
theorem dX12_one_58 : decode cX12_one 58 = .ok (.iconst (-1), 1) := by decide +kernel
theorem dX12_one_59 : decode cX12_one 59 = .ok (.if_icmp .eq 58, 3) := by decide +kernel
theorem dX12_one_62 : decode cX12_one 62 = .ok (.aload_n 0, 1) := by decide +kernel
theorem dX12_one_63 : decode cX12_one 63 = .ok (.invokevirtual 222, 3) := by decide +kernel
theorem dX12_one_66 : decode cX12_one 66 = .ok (.ifCond .ne 4, 3) := by decide +kernel
theorem dX12_one_69 : decode cX12_one 69 = .ok (.return_, 1) := by decide +kernel
theorem dX12_one_70 : decode cX12_one 70 = .ok (.aload_n 0, 1) := by decide +kernel
theorem dX12_one_71 : decode cX12_one 71 = .ok (.invokevirtual 146, 3) := by decide +kernel
theorem dX12_one_74 : decode cX12_one 74 = .ok (.aload_n 0, 1) := by decide +kernel
theorem dX12_one_75 : decode cX12_one 75 = .ok (.bipush 91, 2) := by decide +kernel
theorem dX12_one_77 : decode cX12_one 77 = .ok (.invokevirtual 168, 3) := by decide +kernel
theorem dX12_one_80 : decode cX12_one 80 = .ok (.aload_n 0, 1) := by decide +kernel
theorem dX12_one_81 : decode cX12_one 81 = .ok (.invokevirtual 226, 3) := by decide +kernel
theorem dX12_one_84 : decode cX12_one 84 = .ok (.aload_n 0, 1) := by decide +kernel
theorem dX12_one_85 : decode cX12_one 85 = .ok (.bipush 44, 2) := by decide +kernel
theorem dX12_one_87 : decode cX12_one 87 = .ok (.invokevirtual 168, 3) := by decide +kernel
theorem dX12_one_90 : decode cX12_one 90 = .ok (.aload_n 0, 1) := by decide +kernel
theorem dX12_one_91 : decode cX12_one 91 = .ok (.invokevirtual 226, 3) := by decide +kernel
theorem dX12_one_94 : decode cX12_one 94 = .ok (.aload_n 0, 1) := by decide +kernel
theorem dX12_one_95 : decode cX12_one 95 = .ok (.bipush 93, 2) := by decide +kernel
theorem dX12_one_97 : decode cX12_one 97 = .ok (.invokevirtual 168, 3) := by decide +kernel
theorem dX12_one_100 : decode cX12_one 100 = .ok (.aload_n 0, 1) := by decide +kernel
theorem dX12_one_101 : decode cX12_one 101 = .ok (.iload_n 1, 1) := by decide +kernel
theorem dX12_one_102 : decode cX12_one 102 = .ok (.iconst 0, 1) := by decide +kernel
theorem dX12_one_103 : decode cX12_one 103 = .ok (.invokevirtual 213, 3) := by decide +kernel
theorem dX12_one_106 : decode cX12_one 106 = .ok (.aload_n 0, 1) := by decide +kernel
theorem dX12_one_107 : decode cX12_one 107 = .ok (.dup, 1) := by decide +kernel
theorem dX12_one_108 : decode cX12_one 108 = .ok (.getfield 152, 3) := by decide +kernel
theorem dX12_one_111 : decode cX12_one 111 = .ok (.iconst 1, 1) := by decide +kernel
theorem dX12_one_112 : decode cX12_one 112 = .ok (.isub, 1) := by decide +kernel
theorem dX12_one_113 : decode cX12_one 113 = .ok (.putfield 152, 3) := by decide +kernel
theorem dX12_one_116 : decode cX12_one 116 = .ok (.return_, 1) := by decide +kernel
theorem dX12_one_117 : decode cX12_one 117 = .ok (.aload_n 0, 1) := by decide +kernel
theorem dX12_one_118 : decode cX12_one 118 = .ok (.aload_n 0, 1) := by decide +kernel
theorem dX12_one_119 : decode cX12_one 119 = .ok (.getfield 102, 3) := by decide +kernel
theorem dX12_one_122 : decode cX12_one 122 = .ok (.invokevirtual 105, 3) := by decide +kernel
theorem dX12_one_125 : decode cX12_one 125 = .ok (.bipush 40, 2) := by decide +kernel
theorem dX12_one_127 : decode cX12_one 127 = .ok (.if_icmp .ne 42, 3) := by decide +kernel
theorem dX12_one_130 : decode cX12_one 130 = .ok (.aload_n 0, 1) := by decide +kernel
theorem dX12_one_131 : decode cX12_one 131 = .ok (.invokevirtual 222, 3) := by decide +kernel
theorem dX12_one_134 : decode cX12_one 134 = .ok (.ifCond .ne 4, 3) := by decide +kernel
theorem dX12_one_137 : decode cX12_one 137 = .ok (.return_, 1) := by decide +kernel
theorem dX12_one_138 : decode cX12_one 138 = .ok (.aload_n 0, 1) := by decide +kernel
theorem dX12_one_139 : decode cX12_one 139 = .ok (.dup, 1) := by decide +kernel
theorem dX12_one_140 : decode cX12_one 140 = .ok (.getfield 102, 3) := by decide +kernel
theorem dX12_one_143 : decode cX12_one 143 = .ok (.iconst 1, 1) := by decide +kernel
theorem dX12_one_144 : decode cX12_one 144 = .ok (.iadd, 1) := by decide +kernel
theorem dX12_one_145 : decode cX12_one 145 = .ok (.putfield 102, 3) := by decide +kernel
theorem dX12_one_148 : decode cX12_one 148 = .ok (.aload_n 0, 1) := by decide +kernel
theorem dX12_one_149 : decode cX12_one 149 = .ok (.invokevirtual 226, 3) := by decide +kernel
theorem dX12_one_152 : decode cX12_one 152 = .ok (.aload_n 0, 1) := by decide +kernel
theorem dX12_one_153 : decode cX12_one 153 = .ok (.bipush 41, 2) := by decide +kernel
theorem dX12_one_155 : decode cX12_one 155 = .ok (.invokevirtual 168, 3) := by decide +kernel
theorem dX12_one_158 : decode cX12_one 158 = .ok (.aload_n 0, 1) := by decide +kernel
theorem dX12_one_159 : decode cX12_one 159 = .ok (.dup, 1) := by decide +kernel
theorem dX12_one_160 : decode cX12_one 160 = .ok (.getfield 152, 3) := by decide +kernel
theorem dX12_one_163 : decode cX12_one 163 = .ok (.iconst 1, 1) := by decide +kernel
theorem dX12_one_164 : decode cX12_one 164 = .ok (.isub, 1) := by decide +kernel
theorem dX12_one_165 : decode cX12_one 165 = .ok (.putfield 152, 3) := by decide +kernel
theorem dX12_one_168 : decode cX12_one 168 = .ok (.return_, 1) := by decide +kernel
theorem dX12_one_169 : decode cX12_one 169 = .ok (.aload_n 0, 1) := by decide +kernel
theorem dX12_one_170 : decode cX12_one 170 = .ok (.invokevirtual 229, 3) := by decide +kernel
theorem dX12_one_173 : decode cX12_one 173 = .ok (.istore_n 2, 1) := by decide +kernel
theorem dX12_one_174 : decode cX12_one 174 = .ok (.iload_n 2, 1) := by decide +kernel
theorem dX12_one_175 : decode cX12_one 175 = .ok (.iconst (-1), 1) := by decide +kernel
theorem dX12_one_176 : decode cX12_one 176 = .ok (.if_icmp .eq 12, 3) := by decide +kernel
theorem dX12_one_179 : decode cX12_one 179 = .ok (.aload_n 0, 1) := by decide +kernel
theorem dX12_one_180 : decode cX12_one 180 = .ok (.iconst 1, 1) := by decide +kernel
theorem dX12_one_181 : decode cX12_one 181 = .ok (.iload_n 2, 1) := by decide +kernel
theorem dX12_one_182 : decode cX12_one 182 = .ok (.invokevirtual 213, 3) := by decide +kernel
theorem dX12_one_185 : decode cX12_one 185 = .ok (.goto 16, 3) := by decide +kernel
theorem dX12_one_188 : decode cX12_one 188 = .ok (.aload_n 0, 1) := by decide +kernel
theorem dX12_one_189 : decode cX12_one 189 = .ok (.iconst 0, 1) := by decide +kernel
theorem dX12_one_190 : decode cX12_one 190 = .ok (.aload_n 0, 1) := by decide +kernel
theorem dX12_one_191 : decode cX12_one 191 = .ok (.iconst 0, 1) := by decide +kernel
theorem dX12_one_192 : decode cX12_one 192 = .ok (.sipush 999, 3) := by decide +kernel
theorem dX12_one_195 : decode cX12_one 195 = .ok (.invokevirtual 165, 3) := by decide +kernel
theorem dX12_one_198 : decode cX12_one 198 = .ok (.invokevirtual 213, 3) := by decide +kernel
theorem dX12_one_201 : decode cX12_one 201 = .ok (.return_, 1) := by decide +kernel
theorem dX12_law_0 : decode cX12_law 0 = .ok (.aload_n 0, 1) := by decide +kernel
theorem dX12_law_1 : decode cX12_law 1 = .ok (.iconst 0, 1) := by decide +kernel
theorem dX12_law_2 : decode cX12_law 2 = .ok (.putfield 93, 3) := by decide +kernel
theorem dX12_law_5 : decode cX12_law 5 = .ok (.aload_n 0, 1) := by decide +kernel
theorem dX12_law_6 : decode cX12_law 6 = .ok (.iload_n 1, 1) := by decide +kernel
theorem dX12_law_7 : decode cX12_law 7 = .ok (.iconst 0, 1) := by decide +kernel
theorem dX12_law_8 : decode cX12_law 8 = .ok (.aload_n 0, 1) := by decide +kernel
theorem dX12_law_9 : decode cX12_law 9 = .ok (.getfield 96, 3) := by decide +kernel
theorem dX12_law_12 : decode cX12_law 12 = .ok (.invokestatic 127, 3) := by decide +kernel
theorem dX12_law_15 : decode cX12_law 15 = .ok (.ifCond .eq 10, 3) := by decide +kernel
theorem dX12_law_18 : decode cX12_law 18 = .ok (.iload_n 1, 1) := by decide +kernel
theorem dX12_law_19 : decode cX12_law 19 = .ok (.sipush 150, 3) := by decide +kernel
theorem dX12_law_22 : decode cX12_law 22 = .ok (.if_icmp .le 7, 3) := by decide +kernel
theorem dX12_law_25 : decode cX12_law 25 = .ok (.iconst 1, 1) := by decide +kernel
theorem dX12_law_26 : decode cX12_law 26 = .ok (.goto 4, 3) := by decide +kernel
theorem dX12_law_29 : decode cX12_law 29 = .ok (.iconst 0, 1) := by decide +kernel
theorem dX12_law_30 : decode cX12_law 30 = .ok (.iconst 1, 1) := by decide +kernel
theorem dX12_law_31 : decode cX12_law 31 = .ok (.iconst 1, 1) := by decide +kernel
theorem dX12_law_32 : decode cX12_law 32 = .ok (.invokevirtual 172, 3) := by decide +kernel
theorem dX12_law_35 : decode cX12_law 35 = .ok (.ifCond .eq 5, 3) := by decide +kernel
theorem dX12_law_38 : decode cX12_law 38 = .ok (.iconst 0, 1) := by decide +kernel
theorem dX12_law_39 : decode cX12_law 39 = .ok (.ireturn, 1) := by decide +kernel
theorem dX12_law_40 : decode cX12_law 40 = .ok (.aload_n 0, 1) := by decide +kernel
theorem dX12_law_41 : decode cX12_law 41 = .ok (.iload_n 1, 1) := by decide +kernel
theorem dX12_law_42 : decode cX12_law 42 = .ok (.invokevirtual 176, 3) := by decide +kernel
theorem dX12_law_45 : decode cX12_law 45 = .ok (.aload_n 0, 1) := by decide +kernel
theorem dX12_law_46 : decode cX12_law 46 = .ok (.iconst 0, 1) := by decide +kernel
theorem dX12_law_47 : decode cX12_law 47 = .ok (.putfield 204, 3) := by decide +kernel
theorem dX12_law_50 : decode cX12_law 50 = .ok (.aload_n 0, 1) := by decide +kernel
theorem dX12_law_51 : decode cX12_law 51 = .ok (.invokevirtual 226, 3) := by decide +kernel
theorem dX12_law_54 : decode cX12_law 54 = .ok (.aload_n 0, 1) := by decide +kernel
theorem dX12_law_55 : decode cX12_law 55 = .ok (.invokevirtual 115, 3) := by decide +kernel
theorem dX12_law_58 : decode cX12_law 58 = .ok (.aload_n 0, 1) := by decide +kernel
theorem dX12_law_59 : decode cX12_law 59 = .ok (.getfield 109, 3) := by decide +kernel
theorem dX12_law_62 : decode cX12_law 62 = .ok (.ifCond .ne 23, 3) := by decide +kernel
theorem dX12_law_65 : decode cX12_law 65 = .ok (.aload_n 0, 1) := by decide +kernel
theorem dX12_law_66 : decode cX12_law 66 = .ok (.getfield 102, 3) := by decide +kernel
theorem dX12_law_69 : decode cX12_law 69 = .ok (.aload_n 0, 1) := by decide +kernel
theorem dX12_law_70 : decode cX12_law 70 = .ok (.getfield 99, 3) := by decide +kernel
theorem dX12_law_73 : decode cX12_law 73 = .ok (.if_icmp .ge 12, 3) := by decide +kernel
theorem dX12_law_76 : decode cX12_law 76 = .ok (.aload_n 0, 1) := by decide +kernel
theorem dX12_law_77 : decode cX12_law 77 = .ok (.iconst 1, 1) := by decide +kernel
theorem dX12_law_78 : decode cX12_law 78 = .ok (.aload_n 0, 1) := by decide +kernel
theorem dX12_law_79 : decode cX12_law 79 = .ok (.getfield 102, 3) := by decide +kernel
theorem dX12_law_82 : decode cX12_law 82 = .ok (.invokevirtual 122, 3) := by decide +kernel
theorem dX12_law_85 : decode cX12_law 85 = .ok (.aload_n 0, 1) := by decide +kernel
theorem dX12_law_86 : decode cX12_law 86 = .ok (.getfield 109, 3) := by decide +kernel
theorem dX12_law_89 : decode cX12_law 89 = .ok (.ifCond .eq 8, 3) := by decide +kernel
theorem dX12_law_92 : decode cX12_law 92 = .ok (.aload_n 0, 1) := by decide +kernel
theorem dX12_law_93 : decode cX12_law 93 = .ok (.invokevirtual 182, 3) := by decide +kernel
theorem dX12_law_96 : decode cX12_law 96 = .ok (.ireturn, 1) := by decide +kernel
theorem dX12_law_97 : decode cX12_law 97 = .ok (.aload_n 0, 1) := by decide +kernel
theorem dX12_law_98 : decode cX12_law 98 = .ok (.iconst (-1), 1) := by decide +kernel
theorem dX12_law_99 : decode cX12_law 99 = .ok (.putfield 9, 3) := by decide +kernel
theorem dX12_law_102 : decode cX12_law 102 = .ok (.aload_n 0, 1) := by decide +kernel
theorem dX12_law_103 : decode cX12_law 103 = .ok (.aload_n 0, 1) := by decide +kernel
theorem dX12_law_104 : decode cX12_law 104 = .ok (.getfield 204, 3) := by decide +kernel
theorem dX12_law_107 : decode cX12_law 107 = .ok (.putfield 189, 3) := by decide +kernel
theorem dX12_law_110 : decode cX12_law 110 = .ok (.aload_n 0, 1) := by decide +kernel
theorem dX12_law_111 : decode cX12_law 111 = .ok (.getfield 37, 3) := by decide +kernel
theorem dX12_law_114 : decode cX12_law 114 = .ok (.aload_n 0, 1) := by decide +kernel
theorem dX12_law_115 : decode cX12_law 115 = .ok (.getfield 34, 3) := by decide +kernel
theorem dX12_law_118 : decode cX12_law 118 = .ok (.aload_n 0, 1) := by decide +kernel
theorem dX12_law_119 : decode cX12_law 119 = .ok (.getfield 189, 3) := by decide +kernel
theorem dX12_law_122 : decode cX12_law 122 = .ok (.invokestatic 185, 3) := by decide +kernel
theorem dX12_law_125 : decode cX12_law 125 = .ok (.iconst 1, 1) := by decide +kernel
theorem dX12_law_126 : decode cX12_law 126 = .ok (.ireturn, 1) := by decide +kernel
theorem dX12_by_0 : decode cX12_by 0 = .ok (.iload_n 0, 1) := by decide +kernel
theorem dX12_by_1 : decode cX12_by 1 = .ok (.tableswitch 96 2 7 #[39, 43, 47, 51, 73, 90], 39) := by decide +kernel
theorem dX12_by_40 : decode cX12_by 40 = .ok (.iload_n 1, 1) := by decide +kernel
theorem dX12_by_41 : decode cX12_by 41 = .ok (.iload_n 2, 1) := by decide +kernel
theorem dX12_by_42 : decode cX12_by 42 = .ok (.iadd, 1) := by decide +kernel
theorem dX12_by_43 : decode cX12_by 43 = .ok (.ireturn, 1) := by decide +kernel
theorem dX12_by_44 : decode cX12_by 44 = .ok (.iload_n 1, 1) := by decide +kernel
theorem dX12_by_45 : decode cX12_by 45 = .ok (.iload_n 2, 1) := by decide +kernel
theorem dX12_by_46 : decode cX12_by 46 = .ok (.isub, 1) := by decide +kernel
theorem dX12_by_47 : decode cX12_by 47 = .ok (.ireturn, 1) := by decide +kernel
theorem dX12_by_48 : decode cX12_by 48 = .ok (.iload_n 1, 1) := by decide +kernel
theorem dX12_by_49 : decode cX12_by 49 = .ok (.iload_n 2, 1) := by decide +kernel
theorem dX12_by_50 : decode cX12_by 50 = .ok (.imul, 1) := by decide +kernel
theorem dX12_by_51 : decode cX12_by 51 = .ok (.ireturn, 1) := by decide +kernel
theorem dX12_by_52 : decode cX12_by 52 = .ok (.iload_n 2, 1) := by decide +kernel
theorem dX12_by_53 : decode cX12_by 53 = .ok (.ifCond .ne 7, 3) := by decide +kernel
theorem dX12_by_56 : decode cX12_by 56 = .ok (.iconst 0, 1) := by decide +kernel
theorem dX12_by_57 : decode cX12_by 57 = .ok (.goto 16, 3) := by decide +kernel
theorem dX12_by_60 : decode cX12_by 60 = .ok (.iload_n 2, 1) := by decide +kernel
theorem dX12_by_61 : decode cX12_by 61 = .ok (.iconst (-1), 1) := by decide +kernel
theorem dX12_by_62 : decode cX12_by 62 = .ok (.if_icmp .ne 8, 3) := by decide +kernel
theorem dX12_by_65 : decode cX12_by 65 = .ok (.iload_n 1, 1) := by decide +kernel
theorem dX12_by_66 : decode cX12_by 66 = .ok (.ineg, 1) := by decide +kernel
theorem dX12_by_67 : decode cX12_by 67 = .ok (.goto 6, 3) := by decide +kernel
theorem dX12_by_70 : decode cX12_by 70 = .ok (.iload_n 1, 1) := by decide +kernel
theorem dX12_by_71 : decode cX12_by 71 = .ok (.iload_n 2, 1) := by decide +kernel
theorem dX12_by_72 : decode cX12_by 72 = .ok (.idiv, 1) := by decide +kernel
theorem dX12_by_73 : decode cX12_by 73 = .ok (.ireturn, 1) := by decide +kernel
theorem dX12_by_74 : decode cX12_by 74 = .ok (.iload_n 2, 1) := by decide +kernel
theorem dX12_by_75 : decode cX12_by 75 = .ok (.ifCond .eq 8, 3) := by decide +kernel
theorem dX12_by_78 : decode cX12_by 78 = .ok (.iload_n 2, 1) := by decide +kernel
theorem dX12_by_79 : decode cX12_by 79 = .ok (.iconst (-1), 1) := by decide +kernel
theorem dX12_by_80 : decode cX12_by 80 = .ok (.if_icmp .ne 7, 3) := by decide +kernel
theorem dX12_by_83 : decode cX12_by 83 = .ok (.iconst 0, 1) := by decide +kernel
theorem dX12_by_84 : decode cX12_by 84 = .ok (.goto 6, 3) := by decide +kernel
theorem dX12_by_87 : decode cX12_by 87 = .ok (.iload_n 1, 1) := by decide +kernel
theorem dX12_by_88 : decode cX12_by 88 = .ok (.iload_n 2, 1) := by decide +kernel
theorem dX12_by_89 : decode cX12_by 89 = .ok (.irem, 1) := by decide +kernel
theorem dX12_by_90 : decode cX12_by 90 = .ok (.ireturn, 1) := by decide +kernel
theorem dX12_by_91 : decode cX12_by 91 = .ok (.iload_n 1, 1) := by decide +kernel
theorem dX12_by_92 : decode cX12_by 92 = .ok (.iload_n 2, 1) := by decide +kernel
theorem dX12_by_93 : decode cX12_by 93 = .ok (.invokestatic 232, 3) := by decide +kernel
theorem dX12_by_96 : decode cX12_by 96 = .ok (.ireturn, 1) := by decide +kernel
theorem dX12_by_97 : decode cX12_by 97 = .ok (.iload_n 1, 1) := by decide +kernel
theorem dX12_by_98 : decode cX12_by 98 = .ok (.iload_n 2, 1) := by decide +kernel
theorem dX12_by_99 : decode cX12_by 99 = .ok (.invokestatic 235, 3) := by decide +kernel
theorem dX12_by_102 : decode cX12_by 102 = .ok (.ireturn, 1) := by decide +kernel
theorem dX12_byLaw_0 : decode cX12_byLaw 0 = .ok (.iconst 0, 1) := by decide +kernel
theorem dX12_byLaw_1 : decode cX12_byLaw 1 = .ok (.istore_n 1, 1) := by decide +kernel
theorem dX12_byLaw_2 : decode cX12_byLaw 2 = .ok (.aload_n 0, 1) := by decide +kernel
theorem dX12_byLaw_3 : decode cX12_byLaw 3 = .ok (.getfield 46, 3) := by decide +kernel
theorem dX12_byLaw_6 : decode cX12_byLaw 6 = .ok (.iconst 0, 1) := by decide +kernel
theorem dX12_byLaw_7 : decode cX12_byLaw 7 = .ok (.aload_n 0, 1) := by decide +kernel
theorem dX12_byLaw_8 : decode cX12_byLaw 8 = .ok (.getfield 49, 3) := by decide +kernel
theorem dX12_byLaw_11 : decode cX12_byLaw 11 = .ok (.iconst 1, 1) := by decide +kernel
theorem dX12_byLaw_12 : decode cX12_byLaw 12 = .ok (.iaload, 1) := by decide +kernel
theorem dX12_byLaw_13 : decode cX12_byLaw 13 = .ok (.iastore, 1) := by decide +kernel
theorem dX12_byLaw_14 : decode cX12_byLaw 14 = .ok (.iconst 0, 1) := by decide +kernel
theorem dX12_byLaw_15 : decode cX12_byLaw 15 = .ok (.istore_n 2, 1) := by decide +kernel
theorem dX12_byLaw_16 : decode cX12_byLaw 16 = .ok (.iload_n 2, 1) := by decide +kernel
theorem dX12_byLaw_17 : decode cX12_byLaw 17 = .ok (.aload_n 0, 1) := by decide +kernel
theorem dX12_byLaw_18 : decode cX12_byLaw 18 = .ok (.getfield 189, 3) := by decide +kernel
theorem dX12_byLaw_21 : decode cX12_byLaw 21 = .ok (.if_icmp .ge 104, 3) := by decide +kernel
theorem dX12_byLaw_24 : decode cX12_byLaw 24 = .ok (.aload_n 0, 1) := by decide +kernel
theorem dX12_byLaw_25 : decode cX12_byLaw 25 = .ok (.getfield 34, 3) := by decide +kernel
theorem dX12_byLaw_28 : decode cX12_byLaw 28 = .ok (.iload_n 2, 1) := by decide +kernel
theorem dX12_byLaw_29 : decode cX12_byLaw 29 = .ok (.aaload, 1) := by decide +kernel
theorem dX12_byLaw_30 : decode cX12_byLaw 30 = .ok (.iconst 0, 1) := by decide +kernel
theorem dX12_byLaw_31 : decode cX12_byLaw 31 = .ok (.iaload, 1) := by decide +kernel
theorem dX12_byLaw_32 : decode cX12_byLaw 32 = .ok (.iconst 2, 1) := by decide +kernel
theorem dX12_byLaw_33 : decode cX12_byLaw 33 = .ok (.if_icmp .ge 50, 3) := by decide +kernel
theorem dX12_byLaw_36 : decode cX12_byLaw 36 = .ok (.aload_n 0, 1) := by decide +kernel
theorem dX12_byLaw_37 : decode cX12_byLaw 37 = .ok (.getfield 46, 3) := by decide +kernel
theorem dX12_byLaw_40 : decode cX12_byLaw 40 = .ok (.iload_n 1, 1) := by decide +kernel
theorem dX12_byLaw_41 : decode cX12_byLaw 41 = .ok (.aload_n 0, 1) := by decide +kernel
theorem dX12_byLaw_42 : decode cX12_byLaw 42 = .ok (.getfield 34, 3) := by decide +kernel
theorem dX12_byLaw_45 : decode cX12_byLaw 45 = .ok (.iload_n 2, 1) := by decide +kernel
theorem dX12_byLaw_46 : decode cX12_byLaw 46 = .ok (.aaload, 1) := by decide +kernel
theorem dX12_byLaw_47 : decode cX12_byLaw 47 = .ok (.iconst 0, 1) := by decide +kernel
theorem dX12_byLaw_48 : decode cX12_byLaw 48 = .ok (.iaload, 1) := by decide +kernel
theorem dX12_byLaw_49 : decode cX12_byLaw 49 = .ok (.ifCond .ne 14, 3) := by decide +kernel
theorem dX12_byLaw_52 : decode cX12_byLaw 52 = .ok (.aload_n 0, 1) := by decide +kernel
theorem dX12_byLaw_53 : decode cX12_byLaw 53 = .ok (.getfield 34, 3) := by decide +kernel
theorem dX12_byLaw_56 : decode cX12_byLaw 56 = .ok (.iload_n 2, 1) := by decide +kernel
theorem dX12_byLaw_57 : decode cX12_byLaw 57 = .ok (.aaload, 1) := by decide +kernel
theorem dX12_byLaw_58 : decode cX12_byLaw 58 = .ok (.iconst 1, 1) := by decide +kernel
theorem dX12_byLaw_59 : decode cX12_byLaw 59 = .ok (.iaload, 1) := by decide +kernel
theorem dX12_byLaw_60 : decode cX12_byLaw 60 = .ok (.goto 16, 3) := by decide +kernel
theorem dX12_byLaw_63 : decode cX12_byLaw 63 = .ok (.aload_n 0, 1) := by decide +kernel
theorem dX12_byLaw_64 : decode cX12_byLaw 64 = .ok (.getfield 49, 3) := by decide +kernel
theorem dX12_byLaw_67 : decode cX12_byLaw 67 = .ok (.aload_n 0, 1) := by decide +kernel
theorem dX12_byLaw_68 : decode cX12_byLaw 68 = .ok (.getfield 34, 3) := by decide +kernel
theorem dX12_byLaw_71 : decode cX12_byLaw 71 = .ok (.iload_n 2, 1) := by decide +kernel
theorem dX12_byLaw_72 : decode cX12_byLaw 72 = .ok (.aaload, 1) := by decide +kernel
theorem dX12_byLaw_73 : decode cX12_byLaw 73 = .ok (.iconst 1, 1) := by decide +kernel
theorem dX12_byLaw_74 : decode cX12_byLaw 74 = .ok (.iaload, 1) := by decide +kernel
theorem dX12_byLaw_75 : decode cX12_byLaw 75 = .ok (.iaload, 1) := by decide +kernel
theorem dX12_byLaw_76 : decode cX12_byLaw 76 = .ok (.iastore, 1) := by decide +kernel
theorem dX12_byLaw_77 : decode cX12_byLaw 77 = .ok (.iinc 1 1, 3) := by decide +kernel
theorem dX12_byLaw_80 : decode cX12_byLaw 80 = .ok (.goto 39, 3) := by decide +kernel
theorem dX12_byLaw_83 : decode cX12_byLaw 83 = .ok (.iinc 1 (-1), 3) := by decide +kernel
theorem dX12_byLaw_86 : decode cX12_byLaw 86 = .ok (.aload_n 0, 1) := by decide +kernel
theorem dX12_byLaw_87 : decode cX12_byLaw 87 = .ok (.getfield 46, 3) := by decide +kernel
theorem dX12_byLaw_90 : decode cX12_byLaw 90 = .ok (.iload_n 1, 1) := by decide +kernel
theorem dX12_byLaw_91 : decode cX12_byLaw 91 = .ok (.iconst 1, 1) := by decide +kernel
theorem dX12_byLaw_92 : decode cX12_byLaw 92 = .ok (.isub, 1) := by decide +kernel
theorem dX12_byLaw_93 : decode cX12_byLaw 93 = .ok (.aload_n 0, 1) := by decide +kernel
theorem dX12_byLaw_94 : decode cX12_byLaw 94 = .ok (.getfield 34, 3) := by decide +kernel
theorem dX12_byLaw_97 : decode cX12_byLaw 97 = .ok (.iload_n 2, 1) := by decide +kernel
theorem dX12_byLaw_98 : decode cX12_byLaw 98 = .ok (.aaload, 1) := by decide +kernel
theorem dX12_byLaw_99 : decode cX12_byLaw 99 = .ok (.iconst 0, 1) := by decide +kernel
theorem dX12_byLaw_100 : decode cX12_byLaw 100 = .ok (.iaload, 1) := by decide +kernel
theorem dX12_byLaw_101 : decode cX12_byLaw 101 = .ok (.aload_n 0, 1) := by decide +kernel
theorem dX12_byLaw_102 : decode cX12_byLaw 102 = .ok (.getfield 46, 3) := by decide +kernel
theorem dX12_byLaw_105 : decode cX12_byLaw 105 = .ok (.iload_n 1, 1) := by decide +kernel
theorem dX12_byLaw_106 : decode cX12_byLaw 106 = .ok (.iconst 1, 1) := by decide +kernel
theorem dX12_byLaw_107 : decode cX12_byLaw 107 = .ok (.isub, 1) := by decide +kernel
theorem dX12_byLaw_108 : decode cX12_byLaw 108 = .ok (.iaload, 1) := by decide +kernel
theorem dX12_byLaw_109 : decode cX12_byLaw 109 = .ok (.aload_n 0, 1) := by decide +kernel
theorem dX12_byLaw_110 : decode cX12_byLaw 110 = .ok (.getfield 46, 3) := by decide +kernel
theorem dX12_byLaw_113 : decode cX12_byLaw 113 = .ok (.iload_n 1, 1) := by decide +kernel
theorem dX12_byLaw_114 : decode cX12_byLaw 114 = .ok (.iaload, 1) := by decide +kernel
theorem dX12_byLaw_115 : decode cX12_byLaw 115 = .ok (.invokestatic 238, 3) := by decide +kernel
theorem dX12_byLaw_118 : decode cX12_byLaw 118 = .ok (.iastore, 1) := by decide +kernel
theorem dX12_byLaw_119 : decode cX12_byLaw 119 = .ok (.iinc 2 1, 3) := by decide +kernel
theorem dX12_byLaw_122 : decode cX12_byLaw 122 = .ok (.goto (-106), 3) := by decide +kernel
theorem dX12_byLaw_125 : decode cX12_byLaw 125 = .ok (.bipush 60, 2) := by decide +kernel
theorem dX12_byLaw_127 : decode cX12_byLaw 127 = .ok (.iconst 0, 1) := by decide +kernel
theorem dX12_byLaw_128 : decode cX12_byLaw 128 = .ok (.aload_n 0, 1) := by decide +kernel
theorem dX12_byLaw_129 : decode cX12_byLaw 129 = .ok (.getfield 46, 3) := by decide +kernel
theorem dX12_byLaw_132 : decode cX12_byLaw 132 = .ok (.iconst 0, 1) := by decide +kernel
theorem dX12_byLaw_133 : decode cX12_byLaw 133 = .ok (.iaload, 1) := by decide +kernel
theorem dX12_byLaw_134 : decode cX12_byLaw 134 = .ok (.invokestatic 235, 3) := by decide +kernel
theorem dX12_byLaw_137 : decode cX12_byLaw 137 = .ok (.invokestatic 232, 3) := by decide +kernel
theorem dX12_byLaw_140 : decode cX12_byLaw 140 = .ok (.ireturn, 1) := by decide +kernel
theorem dX12_stepHere_0 : decode cX12_stepHere 0 = .ok (.aload_n 0, 1) := by decide +kernel
theorem dX12_stepHere_1 : decode cX12_stepHere 1 = .ok (.bipush 8, 2) := by decide +kernel
theorem dX12_stepHere_3 : decode cX12_stepHere 3 = .ok (.bipush 9, 2) := by decide +kernel
theorem dX12_stepHere_5 : decode cX12_stepHere 5 = .ok (.iconst 4, 1) := by decide +kernel
theorem dX12_stepHere_6 : decode cX12_stepHere 6 = .ok (.iconst 5, 1) := by decide +kernel
theorem dX12_stepHere_7 : decode cX12_stepHere 7 = .ok (.iconst 0, 1) := by decide +kernel
theorem dX12_stepHere_8 : decode cX12_stepHere 8 = .ok (.iconst 0, 1) := by decide +kernel
theorem dX12_stepHere_9 : decode cX12_stepHere 9 = .ok (.invokevirtual 142, 3) := by decide +kernel
theorem dX12_stepHere_12 : decode cX12_stepHere 12 = .ok (.ifCond .eq 5, 3) := by decide +kernel
theorem dX12_stepHere_15 : decode cX12_stepHere 15 = .ok (.iconst 0, 1) := by decide +kernel
theorem dX12_stepHere_16 : decode cX12_stepHere 16 = .ok (.ireturn, 1) := by decide +kernel
theorem dX12_stepHere_17 : decode cX12_stepHere 17 = .ok (.aload_n 0, 1) := by decide +kernel
theorem dX12_stepHere_18 : decode cX12_stepHere 18 = .ok (.iconst 3, 1) := by decide +kernel
theorem dX12_stepHere_19 : decode cX12_stepHere 19 = .ok (.iconst 1, 1) := by decide +kernel
theorem dX12_stepHere_20 : decode cX12_stepHere 20 = .ok (.bipush 12, 2) := by decide +kernel
theorem dX12_stepHere_22 : decode cX12_stepHere 22 = .ok (.bipush 12, 2) := by decide +kernel
theorem dX12_stepHere_24 : decode cX12_stepHere 24 = .ok (.iconst 0, 1) := by decide +kernel
theorem dX12_stepHere_25 : decode cX12_stepHere 25 = .ok (.iconst 0, 1) := by decide +kernel
theorem dX12_stepHere_26 : decode cX12_stepHere 26 = .ok (.invokevirtual 142, 3) := by decide +kernel
theorem dX12_stepHere_29 : decode cX12_stepHere 29 = .ok (.ifCond .eq 5, 3) := by decide +kernel
theorem dX12_stepHere_32 : decode cX12_stepHere 32 = .ok (.iconst 1, 1) := by decide +kernel
theorem dX12_stepHere_33 : decode cX12_stepHere 33 = .ok (.ireturn, 1) := by decide +kernel
theorem dX12_stepHere_34 : decode cX12_stepHere 34 = .ok (.aload_n 0, 1) := by decide +kernel
theorem dX12_stepHere_35 : decode cX12_stepHere 35 = .ok (.bipush 6, 2) := by decide +kernel
theorem dX12_stepHere_37 : decode cX12_stepHere 37 = .ok (.iconst 5, 1) := by decide +kernel
theorem dX12_stepHere_38 : decode cX12_stepHere 38 = .ok (.iconst 5, 1) := by decide +kernel
theorem dX12_stepHere_39 : decode cX12_stepHere 39 = .ok (.iconst 4, 1) := by decide +kernel
theorem dX12_stepHere_40 : decode cX12_stepHere 40 = .ok (.iconst 0, 1) := by decide +kernel
theorem dX12_stepHere_41 : decode cX12_stepHere 41 = .ok (.iconst 0, 1) := by decide +kernel
theorem dX12_stepHere_42 : decode cX12_stepHere 42 = .ok (.invokevirtual 142, 3) := by decide +kernel
theorem dX12_stepHere_45 : decode cX12_stepHere 45 = .ok (.ifCond .eq 5, 3) := by decide +kernel
theorem dX12_stepHere_48 : decode cX12_stepHere 48 = .ok (.iconst 2, 1) := by decide +kernel
theorem dX12_stepHere_49 : decode cX12_stepHere 49 = .ok (.ireturn, 1) := by decide +kernel
theorem dX12_stepHere_50 : decode cX12_stepHere 50 = .ok (.aload_n 0, 1) := by decide +kernel
theorem dX12_stepHere_51 : decode cX12_stepHere 51 = .ok (.bipush 10, 2) := by decide +kernel
theorem dX12_stepHere_53 : decode cX12_stepHere 53 = .ok (.bipush 15, 2) := by decide +kernel
theorem dX12_stepHere_55 : decode cX12_stepHere 55 = .ok (.bipush 9, 2) := by decide +kernel
theorem dX12_stepHere_57 : decode cX12_stepHere 57 = .ok (.bipush 14, 2) := by decide +kernel
theorem dX12_stepHere_59 : decode cX12_stepHere 59 = .ok (.iconst 0, 1) := by decide +kernel
theorem dX12_stepHere_60 : decode cX12_stepHere 60 = .ok (.iconst 0, 1) := by decide +kernel
theorem dX12_stepHere_61 : decode cX12_stepHere 61 = .ok (.invokevirtual 142, 3) := by decide +kernel
theorem dX12_stepHere_64 : decode cX12_stepHere 64 = .ok (.ifCond .eq 5, 3) := by decide +kernel
theorem dX12_stepHere_67 : decode cX12_stepHere 67 = .ok (.iconst 3, 1) := by decide +kernel
theorem dX12_stepHere_68 : decode cX12_stepHere 68 = .ok (.ireturn, 1) := by decide +kernel
theorem dX12_stepHere_69 : decode cX12_stepHere 69 = .ok (.aload_n 0, 1) := by decide +kernel
theorem dX12_stepHere_70 : decode cX12_stepHere 70 = .ok (.bipush 19, 2) := by decide +kernel
theorem dX12_stepHere_72 : decode cX12_stepHere 72 = .ok (.bipush 8, 2) := by decide +kernel
theorem dX12_stepHere_74 : decode cX12_stepHere 74 = .ok (.bipush 21, 2) := by decide +kernel
theorem dX12_stepHere_76 : decode cX12_stepHere 76 = .ok (.bipush 20, 2) := by decide +kernel
theorem dX12_stepHere_78 : decode cX12_stepHere 78 = .ok (.iconst 0, 1) := by decide +kernel
theorem dX12_stepHere_79 : decode cX12_stepHere 79 = .ok (.iconst 0, 1) := by decide +kernel
theorem dX12_stepHere_80 : decode cX12_stepHere 80 = .ok (.invokevirtual 142, 3) := by decide +kernel
theorem dX12_stepHere_83 : decode cX12_stepHere 83 = .ok (.ifCond .eq 5, 3) := by decide +kernel
theorem dX12_stepHere_86 : decode cX12_stepHere 86 = .ok (.iconst 4, 1) := by decide +kernel
theorem dX12_stepHere_87 : decode cX12_stepHere 87 = .ok (.ireturn, 1) := by decide +kernel
theorem dX12_stepHere_88 : decode cX12_stepHere 88 = .ok (.aload_n 0, 1) := by decide +kernel
theorem dX12_stepHere_89 : decode cX12_stepHere 89 = .ok (.bipush 14, 2) := by decide +kernel
theorem dX12_stepHere_91 : decode cX12_stepHere 91 = .ok (.bipush 9, 2) := by decide +kernel
theorem dX12_stepHere_93 : decode cX12_stepHere 93 = .ok (.bipush 7, 2) := by decide +kernel
theorem dX12_stepHere_95 : decode cX12_stepHere 95 = .ok (.bipush 8, 2) := by decide +kernel
theorem dX12_stepHere_97 : decode cX12_stepHere 97 = .ok (.bipush 20, 2) := by decide +kernel
theorem dX12_stepHere_99 : decode cX12_stepHere 99 = .ok (.iconst 0, 1) := by decide +kernel
theorem dX12_stepHere_100 : decode cX12_stepHere 100 = .ok (.invokevirtual 142, 3) := by decide +kernel
theorem dX12_stepHere_103 : decode cX12_stepHere 103 = .ok (.ifCond .eq 5, 3) := by decide +kernel
theorem dX12_stepHere_106 : decode cX12_stepHere 106 = .ok (.iconst 5, 1) := by decide +kernel
theorem dX12_stepHere_107 : decode cX12_stepHere 107 = .ok (.ireturn, 1) := by decide +kernel
theorem dX12_stepHere_108 : decode cX12_stepHere 108 = .ok (.aload_n 0, 1) := by decide +kernel
theorem dX12_stepHere_109 : decode cX12_stepHere 109 = .ok (.iconst 1, 1) := by decide +kernel
theorem dX12_stepHere_110 : decode cX12_stepHere 110 = .ok (.bipush 7, 2) := by decide +kernel
theorem dX12_stepHere_112 : decode cX12_stepHere 112 = .ok (.iconst 1, 1) := by decide +kernel
theorem dX12_stepHere_113 : decode cX12_stepHere 113 = .ok (.bipush 9, 2) := by decide +kernel
theorem dX12_stepHere_115 : decode cX12_stepHere 115 = .ok (.bipush 14, 2) := by decide +kernel
theorem dX12_stepHere_117 : decode cX12_stepHere 117 = .ok (.iconst 0, 1) := by decide +kernel
theorem dX12_stepHere_118 : decode cX12_stepHere 118 = .ok (.invokevirtual 142, 3) := by decide +kernel
theorem dX12_stepHere_121 : decode cX12_stepHere 121 = .ok (.ifCond .eq 8, 3) := by decide +kernel
theorem dX12_stepHere_124 : decode cX12_stepHere 124 = .ok (.bipush 6, 2) := by decide +kernel
theorem dX12_stepHere_126 : decode cX12_stepHere 126 = .ok (.goto 4, 3) := by decide +kernel
theorem dX12_stepHere_129 : decode cX12_stepHere 129 = .ok (.iconst (-1), 1) := by decide +kernel
theorem dX12_stepHere_130 : decode cX12_stepHere 130 = .ok (.ireturn, 1) := by decide +kernel
theorem dX12_readsStep_0 : decode cX12_readsStep 0 = .ok (.aload_n 0, 1) := by decide +kernel
theorem dX12_readsStep_1 : decode cX12_readsStep 1 = .ok (.invokevirtual 242, 3) := by decide +kernel
theorem dX12_readsStep_4 : decode cX12_readsStep 4 = .ok (.istore_n 1, 1) := by decide +kernel
theorem dX12_readsStep_5 : decode cX12_readsStep 5 = .ok (.iload_n 1, 1) := by decide +kernel
theorem dX12_readsStep_6 : decode cX12_readsStep 6 = .ok (.iconst (-1), 1) := by decide +kernel
theorem dX12_readsStep_7 : decode cX12_readsStep 7 = .ok (.if_icmp .ne 12, 3) := by decide +kernel
theorem dX12_readsStep_10 : decode cX12_readsStep 10 = .ok (.aload_n 0, 1) := by decide +kernel
theorem dX12_readsStep_11 : decode cX12_readsStep 11 = .ok (.iconst 1, 1) := by decide +kernel
theorem dX12_readsStep_12 : decode cX12_readsStep 12 = .ok (.aload_n 0, 1) := by decide +kernel
theorem dX12_readsStep_13 : decode cX12_readsStep 13 = .ok (.getfield 102, 3) := by decide +kernel
theorem dX12_readsStep_16 : decode cX12_readsStep 16 = .ok (.invokevirtual 122, 3) := by decide +kernel
theorem dX12_readsStep_19 : decode cX12_readsStep 19 = .ok (.iload_n 1, 1) := by decide +kernel
theorem dX12_readsStep_20 : decode cX12_readsStep 20 = .ok (.bipush 6, 2) := by decide +kernel
theorem dX12_readsStep_22 : decode cX12_readsStep 22 = .ok (.if_icmp .ne 11, 3) := by decide +kernel
theorem dX12_readsStep_25 : decode cX12_readsStep 25 = .ok (.aload_n 0, 1) := by decide +kernel
theorem dX12_readsStep_26 : decode cX12_readsStep 26 = .ok (.invokevirtual 222, 3) := by decide +kernel
theorem dX12_readsStep_29 : decode cX12_readsStep 29 = .ok (.ifCond .ne 4, 3) := by decide +kernel
theorem dX12_readsStep_32 : decode cX12_readsStep 32 = .ok (.return_, 1) := by decide +kernel
theorem dX12_readsStep_33 : decode cX12_readsStep 33 = .ok (.aload_n 0, 1) := by decide +kernel
theorem dX12_readsStep_34 : decode cX12_readsStep 34 = .ok (.getfield 109, 3) := by decide +kernel
theorem dX12_readsStep_37 : decode cX12_readsStep 37 = .ok (.ifCond .eq 4, 3) := by decide +kernel
theorem dX12_readsStep_40 : decode cX12_readsStep 40 = .ok (.return_, 1) := by decide +kernel
theorem dX12_readsStep_41 : decode cX12_readsStep 41 = .ok (.aload_n 0, 1) := by decide +kernel
theorem dX12_readsStep_42 : decode cX12_readsStep 42 = .ok (.invokevirtual 146, 3) := by decide +kernel
theorem dX12_readsStep_45 : decode cX12_readsStep 45 = .ok (.aload_n 0, 1) := by decide +kernel
theorem dX12_readsStep_46 : decode cX12_readsStep 46 = .ok (.getfield 52, 3) := by decide +kernel
theorem dX12_readsStep_49 : decode cX12_readsStep 49 = .ok (.aload_n 0, 1) := by decide +kernel
theorem dX12_readsStep_50 : decode cX12_readsStep 50 = .ok (.getfield 245, 3) := by decide +kernel
theorem dX12_readsStep_53 : decode cX12_readsStep 53 = .ok (.aaload, 1) := by decide +kernel
theorem dX12_readsStep_54 : decode cX12_readsStep 54 = .ok (.astore_n 2, 1) := by decide +kernel
theorem dX12_readsStep_55 : decode cX12_readsStep 55 = .ok (.aload_n 0, 1) := by decide +kernel
theorem dX12_readsStep_56 : decode cX12_readsStep 56 = .ok (.dup, 1) := by decide +kernel
theorem dX12_readsStep_57 : decode cX12_readsStep 57 = .ok (.getfield 245, 3) := by decide +kernel
theorem dX12_readsStep_60 : decode cX12_readsStep 60 = .ok (.iconst 1, 1) := by decide +kernel
theorem dX12_readsStep_61 : decode cX12_readsStep 61 = .ok (.iadd, 1) := by decide +kernel
theorem dX12_readsStep_62 : decode cX12_readsStep 62 = .ok (.putfield 245, 3) := by decide +kernel
theorem dX12_readsStep_65 : decode cX12_readsStep 65 = .ok (.aload_n 2, 1) := by decide +kernel
theorem dX12_readsStep_66 : decode cX12_readsStep 66 = .ok (.iconst 0, 1) := by decide +kernel
theorem dX12_readsStep_67 : decode cX12_readsStep 67 = .ok (.iload_n 1, 1) := by decide +kernel
theorem dX12_readsStep_68 : decode cX12_readsStep 68 = .ok (.iastore, 1) := by decide +kernel
theorem dX12_readsStep_69 : decode cX12_readsStep 69 = .ok (.iload_n 1, 1) := by decide +kernel
theorem dX12_readsStep_70 : decode cX12_readsStep 70 = .ok (.ifCond .eq 13, 3) := by decide +kernel
theorem dX12_readsStep_73 : decode cX12_readsStep 73 = .ok (.iload_n 1, 1) := by decide +kernel
theorem dX12_readsStep_74 : decode cX12_readsStep 74 = .ok (.iconst 2, 1) := by decide +kernel
theorem dX12_readsStep_75 : decode cX12_readsStep 75 = .ok (.if_icmp .eq 8, 3) := by decide +kernel
theorem dX12_readsStep_78 : decode cX12_readsStep 78 = .ok (.iload_n 1, 1) := by decide +kernel
theorem dX12_readsStep_79 : decode cX12_readsStep 79 = .ok (.iconst 3, 1) := by decide +kernel
theorem dX12_readsStep_80 : decode cX12_readsStep 80 = .ok (.if_icmp .ne 19, 3) := by decide +kernel
theorem dX12_readsStep_83 : decode cX12_readsStep 83 = .ok (.aload_n 2, 1) := by decide +kernel
theorem dX12_readsStep_84 : decode cX12_readsStep 84 = .ok (.iconst 1, 1) := by decide +kernel
theorem dX12_readsStep_85 : decode cX12_readsStep 85 = .ok (.aload_n 0, 1) := by decide +kernel
theorem dX12_readsStep_86 : decode cX12_readsStep 86 = .ok (.iconst 0, 1) := by decide +kernel
theorem dX12_readsStep_87 : decode cX12_readsStep 87 = .ok (.aload_n 0, 1) := by decide +kernel
theorem dX12_readsStep_88 : decode cX12_readsStep 88 = .ok (.getfield 23, 3) := by decide +kernel
theorem dX12_readsStep_91 : decode cX12_readsStep 91 = .ok (.iconst 2, 1) := by decide +kernel
theorem dX12_readsStep_92 : decode cX12_readsStep 92 = .ok (.iaload, 1) := by decide +kernel
theorem dX12_readsStep_93 : decode cX12_readsStep 93 = .ok (.iconst 1, 1) := by decide +kernel
theorem dX12_readsStep_94 : decode cX12_readsStep 94 = .ok (.isub, 1) := by decide +kernel
theorem dX12_readsStep_95 : decode cX12_readsStep 95 = .ok (.invokevirtual 165, 3) := by decide +kernel
theorem dX12_readsStep_98 : decode cX12_readsStep 98 = .ok (.iastore, 1) := by decide +kernel
theorem dX12_readsStep_99 : decode cX12_readsStep 99 = .ok (.iload_n 1, 1) := by decide +kernel
theorem dX12_readsStep_100 : decode cX12_readsStep 100 = .ok (.iconst 1, 1) := by decide +kernel
theorem dX12_readsStep_101 : decode cX12_readsStep 101 = .ok (.if_icmp .ne 19, 3) := by decide +kernel
theorem dX12_readsStep_104 : decode cX12_readsStep 104 = .ok (.aload_n 2, 1) := by decide +kernel
theorem dX12_readsStep_105 : decode cX12_readsStep 105 = .ok (.iconst 1, 1) := by decide +kernel
theorem dX12_readsStep_106 : decode cX12_readsStep 106 = .ok (.aload_n 0, 1) := by decide +kernel
theorem dX12_readsStep_107 : decode cX12_readsStep 107 = .ok (.iconst 0, 1) := by decide +kernel
theorem dX12_readsStep_108 : decode cX12_readsStep 108 = .ok (.aload_n 0, 1) := by decide +kernel
theorem dX12_readsStep_109 : decode cX12_readsStep 109 = .ok (.getfield 23, 3) := by decide +kernel
theorem dX12_readsStep_112 : decode cX12_readsStep 112 = .ok (.iconst 3, 1) := by decide +kernel
theorem dX12_readsStep_113 : decode cX12_readsStep 113 = .ok (.iaload, 1) := by decide +kernel
theorem dX12_readsStep_114 : decode cX12_readsStep 114 = .ok (.iconst 1, 1) := by decide +kernel
theorem dX12_readsStep_115 : decode cX12_readsStep 115 = .ok (.isub, 1) := by decide +kernel
theorem dX12_readsStep_116 : decode cX12_readsStep 116 = .ok (.invokevirtual 165, 3) := by decide +kernel
theorem dX12_readsStep_119 : decode cX12_readsStep 119 = .ok (.iastore, 1) := by decide +kernel
theorem dX12_readsStep_120 : decode cX12_readsStep 120 = .ok (.iload_n 1, 1) := by decide +kernel
theorem dX12_readsStep_121 : decode cX12_readsStep 121 = .ok (.iconst 4, 1) := by decide +kernel
theorem dX12_readsStep_122 : decode cX12_readsStep 122 = .ok (.if_icmp .ne 19, 3) := by decide +kernel
theorem dX12_readsStep_125 : decode cX12_readsStep 125 = .ok (.aload_n 2, 1) := by decide +kernel
theorem dX12_readsStep_126 : decode cX12_readsStep 126 = .ok (.iconst 1, 1) := by decide +kernel
theorem dX12_readsStep_127 : decode cX12_readsStep 127 = .ok (.aload_n 0, 1) := by decide +kernel
theorem dX12_readsStep_128 : decode cX12_readsStep 128 = .ok (.iconst 0, 1) := by decide +kernel
theorem dX12_readsStep_129 : decode cX12_readsStep 129 = .ok (.aload_n 0, 1) := by decide +kernel
theorem dX12_readsStep_130 : decode cX12_readsStep 130 = .ok (.getfield 23, 3) := by decide +kernel
theorem dX12_readsStep_133 : decode cX12_readsStep 133 = .ok (.iconst 1, 1) := by decide +kernel
theorem dX12_readsStep_134 : decode cX12_readsStep 134 = .ok (.iaload, 1) := by decide +kernel
theorem dX12_readsStep_135 : decode cX12_readsStep 135 = .ok (.iconst 1, 1) := by decide +kernel
theorem dX12_readsStep_136 : decode cX12_readsStep 136 = .ok (.isub, 1) := by decide +kernel
theorem dX12_readsStep_137 : decode cX12_readsStep 137 = .ok (.invokevirtual 165, 3) := by decide +kernel
theorem dX12_readsStep_140 : decode cX12_readsStep 140 = .ok (.iastore, 1) := by decide +kernel
theorem dX12_readsStep_141 : decode cX12_readsStep 141 = .ok (.iload_n 1, 1) := by decide +kernel
theorem dX12_readsStep_142 : decode cX12_readsStep 142 = .ok (.iconst 2, 1) := by decide +kernel
theorem dX12_readsStep_143 : decode cX12_readsStep 143 = .ok (.if_icmp .ge 19, 3) := by decide +kernel
theorem dX12_readsStep_146 : decode cX12_readsStep 146 = .ok (.aload_n 2, 1) := by decide +kernel
theorem dX12_readsStep_147 : decode cX12_readsStep 147 = .ok (.iconst 2, 1) := by decide +kernel
theorem dX12_readsStep_148 : decode cX12_readsStep 148 = .ok (.aload_n 0, 1) := by decide +kernel
theorem dX12_readsStep_149 : decode cX12_readsStep 149 = .ok (.iconst 0, 1) := by decide +kernel
theorem dX12_readsStep_150 : decode cX12_readsStep 150 = .ok (.aload_n 0, 1) := by decide +kernel
theorem dX12_readsStep_151 : decode cX12_readsStep 151 = .ok (.getfield 23, 3) := by decide +kernel
theorem dX12_readsStep_154 : decode cX12_readsStep 154 = .ok (.iconst 0, 1) := by decide +kernel
theorem dX12_readsStep_155 : decode cX12_readsStep 155 = .ok (.iaload, 1) := by decide +kernel
theorem dX12_readsStep_156 : decode cX12_readsStep 156 = .ok (.iconst 1, 1) := by decide +kernel
theorem dX12_readsStep_157 : decode cX12_readsStep 157 = .ok (.isub, 1) := by decide +kernel
theorem dX12_readsStep_158 : decode cX12_readsStep 158 = .ok (.invokevirtual 165, 3) := by decide +kernel
theorem dX12_readsStep_161 : decode cX12_readsStep 161 = .ok (.iastore, 1) := by decide +kernel
theorem dX12_readsStep_162 : decode cX12_readsStep 162 = .ok (.iload_n 1, 1) := by decide +kernel
theorem dX12_readsStep_163 : decode cX12_readsStep 163 = .ok (.iconst 2, 1) := by decide +kernel
theorem dX12_readsStep_164 : decode cX12_readsStep 164 = .ok (.if_icmp .ne 13, 3) := by decide +kernel
theorem dX12_readsStep_167 : decode cX12_readsStep 167 = .ok (.aload_n 2, 1) := by decide +kernel
theorem dX12_readsStep_168 : decode cX12_readsStep 168 = .ok (.iconst 2, 1) := by decide +kernel
theorem dX12_readsStep_169 : decode cX12_readsStep 169 = .ok (.aload_n 0, 1) := by decide +kernel
theorem dX12_readsStep_170 : decode cX12_readsStep 170 = .ok (.iconst 1, 1) := by decide +kernel
theorem dX12_readsStep_171 : decode cX12_readsStep 171 = .ok (.bipush 60, 2) := by decide +kernel
theorem dX12_readsStep_173 : decode cX12_readsStep 173 = .ok (.invokevirtual 165, 3) := by decide +kernel
theorem dX12_readsStep_176 : decode cX12_readsStep 176 = .ok (.iastore, 1) := by decide +kernel
theorem dX12_readsStep_177 : decode cX12_readsStep 177 = .ok (.iload_n 1, 1) := by decide +kernel
theorem dX12_readsStep_178 : decode cX12_readsStep 178 = .ok (.iconst 3, 1) := by decide +kernel
theorem dX12_readsStep_179 : decode cX12_readsStep 179 = .ok (.if_icmp .ne 19, 3) := by decide +kernel
theorem dX12_readsStep_182 : decode cX12_readsStep 182 = .ok (.aload_n 2, 1) := by decide +kernel
theorem dX12_readsStep_183 : decode cX12_readsStep 183 = .ok (.iconst 2, 1) := by decide +kernel
theorem dX12_readsStep_184 : decode cX12_readsStep 184 = .ok (.aload_n 0, 1) := by decide +kernel
theorem dX12_readsStep_185 : decode cX12_readsStep 185 = .ok (.iconst 0, 1) := by decide +kernel
theorem dX12_readsStep_186 : decode cX12_readsStep 186 = .ok (.aload_n 0, 1) := by decide +kernel
theorem dX12_readsStep_187 : decode cX12_readsStep 187 = .ok (.getfield 23, 3) := by decide +kernel
theorem dX12_readsStep_190 : decode cX12_readsStep 190 = .ok (.iconst 2, 1) := by decide +kernel
theorem dX12_readsStep_191 : decode cX12_readsStep 191 = .ok (.iaload, 1) := by decide +kernel
theorem dX12_readsStep_192 : decode cX12_readsStep 192 = .ok (.iconst 1, 1) := by decide +kernel
theorem dX12_readsStep_193 : decode cX12_readsStep 193 = .ok (.isub, 1) := by decide +kernel
theorem dX12_readsStep_194 : decode cX12_readsStep 194 = .ok (.invokevirtual 165, 3) := by decide +kernel
theorem dX12_readsStep_197 : decode cX12_readsStep 197 = .ok (.iastore, 1) := by decide +kernel
theorem dX12_readsStep_198 : decode cX12_readsStep 198 = .ok (.iload_n 1, 1) := by decide +kernel
theorem dX12_readsStep_199 : decode cX12_readsStep 199 = .ok (.bipush 6, 2) := by decide +kernel
theorem dX12_readsStep_201 : decode cX12_readsStep 201 = .ok (.if_icmp .ne 70, 3) := by decide +kernel
theorem dX12_readsStep_204 : decode cX12_readsStep 204 = .ok (.aload_n 2, 1) := by decide +kernel
theorem dX12_readsStep_205 : decode cX12_readsStep 205 = .ok (.iconst 1, 1) := by decide +kernel
theorem dX12_readsStep_206 : decode cX12_readsStep 206 = .ok (.aload_n 0, 1) := by decide +kernel
theorem dX12_readsStep_207 : decode cX12_readsStep 207 = .ok (.iconst 0, 1) := by decide +kernel
theorem dX12_readsStep_208 : decode cX12_readsStep 208 = .ok (.bipush 60, 2) := by decide +kernel
theorem dX12_readsStep_210 : decode cX12_readsStep 210 = .ok (.invokevirtual 165, 3) := by decide +kernel
theorem dX12_readsStep_213 : decode cX12_readsStep 213 = .ok (.iastore, 1) := by decide +kernel
theorem dX12_readsStep_214 : decode cX12_readsStep 214 = .ok (.aload_n 0, 1) := by decide +kernel
theorem dX12_readsStep_215 : decode cX12_readsStep 215 = .ok (.bipush 91, 2) := by decide +kernel
theorem dX12_readsStep_217 : decode cX12_readsStep 217 = .ok (.invokevirtual 168, 3) := by decide +kernel
theorem dX12_readsStep_220 : decode cX12_readsStep 220 = .ok (.aload_n 0, 1) := by decide +kernel
theorem dX12_readsStep_221 : decode cX12_readsStep 221 = .ok (.invokevirtual 115, 3) := by decide +kernel
theorem dX12_readsStep_224 : decode cX12_readsStep 224 = .ok (.aload_n 0, 1) := by decide +kernel
theorem dX12_readsStep_225 : decode cX12_readsStep 225 = .ok (.getfield 109, 3) := by decide +kernel
theorem dX12_readsStep_228 : decode cX12_readsStep 228 = .ok (.ifCond .ne 27, 3) := by decide +kernel
theorem dX12_readsStep_231 : decode cX12_readsStep 231 = .ok (.aload_n 0, 1) := by decide +kernel
theorem dX12_readsStep_232 : decode cX12_readsStep 232 = .ok (.aload_n 0, 1) := by decide +kernel
theorem dX12_readsStep_233 : decode cX12_readsStep 233 = .ok (.getfield 102, 3) := by decide +kernel
theorem dX12_readsStep_236 : decode cX12_readsStep 236 = .ok (.invokevirtual 105, 3) := by decide +kernel
theorem dX12_readsStep_239 : decode cX12_readsStep 239 = .ok (.bipush 93, 2) := by decide +kernel
theorem dX12_readsStep_241 : decode cX12_readsStep 241 = .ok (.if_icmp .eq 14, 3) := by decide +kernel
theorem dX12_readsStep_244 : decode cX12_readsStep 244 = .ok (.aload_n 0, 1) := by decide +kernel
theorem dX12_readsStep_245 : decode cX12_readsStep 245 = .ok (.invokevirtual 248, 3) := by decide +kernel
theorem dX12_readsStep_248 : decode cX12_readsStep 248 = .ok (.aload_n 0, 1) := by decide +kernel
theorem dX12_readsStep_249 : decode cX12_readsStep 249 = .ok (.invokevirtual 115, 3) := by decide +kernel
theorem dX12_readsStep_252 : decode cX12_readsStep 252 = .ok (.goto (-28), 3) := by decide +kernel
theorem dX12_readsStep_255 : decode cX12_readsStep 255 = .ok (.aload_n 0, 1) := by decide +kernel
theorem dX12_readsStep_256 : decode cX12_readsStep 256 = .ok (.bipush 93, 2) := by decide +kernel
theorem dX12_readsStep_258 : decode cX12_readsStep 258 = .ok (.invokevirtual 168, 3) := by decide +kernel
theorem dX12_readsStep_261 : decode cX12_readsStep 261 = .ok (.aload_n 0, 1) := by decide +kernel
theorem dX12_readsStep_262 : decode cX12_readsStep 262 = .ok (.dup, 1) := by decide +kernel
theorem dX12_readsStep_263 : decode cX12_readsStep 263 = .ok (.getfield 152, 3) := by decide +kernel
theorem dX12_readsStep_266 : decode cX12_readsStep 266 = .ok (.iconst 1, 1) := by decide +kernel
theorem dX12_readsStep_267 : decode cX12_readsStep 267 = .ok (.isub, 1) := by decide +kernel
theorem dX12_readsStep_268 : decode cX12_readsStep 268 = .ok (.putfield 152, 3) := by decide +kernel
theorem dX12_readsStep_271 : decode cX12_readsStep 271 = .ok (.aload_n 2, 1) := by decide +kernel
theorem dX12_readsStep_272 : decode cX12_readsStep 272 = .ok (.iconst 3, 1) := by decide +kernel
theorem dX12_readsStep_273 : decode cX12_readsStep 273 = .ok (.aload_n 0, 1) := by decide +kernel
theorem dX12_readsStep_274 : decode cX12_readsStep 274 = .ok (.getfield 245, 3) := by decide +kernel
theorem dX12_readsStep_277 : decode cX12_readsStep 277 = .ok (.iastore, 1) := by decide +kernel
theorem dX12_readsStep_278 : decode cX12_readsStep 278 = .ok (.aload_n 0, 1) := by decide +kernel
theorem dX12_readsStep_279 : decode cX12_readsStep 279 = .ok (.bipush 59, 2) := by decide +kernel
theorem dX12_readsStep_281 : decode cX12_readsStep 281 = .ok (.invokevirtual 168, 3) := by decide +kernel
theorem dX12_readsStep_284 : decode cX12_readsStep 284 = .ok (.return_, 1) := by decide +kernel
theorem dX12_book_0 : decode cX12_book 0 = .ok (.aload_n 0, 1) := by decide +kernel
theorem dX12_book_1 : decode cX12_book 1 = .ok (.iconst 0, 1) := by decide +kernel
theorem dX12_book_2 : decode cX12_book 2 = .ok (.putfield 93, 3) := by decide +kernel
theorem dX12_book_5 : decode cX12_book 5 = .ok (.aload_n 0, 1) := by decide +kernel
theorem dX12_book_6 : decode cX12_book 6 = .ok (.iload_n 1, 1) := by decide +kernel
theorem dX12_book_7 : decode cX12_book 7 = .ok (.iconst 0, 1) := by decide +kernel
theorem dX12_book_8 : decode cX12_book 8 = .ok (.aload_n 0, 1) := by decide +kernel
theorem dX12_book_9 : decode cX12_book 9 = .ok (.getfield 96, 3) := by decide +kernel
theorem dX12_book_12 : decode cX12_book 12 = .ok (.invokestatic 127, 3) := by decide +kernel
theorem dX12_book_15 : decode cX12_book 15 = .ok (.ifCond .eq 9, 3) := by decide +kernel
theorem dX12_book_18 : decode cX12_book 18 = .ok (.iload_n 1, 1) := by decide +kernel
theorem dX12_book_19 : decode cX12_book 19 = .ok (.bipush 60, 2) := by decide +kernel
theorem dX12_book_21 : decode cX12_book 21 = .ok (.if_icmp .le 7, 3) := by decide +kernel
theorem dX12_book_24 : decode cX12_book 24 = .ok (.iconst 1, 1) := by decide +kernel
theorem dX12_book_25 : decode cX12_book 25 = .ok (.goto 4, 3) := by decide +kernel
theorem dX12_book_28 : decode cX12_book 28 = .ok (.iconst 0, 1) := by decide +kernel
theorem dX12_book_29 : decode cX12_book 29 = .ok (.iconst 1, 1) := by decide +kernel
theorem dX12_book_30 : decode cX12_book 30 = .ok (.iconst 1, 1) := by decide +kernel
theorem dX12_book_31 : decode cX12_book 31 = .ok (.invokevirtual 172, 3) := by decide +kernel
theorem dX12_book_34 : decode cX12_book 34 = .ok (.ifCond .eq 5, 3) := by decide +kernel
theorem dX12_book_37 : decode cX12_book 37 = .ok (.iconst 0, 1) := by decide +kernel
theorem dX12_book_38 : decode cX12_book 38 = .ok (.ireturn, 1) := by decide +kernel
theorem dX12_book_39 : decode cX12_book 39 = .ok (.aload_n 0, 1) := by decide +kernel
theorem dX12_book_40 : decode cX12_book 40 = .ok (.iload_n 1, 1) := by decide +kernel
theorem dX12_book_41 : decode cX12_book 41 = .ok (.invokevirtual 176, 3) := by decide +kernel
theorem dX12_book_44 : decode cX12_book 44 = .ok (.iconst 0, 1) := by decide +kernel
theorem dX12_book_45 : decode cX12_book 45 = .ok (.istore_n 2, 1) := by decide +kernel
theorem dX12_book_46 : decode cX12_book 46 = .ok (.iconst 0, 1) := by decide +kernel
theorem dX12_book_47 : decode cX12_book 47 = .ok (.istore_n 3, 1) := by decide +kernel
theorem dX12_book_48 : decode cX12_book 48 = .ok (.aload_n 0, 1) := by decide +kernel
theorem dX12_book_49 : decode cX12_book 49 = .ok (.getfield 109, 3) := by decide +kernel
theorem dX12_book_52 : decode cX12_book 52 = .ok (.ifCond .ne 120, 3) := by decide +kernel
theorem dX12_book_55 : decode cX12_book 55 = .ok (.aload_n 0, 1) := by decide +kernel
theorem dX12_book_56 : decode cX12_book 56 = .ok (.getfield 102, 3) := by decide +kernel
theorem dX12_book_59 : decode cX12_book 59 = .ok (.aload_n 0, 1) := by decide +kernel
theorem dX12_book_60 : decode cX12_book 60 = .ok (.getfield 99, 3) := by decide +kernel
theorem dX12_book_63 : decode cX12_book 63 = .ok (.if_icmp .ge 109, 3) := by decide +kernel
theorem dX12_book_66 : decode cX12_book 66 = .ok (.aload_n 0, 1) := by decide +kernel
theorem dX12_book_67 : decode cX12_book 67 = .ok (.invokevirtual 115, 3) := by decide +kernel
theorem dX12_book_70 : decode cX12_book 70 = .ok (.aload_n 0, 1) := by decide +kernel
theorem dX12_book_71 : decode cX12_book 71 = .ok (.getfield 102, 3) := by decide +kernel
theorem dX12_book_74 : decode cX12_book 74 = .ok (.istore 4, 2) := by decide +kernel
theorem dX12_book_76 : decode cX12_book 76 = .ok (.aload_n 0, 1) := by decide +kernel
theorem dX12_book_77 : decode cX12_book 77 = .ok (.iconst 0, 1) := by decide +kernel
theorem dX12_book_78 : decode cX12_book 78 = .ok (.aload_n 0, 1) := by decide +kernel
theorem dX12_book_79 : decode cX12_book 79 = .ok (.getfield 23, 3) := by decide +kernel
theorem dX12_book_82 : decode cX12_book 82 = .ok (.iconst 3, 1) := by decide +kernel
theorem dX12_book_83 : decode cX12_book 83 = .ok (.iaload, 1) := by decide +kernel
theorem dX12_book_84 : decode cX12_book 84 = .ok (.iconst 1, 1) := by decide +kernel
theorem dX12_book_85 : decode cX12_book 85 = .ok (.isub, 1) := by decide +kernel
theorem dX12_book_86 : decode cX12_book 86 = .ok (.invokevirtual 165, 3) := by decide +kernel
theorem dX12_book_89 : decode cX12_book 89 = .ok (.istore 5, 2) := by decide +kernel
theorem dX12_book_91 : decode cX12_book 91 = .ok (.aload_n 0, 1) := by decide +kernel
theorem dX12_book_92 : decode cX12_book 92 = .ok (.getfield 109, 3) := by decide +kernel
theorem dX12_book_95 : decode cX12_book 95 = .ok (.ifCond .ne 19, 3) := by decide +kernel
theorem dX12_book_98 : decode cX12_book 98 = .ok (.iload_n 3, 1) := by decide +kernel
theorem dX12_book_99 : decode cX12_book 99 = .ok (.iload 5, 2) := by decide +kernel
theorem dX12_book_101 : decode cX12_book 101 = .ok (.invokestatic 251, 3) := by decide +kernel
theorem dX12_book_104 : decode cX12_book 104 = .ok (.ifCond .eq 10, 3) := by decide +kernel
theorem dX12_book_107 : decode cX12_book 107 = .ok (.aload_n 0, 1) := by decide +kernel
theorem dX12_book_108 : decode cX12_book 108 = .ok (.iconst 2, 1) := by decide +kernel
theorem dX12_book_109 : decode cX12_book 109 = .ok (.iload 4, 2) := by decide +kernel
theorem dX12_book_111 : decode cX12_book 111 = .ok (.invokevirtual 122, 3) := by decide +kernel
theorem dX12_book_114 : decode cX12_book 114 = .ok (.aload_n 0, 1) := by decide +kernel
theorem dX12_book_115 : decode cX12_book 115 = .ok (.iconst 0, 1) := by decide +kernel
theorem dX12_book_116 : decode cX12_book 116 = .ok (.iconst 1, 1) := by decide +kernel
theorem dX12_book_117 : decode cX12_book 117 = .ok (.invokevirtual 165, 3) := by decide +kernel
theorem dX12_book_120 : decode cX12_book 120 = .ok (.istore 6, 2) := by decide +kernel
theorem dX12_book_122 : decode cX12_book 122 = .ok (.aload_n 0, 1) := by decide +kernel
theorem dX12_book_123 : decode cX12_book 123 = .ok (.bipush 59, 2) := by decide +kernel
theorem dX12_book_125 : decode cX12_book 125 = .ok (.invokevirtual 168, 3) := by decide +kernel
theorem dX12_book_128 : decode cX12_book 128 = .ok (.aload_n 0, 1) := by decide +kernel
theorem dX12_book_129 : decode cX12_book 129 = .ok (.getfield 109, 3) := by decide +kernel
theorem dX12_book_132 : decode cX12_book 132 = .ok (.ifCond .ne 33, 3) := by decide +kernel
theorem dX12_book_135 : decode cX12_book 135 = .ok (.iload_n 3, 1) := by decide +kernel
theorem dX12_book_136 : decode cX12_book 136 = .ok (.iconst 1, 1) := by decide +kernel
theorem dX12_book_137 : decode cX12_book 137 = .ok (.iload 5, 2) := by decide +kernel
theorem dX12_book_139 : decode cX12_book 139 = .ok (.ishl, 1) := by decide +kernel
theorem dX12_book_140 : decode cX12_book 140 = .ok (.ior, 1) := by decide +kernel
theorem dX12_book_141 : decode cX12_book 141 = .ok (.istore_n 3, 1) := by decide +kernel
theorem dX12_book_142 : decode cX12_book 142 = .ok (.aload_n 0, 1) := by decide +kernel
theorem dX12_book_143 : decode cX12_book 143 = .ok (.getfield 43, 3) := by decide +kernel
theorem dX12_book_146 : decode cX12_book 146 = .ok (.iload_n 2, 1) := by decide +kernel
theorem dX12_book_147 : decode cX12_book 147 = .ok (.aaload, 1) := by decide +kernel
theorem dX12_book_148 : decode cX12_book 148 = .ok (.iconst 0, 1) := by decide +kernel
theorem dX12_book_149 : decode cX12_book 149 = .ok (.iload 5, 2) := by decide +kernel
theorem dX12_book_151 : decode cX12_book 151 = .ok (.iastore, 1) := by decide +kernel
theorem dX12_book_152 : decode cX12_book 152 = .ok (.aload_n 0, 1) := by decide +kernel
theorem dX12_book_153 : decode cX12_book 153 = .ok (.getfield 43, 3) := by decide +kernel
theorem dX12_book_156 : decode cX12_book 156 = .ok (.iload_n 2, 1) := by decide +kernel
theorem dX12_book_157 : decode cX12_book 157 = .ok (.aaload, 1) := by decide +kernel
theorem dX12_book_158 : decode cX12_book 158 = .ok (.iconst 1, 1) := by decide +kernel
theorem dX12_book_159 : decode cX12_book 159 = .ok (.iload 6, 2) := by decide +kernel
theorem dX12_book_161 : decode cX12_book 161 = .ok (.iastore, 1) := by decide +kernel
theorem dX12_book_162 : decode cX12_book 162 = .ok (.iinc 2 1, 3) := by decide +kernel
theorem dX12_book_165 : decode cX12_book 165 = .ok (.aload_n 0, 1) := by decide +kernel
theorem dX12_book_166 : decode cX12_book 166 = .ok (.invokevirtual 115, 3) := by decide +kernel
theorem dX12_book_169 : decode cX12_book 169 = .ok (.goto (-121), 3) := by decide +kernel
theorem dX12_book_172 : decode cX12_book 172 = .ok (.aload_n 0, 1) := by decide +kernel
theorem dX12_book_173 : decode cX12_book 173 = .ok (.getfield 109, 3) := by decide +kernel
theorem dX12_book_176 : decode cX12_book 176 = .ok (.ifCond .eq 8, 3) := by decide +kernel
theorem dX12_book_179 : decode cX12_book 179 = .ok (.aload_n 0, 1) := by decide +kernel
theorem dX12_book_180 : decode cX12_book 180 = .ok (.invokevirtual 182, 3) := by decide +kernel
theorem dX12_book_183 : decode cX12_book 183 = .ok (.ireturn, 1) := by decide +kernel
theorem dX12_book_184 : decode cX12_book 184 = .ok (.aload_n 0, 1) := by decide +kernel
theorem dX12_book_185 : decode cX12_book 185 = .ok (.iconst (-1), 1) := by decide +kernel
theorem dX12_book_186 : decode cX12_book 186 = .ok (.putfield 9, 3) := by decide +kernel
theorem dX12_book_189 : decode cX12_book 189 = .ok (.aload_n 0, 1) := by decide +kernel
theorem dX12_book_190 : decode cX12_book 190 = .ok (.iload_n 2, 1) := by decide +kernel
theorem dX12_book_191 : decode cX12_book 191 = .ok (.putfield 192, 3) := by decide +kernel
theorem dX12_book_194 : decode cX12_book 194 = .ok (.aload_n 0, 1) := by decide +kernel
theorem dX12_book_195 : decode cX12_book 195 = .ok (.getfield 43, 3) := by decide +kernel
theorem dX12_book_198 : decode cX12_book 198 = .ok (.aload_n 0, 1) := by decide +kernel
theorem dX12_book_199 : decode cX12_book 199 = .ok (.getfield 40, 3) := by decide +kernel
theorem dX12_book_202 : decode cX12_book 202 = .ok (.iload_n 2, 1) := by decide +kernel
theorem dX12_book_203 : decode cX12_book 203 = .ok (.invokestatic 185, 3) := by decide +kernel
theorem dX12_book_206 : decode cX12_book 206 = .ok (.iload_n 2, 1) := by decide +kernel
theorem dX12_book_207 : decode cX12_book 207 = .ok (.ireturn, 1) := by decide +kernel
theorem dX12_fault_0 : decode cX12_fault 0 = .ok (.aload_n 0, 1) := by decide +kernel
theorem dX12_fault_1 : decode cX12_fault 1 = .ok (.iconst 0, 1) := by decide +kernel
theorem dX12_fault_2 : decode cX12_fault 2 = .ok (.putfield 93, 3) := by decide +kernel
theorem dX12_fault_5 : decode cX12_fault 5 = .ok (.aload_n 0, 1) := by decide +kernel
theorem dX12_fault_6 : decode cX12_fault 6 = .ok (.getfield 9, 3) := by decide +kernel
theorem dX12_fault_9 : decode cX12_fault 9 = .ok (.ireturn, 1) := by decide +kernel
theorem dX12_moreBy_0 : decode cX12_moreBy 0 = .ok (.aload_n 0, 1) := by decide +kernel
theorem dX12_moreBy_1 : decode cX12_moreBy 1 = .ok (.getfield 49, 3) := by decide +kernel
theorem dX12_moreBy_4 : decode cX12_moreBy 4 = .ok (.iconst 0, 1) := by decide +kernel
theorem dX12_moreBy_5 : decode cX12_moreBy 5 = .ok (.iload_n 1, 1) := by decide +kernel
theorem dX12_moreBy_6 : decode cX12_moreBy 6 = .ok (.iastore, 1) := by decide +kernel
theorem dX12_moreBy_7 : decode cX12_moreBy 7 = .ok (.aload_n 0, 1) := by decide +kernel
theorem dX12_moreBy_8 : decode cX12_moreBy 8 = .ok (.getfield 49, 3) := by decide +kernel
theorem dX12_moreBy_11 : decode cX12_moreBy 11 = .ok (.iconst 1, 1) := by decide +kernel
theorem dX12_moreBy_12 : decode cX12_moreBy 12 = .ok (.iload_n 2, 1) := by decide +kernel
theorem dX12_moreBy_13 : decode cX12_moreBy 13 = .ok (.iastore, 1) := by decide +kernel
theorem dX12_moreBy_14 : decode cX12_moreBy 14 = .ok (.aload_n 0, 1) := by decide +kernel
theorem dX12_moreBy_15 : decode cX12_moreBy 15 = .ok (.getfield 49, 3) := by decide +kernel
theorem dX12_moreBy_18 : decode cX12_moreBy 18 = .ok (.iconst 2, 1) := by decide +kernel
theorem dX12_moreBy_19 : decode cX12_moreBy 19 = .ok (.iload_n 3, 1) := by decide +kernel
theorem dX12_moreBy_20 : decode cX12_moreBy 20 = .ok (.iastore, 1) := by decide +kernel
theorem dX12_moreBy_21 : decode cX12_moreBy 21 = .ok (.aload_n 0, 1) := by decide +kernel
theorem dX12_moreBy_22 : decode cX12_moreBy 22 = .ok (.getfield 49, 3) := by decide +kernel
theorem dX12_moreBy_25 : decode cX12_moreBy 25 = .ok (.iconst 3, 1) := by decide +kernel
theorem dX12_moreBy_26 : decode cX12_moreBy 26 = .ok (.iload 4, 2) := by decide +kernel
theorem dX12_moreBy_28 : decode cX12_moreBy 28 = .ok (.iastore, 1) := by decide +kernel
theorem dX12_moreBy_29 : decode cX12_moreBy 29 = .ok (.aload_n 0, 1) := by decide +kernel
theorem dX12_moreBy_30 : decode cX12_moreBy 30 = .ok (.getfield 49, 3) := by decide +kernel
theorem dX12_moreBy_33 : decode cX12_moreBy 33 = .ok (.iconst 4, 1) := by decide +kernel
theorem dX12_moreBy_34 : decode cX12_moreBy 34 = .ok (.iload 5, 2) := by decide +kernel
theorem dX12_moreBy_36 : decode cX12_moreBy 36 = .ok (.iastore, 1) := by decide +kernel
theorem dX12_moreBy_37 : decode cX12_moreBy 37 = .ok (.aload_n 0, 1) := by decide +kernel
theorem dX12_moreBy_38 : decode cX12_moreBy 38 = .ok (.getfield 49, 3) := by decide +kernel
theorem dX12_moreBy_41 : decode cX12_moreBy 41 = .ok (.iconst 5, 1) := by decide +kernel
theorem dX12_moreBy_42 : decode cX12_moreBy 42 = .ok (.iload 6, 2) := by decide +kernel
theorem dX12_moreBy_44 : decode cX12_moreBy 44 = .ok (.iastore, 1) := by decide +kernel
theorem dX12_moreBy_45 : decode cX12_moreBy 45 = .ok (.aload_n 0, 1) := by decide +kernel
theorem dX12_moreBy_46 : decode cX12_moreBy 46 = .ok (.getfield 49, 3) := by decide +kernel
theorem dX12_moreBy_49 : decode cX12_moreBy 49 = .ok (.bipush 6, 2) := by decide +kernel
theorem dX12_moreBy_51 : decode cX12_moreBy 51 = .ok (.iload 7, 2) := by decide +kernel
theorem dX12_moreBy_53 : decode cX12_moreBy 53 = .ok (.iastore, 1) := by decide +kernel
theorem dX12_moreBy_54 : decode cX12_moreBy 54 = .ok (.aload_n 0, 1) := by decide +kernel
theorem dX12_moreBy_55 : decode cX12_moreBy 55 = .ok (.invokevirtual 255, 3) := by decide +kernel
theorem dX12_moreBy_58 : decode cX12_moreBy 58 = .ok (.ireturn, 1) := by decide +kernel
theorem dX12_ones_0 : decode cX12_ones 0 = .ok (.iconst 0, 1) := by decide +kernel
theorem dX12_ones_1 : decode cX12_ones 1 = .ok (.istore_n 1, 1) := by decide +kernel
theorem dX12_ones_2 : decode cX12_ones 2 = .ok (.iconst 0, 1) := by decide +kernel
theorem dX12_ones_3 : decode cX12_ones 3 = .ok (.istore_n 2, 1) := by decide +kernel
theorem dX12_ones_4 : decode cX12_ones 4 = .ok (.iload_n 2, 1) := by decide +kernel
theorem dX12_ones_5 : decode cX12_ones 5 = .ok (.bipush 12, 2) := by decide +kernel
theorem dX12_ones_7 : decode cX12_ones 7 = .ok (.if_icmp .ge 17, 3) := by decide +kernel
theorem dX12_ones_10 : decode cX12_ones 10 = .ok (.iload_n 1, 1) := by decide +kernel
theorem dX12_ones_11 : decode cX12_ones 11 = .ok (.iload_n 0, 1) := by decide +kernel
theorem dX12_ones_12 : decode cX12_ones 12 = .ok (.iload_n 2, 1) := by decide +kernel
theorem dX12_ones_13 : decode cX12_ones 13 = .ok (.ishr, 1) := by decide +kernel
theorem dX12_ones_14 : decode cX12_ones 14 = .ok (.iconst 1, 1) := by decide +kernel
theorem dX12_ones_15 : decode cX12_ones 15 = .ok (.iand, 1) := by decide +kernel
theorem dX12_ones_16 : decode cX12_ones 16 = .ok (.iadd, 1) := by decide +kernel
theorem dX12_ones_17 : decode cX12_ones 17 = .ok (.istore_n 1, 1) := by decide +kernel
theorem dX12_ones_18 : decode cX12_ones 18 = .ok (.iinc 2 1, 3) := by decide +kernel
theorem dX12_ones_21 : decode cX12_ones 21 = .ok (.goto (-17), 3) := by decide +kernel
theorem dX12_ones_24 : decode cX12_ones 24 = .ok (.iload_n 1, 1) := by decide +kernel
theorem dX12_ones_25 : decode cX12_ones 25 = .ok (.ireturn, 1) := by decide +kernel
theorem dX12_catsIn_0 : decode cX12_catsIn 0 = .ok (.iconst 0, 1) := by decide +kernel
theorem dX12_catsIn_1 : decode cX12_catsIn 1 = .ok (.istore_n 3, 1) := by decide +kernel
theorem dX12_catsIn_2 : decode cX12_catsIn 2 = .ok (.iconst 0, 1) := by decide +kernel
theorem dX12_catsIn_3 : decode cX12_catsIn 3 = .ok (.istore 4, 2) := by decide +kernel
theorem dX12_catsIn_5 : decode cX12_catsIn 5 = .ok (.iload 4, 2) := by decide +kernel
theorem dX12_catsIn_7 : decode cX12_catsIn 7 = .ok (.aload_n 0, 1) := by decide +kernel
theorem dX12_catsIn_8 : decode cX12_catsIn 8 = .ok (.getfield 23, 3) := by decide +kernel
theorem dX12_catsIn_11 : decode cX12_catsIn 11 = .ok (.iconst 3, 1) := by decide +kernel
theorem dX12_catsIn_12 : decode cX12_catsIn 12 = .ok (.iaload, 1) := by decide +kernel
theorem dX12_catsIn_13 : decode cX12_catsIn 13 = .ok (.if_icmp .ge 31, 3) := by decide +kernel
theorem dX12_catsIn_16 : decode cX12_catsIn 16 = .ok (.iload_n 3, 1) := by decide +kernel
theorem dX12_catsIn_17 : decode cX12_catsIn 17 = .ok (.aload_n 1, 1) := by decide +kernel
theorem dX12_catsIn_18 : decode cX12_catsIn 18 = .ok (.bipush 32, 2) := by decide +kernel
theorem dX12_catsIn_20 : decode cX12_catsIn 20 = .ok (.iload 4, 2) := by decide +kernel
theorem dX12_catsIn_22 : decode cX12_catsIn 22 = .ok (.iadd, 1) := by decide +kernel
theorem dX12_catsIn_23 : decode cX12_catsIn 23 = .ok (.iaload, 1) := by decide +kernel
theorem dX12_catsIn_24 : decode cX12_catsIn 24 = .ok (.iload_n 2, 1) := by decide +kernel
theorem dX12_catsIn_25 : decode cX12_catsIn 25 = .ok (.if_icmp .ne 10, 3) := by decide +kernel
theorem dX12_catsIn_28 : decode cX12_catsIn 28 = .ok (.iconst 1, 1) := by decide +kernel
theorem dX12_catsIn_29 : decode cX12_catsIn 29 = .ok (.iload 4, 2) := by decide +kernel
theorem dX12_catsIn_31 : decode cX12_catsIn 31 = .ok (.ishl, 1) := by decide +kernel
theorem dX12_catsIn_32 : decode cX12_catsIn 32 = .ok (.goto 4, 3) := by decide +kernel
theorem dX12_catsIn_35 : decode cX12_catsIn 35 = .ok (.iconst 0, 1) := by decide +kernel
theorem dX12_catsIn_36 : decode cX12_catsIn 36 = .ok (.ior, 1) := by decide +kernel
theorem dX12_catsIn_37 : decode cX12_catsIn 37 = .ok (.istore_n 3, 1) := by decide +kernel
theorem dX12_catsIn_38 : decode cX12_catsIn 38 = .ok (.iinc 4 1, 3) := by decide +kernel
theorem dX12_catsIn_41 : decode cX12_catsIn 41 = .ok (.goto (-36), 3) := by decide +kernel
theorem dX12_catsIn_44 : decode cX12_catsIn 44 = .ok (.iload_n 3, 1) := by decide +kernel
theorem dX12_catsIn_45 : decode cX12_catsIn 45 = .ok (.ireturn, 1) := by decide +kernel
theorem dX12_moreOf_0 : decode cX12_moreOf 0 = .ok (.aload_n 0, 1) := by decide +kernel
theorem dX12_moreOf_1 : decode cX12_moreOf 1 = .ok (.aload_n 1, 1) := by decide +kernel
theorem dX12_moreOf_2 : decode cX12_moreOf 2 = .ok (.bipush 8, 2) := by decide +kernel
theorem dX12_moreOf_4 : decode cX12_moreOf 4 = .ok (.iload_n 2, 1) := by decide +kernel
theorem dX12_moreOf_5 : decode cX12_moreOf 5 = .ok (.iadd, 1) := by decide +kernel
theorem dX12_moreOf_6 : decode cX12_moreOf 6 = .ok (.iaload, 1) := by decide +kernel
theorem dX12_moreOf_7 : decode cX12_moreOf 7 = .ok (.aload_n 0, 1) := by decide +kernel
theorem dX12_moreOf_8 : decode cX12_moreOf 8 = .ok (.iload_n 2, 1) := by decide +kernel
theorem dX12_moreOf_9 : decode cX12_moreOf 9 = .ok (.invokevirtual 258, 3) := by decide +kernel
theorem dX12_moreOf_12 : decode cX12_moreOf 12 = .ok (.aload_n 0, 1) := by decide +kernel
theorem dX12_moreOf_13 : decode cX12_moreOf 13 = .ok (.aload_n 1, 1) := by decide +kernel
theorem dX12_moreOf_14 : decode cX12_moreOf 14 = .ok (.iconst 0, 1) := by decide +kernel
theorem dX12_moreOf_15 : decode cX12_moreOf 15 = .ok (.iload_n 2, 1) := by decide +kernel
theorem dX12_moreOf_16 : decode cX12_moreOf 16 = .ok (.iadd, 1) := by decide +kernel
theorem dX12_moreOf_17 : decode cX12_moreOf 17 = .ok (.iaload, 1) := by decide +kernel
theorem dX12_moreOf_18 : decode cX12_moreOf 18 = .ok (.invokevirtual 261, 3) := by decide +kernel
theorem dX12_moreOf_21 : decode cX12_moreOf 21 = .ok (.aload_n 0, 1) := by decide +kernel
theorem dX12_moreOf_22 : decode cX12_moreOf 22 = .ok (.aload_n 1, 1) := by decide +kernel
theorem dX12_moreOf_23 : decode cX12_moreOf 23 = .ok (.aload_n 1, 1) := by decide +kernel
theorem dX12_moreOf_24 : decode cX12_moreOf 24 = .ok (.iconst 0, 1) := by decide +kernel
theorem dX12_moreOf_25 : decode cX12_moreOf 25 = .ok (.iload_n 2, 1) := by decide +kernel
theorem dX12_moreOf_26 : decode cX12_moreOf 26 = .ok (.iadd, 1) := by decide +kernel
theorem dX12_moreOf_27 : decode cX12_moreOf 27 = .ok (.iaload, 1) := by decide +kernel
theorem dX12_moreOf_28 : decode cX12_moreOf 28 = .ok (.invokevirtual 264, 3) := by decide +kernel
theorem dX12_moreOf_31 : decode cX12_moreOf 31 = .ok (.invokestatic 268, 3) := by decide +kernel
theorem dX12_moreOf_34 : decode cX12_moreOf 34 = .ok (.aload_n 1, 1) := by decide +kernel
theorem dX12_moreOf_35 : decode cX12_moreOf 35 = .ok (.bipush 46, 2) := by decide +kernel
theorem dX12_moreOf_37 : decode cX12_moreOf 37 = .ok (.iaload, 1) := by decide +kernel
theorem dX12_moreOf_38 : decode cX12_moreOf 38 = .ok (.aload_n 1, 1) := by decide +kernel
theorem dX12_moreOf_39 : decode cX12_moreOf 39 = .ok (.bipush 43, 2) := by decide +kernel
theorem dX12_moreOf_41 : decode cX12_moreOf 41 = .ok (.iaload, 1) := by decide +kernel
theorem dX12_moreOf_42 : decode cX12_moreOf 42 = .ok (.invokestatic 268, 3) := by decide +kernel
theorem dX12_moreOf_45 : decode cX12_moreOf 45 = .ok (.iload_n 2, 1) := by decide +kernel
theorem dX12_moreOf_46 : decode cX12_moreOf 46 = .ok (.invokevirtual 271, 3) := by decide +kernel
theorem dX12_moreOf_49 : decode cX12_moreOf 49 = .ok (.ireturn, 1) := by decide +kernel
theorem dX12_lives_0 : decode cX12_lives 0 = .ok (.aload_n 0, 1) := by decide +kernel
theorem dX12_lives_1 : decode cX12_lives 1 = .ok (.bipush 42, 2) := by decide +kernel
theorem dX12_lives_3 : decode cX12_lives 3 = .ok (.iaload, 1) := by decide +kernel
theorem dX12_lives_4 : decode cX12_lives 4 = .ok (.iload_n 1, 1) := by decide +kernel
theorem dX12_lives_5 : decode cX12_lives 5 = .ok (.invokestatic 251, 3) := by decide +kernel
theorem dX12_lives_8 : decode cX12_lives 8 = .ok (.ireturn, 1) := by decide +kernel
theorem dX12_sees_0 : decode cX12_sees 0 = .ok (.aload_n 1, 1) := by decide +kernel
theorem dX12_sees_1 : decode cX12_sees 1 = .ok (.iload_n 3, 1) := by decide +kernel
theorem dX12_sees_2 : decode cX12_sees 2 = .ok (.invokestatic 275, 3) := by decide +kernel
theorem dX12_sees_5 : decode cX12_sees 5 = .ok (.ifCond .eq 45, 3) := by decide +kernel
theorem dX12_sees_8 : decode cX12_sees 8 = .ok (.aload_n 1, 1) := by decide +kernel
theorem dX12_sees_9 : decode cX12_sees 9 = .ok (.bipush 32, 2) := by decide +kernel
theorem dX12_sees_11 : decode cX12_sees 11 = .ok (.iload_n 2, 1) := by decide +kernel
theorem dX12_sees_12 : decode cX12_sees 12 = .ok (.iadd, 1) := by decide +kernel
theorem dX12_sees_13 : decode cX12_sees 13 = .ok (.iaload, 1) := by decide +kernel
theorem dX12_sees_14 : decode cX12_sees 14 = .ok (.aload_n 1, 1) := by decide +kernel
theorem dX12_sees_15 : decode cX12_sees 15 = .ok (.iconst 0, 1) := by decide +kernel
theorem dX12_sees_16 : decode cX12_sees 16 = .ok (.iload_n 3, 1) := by decide +kernel
theorem dX12_sees_17 : decode cX12_sees 17 = .ok (.iadd, 1) := by decide +kernel
theorem dX12_sees_18 : decode cX12_sees 18 = .ok (.iaload, 1) := by decide +kernel
theorem dX12_sees_19 : decode cX12_sees 19 = .ok (.if_icmp .ne 31, 3) := by decide +kernel
theorem dX12_sees_22 : decode cX12_sees 22 = .ok (.aload_n 1, 1) := by decide +kernel
theorem dX12_sees_23 : decode cX12_sees 23 = .ok (.bipush 8, 2) := by decide +kernel
theorem dX12_sees_25 : decode cX12_sees 25 = .ok (.iload_n 3, 1) := by decide +kernel
theorem dX12_sees_26 : decode cX12_sees 26 = .ok (.iadd, 1) := by decide +kernel
theorem dX12_sees_27 : decode cX12_sees 27 = .ok (.iaload, 1) := by decide +kernel
theorem dX12_sees_28 : decode cX12_sees 28 = .ok (.aload_n 0, 1) := by decide +kernel
theorem dX12_sees_29 : decode cX12_sees 29 = .ok (.iload_n 2, 1) := by decide +kernel
theorem dX12_sees_30 : decode cX12_sees 30 = .ok (.invokevirtual 279, 3) := by decide +kernel
theorem dX12_sees_33 : decode cX12_sees 33 = .ok (.iadd, 1) := by decide +kernel
theorem dX12_sees_34 : decode cX12_sees 34 = .ok (.aload_n 0, 1) := by decide +kernel
theorem dX12_sees_35 : decode cX12_sees 35 = .ok (.aload_n 1, 1) := by decide +kernel
theorem dX12_sees_36 : decode cX12_sees 36 = .ok (.iconst 0, 1) := by decide +kernel
theorem dX12_sees_37 : decode cX12_sees 37 = .ok (.iload_n 3, 1) := by decide +kernel
theorem dX12_sees_38 : decode cX12_sees 38 = .ok (.iadd, 1) := by decide +kernel
theorem dX12_sees_39 : decode cX12_sees 39 = .ok (.iaload, 1) := by decide +kernel
theorem dX12_sees_40 : decode cX12_sees 40 = .ok (.invokevirtual 261, 3) := by decide +kernel
theorem dX12_sees_43 : decode cX12_sees 43 = .ok (.if_icmp .le 7, 3) := by decide +kernel
theorem dX12_sees_46 : decode cX12_sees 46 = .ok (.iconst 1, 1) := by decide +kernel
theorem dX12_sees_47 : decode cX12_sees 47 = .ok (.goto 4, 3) := by decide +kernel
theorem dX12_sees_50 : decode cX12_sees 50 = .ok (.iconst 0, 1) := by decide +kernel
theorem dX12_sees_51 : decode cX12_sees 51 = .ok (.ireturn, 1) := by decide +kernel
theorem dX12_seen_0 : decode cX12_seen 0 = .ok (.iconst 0, 1) := by decide +kernel
theorem dX12_seen_1 : decode cX12_seen 1 = .ok (.istore_n 3, 1) := by decide +kernel
theorem dX12_seen_2 : decode cX12_seen 2 = .ok (.iconst 0, 1) := by decide +kernel
theorem dX12_seen_3 : decode cX12_seen 3 = .ok (.istore 4, 2) := by decide +kernel
theorem dX12_seen_5 : decode cX12_seen 5 = .ok (.iload 4, 2) := by decide +kernel
theorem dX12_seen_7 : decode cX12_seen 7 = .ok (.aload_n 0, 1) := by decide +kernel
theorem dX12_seen_8 : decode cX12_seen 8 = .ok (.getfield 23, 3) := by decide +kernel
theorem dX12_seen_11 : decode cX12_seen 11 = .ok (.iconst 2, 1) := by decide +kernel
theorem dX12_seen_12 : decode cX12_seen 12 = .ok (.iaload, 1) := by decide +kernel
theorem dX12_seen_13 : decode cX12_seen 13 = .ok (.if_icmp .ge 31, 3) := by decide +kernel
theorem dX12_seen_16 : decode cX12_seen 16 = .ok (.iload_n 3, 1) := by decide +kernel
theorem dX12_seen_17 : decode cX12_seen 17 = .ok (.aload_n 0, 1) := by decide +kernel
theorem dX12_seen_18 : decode cX12_seen 18 = .ok (.aload_n 1, 1) := by decide +kernel
theorem dX12_seen_19 : decode cX12_seen 19 = .ok (.iload_n 2, 1) := by decide +kernel
theorem dX12_seen_20 : decode cX12_seen 20 = .ok (.iload 4, 2) := by decide +kernel
theorem dX12_seen_22 : decode cX12_seen 22 = .ok (.invokevirtual 282, 3) := by decide +kernel
theorem dX12_seen_25 : decode cX12_seen 25 = .ok (.ifCond .eq 10, 3) := by decide +kernel
theorem dX12_seen_28 : decode cX12_seen 28 = .ok (.iconst 1, 1) := by decide +kernel
theorem dX12_seen_29 : decode cX12_seen 29 = .ok (.iload 4, 2) := by decide +kernel
theorem dX12_seen_31 : decode cX12_seen 31 = .ok (.ishl, 1) := by decide +kernel
theorem dX12_seen_32 : decode cX12_seen 32 = .ok (.goto 4, 3) := by decide +kernel
theorem dX12_seen_35 : decode cX12_seen 35 = .ok (.iconst 0, 1) := by decide +kernel
theorem dX12_seen_36 : decode cX12_seen 36 = .ok (.ior, 1) := by decide +kernel
theorem dX12_seen_37 : decode cX12_seen 37 = .ok (.istore_n 3, 1) := by decide +kernel
theorem dX12_seen_38 : decode cX12_seen 38 = .ok (.iinc 4 1, 3) := by decide +kernel
theorem dX12_seen_41 : decode cX12_seen 41 = .ok (.goto (-36), 3) := by decide +kernel
theorem dX12_seen_44 : decode cX12_seen 44 = .ok (.iload_n 3, 1) := by decide +kernel
theorem dX12_seen_45 : decode cX12_seen 45 = .ok (.ireturn, 1) := by decide +kernel
theorem dX12_beside_0 : decode cX12_beside 0 = .ok (.iconst 0, 1) := by decide +kernel
theorem dX12_beside_1 : decode cX12_beside 1 = .ok (.istore_n 3, 1) := by decide +kernel
theorem dX12_beside_2 : decode cX12_beside 2 = .ok (.iconst 0, 1) := by decide +kernel
theorem dX12_beside_3 : decode cX12_beside 3 = .ok (.istore 4, 2) := by decide +kernel
theorem dX12_beside_5 : decode cX12_beside 5 = .ok (.iload 4, 2) := by decide +kernel
theorem dX12_beside_7 : decode cX12_beside 7 = .ok (.aload_n 0, 1) := by decide +kernel
theorem dX12_beside_8 : decode cX12_beside 8 = .ok (.getfield 23, 3) := by decide +kernel
theorem dX12_beside_11 : decode cX12_beside 11 = .ok (.iconst 1, 1) := by decide +kernel
theorem dX12_beside_12 : decode cX12_beside 12 = .ok (.iaload, 1) := by decide +kernel
theorem dX12_beside_13 : decode cX12_beside 13 = .ok (.if_icmp .ge 78, 3) := by decide +kernel
theorem dX12_beside_16 : decode cX12_beside 16 = .ok (.aload_n 1, 1) := by decide +kernel
theorem dX12_beside_17 : decode cX12_beside 17 = .ok (.bipush 45, 2) := by decide +kernel
theorem dX12_beside_19 : decode cX12_beside 19 = .ok (.iaload, 1) := by decide +kernel
theorem dX12_beside_20 : decode cX12_beside 20 = .ok (.iload 4, 2) := by decide +kernel
theorem dX12_beside_22 : decode cX12_beside 22 = .ok (.invokestatic 251, 3) := by decide +kernel
theorem dX12_beside_25 : decode cX12_beside 25 = .ok (.ifCond .eq 6, 3) := by decide +kernel
theorem dX12_beside_28 : decode cX12_beside 28 = .ok (.goto 57, 3) := by decide +kernel
theorem dX12_beside_31 : decode cX12_beside 31 = .ok (.iload_n 3, 1) := by decide +kernel
theorem dX12_beside_32 : decode cX12_beside 32 = .ok (.aload_n 0, 1) := by decide +kernel
theorem dX12_beside_33 : decode cX12_beside 33 = .ok (.iload 4, 2) := by decide +kernel
theorem dX12_beside_35 : decode cX12_beside 35 = .ok (.iconst 0, 1) := by decide +kernel
theorem dX12_beside_36 : decode cX12_beside 36 = .ok (.invokevirtual 286, 3) := by decide +kernel
theorem dX12_beside_39 : decode cX12_beside 39 = .ok (.iload_n 2, 1) := by decide +kernel
theorem dX12_beside_40 : decode cX12_beside 40 = .ok (.if_icmp .ne 15, 3) := by decide +kernel
theorem dX12_beside_43 : decode cX12_beside 43 = .ok (.iconst 1, 1) := by decide +kernel
theorem dX12_beside_44 : decode cX12_beside 44 = .ok (.aload_n 0, 1) := by decide +kernel
theorem dX12_beside_45 : decode cX12_beside 45 = .ok (.iload 4, 2) := by decide +kernel
theorem dX12_beside_47 : decode cX12_beside 47 = .ok (.iconst 1, 1) := by decide +kernel
theorem dX12_beside_48 : decode cX12_beside 48 = .ok (.invokevirtual 286, 3) := by decide +kernel
theorem dX12_beside_51 : decode cX12_beside 51 = .ok (.ishl, 1) := by decide +kernel
theorem dX12_beside_52 : decode cX12_beside 52 = .ok (.goto 4, 3) := by decide +kernel
theorem dX12_beside_55 : decode cX12_beside 55 = .ok (.iconst 0, 1) := by decide +kernel
theorem dX12_beside_56 : decode cX12_beside 56 = .ok (.ior, 1) := by decide +kernel
theorem dX12_beside_57 : decode cX12_beside 57 = .ok (.istore_n 3, 1) := by decide +kernel
theorem dX12_beside_58 : decode cX12_beside 58 = .ok (.iload_n 3, 1) := by decide +kernel
theorem dX12_beside_59 : decode cX12_beside 59 = .ok (.aload_n 0, 1) := by decide +kernel
theorem dX12_beside_60 : decode cX12_beside 60 = .ok (.iload 4, 2) := by decide +kernel
theorem dX12_beside_62 : decode cX12_beside 62 = .ok (.iconst 1, 1) := by decide +kernel
theorem dX12_beside_63 : decode cX12_beside 63 = .ok (.invokevirtual 286, 3) := by decide +kernel
theorem dX12_beside_66 : decode cX12_beside 66 = .ok (.iload_n 2, 1) := by decide +kernel
theorem dX12_beside_67 : decode cX12_beside 67 = .ok (.if_icmp .ne 15, 3) := by decide +kernel
theorem dX12_beside_70 : decode cX12_beside 70 = .ok (.iconst 1, 1) := by decide +kernel
theorem dX12_beside_71 : decode cX12_beside 71 = .ok (.aload_n 0, 1) := by decide +kernel
theorem dX12_beside_72 : decode cX12_beside 72 = .ok (.iload 4, 2) := by decide +kernel
theorem dX12_beside_74 : decode cX12_beside 74 = .ok (.iconst 0, 1) := by decide +kernel
theorem dX12_beside_75 : decode cX12_beside 75 = .ok (.invokevirtual 286, 3) := by decide +kernel
theorem dX12_beside_78 : decode cX12_beside 78 = .ok (.ishl, 1) := by decide +kernel
theorem dX12_beside_79 : decode cX12_beside 79 = .ok (.goto 4, 3) := by decide +kernel
theorem dX12_beside_82 : decode cX12_beside 82 = .ok (.iconst 0, 1) := by decide +kernel
theorem dX12_beside_83 : decode cX12_beside 83 = .ok (.ior, 1) := by decide +kernel
theorem dX12_beside_84 : decode cX12_beside 84 = .ok (.istore_n 3, 1) := by decide +kernel
theorem dX12_beside_85 : decode cX12_beside 85 = .ok (.iinc 4 1, 3) := by decide +kernel
theorem dX12_beside_88 : decode cX12_beside 88 = .ok (.goto (-83), 3) := by decide +kernel
theorem dX12_beside_91 : decode cX12_beside 91 = .ok (.iload_n 3, 1) := by decide +kernel
theorem dX12_beside_92 : decode cX12_beside 92 = .ok (.ireturn, 1) := by decide +kernel
theorem dX12_takes2_0 : decode cX12_takes2 0 = .ok (.iconst (-1), 1) := by decide +kernel
theorem dX12_takes2_1 : decode cX12_takes2 1 = .ok (.istore_n 3, 1) := by decide +kernel
theorem dX12_takes2_2 : decode cX12_takes2 2 = .ok (.aload_n 0, 1) := by decide +kernel
theorem dX12_takes2_3 : decode cX12_takes2 3 = .ok (.aload_n 1, 1) := by decide +kernel
theorem dX12_takes2_4 : decode cX12_takes2 4 = .ok (.iload_n 2, 1) := by decide +kernel
theorem dX12_takes2_5 : decode cX12_takes2 5 = .ok (.invokevirtual 289, 3) := by decide +kernel
theorem dX12_takes2_8 : decode cX12_takes2 8 = .ok (.istore 4, 2) := by decide +kernel
theorem dX12_takes2_10 : decode cX12_takes2 10 = .ok (.iconst 0, 1) := by decide +kernel
theorem dX12_takes2_11 : decode cX12_takes2 11 = .ok (.istore 5, 2) := by decide +kernel
theorem dX12_takes2_13 : decode cX12_takes2 13 = .ok (.iload 5, 2) := by decide +kernel
theorem dX12_takes2_15 : decode cX12_takes2 15 = .ok (.aload_n 0, 1) := by decide +kernel
theorem dX12_takes2_16 : decode cX12_takes2 16 = .ok (.getfield 23, 3) := by decide +kernel
theorem dX12_takes2_19 : decode cX12_takes2 19 = .ok (.iconst 2, 1) := by decide +kernel
theorem dX12_takes2_20 : decode cX12_takes2 20 = .ok (.iaload, 1) := by decide +kernel
theorem dX12_takes2_21 : decode cX12_takes2 21 = .ok (.if_icmp .ge 47, 3) := by decide +kernel
theorem dX12_takes2_24 : decode cX12_takes2 24 = .ok (.iload 4, 2) := by decide +kernel
theorem dX12_takes2_26 : decode cX12_takes2 26 = .ok (.iload 5, 2) := by decide +kernel
theorem dX12_takes2_28 : decode cX12_takes2 28 = .ok (.invokestatic 251, 3) := by decide +kernel
theorem dX12_takes2_31 : decode cX12_takes2 31 = .ok (.ifCond .eq 29, 3) := by decide +kernel
theorem dX12_takes2_34 : decode cX12_takes2 34 = .ok (.iload_n 3, 1) := by decide +kernel
theorem dX12_takes2_35 : decode cX12_takes2 35 = .ok (.iconst (-1), 1) := by decide +kernel
theorem dX12_takes2_36 : decode cX12_takes2 36 = .ok (.if_icmp .eq 19, 3) := by decide +kernel
theorem dX12_takes2_39 : decode cX12_takes2 39 = .ok (.aload_n 1, 1) := by decide +kernel
theorem dX12_takes2_40 : decode cX12_takes2 40 = .ok (.bipush 8, 2) := by decide +kernel
theorem dX12_takes2_42 : decode cX12_takes2 42 = .ok (.iload 5, 2) := by decide +kernel
theorem dX12_takes2_44 : decode cX12_takes2 44 = .ok (.iadd, 1) := by decide +kernel
theorem dX12_takes2_45 : decode cX12_takes2 45 = .ok (.iaload, 1) := by decide +kernel
theorem dX12_takes2_46 : decode cX12_takes2 46 = .ok (.aload_n 1, 1) := by decide +kernel
theorem dX12_takes2_47 : decode cX12_takes2 47 = .ok (.bipush 8, 2) := by decide +kernel
theorem dX12_takes2_49 : decode cX12_takes2 49 = .ok (.iload_n 3, 1) := by decide +kernel
theorem dX12_takes2_50 : decode cX12_takes2 50 = .ok (.iadd, 1) := by decide +kernel
theorem dX12_takes2_51 : decode cX12_takes2 51 = .ok (.iaload, 1) := by decide +kernel
theorem dX12_takes2_52 : decode cX12_takes2 52 = .ok (.if_icmp .le 8, 3) := by decide +kernel
theorem dX12_takes2_55 : decode cX12_takes2 55 = .ok (.iload 5, 2) := by decide +kernel
theorem dX12_takes2_57 : decode cX12_takes2 57 = .ok (.goto 4, 3) := by decide +kernel
theorem dX12_takes2_60 : decode cX12_takes2 60 = .ok (.iload_n 3, 1) := by decide +kernel
theorem dX12_takes2_61 : decode cX12_takes2 61 = .ok (.istore_n 3, 1) := by decide +kernel
theorem dX12_takes2_62 : decode cX12_takes2 62 = .ok (.iinc 5 1, 3) := by decide +kernel
theorem dX12_takes2_65 : decode cX12_takes2 65 = .ok (.goto (-52), 3) := by decide +kernel
theorem dX12_takes2_68 : decode cX12_takes2 68 = .ok (.iload_n 3, 1) := by decide +kernel
theorem dX12_takes2_69 : decode cX12_takes2 69 = .ok (.iconst (-1), 1) := by decide +kernel
theorem dX12_takes2_70 : decode cX12_takes2 70 = .ok (.if_icmp .ne 4, 3) := by decide +kernel
theorem dX12_takes2_73 : decode cX12_takes2 73 = .ok (.return_, 1) := by decide +kernel
theorem dX12_takes2_74 : decode cX12_takes2 74 = .ok (.aload_n 1, 1) := by decide +kernel
theorem dX12_takes2_75 : decode cX12_takes2 75 = .ok (.bipush 42, 2) := by decide +kernel
theorem dX12_takes2_77 : decode cX12_takes2 77 = .ok (.dup2, 1) := by decide +kernel
theorem dX12_takes2_78 : decode cX12_takes2 78 = .ok (.iaload, 1) := by decide +kernel
theorem dX12_takes2_79 : decode cX12_takes2 79 = .ok (.iconst 1, 1) := by decide +kernel
theorem dX12_takes2_80 : decode cX12_takes2 80 = .ok (.iload_n 3, 1) := by decide +kernel
theorem dX12_takes2_81 : decode cX12_takes2 81 = .ok (.ishl, 1) := by decide +kernel
theorem dX12_takes2_82 : decode cX12_takes2 82 = .ok (.iconst (-1), 1) := by decide +kernel
theorem dX12_takes2_83 : decode cX12_takes2 83 = .ok (.ixor, 1) := by decide +kernel
theorem dX12_takes2_84 : decode cX12_takes2 84 = .ok (.iand, 1) := by decide +kernel
theorem dX12_takes2_85 : decode cX12_takes2 85 = .ok (.iastore, 1) := by decide +kernel
theorem dX12_takes2_86 : decode cX12_takes2 86 = .ok (.aload_n 1, 1) := by decide +kernel
theorem dX12_takes2_87 : decode cX12_takes2 87 = .ok (.bipush 43, 2) := by decide +kernel
theorem dX12_takes2_89 : decode cX12_takes2 89 = .ok (.dup2, 1) := by decide +kernel
theorem dX12_takes2_90 : decode cX12_takes2 90 = .ok (.iaload, 1) := by decide +kernel
theorem dX12_takes2_91 : decode cX12_takes2 91 = .ok (.iconst 1, 1) := by decide +kernel
theorem dX12_takes2_92 : decode cX12_takes2 92 = .ok (.iload_n 3, 1) := by decide +kernel
theorem dX12_takes2_93 : decode cX12_takes2 93 = .ok (.ishl, 1) := by decide +kernel
theorem dX12_takes2_94 : decode cX12_takes2 94 = .ok (.ior, 1) := by decide +kernel
theorem dX12_takes2_95 : decode cX12_takes2 95 = .ok (.iastore, 1) := by decide +kernel
theorem dX12_takes2_96 : decode cX12_takes2 96 = .ok (.aload_n 1, 1) := by decide +kernel
theorem dX12_takes2_97 : decode cX12_takes2 97 = .ok (.bipush 16, 2) := by decide +kernel
theorem dX12_takes2_99 : decode cX12_takes2 99 = .ok (.iload_n 3, 1) := by decide +kernel
theorem dX12_takes2_100 : decode cX12_takes2 100 = .ok (.iadd, 1) := by decide +kernel
theorem dX12_takes2_101 : decode cX12_takes2 101 = .ok (.aload_n 1, 1) := by decide +kernel
theorem dX12_takes2_102 : decode cX12_takes2 102 = .ok (.bipush 46, 2) := by decide +kernel
theorem dX12_takes2_104 : decode cX12_takes2 104 = .ok (.iaload, 1) := by decide +kernel
theorem dX12_takes2_105 : decode cX12_takes2 105 = .ok (.iastore, 1) := by decide +kernel
theorem dX12_takes2_106 : decode cX12_takes2 106 = .ok (.aload_n 1, 1) := by decide +kernel
theorem dX12_takes2_107 : decode cX12_takes2 107 = .ok (.bipush 24, 2) := by decide +kernel
theorem dX12_takes2_109 : decode cX12_takes2 109 = .ok (.iload_n 3, 1) := by decide +kernel
theorem dX12_takes2_110 : decode cX12_takes2 110 = .ok (.iadd, 1) := by decide +kernel
theorem dX12_takes2_111 : decode cX12_takes2 111 = .ok (.iload_n 2, 1) := by decide +kernel
theorem dX12_takes2_112 : decode cX12_takes2 112 = .ok (.iastore, 1) := by decide +kernel
theorem dX12_takes2_113 : decode cX12_takes2 113 = .ok (.aload_n 1, 1) := by decide +kernel
theorem dX12_takes2_114 : decode cX12_takes2 114 = .ok (.bipush 37, 2) := by decide +kernel
theorem dX12_takes2_116 : decode cX12_takes2 116 = .ok (.iload_n 2, 1) := by decide +kernel
theorem dX12_takes2_117 : decode cX12_takes2 117 = .ok (.iadd, 1) := by decide +kernel
theorem dX12_takes2_118 : decode cX12_takes2 118 = .ok (.dup2, 1) := by decide +kernel
theorem dX12_takes2_119 : decode cX12_takes2 119 = .ok (.iaload, 1) := by decide +kernel
theorem dX12_takes2_120 : decode cX12_takes2 120 = .ok (.iconst 1, 1) := by decide +kernel
theorem dX12_takes2_121 : decode cX12_takes2 121 = .ok (.iadd, 1) := by decide +kernel
theorem dX12_takes2_122 : decode cX12_takes2 122 = .ok (.iastore, 1) := by decide +kernel
theorem dX12_takes2_123 : decode cX12_takes2 123 = .ok (.return_, 1) := by decide +kernel
theorem dX12_nightEnds_0 : decode cX12_nightEnds 0 = .ok (.iconst 0, 1) := by decide +kernel
theorem dX12_nightEnds_1 : decode cX12_nightEnds 1 = .ok (.istore_n 2, 1) := by decide +kernel
theorem dX12_nightEnds_2 : decode cX12_nightEnds 2 = .ok (.iload_n 2, 1) := by decide +kernel
theorem dX12_nightEnds_3 : decode cX12_nightEnds 3 = .ok (.aload_n 0, 1) := by decide +kernel
theorem dX12_nightEnds_4 : decode cX12_nightEnds 4 = .ok (.getfield 23, 3) := by decide +kernel
theorem dX12_nightEnds_7 : decode cX12_nightEnds 7 = .ok (.iconst 2, 1) := by decide +kernel
theorem dX12_nightEnds_8 : decode cX12_nightEnds 8 = .ok (.iaload, 1) := by decide +kernel
theorem dX12_nightEnds_9 : decode cX12_nightEnds 9 = .ok (.if_icmp .ge 51, 3) := by decide +kernel
theorem dX12_nightEnds_12 : decode cX12_nightEnds 12 = .ok (.aload_n 1, 1) := by decide +kernel
theorem dX12_nightEnds_13 : decode cX12_nightEnds 13 = .ok (.bipush 8, 2) := by decide +kernel
theorem dX12_nightEnds_15 : decode cX12_nightEnds 15 = .ok (.iload_n 2, 1) := by decide +kernel
theorem dX12_nightEnds_16 : decode cX12_nightEnds 16 = .ok (.iadd, 1) := by decide +kernel
theorem dX12_nightEnds_17 : decode cX12_nightEnds 17 = .ok (.aload_n 1, 1) := by decide +kernel
theorem dX12_nightEnds_18 : decode cX12_nightEnds 18 = .ok (.iload_n 2, 1) := by decide +kernel
theorem dX12_nightEnds_19 : decode cX12_nightEnds 19 = .ok (.invokestatic 275, 3) := by decide +kernel
theorem dX12_nightEnds_22 : decode cX12_nightEnds 22 = .ok (.ifCond .eq 25, 3) := by decide +kernel
theorem dX12_nightEnds_25 : decode cX12_nightEnds 25 = .ok (.sipush 999, 3) := by decide +kernel
theorem dX12_nightEnds_28 : decode cX12_nightEnds 28 = .ok (.aload_n 1, 1) := by decide +kernel
theorem dX12_nightEnds_29 : decode cX12_nightEnds 29 = .ok (.bipush 8, 2) := by decide +kernel
theorem dX12_nightEnds_31 : decode cX12_nightEnds 31 = .ok (.iload_n 2, 1) := by decide +kernel
theorem dX12_nightEnds_32 : decode cX12_nightEnds 32 = .ok (.iadd, 1) := by decide +kernel
theorem dX12_nightEnds_33 : decode cX12_nightEnds 33 = .ok (.iaload, 1) := by decide +kernel
theorem dX12_nightEnds_34 : decode cX12_nightEnds 34 = .ok (.aload_n 0, 1) := by decide +kernel
theorem dX12_nightEnds_35 : decode cX12_nightEnds 35 = .ok (.aload_n 1, 1) := by decide +kernel
theorem dX12_nightEnds_36 : decode cX12_nightEnds 36 = .ok (.iload_n 2, 1) := by decide +kernel
theorem dX12_nightEnds_37 : decode cX12_nightEnds 37 = .ok (.invokevirtual 292, 3) := by decide +kernel
theorem dX12_nightEnds_40 : decode cX12_nightEnds 40 = .ok (.iadd, 1) := by decide +kernel
theorem dX12_nightEnds_41 : decode cX12_nightEnds 41 = .ok (.invokestatic 232, 3) := by decide +kernel
theorem dX12_nightEnds_44 : decode cX12_nightEnds 44 = .ok (.goto 9, 3) := by decide +kernel
theorem dX12_nightEnds_47 : decode cX12_nightEnds 47 = .ok (.aload_n 1, 1) := by decide +kernel
theorem dX12_nightEnds_48 : decode cX12_nightEnds 48 = .ok (.bipush 8, 2) := by decide +kernel
theorem dX12_nightEnds_50 : decode cX12_nightEnds 50 = .ok (.iload_n 2, 1) := by decide +kernel
theorem dX12_nightEnds_51 : decode cX12_nightEnds 51 = .ok (.iadd, 1) := by decide +kernel
theorem dX12_nightEnds_52 : decode cX12_nightEnds 52 = .ok (.iaload, 1) := by decide +kernel
theorem dX12_nightEnds_53 : decode cX12_nightEnds 53 = .ok (.iastore, 1) := by decide +kernel
theorem dX12_nightEnds_54 : decode cX12_nightEnds 54 = .ok (.iinc 2 1, 3) := by decide +kernel
theorem dX12_nightEnds_57 : decode cX12_nightEnds 57 = .ok (.goto (-55), 3) := by decide +kernel
theorem dX12_nightEnds_60 : decode cX12_nightEnds 60 = .ok (.iconst 0, 1) := by decide +kernel
theorem dX12_nightEnds_61 : decode cX12_nightEnds 61 = .ok (.istore_n 2, 1) := by decide +kernel
theorem dX12_nightEnds_62 : decode cX12_nightEnds 62 = .ok (.iload_n 2, 1) := by decide +kernel
theorem dX12_nightEnds_63 : decode cX12_nightEnds 63 = .ok (.aload_n 0, 1) := by decide +kernel
theorem dX12_nightEnds_64 : decode cX12_nightEnds 64 = .ok (.getfield 23, 3) := by decide +kernel
theorem dX12_nightEnds_67 : decode cX12_nightEnds 67 = .ok (.iconst 3, 1) := by decide +kernel
theorem dX12_nightEnds_68 : decode cX12_nightEnds 68 = .ok (.iaload, 1) := by decide +kernel
theorem dX12_nightEnds_69 : decode cX12_nightEnds 69 = .ok (.if_icmp .ge 15, 3) := by decide +kernel
theorem dX12_nightEnds_72 : decode cX12_nightEnds 72 = .ok (.aload_n 0, 1) := by decide +kernel
theorem dX12_nightEnds_73 : decode cX12_nightEnds 73 = .ok (.aload_n 1, 1) := by decide +kernel
theorem dX12_nightEnds_74 : decode cX12_nightEnds 74 = .ok (.iload_n 2, 1) := by decide +kernel
theorem dX12_nightEnds_75 : decode cX12_nightEnds 75 = .ok (.invokevirtual 295, 3) := by decide +kernel
theorem dX12_nightEnds_78 : decode cX12_nightEnds 78 = .ok (.iinc 2 1, 3) := by decide +kernel
theorem dX12_nightEnds_81 : decode cX12_nightEnds 81 = .ok (.goto (-19), 3) := by decide +kernel
theorem dX12_nightEnds_84 : decode cX12_nightEnds 84 = .ok (.aload_n 1, 1) := by decide +kernel
theorem dX12_nightEnds_85 : decode cX12_nightEnds 85 = .ok (.bipush 46, 2) := by decide +kernel
theorem dX12_nightEnds_87 : decode cX12_nightEnds 87 = .ok (.dup2, 1) := by decide +kernel
theorem dX12_nightEnds_88 : decode cX12_nightEnds 88 = .ok (.iaload, 1) := by decide +kernel
theorem dX12_nightEnds_89 : decode cX12_nightEnds 89 = .ok (.iconst 1, 1) := by decide +kernel
theorem dX12_nightEnds_90 : decode cX12_nightEnds 90 = .ok (.iadd, 1) := by decide +kernel
theorem dX12_nightEnds_91 : decode cX12_nightEnds 91 = .ok (.iastore, 1) := by decide +kernel
theorem dX12_nightEnds_92 : decode cX12_nightEnds 92 = .ok (.return_, 1) := by decide +kernel
theorem dX12_becomes_0 : decode cX12_becomes 0 = .ok (.aload_n 0, 1) := by decide +kernel
theorem dX12_becomes_1 : decode cX12_becomes 1 = .ok (.iload_n 1, 1) := by decide +kernel
theorem dX12_becomes_2 : decode cX12_becomes 2 = .ok (.iaload, 1) := by decide +kernel
theorem dX12_becomes_3 : decode cX12_becomes 3 = .ok (.iload_n 2, 1) := by decide +kernel
theorem dX12_becomes_4 : decode cX12_becomes 4 = .ok (.if_icmp .ne 5, 3) := by decide +kernel
theorem dX12_becomes_7 : decode cX12_becomes 7 = .ok (.iconst 0, 1) := by decide +kernel
theorem dX12_becomes_8 : decode cX12_becomes 8 = .ok (.ireturn, 1) := by decide +kernel
theorem dX12_becomes_9 : decode cX12_becomes 9 = .ok (.aload_n 0, 1) := by decide +kernel
theorem dX12_becomes_10 : decode cX12_becomes 10 = .ok (.iload_n 1, 1) := by decide +kernel
theorem dX12_becomes_11 : decode cX12_becomes 11 = .ok (.iload_n 2, 1) := by decide +kernel
theorem dX12_becomes_12 : decode cX12_becomes 12 = .ok (.iastore, 1) := by decide +kernel
theorem dX12_becomes_13 : decode cX12_becomes 13 = .ok (.iconst 1, 1) := by decide +kernel
theorem dX12_becomes_14 : decode cX12_becomes 14 = .ok (.ireturn, 1) := by decide +kernel
theorem dX12_goesTo_0 : decode cX12_goesTo 0 = .ok (.aload_n 0, 1) := by decide +kernel
theorem dX12_goesTo_1 : decode cX12_goesTo 1 = .ok (.aload_n 1, 1) := by decide +kernel
theorem dX12_goesTo_2 : decode cX12_goesTo 2 = .ok (.aload_n 1, 1) := by decide +kernel
theorem dX12_goesTo_3 : decode cX12_goesTo 3 = .ok (.iload_n 2, 1) := by decide +kernel
theorem dX12_goesTo_4 : decode cX12_goesTo 4 = .ok (.iaload, 1) := by decide +kernel
theorem dX12_goesTo_5 : decode cX12_goesTo 5 = .ok (.invokevirtual 299, 3) := by decide +kernel
theorem dX12_goesTo_8 : decode cX12_goesTo 8 = .ok (.iload_n 3, 1) := by decide +kernel
theorem dX12_goesTo_9 : decode cX12_goesTo 9 = .ok (.invokestatic 251, 3) := by decide +kernel
theorem dX12_goesTo_12 : decode cX12_goesTo 12 = .ok (.ifCond .eq 16, 3) := by decide +kernel
theorem dX12_goesTo_15 : decode cX12_goesTo 15 = .ok (.aload_n 1, 1) := by decide +kernel
theorem dX12_goesTo_16 : decode cX12_goesTo 16 = .ok (.iload_n 2, 1) := by decide +kernel
theorem dX12_goesTo_17 : decode cX12_goesTo 17 = .ok (.iload_n 3, 1) := by decide +kernel
theorem dX12_goesTo_18 : decode cX12_goesTo 18 = .ok (.invokestatic 302, 3) := by decide +kernel
theorem dX12_goesTo_21 : decode cX12_goesTo 21 = .ok (.ifCond .eq 7, 3) := by decide +kernel
theorem dX12_goesTo_24 : decode cX12_goesTo 24 = .ok (.iconst 1, 1) := by decide +kernel
theorem dX12_goesTo_25 : decode cX12_goesTo 25 = .ok (.goto 4, 3) := by decide +kernel
theorem dX12_goesTo_28 : decode cX12_goesTo 28 = .ok (.iconst 0, 1) := by decide +kernel
theorem dX12_goesTo_29 : decode cX12_goesTo 29 = .ok (.ireturn, 1) := by decide +kernel
theorem dX12_joins_0 : decode cX12_joins 0 = .ok (.iload_n 2, 1) := by decide +kernel
theorem dX12_joins_1 : decode cX12_joins 1 = .ok (.iload_n 3, 1) := by decide +kernel
theorem dX12_joins_2 : decode cX12_joins 2 = .ok (.if_icmp .eq 32, 3) := by decide +kernel
theorem dX12_joins_5 : decode cX12_joins 5 = .ok (.aload_n 1, 1) := by decide +kernel
theorem dX12_joins_6 : decode cX12_joins 6 = .ok (.iload_n 2, 1) := by decide +kernel
theorem dX12_joins_7 : decode cX12_joins 7 = .ok (.invokestatic 275, 3) := by decide +kernel
theorem dX12_joins_10 : decode cX12_joins 10 = .ok (.ifCond .eq 24, 3) := by decide +kernel
theorem dX12_joins_13 : decode cX12_joins 13 = .ok (.aload_n 1, 1) := by decide +kernel
theorem dX12_joins_14 : decode cX12_joins 14 = .ok (.iload_n 3, 1) := by decide +kernel
theorem dX12_joins_15 : decode cX12_joins 15 = .ok (.invokestatic 275, 3) := by decide +kernel
theorem dX12_joins_18 : decode cX12_joins 18 = .ok (.ifCond .eq 16, 3) := by decide +kernel
theorem dX12_joins_21 : decode cX12_joins 21 = .ok (.aload_n 1, 1) := by decide +kernel
theorem dX12_joins_22 : decode cX12_joins 22 = .ok (.iconst 0, 1) := by decide +kernel
theorem dX12_joins_23 : decode cX12_joins 23 = .ok (.iload_n 2, 1) := by decide +kernel
theorem dX12_joins_24 : decode cX12_joins 24 = .ok (.iadd, 1) := by decide +kernel
theorem dX12_joins_25 : decode cX12_joins 25 = .ok (.iaload, 1) := by decide +kernel
theorem dX12_joins_26 : decode cX12_joins 26 = .ok (.aload_n 1, 1) := by decide +kernel
theorem dX12_joins_27 : decode cX12_joins 27 = .ok (.iconst 0, 1) := by decide +kernel
theorem dX12_joins_28 : decode cX12_joins 28 = .ok (.iload_n 3, 1) := by decide +kernel
theorem dX12_joins_29 : decode cX12_joins 29 = .ok (.iadd, 1) := by decide +kernel
theorem dX12_joins_30 : decode cX12_joins 30 = .ok (.iaload, 1) := by decide +kernel
theorem dX12_joins_31 : decode cX12_joins 31 = .ok (.if_icmp .eq 5, 3) := by decide +kernel
theorem dX12_joins_34 : decode cX12_joins 34 = .ok (.iconst 0, 1) := by decide +kernel
theorem dX12_joins_35 : decode cX12_joins 35 = .ok (.ireturn, 1) := by decide +kernel
theorem dX12_joins_36 : decode cX12_joins 36 = .ok (.aload_n 1, 1) := by decide +kernel
theorem dX12_joins_37 : decode cX12_joins 37 = .ok (.bipush 8, 2) := by decide +kernel
theorem dX12_joins_39 : decode cX12_joins 39 = .ok (.iload_n 2, 1) := by decide +kernel
theorem dX12_joins_40 : decode cX12_joins 40 = .ok (.iadd, 1) := by decide +kernel
theorem dX12_joins_41 : decode cX12_joins 41 = .ok (.sipush 999, 3) := by decide +kernel
theorem dX12_joins_44 : decode cX12_joins 44 = .ok (.aload_n 1, 1) := by decide +kernel
theorem dX12_joins_45 : decode cX12_joins 45 = .ok (.bipush 8, 2) := by decide +kernel
theorem dX12_joins_47 : decode cX12_joins 47 = .ok (.iload_n 2, 1) := by decide +kernel
theorem dX12_joins_48 : decode cX12_joins 48 = .ok (.iadd, 1) := by decide +kernel
theorem dX12_joins_49 : decode cX12_joins 49 = .ok (.iaload, 1) := by decide +kernel
theorem dX12_joins_50 : decode cX12_joins 50 = .ok (.aload_n 1, 1) := by decide +kernel
theorem dX12_joins_51 : decode cX12_joins 51 = .ok (.bipush 8, 2) := by decide +kernel
theorem dX12_joins_53 : decode cX12_joins 53 = .ok (.iload_n 3, 1) := by decide +kernel
theorem dX12_joins_54 : decode cX12_joins 54 = .ok (.iadd, 1) := by decide +kernel
theorem dX12_joins_55 : decode cX12_joins 55 = .ok (.iaload, 1) := by decide +kernel
theorem dX12_joins_56 : decode cX12_joins 56 = .ok (.iadd, 1) := by decide +kernel
theorem dX12_joins_57 : decode cX12_joins 57 = .ok (.invokestatic 232, 3) := by decide +kernel
theorem dX12_joins_60 : decode cX12_joins 60 = .ok (.iastore, 1) := by decide +kernel
theorem dX12_joins_61 : decode cX12_joins 61 = .ok (.aload_n 1, 1) := by decide +kernel
theorem dX12_joins_62 : decode cX12_joins 62 = .ok (.bipush 42, 2) := by decide +kernel
theorem dX12_joins_64 : decode cX12_joins 64 = .ok (.dup2, 1) := by decide +kernel
theorem dX12_joins_65 : decode cX12_joins 65 = .ok (.iaload, 1) := by decide +kernel
theorem dX12_joins_66 : decode cX12_joins 66 = .ok (.iconst 1, 1) := by decide +kernel
theorem dX12_joins_67 : decode cX12_joins 67 = .ok (.iload_n 3, 1) := by decide +kernel
theorem dX12_joins_68 : decode cX12_joins 68 = .ok (.ishl, 1) := by decide +kernel
theorem dX12_joins_69 : decode cX12_joins 69 = .ok (.iconst (-1), 1) := by decide +kernel
theorem dX12_joins_70 : decode cX12_joins 70 = .ok (.ixor, 1) := by decide +kernel
theorem dX12_joins_71 : decode cX12_joins 71 = .ok (.iand, 1) := by decide +kernel
theorem dX12_joins_72 : decode cX12_joins 72 = .ok (.iastore, 1) := by decide +kernel
theorem dX12_joins_73 : decode cX12_joins 73 = .ok (.aload_n 1, 1) := by decide +kernel
theorem dX12_joins_74 : decode cX12_joins 74 = .ok (.bipush 44, 2) := by decide +kernel
theorem dX12_joins_76 : decode cX12_joins 76 = .ok (.dup2, 1) := by decide +kernel
theorem dX12_joins_77 : decode cX12_joins 77 = .ok (.iaload, 1) := by decide +kernel
theorem dX12_joins_78 : decode cX12_joins 78 = .ok (.iconst 1, 1) := by decide +kernel
theorem dX12_joins_79 : decode cX12_joins 79 = .ok (.iload_n 3, 1) := by decide +kernel
theorem dX12_joins_80 : decode cX12_joins 80 = .ok (.ishl, 1) := by decide +kernel
theorem dX12_joins_81 : decode cX12_joins 81 = .ok (.ior, 1) := by decide +kernel
theorem dX12_joins_82 : decode cX12_joins 82 = .ok (.iastore, 1) := by decide +kernel
theorem dX12_joins_83 : decode cX12_joins 83 = .ok (.iconst 1, 1) := by decide +kernel
theorem dX12_joins_84 : decode cX12_joins 84 = .ok (.ireturn, 1) := by decide +kernel
theorem dX12_does_0 : decode cX12_does 0 = .ok (.aload_n 2, 1) := by decide +kernel
theorem dX12_does_1 : decode cX12_does 1 = .ok (.iconst 1, 1) := by decide +kernel
theorem dX12_does_2 : decode cX12_does 2 = .ok (.iaload, 1) := by decide +kernel
theorem dX12_does_3 : decode cX12_does 3 = .ok (.istore_n 3, 1) := by decide +kernel
theorem dX12_does_4 : decode cX12_does 4 = .ok (.aload_n 2, 1) := by decide +kernel
theorem dX12_does_5 : decode cX12_does 5 = .ok (.iconst 0, 1) := by decide +kernel
theorem dX12_does_6 : decode cX12_does 6 = .ok (.iaload, 1) := by decide +kernel
theorem dX12_does_7 : decode cX12_does 7 = .ok (.tableswitch 140 0 4 #[33, 61, 74, 115, 125], 33) := by decide +kernel
theorem dX12_does_40 : decode cX12_does 40 = .ok (.aload_n 1, 1) := by decide +kernel
theorem dX12_does_41 : decode cX12_does 41 = .ok (.iload_n 3, 1) := by decide +kernel
theorem dX12_does_42 : decode cX12_does 42 = .ok (.invokestatic 275, 3) := by decide +kernel
theorem dX12_does_45 : decode cX12_does 45 = .ok (.ifCond .eq 21, 3) := by decide +kernel
theorem dX12_does_48 : decode cX12_does 48 = .ok (.aload_n 0, 1) := by decide +kernel
theorem dX12_does_49 : decode cX12_does 49 = .ok (.aload_n 1, 1) := by decide +kernel
theorem dX12_does_50 : decode cX12_does 50 = .ok (.iconst 0, 1) := by decide +kernel
theorem dX12_does_51 : decode cX12_does 51 = .ok (.iload_n 3, 1) := by decide +kernel
theorem dX12_does_52 : decode cX12_does 52 = .ok (.iadd, 1) := by decide +kernel
theorem dX12_does_53 : decode cX12_does 53 = .ok (.aload_n 2, 1) := by decide +kernel
theorem dX12_does_54 : decode cX12_does 54 = .ok (.iconst 2, 1) := by decide +kernel
theorem dX12_does_55 : decode cX12_does 55 = .ok (.iaload, 1) := by decide +kernel
theorem dX12_does_56 : decode cX12_does 56 = .ok (.invokevirtual 305, 3) := by decide +kernel
theorem dX12_does_59 : decode cX12_does 59 = .ok (.ifCond .eq 7, 3) := by decide +kernel
theorem dX12_does_62 : decode cX12_does 62 = .ok (.iconst 1, 1) := by decide +kernel
theorem dX12_does_63 : decode cX12_does 63 = .ok (.goto 4, 3) := by decide +kernel
theorem dX12_does_66 : decode cX12_does 66 = .ok (.iconst 0, 1) := by decide +kernel
theorem dX12_does_67 : decode cX12_does 67 = .ok (.ireturn, 1) := by decide +kernel
theorem dX12_does_68 : decode cX12_does 68 = .ok (.aload_n 0, 1) := by decide +kernel
theorem dX12_does_69 : decode cX12_does 69 = .ok (.aload_n 1, 1) := by decide +kernel
theorem dX12_does_70 : decode cX12_does 70 = .ok (.bipush 32, 2) := by decide +kernel
theorem dX12_does_72 : decode cX12_does 72 = .ok (.iload_n 3, 1) := by decide +kernel
theorem dX12_does_73 : decode cX12_does 73 = .ok (.iadd, 1) := by decide +kernel
theorem dX12_does_74 : decode cX12_does 74 = .ok (.aload_n 2, 1) := by decide +kernel
theorem dX12_does_75 : decode cX12_does 75 = .ok (.iconst 2, 1) := by decide +kernel
theorem dX12_does_76 : decode cX12_does 76 = .ok (.iaload, 1) := by decide +kernel
theorem dX12_does_77 : decode cX12_does 77 = .ok (.invokevirtual 305, 3) := by decide +kernel
theorem dX12_does_80 : decode cX12_does 80 = .ok (.ireturn, 1) := by decide +kernel
theorem dX12_does_81 : decode cX12_does 81 = .ok (.aload_n 1, 1) := by decide +kernel
theorem dX12_does_82 : decode cX12_does 82 = .ok (.iload_n 3, 1) := by decide +kernel
theorem dX12_does_83 : decode cX12_does 83 = .ok (.invokestatic 275, 3) := by decide +kernel
theorem dX12_does_86 : decode cX12_does 86 = .ok (.ifCond .eq 34, 3) := by decide +kernel
theorem dX12_does_89 : decode cX12_does 89 = .ok (.aload_n 1, 1) := by decide +kernel
theorem dX12_does_90 : decode cX12_does 90 = .ok (.bipush 8, 2) := by decide +kernel
theorem dX12_does_92 : decode cX12_does 92 = .ok (.iload_n 3, 1) := by decide +kernel
theorem dX12_does_93 : decode cX12_does 93 = .ok (.iadd, 1) := by decide +kernel
theorem dX12_does_94 : decode cX12_does 94 = .ok (.sipush 999, 3) := by decide +kernel
theorem dX12_does_97 : decode cX12_does 97 = .ok (.aload_n 1, 1) := by decide +kernel
theorem dX12_does_98 : decode cX12_does 98 = .ok (.bipush 8, 2) := by decide +kernel
theorem dX12_does_100 : decode cX12_does 100 = .ok (.iload_n 3, 1) := by decide +kernel
theorem dX12_does_101 : decode cX12_does 101 = .ok (.iadd, 1) := by decide +kernel
theorem dX12_does_102 : decode cX12_does 102 = .ok (.iaload, 1) := by decide +kernel
theorem dX12_does_103 : decode cX12_does 103 = .ok (.aload_n 2, 1) := by decide +kernel
theorem dX12_does_104 : decode cX12_does 104 = .ok (.iconst 2, 1) := by decide +kernel
theorem dX12_does_105 : decode cX12_does 105 = .ok (.iaload, 1) := by decide +kernel
theorem dX12_does_106 : decode cX12_does 106 = .ok (.iadd, 1) := by decide +kernel
theorem dX12_does_107 : decode cX12_does 107 = .ok (.invokestatic 232, 3) := by decide +kernel
theorem dX12_does_110 : decode cX12_does 110 = .ok (.invokestatic 302, 3) := by decide +kernel
theorem dX12_does_113 : decode cX12_does 113 = .ok (.ifCond .eq 7, 3) := by decide +kernel
theorem dX12_does_116 : decode cX12_does 116 = .ok (.iconst 1, 1) := by decide +kernel
theorem dX12_does_117 : decode cX12_does 117 = .ok (.goto 4, 3) := by decide +kernel
theorem dX12_does_120 : decode cX12_does 120 = .ok (.iconst 0, 1) := by decide +kernel
theorem dX12_does_121 : decode cX12_does 121 = .ok (.ireturn, 1) := by decide +kernel
theorem dX12_does_122 : decode cX12_does 122 = .ok (.aload_n 0, 1) := by decide +kernel
theorem dX12_does_123 : decode cX12_does 123 = .ok (.aload_n 1, 1) := by decide +kernel
theorem dX12_does_124 : decode cX12_does 124 = .ok (.iload_n 3, 1) := by decide +kernel
theorem dX12_does_125 : decode cX12_does 125 = .ok (.aload_n 2, 1) := by decide +kernel
theorem dX12_does_126 : decode cX12_does 126 = .ok (.iconst 2, 1) := by decide +kernel
theorem dX12_does_127 : decode cX12_does 127 = .ok (.iaload, 1) := by decide +kernel
theorem dX12_does_128 : decode cX12_does 128 = .ok (.invokevirtual 308, 3) := by decide +kernel
theorem dX12_does_131 : decode cX12_does 131 = .ok (.ireturn, 1) := by decide +kernel
theorem dX12_does_132 : decode cX12_does 132 = .ok (.aload_n 1, 1) := by decide +kernel
theorem dX12_does_133 : decode cX12_does 133 = .ok (.bipush 45, 2) := by decide +kernel
theorem dX12_does_135 : decode cX12_does 135 = .ok (.aload_n 1, 1) := by decide +kernel
theorem dX12_does_136 : decode cX12_does 136 = .ok (.bipush 45, 2) := by decide +kernel
theorem dX12_does_138 : decode cX12_does 138 = .ok (.iaload, 1) := by decide +kernel
theorem dX12_does_139 : decode cX12_does 139 = .ok (.iconst 1, 1) := by decide +kernel
theorem dX12_does_140 : decode cX12_does 140 = .ok (.iload_n 3, 1) := by decide +kernel
theorem dX12_does_141 : decode cX12_does 141 = .ok (.ishl, 1) := by decide +kernel
theorem dX12_does_142 : decode cX12_does 142 = .ok (.ixor, 1) := by decide +kernel
theorem dX12_does_143 : decode cX12_does 143 = .ok (.invokestatic 302, 3) := by decide +kernel
theorem dX12_does_146 : decode cX12_does 146 = .ok (.ireturn, 1) := by decide +kernel
theorem dX12_does_147 : decode cX12_does 147 = .ok (.aload_n 1, 1) := by decide +kernel
theorem dX12_does_148 : decode cX12_does 148 = .ok (.bipush 46, 2) := by decide +kernel
theorem dX12_does_150 : decode cX12_does 150 = .ok (.iaload, 1) := by decide +kernel
theorem dX12_does_151 : decode cX12_does 151 = .ok (.sipush 900, 3) := by decide +kernel
theorem dX12_does_154 : decode cX12_does 154 = .ok (.if_icmp .lt 5, 3) := by decide +kernel
theorem dX12_does_157 : decode cX12_does 157 = .ok (.iconst 0, 1) := by decide +kernel
theorem dX12_does_158 : decode cX12_does 158 = .ok (.ireturn, 1) := by decide +kernel
theorem dX12_does_159 : decode cX12_does 159 = .ok (.aload_n 0, 1) := by decide +kernel
theorem dX12_does_160 : decode cX12_does 160 = .ok (.aload_n 1, 1) := by decide +kernel
theorem dX12_does_161 : decode cX12_does 161 = .ok (.invokevirtual 311, 3) := by decide +kernel
theorem dX12_does_164 : decode cX12_does 164 = .ok (.iconst 1, 1) := by decide +kernel
theorem dX12_does_165 : decode cX12_does 165 = .ok (.ireturn, 1) := by decide +kernel
theorem dX12_goes_0 : decode cX12_goes 0 = .ok (.iload_n 1, 1) := by decide +kernel
theorem dX12_goes_1 : decode cX12_goes 1 = .ok (.istore_n 3, 1) := by decide +kernel
theorem dX12_goes_2 : decode cX12_goes 2 = .ok (.iload_n 3, 1) := by decide +kernel
theorem dX12_goes_3 : decode cX12_goes 3 = .ok (.iload_n 2, 1) := by decide +kernel
theorem dX12_goes_4 : decode cX12_goes 4 = .ok (.if_icmp .ge 152, 3) := by decide +kernel
theorem dX12_goes_7 : decode cX12_goes 7 = .ok (.aload_n 0, 1) := by decide +kernel
theorem dX12_goes_8 : decode cX12_goes 8 = .ok (.getfield 315, 3) := by decide +kernel
theorem dX12_goes_11 : decode cX12_goes 11 = .ok (.sipush 200, 3) := by decide +kernel
theorem dX12_goes_14 : decode cX12_goes 14 = .ok (.if_icmp .ge 142, 3) := by decide +kernel
theorem dX12_goes_17 : decode cX12_goes 17 = .ok (.aload_n 0, 1) := by decide +kernel
theorem dX12_goes_18 : decode cX12_goes 18 = .ok (.dup, 1) := by decide +kernel
theorem dX12_goes_19 : decode cX12_goes 19 = .ok (.getfield 315, 3) := by decide +kernel
theorem dX12_goes_22 : decode cX12_goes 22 = .ok (.iconst 1, 1) := by decide +kernel
theorem dX12_goes_23 : decode cX12_goes 23 = .ok (.iadd, 1) := by decide +kernel
theorem dX12_goes_24 : decode cX12_goes 24 = .ok (.putfield 315, 3) := by decide +kernel
theorem dX12_goes_27 : decode cX12_goes 27 = .ok (.aload_n 0, 1) := by decide +kernel
theorem dX12_goes_28 : decode cX12_goes 28 = .ok (.getfield 52, 3) := by decide +kernel
theorem dX12_goes_31 : decode cX12_goes 31 = .ok (.iload_n 3, 1) := by decide +kernel
theorem dX12_goes_32 : decode cX12_goes 32 = .ok (.aaload, 1) := by decide +kernel
theorem dX12_goes_33 : decode cX12_goes 33 = .ok (.iconst 0, 1) := by decide +kernel
theorem dX12_goes_34 : decode cX12_goes 34 = .ok (.iaload, 1) := by decide +kernel
theorem dX12_goes_35 : decode cX12_goes 35 = .ok (.bipush 6, 2) := by decide +kernel
theorem dX12_goes_37 : decode cX12_goes 37 = .ok (.if_icmp .ne 53, 3) := by decide +kernel
theorem dX12_goes_40 : decode cX12_goes 40 = .ok (.iconst 0, 1) := by decide +kernel
theorem dX12_goes_41 : decode cX12_goes 41 = .ok (.istore 4, 2) := by decide +kernel
theorem dX12_goes_43 : decode cX12_goes 43 = .ok (.iload 4, 2) := by decide +kernel
theorem dX12_goes_45 : decode cX12_goes 45 = .ok (.aload_n 0, 1) := by decide +kernel
theorem dX12_goes_46 : decode cX12_goes 46 = .ok (.getfield 52, 3) := by decide +kernel
theorem dX12_goes_49 : decode cX12_goes 49 = .ok (.iload_n 3, 1) := by decide +kernel
theorem dX12_goes_50 : decode cX12_goes 50 = .ok (.aaload, 1) := by decide +kernel
theorem dX12_goes_51 : decode cX12_goes 51 = .ok (.iconst 1, 1) := by decide +kernel
theorem dX12_goes_52 : decode cX12_goes 52 = .ok (.iaload, 1) := by decide +kernel
theorem dX12_goes_53 : decode cX12_goes 53 = .ok (.if_icmp .ge 34, 3) := by decide +kernel
theorem dX12_goes_56 : decode cX12_goes 56 = .ok (.aload_n 0, 1) := by decide +kernel
theorem dX12_goes_57 : decode cX12_goes 57 = .ok (.getfield 315, 3) := by decide +kernel
theorem dX12_goes_60 : decode cX12_goes 60 = .ok (.sipush 200, 3) := by decide +kernel
theorem dX12_goes_63 : decode cX12_goes 63 = .ok (.if_icmp .ge 24, 3) := by decide +kernel
theorem dX12_goes_66 : decode cX12_goes 66 = .ok (.aload_n 0, 1) := by decide +kernel
theorem dX12_goes_67 : decode cX12_goes 67 = .ok (.iload_n 3, 1) := by decide +kernel
theorem dX12_goes_68 : decode cX12_goes 68 = .ok (.iconst 1, 1) := by decide +kernel
theorem dX12_goes_69 : decode cX12_goes 69 = .ok (.iadd, 1) := by decide +kernel
theorem dX12_goes_70 : decode cX12_goes 70 = .ok (.aload_n 0, 1) := by decide +kernel
theorem dX12_goes_71 : decode cX12_goes 71 = .ok (.getfield 52, 3) := by decide +kernel
theorem dX12_goes_74 : decode cX12_goes 74 = .ok (.iload_n 3, 1) := by decide +kernel
theorem dX12_goes_75 : decode cX12_goes 75 = .ok (.aaload, 1) := by decide +kernel
theorem dX12_goes_76 : decode cX12_goes 76 = .ok (.iconst 3, 1) := by decide +kernel
theorem dX12_goes_77 : decode cX12_goes 77 = .ok (.iaload, 1) := by decide +kernel
theorem dX12_goes_78 : decode cX12_goes 78 = .ok (.invokevirtual 318, 3) := by decide +kernel
theorem dX12_goes_81 : decode cX12_goes 81 = .ok (.iinc 4 1, 3) := by decide +kernel
theorem dX12_goes_84 : decode cX12_goes 84 = .ok (.goto (-41), 3) := by decide +kernel
theorem dX12_goes_87 : decode cX12_goes 87 = .ok (.goto 57, 3) := by decide +kernel
theorem dX12_goes_90 : decode cX12_goes 90 = .ok (.aload_n 0, 1) := by decide +kernel
theorem dX12_goes_91 : decode cX12_goes 91 = .ok (.aload_n 0, 1) := by decide +kernel
theorem dX12_goes_92 : decode cX12_goes 92 = .ok (.getfield 55, 3) := by decide +kernel
theorem dX12_goes_95 : decode cX12_goes 95 = .ok (.aload_n 0, 1) := by decide +kernel
theorem dX12_goes_96 : decode cX12_goes 96 = .ok (.getfield 52, 3) := by decide +kernel
theorem dX12_goes_99 : decode cX12_goes 99 = .ok (.iload_n 3, 1) := by decide +kernel
theorem dX12_goes_100 : decode cX12_goes 100 = .ok (.aaload, 1) := by decide +kernel
theorem dX12_goes_101 : decode cX12_goes 101 = .ok (.invokevirtual 321, 3) := by decide +kernel
theorem dX12_goes_104 : decode cX12_goes 104 = .ok (.istore 4, 2) := by decide +kernel
theorem dX12_goes_106 : decode cX12_goes 106 = .ok (.aload_n 0, 1) := by decide +kernel
theorem dX12_goes_107 : decode cX12_goes 107 = .ok (.dup, 1) := by decide +kernel
theorem dX12_goes_108 : decode cX12_goes 108 = .ok (.getfield 325, 3) := by decide +kernel
theorem dX12_goes_111 : decode cX12_goes 111 = .ok (.iload 4, 2) := by decide +kernel
theorem dX12_goes_113 : decode cX12_goes 113 = .ok (.ifCond .eq 7, 3) := by decide +kernel
theorem dX12_goes_116 : decode cX12_goes 116 = .ok (.iconst 1, 1) := by decide +kernel
theorem dX12_goes_117 : decode cX12_goes 117 = .ok (.goto 4, 3) := by decide +kernel
theorem dX12_goes_120 : decode cX12_goes 120 = .ok (.iconst 0, 1) := by decide +kernel
theorem dX12_goes_121 : decode cX12_goes 121 = .ok (.iadd, 1) := by decide +kernel
theorem dX12_goes_122 : decode cX12_goes 122 = .ok (.putfield 325, 3) := by decide +kernel
theorem dX12_goes_125 : decode cX12_goes 125 = .ok (.aload_n 0, 1) := by decide +kernel
theorem dX12_goes_126 : decode cX12_goes 126 = .ok (.dup, 1) := by decide +kernel
theorem dX12_goes_127 : decode cX12_goes 127 = .ok (.getfield 198, 3) := by decide +kernel
theorem dX12_goes_130 : decode cX12_goes 130 = .ok (.iload 4, 2) := by decide +kernel
theorem dX12_goes_132 : decode cX12_goes 132 = .ok (.ifCond .eq 7, 3) := by decide +kernel
theorem dX12_goes_135 : decode cX12_goes 135 = .ok (.iconst 0, 1) := by decide +kernel
theorem dX12_goes_136 : decode cX12_goes 136 = .ok (.goto 4, 3) := by decide +kernel
theorem dX12_goes_139 : decode cX12_goes 139 = .ok (.iconst 1, 1) := by decide +kernel
theorem dX12_goes_140 : decode cX12_goes 140 = .ok (.iadd, 1) := by decide +kernel
theorem dX12_goes_141 : decode cX12_goes 141 = .ok (.putfield 198, 3) := by decide +kernel
theorem dX12_goes_144 : decode cX12_goes 144 = .ok (.aload_n 0, 1) := by decide +kernel
theorem dX12_goes_145 : decode cX12_goes 145 = .ok (.getfield 52, 3) := by decide +kernel
theorem dX12_goes_148 : decode cX12_goes 148 = .ok (.iload_n 3, 1) := by decide +kernel
theorem dX12_goes_149 : decode cX12_goes 149 = .ok (.aaload, 1) := by decide +kernel
theorem dX12_goes_150 : decode cX12_goes 150 = .ok (.iconst 3, 1) := by decide +kernel
theorem dX12_goes_151 : decode cX12_goes 151 = .ok (.iaload, 1) := by decide +kernel
theorem dX12_goes_152 : decode cX12_goes 152 = .ok (.istore_n 3, 1) := by decide +kernel
theorem dX12_goes_153 : decode cX12_goes 153 = .ok (.goto (-151), 3) := by decide +kernel
theorem dX12_goes_156 : decode cX12_goes 156 = .ok (.return_, 1) := by decide +kernel
theorem dX12_work_0 : decode cX12_work 0 = .ok (.aload_n 0, 1) := by decide +kernel
theorem dX12_work_1 : decode cX12_work 1 = .ok (.iconst 0, 1) := by decide +kernel
theorem dX12_work_2 : decode cX12_work 2 = .ok (.putfield 93, 3) := by decide +kernel
theorem dX12_work_5 : decode cX12_work 5 = .ok (.aload_n 0, 1) := by decide +kernel
theorem dX12_work_6 : decode cX12_work 6 = .ok (.iload_n 1, 1) := by decide +kernel
theorem dX12_work_7 : decode cX12_work 7 = .ok (.iconst 0, 1) := by decide +kernel
theorem dX12_work_8 : decode cX12_work 8 = .ok (.aload_n 0, 1) := by decide +kernel
theorem dX12_work_9 : decode cX12_work 9 = .ok (.getfield 96, 3) := by decide +kernel
theorem dX12_work_12 : decode cX12_work 12 = .ok (.invokestatic 127, 3) := by decide +kernel
theorem dX12_work_15 : decode cX12_work 15 = .ok (.ifCond .eq 10, 3) := by decide +kernel
theorem dX12_work_18 : decode cX12_work 18 = .ok (.iload_n 1, 1) := by decide +kernel
theorem dX12_work_19 : decode cX12_work 19 = .ok (.sipush 150, 3) := by decide +kernel
theorem dX12_work_22 : decode cX12_work 22 = .ok (.if_icmp .le 7, 3) := by decide +kernel
theorem dX12_work_25 : decode cX12_work 25 = .ok (.iconst 1, 1) := by decide +kernel
theorem dX12_work_26 : decode cX12_work 26 = .ok (.goto 4, 3) := by decide +kernel
theorem dX12_work_29 : decode cX12_work 29 = .ok (.iconst 0, 1) := by decide +kernel
theorem dX12_work_30 : decode cX12_work 30 = .ok (.iconst 1, 1) := by decide +kernel
theorem dX12_work_31 : decode cX12_work 31 = .ok (.iconst 1, 1) := by decide +kernel
theorem dX12_work_32 : decode cX12_work 32 = .ok (.invokevirtual 172, 3) := by decide +kernel
theorem dX12_work_35 : decode cX12_work 35 = .ok (.ifCond .eq 5, 3) := by decide +kernel
theorem dX12_work_38 : decode cX12_work 38 = .ok (.iconst 0, 1) := by decide +kernel
theorem dX12_work_39 : decode cX12_work 39 = .ok (.ireturn, 1) := by decide +kernel
theorem dX12_work_40 : decode cX12_work 40 = .ok (.aload_n 0, 1) := by decide +kernel
theorem dX12_work_41 : decode cX12_work 41 = .ok (.getfield 195, 3) := by decide +kernel
theorem dX12_work_44 : decode cX12_work 44 = .ok (.bipush 16, 2) := by decide +kernel
theorem dX12_work_46 : decode cX12_work 46 = .ok (.if_icmp .ne 16, 3) := by decide +kernel
theorem dX12_work_49 : decode cX12_work 49 = .ok (.aload_n 0, 1) := by decide +kernel
theorem dX12_work_50 : decode cX12_work 50 = .ok (.iconst 0, 1) := by decide +kernel
theorem dX12_work_51 : decode cX12_work 51 = .ok (.putfield 96, 3) := by decide +kernel
theorem dX12_work_54 : decode cX12_work 54 = .ok (.aload_n 0, 1) := by decide +kernel
theorem dX12_work_55 : decode cX12_work 55 = .ok (.iconst (-1), 1) := by decide +kernel
theorem dX12_work_56 : decode cX12_work 56 = .ok (.putfield 9, 3) := by decide +kernel
theorem dX12_work_59 : decode cX12_work 59 = .ok (.bipush (-20), 2) := by decide +kernel
theorem dX12_work_61 : decode cX12_work 61 = .ok (.ireturn, 1) := by decide +kernel
theorem dX12_work_62 : decode cX12_work 62 = .ok (.aload_n 0, 1) := by decide +kernel
theorem dX12_work_63 : decode cX12_work 63 = .ok (.iload_n 1, 1) := by decide +kernel
theorem dX12_work_64 : decode cX12_work 64 = .ok (.invokevirtual 176, 3) := by decide +kernel
theorem dX12_work_67 : decode cX12_work 67 = .ok (.aload_n 0, 1) := by decide +kernel
theorem dX12_work_68 : decode cX12_work 68 = .ok (.iconst 0, 1) := by decide +kernel
theorem dX12_work_69 : decode cX12_work 69 = .ok (.putfield 245, 3) := by decide +kernel
theorem dX12_work_72 : decode cX12_work 72 = .ok (.aload_n 0, 1) := by decide +kernel
theorem dX12_work_73 : decode cX12_work 73 = .ok (.getfield 109, 3) := by decide +kernel
theorem dX12_work_76 : decode cX12_work 76 = .ok (.ifCond .ne 25, 3) := by decide +kernel
theorem dX12_work_79 : decode cX12_work 79 = .ok (.aload_n 0, 1) := by decide +kernel
theorem dX12_work_80 : decode cX12_work 80 = .ok (.getfield 102, 3) := by decide +kernel
theorem dX12_work_83 : decode cX12_work 83 = .ok (.aload_n 0, 1) := by decide +kernel
theorem dX12_work_84 : decode cX12_work 84 = .ok (.getfield 99, 3) := by decide +kernel
theorem dX12_work_87 : decode cX12_work 87 = .ok (.if_icmp .ge 14, 3) := by decide +kernel
theorem dX12_work_90 : decode cX12_work 90 = .ok (.aload_n 0, 1) := by decide +kernel
theorem dX12_work_91 : decode cX12_work 91 = .ok (.invokevirtual 248, 3) := by decide +kernel
theorem dX12_work_94 : decode cX12_work 94 = .ok (.aload_n 0, 1) := by decide +kernel
theorem dX12_work_95 : decode cX12_work 95 = .ok (.invokevirtual 115, 3) := by decide +kernel
theorem dX12_work_98 : decode cX12_work 98 = .ok (.goto (-26), 3) := by decide +kernel
theorem dX12_work_101 : decode cX12_work 101 = .ok (.aload_n 0, 1) := by decide +kernel
theorem dX12_work_102 : decode cX12_work 102 = .ok (.getfield 109, 3) := by decide +kernel
theorem dX12_work_105 : decode cX12_work 105 = .ok (.ifCond .eq 8, 3) := by decide +kernel
theorem dX12_work_108 : decode cX12_work 108 = .ok (.aload_n 0, 1) := by decide +kernel
theorem dX12_work_109 : decode cX12_work 109 = .ok (.invokevirtual 182, 3) := by decide +kernel
theorem dX12_work_112 : decode cX12_work 112 = .ok (.ireturn, 1) := by decide +kernel
theorem dX12_work_113 : decode cX12_work 113 = .ok (.aload_n 0, 1) := by decide +kernel
theorem dX12_work_114 : decode cX12_work 114 = .ok (.iconst (-1), 1) := by decide +kernel
theorem dX12_work_115 : decode cX12_work 115 = .ok (.putfield 9, 3) := by decide +kernel
theorem dX12_work_118 : decode cX12_work 118 = .ok (.aload_n 0, 1) := by decide +kernel
theorem dX12_work_119 : decode cX12_work 119 = .ok (.getfield 55, 3) := by decide +kernel
theorem dX12_work_122 : decode cX12_work 122 = .ok (.aload_n 0, 1) := by decide +kernel
theorem dX12_work_123 : decode cX12_work 123 = .ok (.getfield 64, 3) := by decide +kernel
theorem dX12_work_126 : decode cX12_work 126 = .ok (.aload_n 0, 1) := by decide +kernel
theorem dX12_work_127 : decode cX12_work 127 = .ok (.getfield 195, 3) := by decide +kernel
theorem dX12_work_130 : decode cX12_work 130 = .ok (.aaload, 1) := by decide +kernel
theorem dX12_work_131 : decode cX12_work 131 = .ok (.invokestatic 328, 3) := by decide +kernel
theorem dX12_work_134 : decode cX12_work 134 = .ok (.aload_n 0, 1) := by decide +kernel
theorem dX12_work_135 : decode cX12_work 135 = .ok (.dup, 1) := by decide +kernel
theorem dX12_work_136 : decode cX12_work 136 = .ok (.getfield 195, 3) := by decide +kernel
theorem dX12_work_139 : decode cX12_work 139 = .ok (.iconst 1, 1) := by decide +kernel
theorem dX12_work_140 : decode cX12_work 140 = .ok (.iadd, 1) := by decide +kernel
theorem dX12_work_141 : decode cX12_work 141 = .ok (.putfield 195, 3) := by decide +kernel
theorem dX12_work_144 : decode cX12_work 144 = .ok (.aload_n 0, 1) := by decide +kernel
theorem dX12_work_145 : decode cX12_work 145 = .ok (.iconst 0, 1) := by decide +kernel
theorem dX12_work_146 : decode cX12_work 146 = .ok (.putfield 315, 3) := by decide +kernel
theorem dX12_work_149 : decode cX12_work 149 = .ok (.aload_n 0, 1) := by decide +kernel
theorem dX12_work_150 : decode cX12_work 150 = .ok (.iconst 0, 1) := by decide +kernel
theorem dX12_work_151 : decode cX12_work 151 = .ok (.putfield 325, 3) := by decide +kernel
theorem dX12_work_154 : decode cX12_work 154 = .ok (.aload_n 0, 1) := by decide +kernel
theorem dX12_work_155 : decode cX12_work 155 = .ok (.iconst 0, 1) := by decide +kernel
theorem dX12_work_156 : decode cX12_work 156 = .ok (.putfield 198, 3) := by decide +kernel
theorem dX12_work_159 : decode cX12_work 159 = .ok (.aload_n 0, 1) := by decide +kernel
theorem dX12_work_160 : decode cX12_work 160 = .ok (.iconst 0, 1) := by decide +kernel
theorem dX12_work_161 : decode cX12_work 161 = .ok (.aload_n 0, 1) := by decide +kernel
theorem dX12_work_162 : decode cX12_work 162 = .ok (.getfield 245, 3) := by decide +kernel
theorem dX12_work_165 : decode cX12_work 165 = .ok (.invokevirtual 318, 3) := by decide +kernel
theorem dX12_work_168 : decode cX12_work 168 = .ok (.aload_n 0, 1) := by decide +kernel
theorem dX12_work_169 : decode cX12_work 169 = .ok (.getfield 325, 3) := by decide +kernel
theorem dX12_work_172 : decode cX12_work 172 = .ok (.ireturn, 1) := by decide +kernel
theorem dX12_undo_0 : decode cX12_undo 0 = .ok (.aload_n 0, 1) := by decide +kernel
theorem dX12_undo_1 : decode cX12_undo 1 = .ok (.iconst 0, 1) := by decide +kernel
theorem dX12_undo_2 : decode cX12_undo 2 = .ok (.putfield 93, 3) := by decide +kernel
theorem dX12_undo_5 : decode cX12_undo 5 = .ok (.aload_n 0, 1) := by decide +kernel
theorem dX12_undo_6 : decode cX12_undo 6 = .ok (.getfield 195, 3) := by decide +kernel
theorem dX12_undo_9 : decode cX12_undo 9 = .ok (.ifCond .ne 5, 3) := by decide +kernel
theorem dX12_undo_12 : decode cX12_undo 12 = .ok (.iconst (-1), 1) := by decide +kernel
theorem dX12_undo_13 : decode cX12_undo 13 = .ok (.ireturn, 1) := by decide +kernel
theorem dX12_undo_14 : decode cX12_undo 14 = .ok (.aload_n 0, 1) := by decide +kernel
theorem dX12_undo_15 : decode cX12_undo 15 = .ok (.dup, 1) := by decide +kernel
theorem dX12_undo_16 : decode cX12_undo 16 = .ok (.getfield 195, 3) := by decide +kernel
theorem dX12_undo_19 : decode cX12_undo 19 = .ok (.iconst 1, 1) := by decide +kernel
theorem dX12_undo_20 : decode cX12_undo 20 = .ok (.isub, 1) := by decide +kernel
theorem dX12_undo_21 : decode cX12_undo 21 = .ok (.putfield 195, 3) := by decide +kernel
theorem dX12_undo_24 : decode cX12_undo 24 = .ok (.aload_n 0, 1) := by decide +kernel
theorem dX12_undo_25 : decode cX12_undo 25 = .ok (.getfield 64, 3) := by decide +kernel
theorem dX12_undo_28 : decode cX12_undo 28 = .ok (.aload_n 0, 1) := by decide +kernel
theorem dX12_undo_29 : decode cX12_undo 29 = .ok (.getfield 195, 3) := by decide +kernel
theorem dX12_undo_32 : decode cX12_undo 32 = .ok (.aaload, 1) := by decide +kernel
theorem dX12_undo_33 : decode cX12_undo 33 = .ok (.aload_n 0, 1) := by decide +kernel
theorem dX12_undo_34 : decode cX12_undo 34 = .ok (.getfield 55, 3) := by decide +kernel
theorem dX12_undo_37 : decode cX12_undo 37 = .ok (.invokestatic 328, 3) := by decide +kernel
theorem dX12_undo_40 : decode cX12_undo 40 = .ok (.aload_n 0, 1) := by decide +kernel
theorem dX12_undo_41 : decode cX12_undo 41 = .ok (.iconst 0, 1) := by decide +kernel
theorem dX12_undo_42 : decode cX12_undo 42 = .ok (.putfield 198, 3) := by decide +kernel
theorem dX12_undo_45 : decode cX12_undo 45 = .ok (.aload_n 0, 1) := by decide +kernel
theorem dX12_undo_46 : decode cX12_undo 46 = .ok (.getfield 195, 3) := by decide +kernel
theorem dX12_undo_49 : decode cX12_undo 49 = .ok (.ireturn, 1) := by decide +kernel
theorem dX12_sizes_0 : decode cX12_sizes 0 = .ok (.iconst 0, 1) := by decide +kernel
theorem dX12_sizes_1 : decode cX12_sizes 1 = .ok (.istore_n 2, 1) := by decide +kernel
theorem dX12_sizes_2 : decode cX12_sizes 2 = .ok (.iconst 0, 1) := by decide +kernel
theorem dX12_sizes_3 : decode cX12_sizes 3 = .ok (.istore_n 3, 1) := by decide +kernel
theorem dX12_sizes_4 : decode cX12_sizes 4 = .ok (.iload_n 3, 1) := by decide +kernel
theorem dX12_sizes_5 : decode cX12_sizes 5 = .ok (.aload_n 0, 1) := by decide +kernel
theorem dX12_sizes_6 : decode cX12_sizes 6 = .ok (.getfield 23, 3) := by decide +kernel
theorem dX12_sizes_9 : decode cX12_sizes 9 = .ok (.iconst 2, 1) := by decide +kernel
theorem dX12_sizes_10 : decode cX12_sizes 10 = .ok (.iaload, 1) := by decide +kernel
theorem dX12_sizes_11 : decode cX12_sizes 11 = .ok (.if_icmp .ge 30, 3) := by decide +kernel
theorem dX12_sizes_14 : decode cX12_sizes 14 = .ok (.iload_n 2, 1) := by decide +kernel
theorem dX12_sizes_15 : decode cX12_sizes 15 = .ok (.aload_n 1, 1) := by decide +kernel
theorem dX12_sizes_16 : decode cX12_sizes 16 = .ok (.iload_n 3, 1) := by decide +kernel
theorem dX12_sizes_17 : decode cX12_sizes 17 = .ok (.invokestatic 275, 3) := by decide +kernel
theorem dX12_sizes_20 : decode cX12_sizes 20 = .ok (.ifCond .eq 12, 3) := by decide +kernel
theorem dX12_sizes_23 : decode cX12_sizes 23 = .ok (.aload_n 1, 1) := by decide +kernel
theorem dX12_sizes_24 : decode cX12_sizes 24 = .ok (.bipush 8, 2) := by decide +kernel
theorem dX12_sizes_26 : decode cX12_sizes 26 = .ok (.iload_n 3, 1) := by decide +kernel
theorem dX12_sizes_27 : decode cX12_sizes 27 = .ok (.iadd, 1) := by decide +kernel
theorem dX12_sizes_28 : decode cX12_sizes 28 = .ok (.iaload, 1) := by decide +kernel
theorem dX12_sizes_29 : decode cX12_sizes 29 = .ok (.goto 4, 3) := by decide +kernel
theorem dX12_sizes_32 : decode cX12_sizes 32 = .ok (.iconst 0, 1) := by decide +kernel
theorem dX12_sizes_33 : decode cX12_sizes 33 = .ok (.iadd, 1) := by decide +kernel
theorem dX12_sizes_34 : decode cX12_sizes 34 = .ok (.istore_n 2, 1) := by decide +kernel
theorem dX12_sizes_35 : decode cX12_sizes 35 = .ok (.iinc 3 1, 3) := by decide +kernel
theorem dX12_sizes_38 : decode cX12_sizes 38 = .ok (.goto (-34), 3) := by decide +kernel
theorem dX12_sizes_41 : decode cX12_sizes 41 = .ok (.iload_n 2, 1) := by decide +kernel
theorem dX12_sizes_42 : decode cX12_sizes 42 = .ok (.ireturn, 1) := by decide +kernel
theorem dX12_told_0 : decode cX12_told 0 = .ok (.aload_n 0, 1) := by decide +kernel
theorem dX12_told_1 : decode cX12_told 1 = .ok (.iconst 0, 1) := by decide +kernel
theorem dX12_told_2 : decode cX12_told 2 = .ok (.putfield 93, 3) := by decide +kernel
theorem dX12_told_5 : decode cX12_told 5 = .ok (.aload_n 0, 1) := by decide +kernel
theorem dX12_told_6 : decode cX12_told 6 = .ok (.iload_n 1, 1) := by decide +kernel
theorem dX12_told_7 : decode cX12_told 7 = .ok (.iconst 0, 1) := by decide +kernel
theorem dX12_told_8 : decode cX12_told 8 = .ok (.bipush 11, 2) := by decide +kernel
theorem dX12_told_10 : decode cX12_told 10 = .ok (.invokestatic 127, 3) := by decide +kernel
theorem dX12_told_13 : decode cX12_told 13 = .ok (.ifCond .ne 7, 3) := by decide +kernel
theorem dX12_told_16 : decode cX12_told 16 = .ok (.iconst 1, 1) := by decide +kernel
theorem dX12_told_17 : decode cX12_told 17 = .ok (.goto 4, 3) := by decide +kernel
theorem dX12_told_20 : decode cX12_told 20 = .ok (.iconst 0, 1) := by decide +kernel
theorem dX12_told_21 : decode cX12_told 21 = .ok (.iconst 1, 1) := by decide +kernel
theorem dX12_told_22 : decode cX12_told 22 = .ok (.iconst 1, 1) := by decide +kernel
theorem dX12_told_23 : decode cX12_told 23 = .ok (.invokevirtual 172, 3) := by decide +kernel
theorem dX12_told_26 : decode cX12_told 26 = .ok (.ifCond .eq 5, 3) := by decide +kernel
theorem dX12_told_29 : decode cX12_told 29 = .ok (.iconst 0, 1) := by decide +kernel
theorem dX12_told_30 : decode cX12_told 30 = .ok (.ireturn, 1) := by decide +kernel
theorem dX12_told_31 : decode cX12_told 31 = .ok (.iload_n 1, 1) := by decide +kernel
theorem dX12_told_32 : decode cX12_told 32 = .ok (.tableswitch 117 0 10 #[60, 60, 60, 60, 67, 75, 83, 91, 99, 107, 112], 60) := by decide +kernel
theorem dX12_told_92 : decode cX12_told 92 = .ok (.aload_n 0, 1) := by decide +kernel
theorem dX12_told_93 : decode cX12_told 93 = .ok (.getfield 23, 3) := by decide +kernel
theorem dX12_told_96 : decode cX12_told 96 = .ok (.iload_n 1, 1) := by decide +kernel
theorem dX12_told_97 : decode cX12_told 97 = .ok (.iaload, 1) := by decide +kernel
theorem dX12_told_98 : decode cX12_told 98 = .ok (.ireturn, 1) := by decide +kernel
theorem dX12_told_99 : decode cX12_told 99 = .ok (.aload_n 0, 1) := by decide +kernel
theorem dX12_told_100 : decode cX12_told 100 = .ok (.getfield 55, 3) := by decide +kernel
theorem dX12_told_103 : decode cX12_told 103 = .ok (.bipush 46, 2) := by decide +kernel
theorem dX12_told_105 : decode cX12_told 105 = .ok (.iaload, 1) := by decide +kernel
theorem dX12_told_106 : decode cX12_told 106 = .ok (.ireturn, 1) := by decide +kernel
theorem dX12_told_107 : decode cX12_told 107 = .ok (.aload_n 0, 1) := by decide +kernel
theorem dX12_told_108 : decode cX12_told 108 = .ok (.getfield 55, 3) := by decide +kernel
theorem dX12_told_111 : decode cX12_told 111 = .ok (.bipush 42, 2) := by decide +kernel
theorem dX12_told_113 : decode cX12_told 113 = .ok (.iaload, 1) := by decide +kernel
theorem dX12_told_114 : decode cX12_told 114 = .ok (.ireturn, 1) := by decide +kernel
theorem dX12_told_115 : decode cX12_told 115 = .ok (.aload_n 0, 1) := by decide +kernel
theorem dX12_told_116 : decode cX12_told 116 = .ok (.getfield 55, 3) := by decide +kernel
theorem dX12_told_119 : decode cX12_told 119 = .ok (.bipush 43, 2) := by decide +kernel
theorem dX12_told_121 : decode cX12_told 121 = .ok (.iaload, 1) := by decide +kernel
theorem dX12_told_122 : decode cX12_told 122 = .ok (.ireturn, 1) := by decide +kernel
theorem dX12_told_123 : decode cX12_told 123 = .ok (.aload_n 0, 1) := by decide +kernel
theorem dX12_told_124 : decode cX12_told 124 = .ok (.getfield 55, 3) := by decide +kernel
theorem dX12_told_127 : decode cX12_told 127 = .ok (.bipush 44, 2) := by decide +kernel
theorem dX12_told_129 : decode cX12_told 129 = .ok (.iaload, 1) := by decide +kernel
theorem dX12_told_130 : decode cX12_told 130 = .ok (.ireturn, 1) := by decide +kernel
theorem dX12_told_131 : decode cX12_told 131 = .ok (.aload_n 0, 1) := by decide +kernel
theorem dX12_told_132 : decode cX12_told 132 = .ok (.getfield 55, 3) := by decide +kernel
theorem dX12_told_135 : decode cX12_told 135 = .ok (.bipush 45, 2) := by decide +kernel
theorem dX12_told_137 : decode cX12_told 137 = .ok (.iaload, 1) := by decide +kernel
theorem dX12_told_138 : decode cX12_told 138 = .ok (.ireturn, 1) := by decide +kernel
theorem dX12_told_139 : decode cX12_told 139 = .ok (.aload_n 0, 1) := by decide +kernel
theorem dX12_told_140 : decode cX12_told 140 = .ok (.getfield 192, 3) := by decide +kernel
theorem dX12_told_143 : decode cX12_told 143 = .ok (.ireturn, 1) := by decide +kernel
theorem dX12_told_144 : decode cX12_told 144 = .ok (.aload_n 0, 1) := by decide +kernel
theorem dX12_told_145 : decode cX12_told 145 = .ok (.getfield 198, 3) := by decide +kernel
theorem dX12_told_148 : decode cX12_told 148 = .ok (.ireturn, 1) := by decide +kernel
theorem dX12_told_149 : decode cX12_told 149 = .ok (.aload_n 0, 1) := by decide +kernel
theorem dX12_told_150 : decode cX12_told 150 = .ok (.aload_n 0, 1) := by decide +kernel
theorem dX12_told_151 : decode cX12_told 151 = .ok (.getfield 55, 3) := by decide +kernel
theorem dX12_told_154 : decode cX12_told 154 = .ok (.invokevirtual 332, 3) := by decide +kernel
theorem dX12_told_157 : decode cX12_told 157 = .ok (.ireturn, 1) := by decide +kernel
theorem dX12_isThing_0 : decode cX12_isThing 0 = .ok (.iload_n 2, 1) := by decide +kernel
theorem dX12_isThing_1 : decode cX12_isThing 1 = .ok (.iconst 0, 1) := by decide +kernel
theorem dX12_isThing_2 : decode cX12_isThing 2 = .ok (.aload_n 0, 1) := by decide +kernel
theorem dX12_isThing_3 : decode cX12_isThing 3 = .ok (.getfield 23, 3) := by decide +kernel
theorem dX12_isThing_6 : decode cX12_isThing 6 = .ok (.iload_n 1, 1) := by decide +kernel
theorem dX12_isThing_7 : decode cX12_isThing 7 = .ok (.iaload, 1) := by decide +kernel
theorem dX12_isThing_8 : decode cX12_isThing 8 = .ok (.iconst 1, 1) := by decide +kernel
theorem dX12_isThing_9 : decode cX12_isThing 9 = .ok (.isub, 1) := by decide +kernel
theorem dX12_isThing_10 : decode cX12_isThing 10 = .ok (.invokestatic 127, 3) := by decide +kernel
theorem dX12_isThing_13 : decode cX12_isThing 13 = .ok (.ireturn, 1) := by decide +kernel
theorem dX12_room_0 : decode cX12_room 0 = .ok (.aload_n 0, 1) := by decide +kernel
theorem dX12_room_1 : decode cX12_room 1 = .ok (.iconst 0, 1) := by decide +kernel
theorem dX12_room_2 : decode cX12_room 2 = .ok (.putfield 93, 3) := by decide +kernel
theorem dX12_room_5 : decode cX12_room 5 = .ok (.aload_n 0, 1) := by decide +kernel
theorem dX12_room_6 : decode cX12_room 6 = .ok (.aload_n 0, 1) := by decide +kernel
theorem dX12_room_7 : decode cX12_room 7 = .ok (.iconst 0, 1) := by decide +kernel
theorem dX12_room_8 : decode cX12_room 8 = .ok (.iload_n 1, 1) := by decide +kernel
theorem dX12_room_9 : decode cX12_room 9 = .ok (.invokevirtual 336, 3) := by decide +kernel
theorem dX12_room_12 : decode cX12_room 12 = .ok (.ifCond .ne 7, 3) := by decide +kernel
theorem dX12_room_15 : decode cX12_room 15 = .ok (.iconst 1, 1) := by decide +kernel
theorem dX12_room_16 : decode cX12_room 16 = .ok (.goto 4, 3) := by decide +kernel
theorem dX12_room_19 : decode cX12_room 19 = .ok (.iconst 0, 1) := by decide +kernel
theorem dX12_room_20 : decode cX12_room 20 = .ok (.iconst 1, 1) := by decide +kernel
theorem dX12_room_21 : decode cX12_room 21 = .ok (.iconst 0, 1) := by decide +kernel
theorem dX12_room_22 : decode cX12_room 22 = .ok (.invokevirtual 172, 3) := by decide +kernel
theorem dX12_room_25 : decode cX12_room 25 = .ok (.ifCond .ne 26, 3) := by decide +kernel
theorem dX12_room_28 : decode cX12_room 28 = .ok (.aload_n 0, 1) := by decide +kernel
theorem dX12_room_29 : decode cX12_room 29 = .ok (.iload_n 2, 1) := by decide +kernel
theorem dX12_room_30 : decode cX12_room 30 = .ok (.iconst 0, 1) := by decide +kernel
theorem dX12_room_31 : decode cX12_room 31 = .ok (.iconst 3, 1) := by decide +kernel
theorem dX12_room_32 : decode cX12_room 32 = .ok (.invokestatic 127, 3) := by decide +kernel
theorem dX12_room_35 : decode cX12_room 35 = .ok (.ifCond .ne 7, 3) := by decide +kernel
theorem dX12_room_38 : decode cX12_room 38 = .ok (.iconst 1, 1) := by decide +kernel
theorem dX12_room_39 : decode cX12_room 39 = .ok (.goto 4, 3) := by decide +kernel
theorem dX12_room_42 : decode cX12_room 42 = .ok (.iconst 0, 1) := by decide +kernel
theorem dX12_room_43 : decode cX12_room 43 = .ok (.iconst 2, 1) := by decide +kernel
theorem dX12_room_44 : decode cX12_room 44 = .ok (.iconst 1, 1) := by decide +kernel
theorem dX12_room_45 : decode cX12_room 45 = .ok (.invokevirtual 172, 3) := by decide +kernel
theorem dX12_room_48 : decode cX12_room 48 = .ok (.ifCond .eq 5, 3) := by decide +kernel
theorem dX12_room_51 : decode cX12_room 51 = .ok (.iconst 0, 1) := by decide +kernel
theorem dX12_room_52 : decode cX12_room 52 = .ok (.ireturn, 1) := by decide +kernel
theorem dX12_room_53 : decode cX12_room 53 = .ok (.iconst 0, 1) := by decide +kernel
theorem dX12_room_54 : decode cX12_room 54 = .ok (.istore_n 3, 1) := by decide +kernel
theorem dX12_room_55 : decode cX12_room 55 = .ok (.iconst 0, 1) := by decide +kernel
theorem dX12_room_56 : decode cX12_room 56 = .ok (.istore 4, 2) := by decide +kernel
theorem dX12_room_58 : decode cX12_room 58 = .ok (.iload 4, 2) := by decide +kernel
theorem dX12_room_60 : decode cX12_room 60 = .ok (.aload_n 0, 1) := by decide +kernel
theorem dX12_room_61 : decode cX12_room 61 = .ok (.getfield 23, 3) := by decide +kernel
theorem dX12_room_64 : decode cX12_room 64 = .ok (.iconst 2, 1) := by decide +kernel
theorem dX12_room_65 : decode cX12_room 65 = .ok (.iaload, 1) := by decide +kernel
theorem dX12_room_66 : decode cX12_room 66 = .ok (.if_icmp .ge 45, 3) := by decide +kernel
theorem dX12_room_69 : decode cX12_room 69 = .ok (.iload_n 3, 1) := by decide +kernel
theorem dX12_room_70 : decode cX12_room 70 = .ok (.aload_n 0, 1) := by decide +kernel
theorem dX12_room_71 : decode cX12_room 71 = .ok (.getfield 55, 3) := by decide +kernel
theorem dX12_room_74 : decode cX12_room 74 = .ok (.iload 4, 2) := by decide +kernel
theorem dX12_room_76 : decode cX12_room 76 = .ok (.invokestatic 275, 3) := by decide +kernel
theorem dX12_room_79 : decode cX12_room 79 = .ok (.ifCond .eq 23, 3) := by decide +kernel
theorem dX12_room_82 : decode cX12_room 82 = .ok (.aload_n 0, 1) := by decide +kernel
theorem dX12_room_83 : decode cX12_room 83 = .ok (.getfield 55, 3) := by decide +kernel
theorem dX12_room_86 : decode cX12_room 86 = .ok (.iconst 0, 1) := by decide +kernel
theorem dX12_room_87 : decode cX12_room 87 = .ok (.iload 4, 2) := by decide +kernel
theorem dX12_room_89 : decode cX12_room 89 = .ok (.iadd, 1) := by decide +kernel
theorem dX12_room_90 : decode cX12_room 90 = .ok (.iaload, 1) := by decide +kernel
theorem dX12_room_91 : decode cX12_room 91 = .ok (.iload_n 1, 1) := by decide +kernel
theorem dX12_room_92 : decode cX12_room 92 = .ok (.if_icmp .ne 10, 3) := by decide +kernel
theorem dX12_room_95 : decode cX12_room 95 = .ok (.iconst 1, 1) := by decide +kernel
theorem dX12_room_96 : decode cX12_room 96 = .ok (.iload 4, 2) := by decide +kernel
theorem dX12_room_98 : decode cX12_room 98 = .ok (.ishl, 1) := by decide +kernel
theorem dX12_room_99 : decode cX12_room 99 = .ok (.goto 4, 3) := by decide +kernel
theorem dX12_room_102 : decode cX12_room 102 = .ok (.iconst 0, 1) := by decide +kernel
theorem dX12_room_103 : decode cX12_room 103 = .ok (.ior, 1) := by decide +kernel
theorem dX12_room_104 : decode cX12_room 104 = .ok (.istore_n 3, 1) := by decide +kernel
theorem dX12_room_105 : decode cX12_room 105 = .ok (.iinc 4 1, 3) := by decide +kernel
theorem dX12_room_108 : decode cX12_room 108 = .ok (.goto (-50), 3) := by decide +kernel
theorem dX12_room_111 : decode cX12_room 111 = .ok (.iload_n 2, 1) := by decide +kernel
theorem dX12_room_112 : decode cX12_room 112 = .ok (.ifCond .ne 11, 3) := by decide +kernel
theorem dX12_room_115 : decode cX12_room 115 = .ok (.aload_n 0, 1) := by decide +kernel
theorem dX12_room_116 : decode cX12_room 116 = .ok (.iload_n 1, 1) := by decide +kernel
theorem dX12_room_117 : decode cX12_room 117 = .ok (.invokevirtual 261, 3) := by decide +kernel
theorem dX12_room_120 : decode cX12_room 120 = .ok (.goto 38, 3) := by decide +kernel
theorem dX12_room_123 : decode cX12_room 123 = .ok (.iload_n 2, 1) := by decide +kernel
theorem dX12_room_124 : decode cX12_room 124 = .ok (.iconst 1, 1) := by decide +kernel
theorem dX12_room_125 : decode cX12_room 125 = .ok (.if_icmp .ne 7, 3) := by decide +kernel
theorem dX12_room_128 : decode cX12_room 128 = .ok (.iload_n 3, 1) := by decide +kernel
theorem dX12_room_129 : decode cX12_room 129 = .ok (.goto 29, 3) := by decide +kernel
theorem dX12_room_132 : decode cX12_room 132 = .ok (.iload_n 2, 1) := by decide +kernel
theorem dX12_room_133 : decode cX12_room 133 = .ok (.iconst 2, 1) := by decide +kernel
theorem dX12_room_134 : decode cX12_room 134 = .ok (.if_icmp .ne 15, 3) := by decide +kernel
theorem dX12_room_137 : decode cX12_room 137 = .ok (.aload_n 0, 1) := by decide +kernel
theorem dX12_room_138 : decode cX12_room 138 = .ok (.aload_n 0, 1) := by decide +kernel
theorem dX12_room_139 : decode cX12_room 139 = .ok (.getfield 55, 3) := by decide +kernel
theorem dX12_room_142 : decode cX12_room 142 = .ok (.iload_n 1, 1) := by decide +kernel
theorem dX12_room_143 : decode cX12_room 143 = .ok (.invokevirtual 264, 3) := by decide +kernel
theorem dX12_room_146 : decode cX12_room 146 = .ok (.goto 12, 3) := by decide +kernel
theorem dX12_room_149 : decode cX12_room 149 = .ok (.aload_n 0, 1) := by decide +kernel
theorem dX12_room_150 : decode cX12_room 150 = .ok (.aload_n 0, 1) := by decide +kernel
theorem dX12_room_151 : decode cX12_room 151 = .ok (.getfield 55, 3) := by decide +kernel
theorem dX12_room_154 : decode cX12_room 154 = .ok (.iload_n 1, 1) := by decide +kernel
theorem dX12_room_155 : decode cX12_room 155 = .ok (.invokevirtual 299, 3) := by decide +kernel
theorem dX12_room_158 : decode cX12_room 158 = .ok (.ireturn, 1) := by decide +kernel
theorem dX12_way_0 : decode cX12_way 0 = .ok (.aload_n 0, 1) := by decide +kernel
theorem dX12_way_1 : decode cX12_way 1 = .ok (.iconst 0, 1) := by decide +kernel
theorem dX12_way_2 : decode cX12_way 2 = .ok (.putfield 93, 3) := by decide +kernel
theorem dX12_way_5 : decode cX12_way 5 = .ok (.aload_n 0, 1) := by decide +kernel
theorem dX12_way_6 : decode cX12_way 6 = .ok (.aload_n 0, 1) := by decide +kernel
theorem dX12_way_7 : decode cX12_way 7 = .ok (.iconst 1, 1) := by decide +kernel
theorem dX12_way_8 : decode cX12_way 8 = .ok (.iload_n 1, 1) := by decide +kernel
theorem dX12_way_9 : decode cX12_way 9 = .ok (.invokevirtual 336, 3) := by decide +kernel
theorem dX12_way_12 : decode cX12_way 12 = .ok (.ifCond .ne 7, 3) := by decide +kernel
theorem dX12_way_15 : decode cX12_way 15 = .ok (.iconst 1, 1) := by decide +kernel
theorem dX12_way_16 : decode cX12_way 16 = .ok (.goto 4, 3) := by decide +kernel
theorem dX12_way_19 : decode cX12_way 19 = .ok (.iconst 0, 1) := by decide +kernel
theorem dX12_way_20 : decode cX12_way 20 = .ok (.iconst 1, 1) := by decide +kernel
theorem dX12_way_21 : decode cX12_way 21 = .ok (.iconst 0, 1) := by decide +kernel
theorem dX12_way_22 : decode cX12_way 22 = .ok (.invokevirtual 172, 3) := by decide +kernel
theorem dX12_way_25 : decode cX12_way 25 = .ok (.ifCond .ne 26, 3) := by decide +kernel
theorem dX12_way_28 : decode cX12_way 28 = .ok (.aload_n 0, 1) := by decide +kernel
theorem dX12_way_29 : decode cX12_way 29 = .ok (.iload_n 2, 1) := by decide +kernel
theorem dX12_way_30 : decode cX12_way 30 = .ok (.iconst 0, 1) := by decide +kernel
theorem dX12_way_31 : decode cX12_way 31 = .ok (.iconst 2, 1) := by decide +kernel
theorem dX12_way_32 : decode cX12_way 32 = .ok (.invokestatic 127, 3) := by decide +kernel
theorem dX12_way_35 : decode cX12_way 35 = .ok (.ifCond .ne 7, 3) := by decide +kernel
theorem dX12_way_38 : decode cX12_way 38 = .ok (.iconst 1, 1) := by decide +kernel
theorem dX12_way_39 : decode cX12_way 39 = .ok (.goto 4, 3) := by decide +kernel
theorem dX12_way_42 : decode cX12_way 42 = .ok (.iconst 0, 1) := by decide +kernel
theorem dX12_way_43 : decode cX12_way 43 = .ok (.iconst 2, 1) := by decide +kernel
theorem dX12_way_44 : decode cX12_way 44 = .ok (.iconst 1, 1) := by decide +kernel
theorem dX12_way_45 : decode cX12_way 45 = .ok (.invokevirtual 172, 3) := by decide +kernel
theorem dX12_way_48 : decode cX12_way 48 = .ok (.ifCond .eq 5, 3) := by decide +kernel
theorem dX12_way_51 : decode cX12_way 51 = .ok (.iconst 0, 1) := by decide +kernel
theorem dX12_way_52 : decode cX12_way 52 = .ok (.ireturn, 1) := by decide +kernel
theorem dX12_way_53 : decode cX12_way 53 = .ok (.iload_n 2, 1) := by decide +kernel
theorem dX12_way_54 : decode cX12_way 54 = .ok (.iconst 2, 1) := by decide +kernel
theorem dX12_way_55 : decode cX12_way 55 = .ok (.if_icmp .ne 17, 3) := by decide +kernel
theorem dX12_way_58 : decode cX12_way 58 = .ok (.aload_n 0, 1) := by decide +kernel
theorem dX12_way_59 : decode cX12_way 59 = .ok (.getfield 55, 3) := by decide +kernel
theorem dX12_way_62 : decode cX12_way 62 = .ok (.bipush 45, 2) := by decide +kernel
theorem dX12_way_64 : decode cX12_way 64 = .ok (.iaload, 1) := by decide +kernel
theorem dX12_way_65 : decode cX12_way 65 = .ok (.iload_n 1, 1) := by decide +kernel
theorem dX12_way_66 : decode cX12_way 66 = .ok (.ishr, 1) := by decide +kernel
theorem dX12_way_67 : decode cX12_way 67 = .ok (.iconst 1, 1) := by decide +kernel
theorem dX12_way_68 : decode cX12_way 68 = .ok (.iand, 1) := by decide +kernel
theorem dX12_way_69 : decode cX12_way 69 = .ok (.goto 9, 3) := by decide +kernel
theorem dX12_way_72 : decode cX12_way 72 = .ok (.aload_n 0, 1) := by decide +kernel
theorem dX12_way_73 : decode cX12_way 73 = .ok (.iload_n 1, 1) := by decide +kernel
theorem dX12_way_74 : decode cX12_way 74 = .ok (.iload_n 2, 1) := by decide +kernel
theorem dX12_way_75 : decode cX12_way 75 = .ok (.invokevirtual 286, 3) := by decide +kernel
theorem dX12_way_78 : decode cX12_way 78 = .ok (.ireturn, 1) := by decide +kernel
theorem dX12_scheme_0 : decode cX12_scheme 0 = .ok (.aload_n 0, 1) := by decide +kernel
theorem dX12_scheme_1 : decode cX12_scheme 1 = .ok (.iconst 0, 1) := by decide +kernel
theorem dX12_scheme_2 : decode cX12_scheme 2 = .ok (.putfield 93, 3) := by decide +kernel
theorem dX12_scheme_5 : decode cX12_scheme 5 = .ok (.aload_n 0, 1) := by decide +kernel
theorem dX12_scheme_6 : decode cX12_scheme 6 = .ok (.aload_n 0, 1) := by decide +kernel
theorem dX12_scheme_7 : decode cX12_scheme 7 = .ok (.iconst 2, 1) := by decide +kernel
theorem dX12_scheme_8 : decode cX12_scheme 8 = .ok (.iload_n 1, 1) := by decide +kernel
theorem dX12_scheme_9 : decode cX12_scheme 9 = .ok (.invokevirtual 336, 3) := by decide +kernel
theorem dX12_scheme_12 : decode cX12_scheme 12 = .ok (.ifCond .ne 7, 3) := by decide +kernel
theorem dX12_scheme_15 : decode cX12_scheme 15 = .ok (.iconst 1, 1) := by decide +kernel
theorem dX12_scheme_16 : decode cX12_scheme 16 = .ok (.goto 4, 3) := by decide +kernel
theorem dX12_scheme_19 : decode cX12_scheme 19 = .ok (.iconst 0, 1) := by decide +kernel
theorem dX12_scheme_20 : decode cX12_scheme 20 = .ok (.iconst 1, 1) := by decide +kernel
theorem dX12_scheme_21 : decode cX12_scheme 21 = .ok (.iconst 0, 1) := by decide +kernel
theorem dX12_scheme_22 : decode cX12_scheme 22 = .ok (.invokevirtual 172, 3) := by decide +kernel
theorem dX12_scheme_25 : decode cX12_scheme 25 = .ok (.ifCond .ne 26, 3) := by decide +kernel
theorem dX12_scheme_28 : decode cX12_scheme 28 = .ok (.aload_n 0, 1) := by decide +kernel
theorem dX12_scheme_29 : decode cX12_scheme 29 = .ok (.iload_n 2, 1) := by decide +kernel
theorem dX12_scheme_30 : decode cX12_scheme 30 = .ok (.iconst 0, 1) := by decide +kernel
theorem dX12_scheme_31 : decode cX12_scheme 31 = .ok (.iconst 5, 1) := by decide +kernel
theorem dX12_scheme_32 : decode cX12_scheme 32 = .ok (.invokestatic 127, 3) := by decide +kernel
theorem dX12_scheme_35 : decode cX12_scheme 35 = .ok (.ifCond .ne 7, 3) := by decide +kernel
theorem dX12_scheme_38 : decode cX12_scheme 38 = .ok (.iconst 1, 1) := by decide +kernel
theorem dX12_scheme_39 : decode cX12_scheme 39 = .ok (.goto 4, 3) := by decide +kernel
theorem dX12_scheme_42 : decode cX12_scheme 42 = .ok (.iconst 0, 1) := by decide +kernel
theorem dX12_scheme_43 : decode cX12_scheme 43 = .ok (.iconst 2, 1) := by decide +kernel
theorem dX12_scheme_44 : decode cX12_scheme 44 = .ok (.iconst 1, 1) := by decide +kernel
theorem dX12_scheme_45 : decode cX12_scheme 45 = .ok (.invokevirtual 172, 3) := by decide +kernel
theorem dX12_scheme_48 : decode cX12_scheme 48 = .ok (.ifCond .eq 5, 3) := by decide +kernel
theorem dX12_scheme_51 : decode cX12_scheme 51 = .ok (.iconst 0, 1) := by decide +kernel
theorem dX12_scheme_52 : decode cX12_scheme 52 = .ok (.ireturn, 1) := by decide +kernel
theorem dX12_scheme_53 : decode cX12_scheme 53 = .ok (.iload_n 2, 1) := by decide +kernel
theorem dX12_scheme_54 : decode cX12_scheme 54 = .ok (.tableswitch 81 0 4 #[34, 43, 53, 59, 71], 34) := by decide +kernel
theorem dX12_scheme_88 : decode cX12_scheme 88 = .ok (.aload_n 0, 1) := by decide +kernel
theorem dX12_scheme_89 : decode cX12_scheme 89 = .ok (.getfield 55, 3) := by decide +kernel
theorem dX12_scheme_92 : decode cX12_scheme 92 = .ok (.iconst 0, 1) := by decide +kernel
theorem dX12_scheme_93 : decode cX12_scheme 93 = .ok (.iload_n 1, 1) := by decide +kernel
theorem dX12_scheme_94 : decode cX12_scheme 94 = .ok (.iadd, 1) := by decide +kernel
theorem dX12_scheme_95 : decode cX12_scheme 95 = .ok (.iaload, 1) := by decide +kernel
theorem dX12_scheme_96 : decode cX12_scheme 96 = .ok (.ireturn, 1) := by decide +kernel
theorem dX12_scheme_97 : decode cX12_scheme 97 = .ok (.aload_n 0, 1) := by decide +kernel
theorem dX12_scheme_98 : decode cX12_scheme 98 = .ok (.getfield 55, 3) := by decide +kernel
theorem dX12_scheme_101 : decode cX12_scheme 101 = .ok (.bipush 8, 2) := by decide +kernel
theorem dX12_scheme_103 : decode cX12_scheme 103 = .ok (.iload_n 1, 1) := by decide +kernel
theorem dX12_scheme_104 : decode cX12_scheme 104 = .ok (.iadd, 1) := by decide +kernel
theorem dX12_scheme_105 : decode cX12_scheme 105 = .ok (.iaload, 1) := by decide +kernel
theorem dX12_scheme_106 : decode cX12_scheme 106 = .ok (.ireturn, 1) := by decide +kernel
theorem dX12_scheme_107 : decode cX12_scheme 107 = .ok (.aload_n 0, 1) := by decide +kernel
theorem dX12_scheme_108 : decode cX12_scheme 108 = .ok (.iload_n 1, 1) := by decide +kernel
theorem dX12_scheme_109 : decode cX12_scheme 109 = .ok (.invokevirtual 258, 3) := by decide +kernel
theorem dX12_scheme_112 : decode cX12_scheme 112 = .ok (.ireturn, 1) := by decide +kernel
theorem dX12_scheme_113 : decode cX12_scheme 113 = .ok (.aload_n 0, 1) := by decide +kernel
theorem dX12_scheme_114 : decode cX12_scheme 114 = .ok (.getfield 55, 3) := by decide +kernel
theorem dX12_scheme_117 : decode cX12_scheme 117 = .ok (.bipush 42, 2) := by decide +kernel
theorem dX12_scheme_119 : decode cX12_scheme 119 = .ok (.iaload, 1) := by decide +kernel
theorem dX12_scheme_120 : decode cX12_scheme 120 = .ok (.iload_n 1, 1) := by decide +kernel
theorem dX12_scheme_121 : decode cX12_scheme 121 = .ok (.ishr, 1) := by decide +kernel
theorem dX12_scheme_122 : decode cX12_scheme 122 = .ok (.iconst 1, 1) := by decide +kernel
theorem dX12_scheme_123 : decode cX12_scheme 123 = .ok (.iand, 1) := by decide +kernel
theorem dX12_scheme_124 : decode cX12_scheme 124 = .ok (.ireturn, 1) := by decide +kernel
theorem dX12_scheme_125 : decode cX12_scheme 125 = .ok (.aload_n 0, 1) := by decide +kernel
theorem dX12_scheme_126 : decode cX12_scheme 126 = .ok (.getfield 55, 3) := by decide +kernel
theorem dX12_scheme_129 : decode cX12_scheme 129 = .ok (.bipush 16, 2) := by decide +kernel
theorem dX12_scheme_131 : decode cX12_scheme 131 = .ok (.iload_n 1, 1) := by decide +kernel
theorem dX12_scheme_132 : decode cX12_scheme 132 = .ok (.iadd, 1) := by decide +kernel
theorem dX12_scheme_133 : decode cX12_scheme 133 = .ok (.iaload, 1) := by decide +kernel
theorem dX12_scheme_134 : decode cX12_scheme 134 = .ok (.ireturn, 1) := by decide +kernel
theorem dX12_scheme_135 : decode cX12_scheme 135 = .ok (.aload_n 0, 1) := by decide +kernel
theorem dX12_scheme_136 : decode cX12_scheme 136 = .ok (.getfield 55, 3) := by decide +kernel
theorem dX12_scheme_139 : decode cX12_scheme 139 = .ok (.bipush 24, 2) := by decide +kernel
theorem dX12_scheme_141 : decode cX12_scheme 141 = .ok (.iload_n 1, 1) := by decide +kernel
theorem dX12_scheme_142 : decode cX12_scheme 142 = .ok (.iadd, 1) := by decide +kernel
theorem dX12_scheme_143 : decode cX12_scheme 143 = .ok (.iaload, 1) := by decide +kernel
theorem dX12_scheme_144 : decode cX12_scheme 144 = .ok (.ireturn, 1) := by decide +kernel
theorem dX12_cat_0 : decode cX12_cat 0 = .ok (.aload_n 0, 1) := by decide +kernel
theorem dX12_cat_1 : decode cX12_cat 1 = .ok (.iconst 0, 1) := by decide +kernel
theorem dX12_cat_2 : decode cX12_cat 2 = .ok (.putfield 93, 3) := by decide +kernel
theorem dX12_cat_5 : decode cX12_cat 5 = .ok (.aload_n 0, 1) := by decide +kernel
theorem dX12_cat_6 : decode cX12_cat 6 = .ok (.aload_n 0, 1) := by decide +kernel
theorem dX12_cat_7 : decode cX12_cat 7 = .ok (.iconst 3, 1) := by decide +kernel
theorem dX12_cat_8 : decode cX12_cat 8 = .ok (.iload_n 1, 1) := by decide +kernel
theorem dX12_cat_9 : decode cX12_cat 9 = .ok (.invokevirtual 336, 3) := by decide +kernel
theorem dX12_cat_12 : decode cX12_cat 12 = .ok (.ifCond .ne 7, 3) := by decide +kernel
theorem dX12_cat_15 : decode cX12_cat 15 = .ok (.iconst 1, 1) := by decide +kernel
theorem dX12_cat_16 : decode cX12_cat 16 = .ok (.goto 4, 3) := by decide +kernel
theorem dX12_cat_19 : decode cX12_cat 19 = .ok (.iconst 0, 1) := by decide +kernel
theorem dX12_cat_20 : decode cX12_cat 20 = .ok (.iconst 1, 1) := by decide +kernel
theorem dX12_cat_21 : decode cX12_cat 21 = .ok (.iconst 0, 1) := by decide +kernel
theorem dX12_cat_22 : decode cX12_cat 22 = .ok (.invokevirtual 172, 3) := by decide +kernel
theorem dX12_cat_25 : decode cX12_cat 25 = .ok (.ifCond .ne 26, 3) := by decide +kernel
theorem dX12_cat_28 : decode cX12_cat 28 = .ok (.aload_n 0, 1) := by decide +kernel
theorem dX12_cat_29 : decode cX12_cat 29 = .ok (.iload_n 2, 1) := by decide +kernel
theorem dX12_cat_30 : decode cX12_cat 30 = .ok (.iconst 0, 1) := by decide +kernel
theorem dX12_cat_31 : decode cX12_cat 31 = .ok (.iconst 3, 1) := by decide +kernel
theorem dX12_cat_32 : decode cX12_cat 32 = .ok (.invokestatic 127, 3) := by decide +kernel
theorem dX12_cat_35 : decode cX12_cat 35 = .ok (.ifCond .ne 7, 3) := by decide +kernel
theorem dX12_cat_38 : decode cX12_cat 38 = .ok (.iconst 1, 1) := by decide +kernel
theorem dX12_cat_39 : decode cX12_cat 39 = .ok (.goto 4, 3) := by decide +kernel
theorem dX12_cat_42 : decode cX12_cat 42 = .ok (.iconst 0, 1) := by decide +kernel
theorem dX12_cat_43 : decode cX12_cat 43 = .ok (.iconst 2, 1) := by decide +kernel
theorem dX12_cat_44 : decode cX12_cat 44 = .ok (.iconst 1, 1) := by decide +kernel
theorem dX12_cat_45 : decode cX12_cat 45 = .ok (.invokevirtual 172, 3) := by decide +kernel
theorem dX12_cat_48 : decode cX12_cat 48 = .ok (.ifCond .eq 5, 3) := by decide +kernel
theorem dX12_cat_51 : decode cX12_cat 51 = .ok (.iconst 0, 1) := by decide +kernel
theorem dX12_cat_52 : decode cX12_cat 52 = .ok (.ireturn, 1) := by decide +kernel
theorem dX12_cat_53 : decode cX12_cat 53 = .ok (.iload_n 2, 1) := by decide +kernel
theorem dX12_cat_54 : decode cX12_cat 54 = .ok (.ifCond .ne 15, 3) := by decide +kernel
theorem dX12_cat_57 : decode cX12_cat 57 = .ok (.aload_n 0, 1) := by decide +kernel
theorem dX12_cat_58 : decode cX12_cat 58 = .ok (.getfield 55, 3) := by decide +kernel
theorem dX12_cat_61 : decode cX12_cat 61 = .ok (.bipush 32, 2) := by decide +kernel
theorem dX12_cat_63 : decode cX12_cat 63 = .ok (.iload_n 1, 1) := by decide +kernel
theorem dX12_cat_64 : decode cX12_cat 64 = .ok (.iadd, 1) := by decide +kernel
theorem dX12_cat_65 : decode cX12_cat 65 = .ok (.iaload, 1) := by decide +kernel
theorem dX12_cat_66 : decode cX12_cat 66 = .ok (.goto 42, 3) := by decide +kernel
theorem dX12_cat_69 : decode cX12_cat 69 = .ok (.iload_n 2, 1) := by decide +kernel
theorem dX12_cat_70 : decode cX12_cat 70 = .ok (.iconst 1, 1) := by decide +kernel
theorem dX12_cat_71 : decode cX12_cat 71 = .ok (.if_icmp .ne 11, 3) := by decide +kernel
theorem dX12_cat_74 : decode cX12_cat 74 = .ok (.aload_n 0, 1) := by decide +kernel
theorem dX12_cat_75 : decode cX12_cat 75 = .ok (.iload_n 1, 1) := by decide +kernel
theorem dX12_cat_76 : decode cX12_cat 76 = .ok (.invokevirtual 279, 3) := by decide +kernel
theorem dX12_cat_79 : decode cX12_cat 79 = .ok (.goto 29, 3) := by decide +kernel
theorem dX12_cat_82 : decode cX12_cat 82 = .ok (.iload_n 2, 1) := by decide +kernel
theorem dX12_cat_83 : decode cX12_cat 83 = .ok (.iconst 2, 1) := by decide +kernel
theorem dX12_cat_84 : decode cX12_cat 84 = .ok (.if_icmp .ne 15, 3) := by decide +kernel
theorem dX12_cat_87 : decode cX12_cat 87 = .ok (.aload_n 0, 1) := by decide +kernel
theorem dX12_cat_88 : decode cX12_cat 88 = .ok (.getfield 55, 3) := by decide +kernel
theorem dX12_cat_91 : decode cX12_cat 91 = .ok (.bipush 37, 2) := by decide +kernel
theorem dX12_cat_93 : decode cX12_cat 93 = .ok (.iload_n 1, 1) := by decide +kernel
theorem dX12_cat_94 : decode cX12_cat 94 = .ok (.iadd, 1) := by decide +kernel
theorem dX12_cat_95 : decode cX12_cat 95 = .ok (.iaload, 1) := by decide +kernel
theorem dX12_cat_96 : decode cX12_cat 96 = .ok (.goto 12, 3) := by decide +kernel
theorem dX12_cat_99 : decode cX12_cat 99 = .ok (.aload_n 0, 1) := by decide +kernel
theorem dX12_cat_100 : decode cX12_cat 100 = .ok (.aload_n 0, 1) := by decide +kernel
theorem dX12_cat_101 : decode cX12_cat 101 = .ok (.getfield 55, 3) := by decide +kernel
theorem dX12_cat_104 : decode cX12_cat 104 = .ok (.iload_n 1, 1) := by decide +kernel
theorem dX12_cat_105 : decode cX12_cat 105 = .ok (.invokevirtual 289, 3) := by decide +kernel
theorem dX12_cat_108 : decode cX12_cat 108 = .ok (.ireturn, 1) := by decide +kernel
theorem dX12_more_0 : decode cX12_more 0 = .ok (.aload_n 0, 1) := by decide +kernel
theorem dX12_more_1 : decode cX12_more 1 = .ok (.iconst 0, 1) := by decide +kernel
theorem dX12_more_2 : decode cX12_more 2 = .ok (.putfield 93, 3) := by decide +kernel
theorem dX12_more_5 : decode cX12_more 5 = .ok (.aload_n 0, 1) := by decide +kernel
theorem dX12_more_6 : decode cX12_more 6 = .ok (.aload_n 0, 1) := by decide +kernel
theorem dX12_more_7 : decode cX12_more 7 = .ok (.iconst 2, 1) := by decide +kernel
theorem dX12_more_8 : decode cX12_more 8 = .ok (.iload_n 1, 1) := by decide +kernel
theorem dX12_more_9 : decode cX12_more 9 = .ok (.invokevirtual 336, 3) := by decide +kernel
theorem dX12_more_12 : decode cX12_more 12 = .ok (.ifCond .ne 7, 3) := by decide +kernel
theorem dX12_more_15 : decode cX12_more 15 = .ok (.iconst 1, 1) := by decide +kernel
theorem dX12_more_16 : decode cX12_more 16 = .ok (.goto 4, 3) := by decide +kernel
theorem dX12_more_19 : decode cX12_more 19 = .ok (.iconst 0, 1) := by decide +kernel
theorem dX12_more_20 : decode cX12_more 20 = .ok (.iconst 1, 1) := by decide +kernel
theorem dX12_more_21 : decode cX12_more 21 = .ok (.iconst 0, 1) := by decide +kernel
theorem dX12_more_22 : decode cX12_more 22 = .ok (.invokevirtual 172, 3) := by decide +kernel
theorem dX12_more_25 : decode cX12_more 25 = .ok (.ifCond .eq 5, 3) := by decide +kernel
theorem dX12_more_28 : decode cX12_more 28 = .ok (.iconst 0, 1) := by decide +kernel
theorem dX12_more_29 : decode cX12_more 29 = .ok (.ireturn, 1) := by decide +kernel
theorem dX12_more_30 : decode cX12_more 30 = .ok (.aload_n 0, 1) := by decide +kernel
theorem dX12_more_31 : decode cX12_more 31 = .ok (.aload_n 0, 1) := by decide +kernel
theorem dX12_more_32 : decode cX12_more 32 = .ok (.getfield 55, 3) := by decide +kernel
theorem dX12_more_35 : decode cX12_more 35 = .ok (.iload_n 1, 1) := by decide +kernel
theorem dX12_more_36 : decode cX12_more 36 = .ok (.invokevirtual 292, 3) := by decide +kernel
theorem dX12_more_39 : decode cX12_more 39 = .ok (.ireturn, 1) := by decide +kernel
theorem dX12_would_0 : decode cX12_would 0 = .ok (.aload_n 0, 1) := by decide +kernel
theorem dX12_would_1 : decode cX12_would 1 = .ok (.iconst 0, 1) := by decide +kernel
theorem dX12_would_2 : decode cX12_would 2 = .ok (.putfield 93, 3) := by decide +kernel
theorem dX12_would_5 : decode cX12_would 5 = .ok (.aload_n 0, 1) := by decide +kernel
theorem dX12_would_6 : decode cX12_would 6 = .ok (.iload_n 1, 1) := by decide +kernel
theorem dX12_would_7 : decode cX12_would 7 = .ok (.iconst 0, 1) := by decide +kernel
theorem dX12_would_8 : decode cX12_would 8 = .ok (.sipush 999, 3) := by decide +kernel
theorem dX12_would_11 : decode cX12_would 11 = .ok (.invokestatic 127, 3) := by decide +kernel
theorem dX12_would_14 : decode cX12_would 14 = .ok (.ifCond .eq 67, 3) := by decide +kernel
theorem dX12_would_17 : decode cX12_would 17 = .ok (.iload_n 2, 1) := by decide +kernel
theorem dX12_would_18 : decode cX12_would 18 = .ok (.iconst 0, 1) := by decide +kernel
theorem dX12_would_19 : decode cX12_would 19 = .ok (.bipush 9, 2) := by decide +kernel
theorem dX12_would_21 : decode cX12_would 21 = .ok (.invokestatic 127, 3) := by decide +kernel
theorem dX12_would_24 : decode cX12_would 24 = .ok (.ifCond .eq 57, 3) := by decide +kernel
theorem dX12_would_27 : decode cX12_would 27 = .ok (.iload_n 3, 1) := by decide +kernel
theorem dX12_would_28 : decode cX12_would 28 = .ok (.iconst 0, 1) := by decide +kernel
theorem dX12_would_29 : decode cX12_would 29 = .ok (.bipush 60, 2) := by decide +kernel
theorem dX12_would_31 : decode cX12_would 31 = .ok (.invokestatic 127, 3) := by decide +kernel
theorem dX12_would_34 : decode cX12_would 34 = .ok (.ifCond .eq 47, 3) := by decide +kernel
theorem dX12_would_37 : decode cX12_would 37 = .ok (.iload 4, 2) := by decide +kernel
theorem dX12_would_39 : decode cX12_would 39 = .ok (.iconst 0, 1) := by decide +kernel
theorem dX12_would_40 : decode cX12_would 40 = .ok (.iconst 5, 1) := by decide +kernel
theorem dX12_would_41 : decode cX12_would 41 = .ok (.invokestatic 127, 3) := by decide +kernel
theorem dX12_would_44 : decode cX12_would 44 = .ok (.ifCond .eq 37, 3) := by decide +kernel
theorem dX12_would_47 : decode cX12_would 47 = .ok (.iload 5, 2) := by decide +kernel
theorem dX12_would_49 : decode cX12_would 49 = .ok (.iconst 0, 1) := by decide +kernel
theorem dX12_would_50 : decode cX12_would 50 = .ok (.sipush 900, 3) := by decide +kernel
theorem dX12_would_53 : decode cX12_would 53 = .ok (.invokestatic 127, 3) := by decide +kernel
theorem dX12_would_56 : decode cX12_would 56 = .ok (.ifCond .eq 25, 3) := by decide +kernel
theorem dX12_would_59 : decode cX12_would 59 = .ok (.iload 6, 2) := by decide +kernel
theorem dX12_would_61 : decode cX12_would 61 = .ok (.iconst 0, 1) := by decide +kernel
theorem dX12_would_62 : decode cX12_would 62 = .ok (.bipush 8, 2) := by decide +kernel
theorem dX12_would_64 : decode cX12_would 64 = .ok (.invokestatic 127, 3) := by decide +kernel
theorem dX12_would_67 : decode cX12_would 67 = .ok (.ifCond .eq 14, 3) := by decide +kernel
theorem dX12_would_70 : decode cX12_would 70 = .ok (.iload 7, 2) := by decide +kernel
theorem dX12_would_72 : decode cX12_would 72 = .ok (.iconst 0, 1) := by decide +kernel
theorem dX12_would_73 : decode cX12_would 73 = .ok (.bipush 7, 2) := by decide +kernel
theorem dX12_would_75 : decode cX12_would 75 = .ok (.invokestatic 127, 3) := by decide +kernel
theorem dX12_would_78 : decode cX12_would 78 = .ok (.ifCond .ne 7, 3) := by decide +kernel
theorem dX12_would_81 : decode cX12_would 81 = .ok (.iconst 1, 1) := by decide +kernel
theorem dX12_would_82 : decode cX12_would 82 = .ok (.goto 4, 3) := by decide +kernel
theorem dX12_would_85 : decode cX12_would 85 = .ok (.iconst 0, 1) := by decide +kernel
theorem dX12_would_86 : decode cX12_would 86 = .ok (.iconst 1, 1) := by decide +kernel
theorem dX12_would_87 : decode cX12_would 87 = .ok (.iconst 1, 1) := by decide +kernel
theorem dX12_would_88 : decode cX12_would 88 = .ok (.invokevirtual 172, 3) := by decide +kernel
theorem dX12_would_91 : decode cX12_would 91 = .ok (.ifCond .eq 5, 3) := by decide +kernel
theorem dX12_would_94 : decode cX12_would 94 = .ok (.iconst 0, 1) := by decide +kernel
theorem dX12_would_95 : decode cX12_would 95 = .ok (.ireturn, 1) := by decide +kernel
theorem dX12_would_96 : decode cX12_would 96 = .ok (.aload_n 0, 1) := by decide +kernel
theorem dX12_would_97 : decode cX12_would 97 = .ok (.iload_n 1, 1) := by decide +kernel
theorem dX12_would_98 : decode cX12_would 98 = .ok (.iload_n 2, 1) := by decide +kernel
theorem dX12_would_99 : decode cX12_would 99 = .ok (.iload_n 3, 1) := by decide +kernel
theorem dX12_would_100 : decode cX12_would 100 = .ok (.iload 4, 2) := by decide +kernel
theorem dX12_would_102 : decode cX12_would 102 = .ok (.iload 5, 2) := by decide +kernel
theorem dX12_would_104 : decode cX12_would 104 = .ok (.iload 6, 2) := by decide +kernel
theorem dX12_would_106 : decode cX12_would 106 = .ok (.iload 7, 2) := by decide +kernel
theorem dX12_would_108 : decode cX12_would 108 = .ok (.invokevirtual 271, 3) := by decide +kernel
theorem dX12_would_111 : decode cX12_would 111 = .ok (.ireturn, 1) := by decide +kernel
theorem dX12_ahead_0 : decode cX12_ahead 0 = .ok (.aload_n 0, 1) := by decide +kernel
theorem dX12_ahead_1 : decode cX12_ahead 1 = .ok (.iconst 0, 1) := by decide +kernel
theorem dX12_ahead_2 : decode cX12_ahead 2 = .ok (.putfield 93, 3) := by decide +kernel
theorem dX12_ahead_5 : decode cX12_ahead 5 = .ok (.aload_n 0, 1) := by decide +kernel
theorem dX12_ahead_6 : decode cX12_ahead 6 = .ok (.iload_n 1, 1) := by decide +kernel
theorem dX12_ahead_7 : decode cX12_ahead 7 = .ok (.iconst 0, 1) := by decide +kernel
theorem dX12_ahead_8 : decode cX12_ahead 8 = .ok (.bipush 99, 2) := by decide +kernel
theorem dX12_ahead_10 : decode cX12_ahead 10 = .ok (.invokestatic 127, 3) := by decide +kernel
theorem dX12_ahead_13 : decode cX12_ahead 13 = .ok (.ifCond .eq 12, 3) := by decide +kernel
theorem dX12_ahead_16 : decode cX12_ahead 16 = .ok (.iload_n 2, 1) := by decide +kernel
theorem dX12_ahead_17 : decode cX12_ahead 17 = .ok (.iconst 0, 1) := by decide +kernel
theorem dX12_ahead_18 : decode cX12_ahead 18 = .ok (.iconst 2, 1) := by decide +kernel
theorem dX12_ahead_19 : decode cX12_ahead 19 = .ok (.invokestatic 127, 3) := by decide +kernel
theorem dX12_ahead_22 : decode cX12_ahead 22 = .ok (.ifCond .ne 7, 3) := by decide +kernel
theorem dX12_ahead_25 : decode cX12_ahead 25 = .ok (.iconst 1, 1) := by decide +kernel
theorem dX12_ahead_26 : decode cX12_ahead 26 = .ok (.goto 4, 3) := by decide +kernel
theorem dX12_ahead_29 : decode cX12_ahead 29 = .ok (.iconst 0, 1) := by decide +kernel
theorem dX12_ahead_30 : decode cX12_ahead 30 = .ok (.iconst 1, 1) := by decide +kernel
theorem dX12_ahead_31 : decode cX12_ahead 31 = .ok (.iconst 1, 1) := by decide +kernel
theorem dX12_ahead_32 : decode cX12_ahead 32 = .ok (.invokevirtual 172, 3) := by decide +kernel
theorem dX12_ahead_35 : decode cX12_ahead 35 = .ok (.ifCond .eq 5, 3) := by decide +kernel
theorem dX12_ahead_38 : decode cX12_ahead 38 = .ok (.iconst 0, 1) := by decide +kernel
theorem dX12_ahead_39 : decode cX12_ahead 39 = .ok (.ireturn, 1) := by decide +kernel
theorem dX12_ahead_40 : decode cX12_ahead 40 = .ok (.aload_n 0, 1) := by decide +kernel
theorem dX12_ahead_41 : decode cX12_ahead 41 = .ok (.getfield 55, 3) := by decide +kernel
theorem dX12_ahead_44 : decode cX12_ahead 44 = .ok (.aload_n 0, 1) := by decide +kernel
theorem dX12_ahead_45 : decode cX12_ahead 45 = .ok (.getfield 58, 3) := by decide +kernel
theorem dX12_ahead_48 : decode cX12_ahead 48 = .ok (.invokestatic 328, 3) := by decide +kernel
theorem dX12_ahead_51 : decode cX12_ahead 51 = .ok (.iconst 0, 1) := by decide +kernel
theorem dX12_ahead_52 : decode cX12_ahead 52 = .ok (.istore_n 3, 1) := by decide +kernel
theorem dX12_ahead_53 : decode cX12_ahead 53 = .ok (.iload_n 3, 1) := by decide +kernel
theorem dX12_ahead_54 : decode cX12_ahead 54 = .ok (.iload_n 1, 1) := by decide +kernel
theorem dX12_ahead_55 : decode cX12_ahead 55 = .ok (.if_icmp .ge 17, 3) := by decide +kernel
theorem dX12_ahead_58 : decode cX12_ahead 58 = .ok (.aload_n 0, 1) := by decide +kernel
theorem dX12_ahead_59 : decode cX12_ahead 59 = .ok (.aload_n 0, 1) := by decide +kernel
theorem dX12_ahead_60 : decode cX12_ahead 60 = .ok (.getfield 58, 3) := by decide +kernel
theorem dX12_ahead_63 : decode cX12_ahead 63 = .ok (.invokevirtual 311, 3) := by decide +kernel
theorem dX12_ahead_66 : decode cX12_ahead 66 = .ok (.iinc 3 1, 3) := by decide +kernel
theorem dX12_ahead_69 : decode cX12_ahead 69 = .ok (.goto (-16), 3) := by decide +kernel
theorem dX12_ahead_72 : decode cX12_ahead 72 = .ok (.iload_n 2, 1) := by decide +kernel
theorem dX12_ahead_73 : decode cX12_ahead 73 = .ok (.ifCond .ne 13, 3) := by decide +kernel
theorem dX12_ahead_76 : decode cX12_ahead 76 = .ok (.aload_n 0, 1) := by decide +kernel
theorem dX12_ahead_77 : decode cX12_ahead 77 = .ok (.getfield 58, 3) := by decide +kernel
theorem dX12_ahead_80 : decode cX12_ahead 80 = .ok (.bipush 42, 2) := by decide +kernel
theorem dX12_ahead_82 : decode cX12_ahead 82 = .ok (.iaload, 1) := by decide +kernel
theorem dX12_ahead_83 : decode cX12_ahead 83 = .ok (.goto 29, 3) := by decide +kernel
theorem dX12_ahead_86 : decode cX12_ahead 86 = .ok (.iload_n 2, 1) := by decide +kernel
theorem dX12_ahead_87 : decode cX12_ahead 87 = .ok (.iconst 1, 1) := by decide +kernel
theorem dX12_ahead_88 : decode cX12_ahead 88 = .ok (.if_icmp .ne 14, 3) := by decide +kernel
theorem dX12_ahead_91 : decode cX12_ahead 91 = .ok (.aload_n 0, 1) := by decide +kernel
theorem dX12_ahead_92 : decode cX12_ahead 92 = .ok (.aload_n 0, 1) := by decide +kernel
theorem dX12_ahead_93 : decode cX12_ahead 93 = .ok (.getfield 58, 3) := by decide +kernel
theorem dX12_ahead_96 : decode cX12_ahead 96 = .ok (.invokevirtual 332, 3) := by decide +kernel
theorem dX12_ahead_99 : decode cX12_ahead 99 = .ok (.goto 13, 3) := by decide +kernel
theorem dX12_ahead_102 : decode cX12_ahead 102 = .ok (.aload_n 0, 1) := by decide +kernel
theorem dX12_ahead_103 : decode cX12_ahead 103 = .ok (.getfield 58, 3) := by decide +kernel
theorem dX12_ahead_106 : decode cX12_ahead 106 = .ok (.bipush 43, 2) := by decide +kernel
theorem dX12_ahead_108 : decode cX12_ahead 108 = .ok (.iaload, 1) := by decide +kernel
theorem dX12_ahead_109 : decode cX12_ahead 109 = .ok (.invokestatic 268, 3) := by decide +kernel
theorem dX12_ahead_112 : decode cX12_ahead 112 = .ok (.ireturn, 1) := by decide +kernel
theorem dX12_farOf_0 : decode cX12_farOf 0 = .ok (.iconst 1, 1) := by decide +kernel
theorem dX12_farOf_1 : decode cX12_farOf 1 = .ok (.iload_n 1, 1) := by decide +kernel
theorem dX12_farOf_2 : decode cX12_farOf 2 = .ok (.ishl, 1) := by decide +kernel
theorem dX12_farOf_3 : decode cX12_farOf 3 = .ok (.istore_n 3, 1) := by decide +kernel
theorem dX12_farOf_4 : decode cX12_farOf 4 = .ok (.iconst 0, 1) := by decide +kernel
theorem dX12_farOf_5 : decode cX12_farOf 5 = .ok (.istore 4, 2) := by decide +kernel
theorem dX12_farOf_7 : decode cX12_farOf 7 = .ok (.iconst 0, 1) := by decide +kernel
theorem dX12_farOf_8 : decode cX12_farOf 8 = .ok (.istore 5, 2) := by decide +kernel
theorem dX12_farOf_10 : decode cX12_farOf 10 = .ok (.iload_n 3, 1) := by decide +kernel
theorem dX12_farOf_11 : decode cX12_farOf 11 = .ok (.iload_n 2, 1) := by decide +kernel
theorem dX12_farOf_12 : decode cX12_farOf 12 = .ok (.invokestatic 251, 3) := by decide +kernel
theorem dX12_farOf_15 : decode cX12_farOf 15 = .ok (.ifCond .ne 67, 3) := by decide +kernel
theorem dX12_farOf_18 : decode cX12_farOf 18 = .ok (.iload_n 3, 1) := by decide +kernel
theorem dX12_farOf_19 : decode cX12_farOf 19 = .ok (.iload 4, 2) := by decide +kernel
theorem dX12_farOf_21 : decode cX12_farOf 21 = .ok (.if_icmp .ne 5, 3) := by decide +kernel
theorem dX12_farOf_24 : decode cX12_farOf 24 = .ok (.iconst (-1), 1) := by decide +kernel
theorem dX12_farOf_25 : decode cX12_farOf 25 = .ok (.ireturn, 1) := by decide +kernel
theorem dX12_farOf_26 : decode cX12_farOf 26 = .ok (.iload_n 3, 1) := by decide +kernel
theorem dX12_farOf_27 : decode cX12_farOf 27 = .ok (.istore 4, 2) := by decide +kernel
theorem dX12_farOf_29 : decode cX12_farOf 29 = .ok (.iconst 0, 1) := by decide +kernel
theorem dX12_farOf_30 : decode cX12_farOf 30 = .ok (.istore 6, 2) := by decide +kernel
theorem dX12_farOf_32 : decode cX12_farOf 32 = .ok (.iload 6, 2) := by decide +kernel
theorem dX12_farOf_34 : decode cX12_farOf 34 = .ok (.aload_n 0, 1) := by decide +kernel
theorem dX12_farOf_35 : decode cX12_farOf 35 = .ok (.getfield 23, 3) := by decide +kernel
theorem dX12_farOf_38 : decode cX12_farOf 38 = .ok (.iconst 0, 1) := by decide +kernel
theorem dX12_farOf_39 : decode cX12_farOf 39 = .ok (.iaload, 1) := by decide +kernel
theorem dX12_farOf_40 : decode cX12_farOf 40 = .ok (.if_icmp .ge 36, 3) := by decide +kernel
theorem dX12_farOf_43 : decode cX12_farOf 43 = .ok (.iload_n 3, 1) := by decide +kernel
theorem dX12_farOf_44 : decode cX12_farOf 44 = .ok (.iload 4, 2) := by decide +kernel
theorem dX12_farOf_46 : decode cX12_farOf 46 = .ok (.iload 6, 2) := by decide +kernel
theorem dX12_farOf_48 : decode cX12_farOf 48 = .ok (.invokestatic 251, 3) := by decide +kernel
theorem dX12_farOf_51 : decode cX12_farOf 51 = .ok (.ifCond .eq 16, 3) := by decide +kernel
theorem dX12_farOf_54 : decode cX12_farOf 54 = .ok (.aload_n 0, 1) := by decide +kernel
theorem dX12_farOf_55 : decode cX12_farOf 55 = .ok (.aload_n 0, 1) := by decide +kernel
theorem dX12_farOf_56 : decode cX12_farOf 56 = .ok (.getfield 55, 3) := by decide +kernel
theorem dX12_farOf_59 : decode cX12_farOf 59 = .ok (.iload 6, 2) := by decide +kernel
theorem dX12_farOf_61 : decode cX12_farOf 61 = .ok (.invokevirtual 299, 3) := by decide +kernel
theorem dX12_farOf_64 : decode cX12_farOf 64 = .ok (.goto 4, 3) := by decide +kernel
theorem dX12_farOf_67 : decode cX12_farOf 67 = .ok (.iconst 0, 1) := by decide +kernel
theorem dX12_farOf_68 : decode cX12_farOf 68 = .ok (.ior, 1) := by decide +kernel
theorem dX12_farOf_69 : decode cX12_farOf 69 = .ok (.istore_n 3, 1) := by decide +kernel
theorem dX12_farOf_70 : decode cX12_farOf 70 = .ok (.iinc 6 1, 3) := by decide +kernel
theorem dX12_farOf_73 : decode cX12_farOf 73 = .ok (.goto (-41), 3) := by decide +kernel
theorem dX12_farOf_76 : decode cX12_farOf 76 = .ok (.iinc 5 1, 3) := by decide +kernel
theorem dX12_farOf_79 : decode cX12_farOf 79 = .ok (.goto (-69), 3) := by decide +kernel
theorem dX12_farOf_82 : decode cX12_farOf 82 = .ok (.iload 5, 2) := by decide +kernel
theorem dX12_farOf_84 : decode cX12_farOf 84 = .ok (.ireturn, 1) := by decide +kernel
theorem dX12_far_0 : decode cX12_far 0 = .ok (.aload_n 0, 1) := by decide +kernel
theorem dX12_far_1 : decode cX12_far 1 = .ok (.iconst 0, 1) := by decide +kernel
theorem dX12_far_2 : decode cX12_far 2 = .ok (.putfield 93, 3) := by decide +kernel
theorem dX12_far_5 : decode cX12_far 5 = .ok (.aload_n 0, 1) := by decide +kernel
theorem dX12_far_6 : decode cX12_far 6 = .ok (.aload_n 0, 1) := by decide +kernel
theorem dX12_far_7 : decode cX12_far 7 = .ok (.iconst 0, 1) := by decide +kernel
theorem dX12_far_8 : decode cX12_far 8 = .ok (.iload_n 1, 1) := by decide +kernel
theorem dX12_far_9 : decode cX12_far 9 = .ok (.invokevirtual 336, 3) := by decide +kernel
theorem dX12_far_12 : decode cX12_far 12 = .ok (.ifCond .eq 12, 3) := by decide +kernel
theorem dX12_far_15 : decode cX12_far 15 = .ok (.aload_n 0, 1) := by decide +kernel
theorem dX12_far_16 : decode cX12_far 16 = .ok (.iconst 0, 1) := by decide +kernel
theorem dX12_far_17 : decode cX12_far 17 = .ok (.iload_n 2, 1) := by decide +kernel
theorem dX12_far_18 : decode cX12_far 18 = .ok (.invokevirtual 336, 3) := by decide +kernel
theorem dX12_far_21 : decode cX12_far 21 = .ok (.ifCond .ne 7, 3) := by decide +kernel
theorem dX12_far_24 : decode cX12_far 24 = .ok (.iconst 1, 1) := by decide +kernel
theorem dX12_far_25 : decode cX12_far 25 = .ok (.goto 4, 3) := by decide +kernel
theorem dX12_far_28 : decode cX12_far 28 = .ok (.iconst 0, 1) := by decide +kernel
theorem dX12_far_29 : decode cX12_far 29 = .ok (.iconst 1, 1) := by decide +kernel
theorem dX12_far_30 : decode cX12_far 30 = .ok (.iconst 0, 1) := by decide +kernel
theorem dX12_far_31 : decode cX12_far 31 = .ok (.invokevirtual 172, 3) := by decide +kernel
theorem dX12_far_34 : decode cX12_far 34 = .ok (.ifCond .eq 5, 3) := by decide +kernel
theorem dX12_far_37 : decode cX12_far 37 = .ok (.iconst 0, 1) := by decide +kernel
theorem dX12_far_38 : decode cX12_far 38 = .ok (.ireturn, 1) := by decide +kernel
theorem dX12_far_39 : decode cX12_far 39 = .ok (.aload_n 0, 1) := by decide +kernel
theorem dX12_far_40 : decode cX12_far 40 = .ok (.iload_n 1, 1) := by decide +kernel
theorem dX12_far_41 : decode cX12_far 41 = .ok (.iload_n 2, 1) := by decide +kernel
theorem dX12_far_42 : decode cX12_far 42 = .ok (.invokevirtual 339, 3) := by decide +kernel
theorem dX12_far_45 : decode cX12_far 45 = .ok (.ireturn, 1) := by decide +kernel
theorem dX12_lasts_0 : decode cX12_lasts 0 = .ok (.aload_n 0, 1) := by decide +kernel
theorem dX12_lasts_1 : decode cX12_lasts 1 = .ok (.iconst 0, 1) := by decide +kernel
theorem dX12_lasts_2 : decode cX12_lasts 2 = .ok (.putfield 93, 3) := by decide +kernel
theorem dX12_lasts_5 : decode cX12_lasts 5 = .ok (.aload_n 0, 1) := by decide +kernel
theorem dX12_lasts_6 : decode cX12_lasts 6 = .ok (.aload_n 0, 1) := by decide +kernel
theorem dX12_lasts_7 : decode cX12_lasts 7 = .ok (.iconst 2, 1) := by decide +kernel
theorem dX12_lasts_8 : decode cX12_lasts 8 = .ok (.iload_n 1, 1) := by decide +kernel
theorem dX12_lasts_9 : decode cX12_lasts 9 = .ok (.invokevirtual 336, 3) := by decide +kernel
theorem dX12_lasts_12 : decode cX12_lasts 12 = .ok (.ifCond .ne 7, 3) := by decide +kernel
theorem dX12_lasts_15 : decode cX12_lasts 15 = .ok (.iconst 1, 1) := by decide +kernel
theorem dX12_lasts_16 : decode cX12_lasts 16 = .ok (.goto 4, 3) := by decide +kernel
theorem dX12_lasts_19 : decode cX12_lasts 19 = .ok (.iconst 0, 1) := by decide +kernel
theorem dX12_lasts_20 : decode cX12_lasts 20 = .ok (.iconst 1, 1) := by decide +kernel
theorem dX12_lasts_21 : decode cX12_lasts 21 = .ok (.iconst 0, 1) := by decide +kernel
theorem dX12_lasts_22 : decode cX12_lasts 22 = .ok (.invokevirtual 172, 3) := by decide +kernel
theorem dX12_lasts_25 : decode cX12_lasts 25 = .ok (.ifCond .eq 5, 3) := by decide +kernel
theorem dX12_lasts_28 : decode cX12_lasts 28 = .ok (.iconst 0, 1) := by decide +kernel
theorem dX12_lasts_29 : decode cX12_lasts 29 = .ok (.ireturn, 1) := by decide +kernel
theorem dX12_lasts_30 : decode cX12_lasts 30 = .ok (.aload_n 0, 1) := by decide +kernel
theorem dX12_lasts_31 : decode cX12_lasts 31 = .ok (.getfield 55, 3) := by decide +kernel
theorem dX12_lasts_34 : decode cX12_lasts 34 = .ok (.aload_n 0, 1) := by decide +kernel
theorem dX12_lasts_35 : decode cX12_lasts 35 = .ok (.getfield 58, 3) := by decide +kernel
theorem dX12_lasts_38 : decode cX12_lasts 38 = .ok (.invokestatic 328, 3) := by decide +kernel
theorem dX12_lasts_41 : decode cX12_lasts 41 = .ok (.iconst 1, 1) := by decide +kernel
theorem dX12_lasts_42 : decode cX12_lasts 42 = .ok (.istore_n 2, 1) := by decide +kernel
theorem dX12_lasts_43 : decode cX12_lasts 43 = .ok (.iload_n 2, 1) := by decide +kernel
theorem dX12_lasts_44 : decode cX12_lasts 44 = .ok (.bipush 99, 2) := by decide +kernel
theorem dX12_lasts_46 : decode cX12_lasts 46 = .ok (.if_icmp .gt 41, 3) := by decide +kernel
theorem dX12_lasts_49 : decode cX12_lasts 49 = .ok (.aload_n 0, 1) := by decide +kernel
theorem dX12_lasts_50 : decode cX12_lasts 50 = .ok (.getfield 55, 3) := by decide +kernel
theorem dX12_lasts_53 : decode cX12_lasts 53 = .ok (.iload_n 1, 1) := by decide +kernel
theorem dX12_lasts_54 : decode cX12_lasts 54 = .ok (.invokestatic 275, 3) := by decide +kernel
theorem dX12_lasts_57 : decode cX12_lasts 57 = .ok (.ifCond .eq 30, 3) := by decide +kernel
theorem dX12_lasts_60 : decode cX12_lasts 60 = .ok (.aload_n 0, 1) := by decide +kernel
theorem dX12_lasts_61 : decode cX12_lasts 61 = .ok (.aload_n 0, 1) := by decide +kernel
theorem dX12_lasts_62 : decode cX12_lasts 62 = .ok (.getfield 58, 3) := by decide +kernel
theorem dX12_lasts_65 : decode cX12_lasts 65 = .ok (.invokevirtual 311, 3) := by decide +kernel
theorem dX12_lasts_68 : decode cX12_lasts 68 = .ok (.aload_n 0, 1) := by decide +kernel
theorem dX12_lasts_69 : decode cX12_lasts 69 = .ok (.getfield 58, 3) := by decide +kernel
theorem dX12_lasts_72 : decode cX12_lasts 72 = .ok (.iload_n 1, 1) := by decide +kernel
theorem dX12_lasts_73 : decode cX12_lasts 73 = .ok (.invokestatic 275, 3) := by decide +kernel
theorem dX12_lasts_76 : decode cX12_lasts 76 = .ok (.ifCond .ne 5, 3) := by decide +kernel
theorem dX12_lasts_79 : decode cX12_lasts 79 = .ok (.iload_n 2, 1) := by decide +kernel
theorem dX12_lasts_80 : decode cX12_lasts 80 = .ok (.ireturn, 1) := by decide +kernel
theorem dX12_lasts_81 : decode cX12_lasts 81 = .ok (.iinc 2 1, 3) := by decide +kernel
theorem dX12_lasts_84 : decode cX12_lasts 84 = .ok (.goto (-41), 3) := by decide +kernel
theorem dX12_lasts_87 : decode cX12_lasts 87 = .ok (.iconst (-1), 1) := by decide +kernel
theorem dX12_lasts_88 : decode cX12_lasts 88 = .ok (.ireturn, 1) := by decide +kernel
theorem dX12_slipsFrom_0 : decode cX12_slipsFrom 0 = .ok (.aload_n 0, 1) := by decide +kernel
theorem dX12_slipsFrom_1 : decode cX12_slipsFrom 1 = .ok (.aload_n 0, 1) := by decide +kernel
theorem dX12_slipsFrom_2 : decode cX12_slipsFrom 2 = .ok (.getfield 61, 3) := by decide +kernel
theorem dX12_slipsFrom_5 : decode cX12_slipsFrom 5 = .ok (.iload_n 2, 1) := by decide +kernel
theorem dX12_slipsFrom_6 : decode cX12_slipsFrom 6 = .ok (.invokevirtual 299, 3) := by decide +kernel
theorem dX12_slipsFrom_9 : decode cX12_slipsFrom 9 = .ok (.iconst 1, 1) := by decide +kernel
theorem dX12_slipsFrom_10 : decode cX12_slipsFrom 10 = .ok (.iload_n 2, 1) := by decide +kernel
theorem dX12_slipsFrom_11 : decode cX12_slipsFrom 11 = .ok (.ishl, 1) := by decide +kernel
theorem dX12_slipsFrom_12 : decode cX12_slipsFrom 12 = .ok (.ior, 1) := by decide +kernel
theorem dX12_slipsFrom_13 : decode cX12_slipsFrom 13 = .ok (.istore 4, 2) := by decide +kernel
theorem dX12_slipsFrom_15 : decode cX12_slipsFrom 15 = .ok (.iconst 0, 1) := by decide +kernel
theorem dX12_slipsFrom_16 : decode cX12_slipsFrom 16 = .ok (.istore 5, 2) := by decide +kernel
theorem dX12_slipsFrom_18 : decode cX12_slipsFrom 18 = .ok (.iload 5, 2) := by decide +kernel
theorem dX12_slipsFrom_20 : decode cX12_slipsFrom 20 = .ok (.aload_n 0, 1) := by decide +kernel
theorem dX12_slipsFrom_21 : decode cX12_slipsFrom 21 = .ok (.getfield 23, 3) := by decide +kernel
theorem dX12_slipsFrom_24 : decode cX12_slipsFrom 24 = .ok (.iconst 0, 1) := by decide +kernel
theorem dX12_slipsFrom_25 : decode cX12_slipsFrom 25 = .ok (.iaload, 1) := by decide +kernel
theorem dX12_slipsFrom_26 : decode cX12_slipsFrom 26 = .ok (.if_icmp .ge 107, 3) := by decide +kernel
theorem dX12_slipsFrom_29 : decode cX12_slipsFrom 29 = .ok (.iload 4, 2) := by decide +kernel
theorem dX12_slipsFrom_31 : decode cX12_slipsFrom 31 = .ok (.iload 5, 2) := by decide +kernel
theorem dX12_slipsFrom_33 : decode cX12_slipsFrom 33 = .ok (.invokestatic 251, 3) := by decide +kernel
theorem dX12_slipsFrom_36 : decode cX12_slipsFrom 36 = .ok (.ifCond .ne 6, 3) := by decide +kernel
theorem dX12_slipsFrom_39 : decode cX12_slipsFrom 39 = .ok (.goto 88, 3) := by decide +kernel
theorem dX12_slipsFrom_42 : decode cX12_slipsFrom 42 = .ok (.aload_n 0, 1) := by decide +kernel
theorem dX12_slipsFrom_43 : decode cX12_slipsFrom 43 = .ok (.getfield 61, 3) := by decide +kernel
theorem dX12_slipsFrom_46 : decode cX12_slipsFrom 46 = .ok (.aload_n 0, 1) := by decide +kernel
theorem dX12_slipsFrom_47 : decode cX12_slipsFrom 47 = .ok (.getfield 58, 3) := by decide +kernel
theorem dX12_slipsFrom_50 : decode cX12_slipsFrom 50 = .ok (.invokestatic 328, 3) := by decide +kernel
theorem dX12_slipsFrom_53 : decode cX12_slipsFrom 53 = .ok (.aload_n 0, 1) := by decide +kernel
theorem dX12_slipsFrom_54 : decode cX12_slipsFrom 54 = .ok (.getfield 58, 3) := by decide +kernel
theorem dX12_slipsFrom_57 : decode cX12_slipsFrom 57 = .ok (.bipush 42, 2) := by decide +kernel
theorem dX12_slipsFrom_59 : decode cX12_slipsFrom 59 = .ok (.dup2, 1) := by decide +kernel
theorem dX12_slipsFrom_60 : decode cX12_slipsFrom 60 = .ok (.iaload, 1) := by decide +kernel
theorem dX12_slipsFrom_61 : decode cX12_slipsFrom 61 = .ok (.iconst 1, 1) := by decide +kernel
theorem dX12_slipsFrom_62 : decode cX12_slipsFrom 62 = .ok (.iload_n 1, 1) := by decide +kernel
theorem dX12_slipsFrom_63 : decode cX12_slipsFrom 63 = .ok (.ishl, 1) := by decide +kernel
theorem dX12_slipsFrom_64 : decode cX12_slipsFrom 64 = .ok (.ior, 1) := by decide +kernel
theorem dX12_slipsFrom_65 : decode cX12_slipsFrom 65 = .ok (.iastore, 1) := by decide +kernel
theorem dX12_slipsFrom_66 : decode cX12_slipsFrom 66 = .ok (.aload_n 0, 1) := by decide +kernel
theorem dX12_slipsFrom_67 : decode cX12_slipsFrom 67 = .ok (.getfield 58, 3) := by decide +kernel
theorem dX12_slipsFrom_70 : decode cX12_slipsFrom 70 = .ok (.iconst 0, 1) := by decide +kernel
theorem dX12_slipsFrom_71 : decode cX12_slipsFrom 71 = .ok (.iload_n 1, 1) := by decide +kernel
theorem dX12_slipsFrom_72 : decode cX12_slipsFrom 72 = .ok (.iadd, 1) := by decide +kernel
theorem dX12_slipsFrom_73 : decode cX12_slipsFrom 73 = .ok (.iload 5, 2) := by decide +kernel
theorem dX12_slipsFrom_75 : decode cX12_slipsFrom 75 = .ok (.iastore, 1) := by decide +kernel
theorem dX12_slipsFrom_76 : decode cX12_slipsFrom 76 = .ok (.aload_n 0, 1) := by decide +kernel
theorem dX12_slipsFrom_77 : decode cX12_slipsFrom 77 = .ok (.getfield 58, 3) := by decide +kernel
theorem dX12_slipsFrom_80 : decode cX12_slipsFrom 80 = .ok (.bipush 8, 2) := by decide +kernel
theorem dX12_slipsFrom_82 : decode cX12_slipsFrom 82 = .ok (.iload_n 1, 1) := by decide +kernel
theorem dX12_slipsFrom_83 : decode cX12_slipsFrom 83 = .ok (.iadd, 1) := by decide +kernel
theorem dX12_slipsFrom_84 : decode cX12_slipsFrom 84 = .ok (.iload_n 3, 1) := by decide +kernel
theorem dX12_slipsFrom_85 : decode cX12_slipsFrom 85 = .ok (.iastore, 1) := by decide +kernel
theorem dX12_slipsFrom_86 : decode cX12_slipsFrom 86 = .ok (.aload_n 0, 1) := by decide +kernel
theorem dX12_slipsFrom_87 : decode cX12_slipsFrom 87 = .ok (.aload_n 0, 1) := by decide +kernel
theorem dX12_slipsFrom_88 : decode cX12_slipsFrom 88 = .ok (.getfield 58, 3) := by decide +kernel
theorem dX12_slipsFrom_91 : decode cX12_slipsFrom 91 = .ok (.invokevirtual 311, 3) := by decide +kernel
theorem dX12_slipsFrom_94 : decode cX12_slipsFrom 94 = .ok (.aload_n 0, 1) := by decide +kernel
theorem dX12_slipsFrom_95 : decode cX12_slipsFrom 95 = .ok (.getfield 58, 3) := by decide +kernel
theorem dX12_slipsFrom_98 : decode cX12_slipsFrom 98 = .ok (.iload_n 1, 1) := by decide +kernel
theorem dX12_slipsFrom_99 : decode cX12_slipsFrom 99 = .ok (.invokestatic 275, 3) := by decide +kernel
theorem dX12_slipsFrom_102 : decode cX12_slipsFrom 102 = .ok (.ifCond .eq 25, 3) := by decide +kernel
theorem dX12_slipsFrom_105 : decode cX12_slipsFrom 105 = .ok (.aload_n 0, 1) := by decide +kernel
theorem dX12_slipsFrom_106 : decode cX12_slipsFrom 106 = .ok (.getfield 74, 3) := by decide +kernel
theorem dX12_slipsFrom_109 : decode cX12_slipsFrom 109 = .ok (.sipush 1000, 3) := by decide +kernel
theorem dX12_slipsFrom_112 : decode cX12_slipsFrom 112 = .ok (.iload 5, 2) := by decide +kernel
theorem dX12_slipsFrom_114 : decode cX12_slipsFrom 114 = .ok (.imul, 1) := by decide +kernel
theorem dX12_slipsFrom_115 : decode cX12_slipsFrom 115 = .ok (.aload_n 0, 1) := by decide +kernel
theorem dX12_slipsFrom_116 : decode cX12_slipsFrom 116 = .ok (.getfield 58, 3) := by decide +kernel
theorem dX12_slipsFrom_119 : decode cX12_slipsFrom 119 = .ok (.bipush 8, 2) := by decide +kernel
theorem dX12_slipsFrom_121 : decode cX12_slipsFrom 121 = .ok (.iload_n 1, 1) := by decide +kernel
theorem dX12_slipsFrom_122 : decode cX12_slipsFrom 122 = .ok (.iadd, 1) := by decide +kernel
theorem dX12_slipsFrom_123 : decode cX12_slipsFrom 123 = .ok (.iaload, 1) := by decide +kernel
theorem dX12_slipsFrom_124 : decode cX12_slipsFrom 124 = .ok (.iadd, 1) := by decide +kernel
theorem dX12_slipsFrom_125 : decode cX12_slipsFrom 125 = .ok (.iconst 1, 1) := by decide +kernel
theorem dX12_slipsFrom_126 : decode cX12_slipsFrom 126 = .ok (.bastore, 1) := by decide +kernel
theorem dX12_slipsFrom_127 : decode cX12_slipsFrom 127 = .ok (.iinc 5 1, 3) := by decide +kernel
theorem dX12_slipsFrom_130 : decode cX12_slipsFrom 130 = .ok (.goto (-112), 3) := by decide +kernel
theorem dX12_slipsFrom_133 : decode cX12_slipsFrom 133 = .ok (.return_, 1) := by decide +kernel
theorem dX12_mayBeIn_0 : decode cX12_mayBeIn 0 = .ok (.iconst 0, 1) := by decide +kernel
theorem dX12_mayBeIn_1 : decode cX12_mayBeIn 1 = .ok (.istore_n 2, 1) := by decide +kernel
theorem dX12_mayBeIn_2 : decode cX12_mayBeIn 2 = .ok (.iload_n 2, 1) := by decide +kernel
theorem dX12_mayBeIn_3 : decode cX12_mayBeIn 3 = .ok (.sipush 1000, 3) := by decide +kernel
theorem dX12_mayBeIn_6 : decode cX12_mayBeIn 6 = .ok (.if_icmp .ge 26, 3) := by decide +kernel
theorem dX12_mayBeIn_9 : decode cX12_mayBeIn 9 = .ok (.aload_n 0, 1) := by decide +kernel
theorem dX12_mayBeIn_10 : decode cX12_mayBeIn 10 = .ok (.getfield 70, 3) := by decide +kernel
theorem dX12_mayBeIn_13 : decode cX12_mayBeIn 13 = .ok (.sipush 1000, 3) := by decide +kernel
theorem dX12_mayBeIn_16 : decode cX12_mayBeIn 16 = .ok (.iload_n 1, 1) := by decide +kernel
theorem dX12_mayBeIn_17 : decode cX12_mayBeIn 17 = .ok (.imul, 1) := by decide +kernel
theorem dX12_mayBeIn_18 : decode cX12_mayBeIn 18 = .ok (.iload_n 2, 1) := by decide +kernel
theorem dX12_mayBeIn_19 : decode cX12_mayBeIn 19 = .ok (.iadd, 1) := by decide +kernel
theorem dX12_mayBeIn_20 : decode cX12_mayBeIn 20 = .ok (.baload, 1) := by decide +kernel
theorem dX12_mayBeIn_21 : decode cX12_mayBeIn 21 = .ok (.ifCond .eq 5, 3) := by decide +kernel
theorem dX12_mayBeIn_24 : decode cX12_mayBeIn 24 = .ok (.iconst 1, 1) := by decide +kernel
theorem dX12_mayBeIn_25 : decode cX12_mayBeIn 25 = .ok (.ireturn, 1) := by decide +kernel
theorem dX12_mayBeIn_26 : decode cX12_mayBeIn 26 = .ok (.iinc 2 1, 3) := by decide +kernel
theorem dX12_mayBeIn_29 : decode cX12_mayBeIn 29 = .ok (.goto (-27), 3) := by decide +kernel
theorem dX12_mayBeIn_32 : decode cX12_mayBeIn 32 = .ok (.iconst 0, 1) := by decide +kernel
theorem dX12_mayBeIn_33 : decode cX12_mayBeIn 33 = .ok (.ireturn, 1) := by decide +kernel
theorem dX12_slips_0 : decode cX12_slips 0 = .ok (.aload_n 0, 1) := by decide +kernel
theorem dX12_slips_1 : decode cX12_slips 1 = .ok (.iconst 0, 1) := by decide +kernel
theorem dX12_slips_2 : decode cX12_slips 2 = .ok (.putfield 93, 3) := by decide +kernel
theorem dX12_slips_5 : decode cX12_slips 5 = .ok (.aload_n 0, 1) := by decide +kernel
theorem dX12_slips_6 : decode cX12_slips 6 = .ok (.aload_n 0, 1) := by decide +kernel
theorem dX12_slips_7 : decode cX12_slips 7 = .ok (.iconst 2, 1) := by decide +kernel
theorem dX12_slips_8 : decode cX12_slips 8 = .ok (.iload_n 1, 1) := by decide +kernel
theorem dX12_slips_9 : decode cX12_slips 9 = .ok (.invokevirtual 336, 3) := by decide +kernel
theorem dX12_slips_12 : decode cX12_slips 12 = .ok (.ifCond .eq 12, 3) := by decide +kernel
theorem dX12_slips_15 : decode cX12_slips 15 = .ok (.aload_n 0, 1) := by decide +kernel
theorem dX12_slips_16 : decode cX12_slips 16 = .ok (.iconst 0, 1) := by decide +kernel
theorem dX12_slips_17 : decode cX12_slips 17 = .ok (.iload_n 2, 1) := by decide +kernel
theorem dX12_slips_18 : decode cX12_slips 18 = .ok (.invokevirtual 336, 3) := by decide +kernel
theorem dX12_slips_21 : decode cX12_slips 21 = .ok (.ifCond .ne 7, 3) := by decide +kernel
theorem dX12_slips_24 : decode cX12_slips 24 = .ok (.iconst 1, 1) := by decide +kernel
theorem dX12_slips_25 : decode cX12_slips 25 = .ok (.goto 4, 3) := by decide +kernel
theorem dX12_slips_28 : decode cX12_slips 28 = .ok (.iconst 0, 1) := by decide +kernel
theorem dX12_slips_29 : decode cX12_slips 29 = .ok (.iconst 1, 1) := by decide +kernel
theorem dX12_slips_30 : decode cX12_slips 30 = .ok (.iconst 0, 1) := by decide +kernel
theorem dX12_slips_31 : decode cX12_slips 31 = .ok (.invokevirtual 172, 3) := by decide +kernel
theorem dX12_slips_34 : decode cX12_slips 34 = .ok (.ifCond .ne 14, 3) := by decide +kernel
theorem dX12_slips_37 : decode cX12_slips 37 = .ok (.aload_n 0, 1) := by decide +kernel
theorem dX12_slips_38 : decode cX12_slips 38 = .ok (.getfield 55, 3) := by decide +kernel
theorem dX12_slips_41 : decode cX12_slips 41 = .ok (.iload_n 1, 1) := by decide +kernel
theorem dX12_slips_42 : decode cX12_slips 42 = .ok (.invokestatic 275, 3) := by decide +kernel
theorem dX12_slips_45 : decode cX12_slips 45 = .ok (.ifCond .ne 16, 3) := by decide +kernel
theorem dX12_slips_48 : decode cX12_slips 48 = .ok (.aload_n 0, 1) := by decide +kernel
theorem dX12_slips_49 : decode cX12_slips 49 = .ok (.getfield 93, 3) := by decide +kernel
theorem dX12_slips_52 : decode cX12_slips 52 = .ok (.ifCond .ne 7, 3) := by decide +kernel
theorem dX12_slips_55 : decode cX12_slips 55 = .ok (.iconst (-1), 1) := by decide +kernel
theorem dX12_slips_56 : decode cX12_slips 56 = .ok (.goto 4, 3) := by decide +kernel
theorem dX12_slips_59 : decode cX12_slips 59 = .ok (.iconst 0, 1) := by decide +kernel
theorem dX12_slips_60 : decode cX12_slips 60 = .ok (.ireturn, 1) := by decide +kernel
theorem dX12_slips_61 : decode cX12_slips 61 = .ok (.iconst 0, 1) := by decide +kernel
theorem dX12_slips_62 : decode cX12_slips 62 = .ok (.istore_n 3, 1) := by decide +kernel
theorem dX12_slips_63 : decode cX12_slips 63 = .ok (.iload_n 3, 1) := by decide +kernel
theorem dX12_slips_64 : decode cX12_slips 64 = .ok (.sipush 8000, 3) := by decide +kernel
theorem dX12_slips_67 : decode cX12_slips 67 = .ok (.if_icmp .ge 16, 3) := by decide +kernel
theorem dX12_slips_70 : decode cX12_slips 70 = .ok (.aload_n 0, 1) := by decide +kernel
theorem dX12_slips_71 : decode cX12_slips 71 = .ok (.getfield 70, 3) := by decide +kernel
theorem dX12_slips_74 : decode cX12_slips 74 = .ok (.iload_n 3, 1) := by decide +kernel
theorem dX12_slips_75 : decode cX12_slips 75 = .ok (.iconst 0, 1) := by decide +kernel
theorem dX12_slips_76 : decode cX12_slips 76 = .ok (.bastore, 1) := by decide +kernel
theorem dX12_slips_77 : decode cX12_slips 77 = .ok (.iinc 3 1, 3) := by decide +kernel
theorem dX12_slips_80 : decode cX12_slips 80 = .ok (.goto (-17), 3) := by decide +kernel
theorem dX12_slips_83 : decode cX12_slips 83 = .ok (.aload_n 0, 1) := by decide +kernel
theorem dX12_slips_84 : decode cX12_slips 84 = .ok (.getfield 70, 3) := by decide +kernel
theorem dX12_slips_87 : decode cX12_slips 87 = .ok (.sipush 1000, 3) := by decide +kernel
theorem dX12_slips_90 : decode cX12_slips 90 = .ok (.aload_n 0, 1) := by decide +kernel
theorem dX12_slips_91 : decode cX12_slips 91 = .ok (.getfield 55, 3) := by decide +kernel
theorem dX12_slips_94 : decode cX12_slips 94 = .ok (.iconst 0, 1) := by decide +kernel
theorem dX12_slips_95 : decode cX12_slips 95 = .ok (.iload_n 1, 1) := by decide +kernel
theorem dX12_slips_96 : decode cX12_slips 96 = .ok (.iadd, 1) := by decide +kernel
theorem dX12_slips_97 : decode cX12_slips 97 = .ok (.iaload, 1) := by decide +kernel
theorem dX12_slips_98 : decode cX12_slips 98 = .ok (.imul, 1) := by decide +kernel
theorem dX12_slips_99 : decode cX12_slips 99 = .ok (.aload_n 0, 1) := by decide +kernel
theorem dX12_slips_100 : decode cX12_slips 100 = .ok (.getfield 55, 3) := by decide +kernel
theorem dX12_slips_103 : decode cX12_slips 103 = .ok (.bipush 8, 2) := by decide +kernel
theorem dX12_slips_105 : decode cX12_slips 105 = .ok (.iload_n 1, 1) := by decide +kernel
theorem dX12_slips_106 : decode cX12_slips 106 = .ok (.iadd, 1) := by decide +kernel
theorem dX12_slips_107 : decode cX12_slips 107 = .ok (.iaload, 1) := by decide +kernel
theorem dX12_slips_108 : decode cX12_slips 108 = .ok (.iadd, 1) := by decide +kernel
theorem dX12_slips_109 : decode cX12_slips 109 = .ok (.iconst 1, 1) := by decide +kernel
theorem dX12_slips_110 : decode cX12_slips 110 = .ok (.bastore, 1) := by decide +kernel
theorem dX12_slips_111 : decode cX12_slips 111 = .ok (.aload_n 0, 1) := by decide +kernel
theorem dX12_slips_112 : decode cX12_slips 112 = .ok (.getfield 55, 3) := by decide +kernel
theorem dX12_slips_115 : decode cX12_slips 115 = .ok (.aload_n 0, 1) := by decide +kernel
theorem dX12_slips_116 : decode cX12_slips 116 = .ok (.getfield 61, 3) := by decide +kernel
theorem dX12_slips_119 : decode cX12_slips 119 = .ok (.invokestatic 328, 3) := by decide +kernel
theorem dX12_slips_122 : decode cX12_slips 122 = .ok (.aload_n 0, 1) := by decide +kernel
theorem dX12_slips_123 : decode cX12_slips 123 = .ok (.getfield 61, 3) := by decide +kernel
theorem dX12_slips_126 : decode cX12_slips 126 = .ok (.bipush 42, 2) := by decide +kernel
theorem dX12_slips_128 : decode cX12_slips 128 = .ok (.dup2, 1) := by decide +kernel
theorem dX12_slips_129 : decode cX12_slips 129 = .ok (.iaload, 1) := by decide +kernel
theorem dX12_slips_130 : decode cX12_slips 130 = .ok (.iconst 1, 1) := by decide +kernel
theorem dX12_slips_131 : decode cX12_slips 131 = .ok (.iload_n 1, 1) := by decide +kernel
theorem dX12_slips_132 : decode cX12_slips 132 = .ok (.ishl, 1) := by decide +kernel
theorem dX12_slips_133 : decode cX12_slips 133 = .ok (.iconst (-1), 1) := by decide +kernel
theorem dX12_slips_134 : decode cX12_slips 134 = .ok (.ixor, 1) := by decide +kernel
theorem dX12_slips_135 : decode cX12_slips 135 = .ok (.iand, 1) := by decide +kernel
theorem dX12_slips_136 : decode cX12_slips 136 = .ok (.iastore, 1) := by decide +kernel
theorem dX12_slips_137 : decode cX12_slips 137 = .ok (.iconst 0, 1) := by decide +kernel
theorem dX12_slips_138 : decode cX12_slips 138 = .ok (.istore_n 3, 1) := by decide +kernel
theorem dX12_slips_139 : decode cX12_slips 139 = .ok (.iload_n 3, 1) := by decide +kernel
theorem dX12_slips_140 : decode cX12_slips 140 = .ok (.bipush 40, 2) := by decide +kernel
theorem dX12_slips_142 : decode cX12_slips 142 = .ok (.if_icmp .gt 127, 3) := by decide +kernel
theorem dX12_slips_145 : decode cX12_slips 145 = .ok (.aload_n 0, 1) := by decide +kernel
theorem dX12_slips_146 : decode cX12_slips 146 = .ok (.iload_n 2, 1) := by decide +kernel
theorem dX12_slips_147 : decode cX12_slips 147 = .ok (.invokevirtual 342, 3) := by decide +kernel
theorem dX12_slips_150 : decode cX12_slips 150 = .ok (.ifCond .eq 5, 3) := by decide +kernel
theorem dX12_slips_153 : decode cX12_slips 153 = .ok (.iload_n 3, 1) := by decide +kernel
theorem dX12_slips_154 : decode cX12_slips 154 = .ok (.ireturn, 1) := by decide +kernel
theorem dX12_slips_155 : decode cX12_slips 155 = .ok (.iconst 0, 1) := by decide +kernel
theorem dX12_slips_156 : decode cX12_slips 156 = .ok (.istore 4, 2) := by decide +kernel
theorem dX12_slips_158 : decode cX12_slips 158 = .ok (.iload 4, 2) := by decide +kernel
theorem dX12_slips_160 : decode cX12_slips 160 = .ok (.sipush 8000, 3) := by decide +kernel
theorem dX12_slips_163 : decode cX12_slips 163 = .ok (.if_icmp .ge 17, 3) := by decide +kernel
theorem dX12_slips_166 : decode cX12_slips 166 = .ok (.aload_n 0, 1) := by decide +kernel
theorem dX12_slips_167 : decode cX12_slips 167 = .ok (.getfield 74, 3) := by decide +kernel
theorem dX12_slips_170 : decode cX12_slips 170 = .ok (.iload 4, 2) := by decide +kernel
theorem dX12_slips_172 : decode cX12_slips 172 = .ok (.iconst 0, 1) := by decide +kernel
theorem dX12_slips_173 : decode cX12_slips 173 = .ok (.bastore, 1) := by decide +kernel
theorem dX12_slips_174 : decode cX12_slips 174 = .ok (.iinc 4 1, 3) := by decide +kernel
theorem dX12_slips_177 : decode cX12_slips 177 = .ok (.goto (-19), 3) := by decide +kernel
theorem dX12_slips_180 : decode cX12_slips 180 = .ok (.iconst 0, 1) := by decide +kernel
theorem dX12_slips_181 : decode cX12_slips 181 = .ok (.istore 4, 2) := by decide +kernel
theorem dX12_slips_183 : decode cX12_slips 183 = .ok (.iload 4, 2) := by decide +kernel
theorem dX12_slips_185 : decode cX12_slips 185 = .ok (.sipush 8000, 3) := by decide +kernel
theorem dX12_slips_188 : decode cX12_slips 188 = .ok (.if_icmp .ge 36, 3) := by decide +kernel
theorem dX12_slips_191 : decode cX12_slips 191 = .ok (.aload_n 0, 1) := by decide +kernel
theorem dX12_slips_192 : decode cX12_slips 192 = .ok (.getfield 70, 3) := by decide +kernel
theorem dX12_slips_195 : decode cX12_slips 195 = .ok (.iload 4, 2) := by decide +kernel
theorem dX12_slips_197 : decode cX12_slips 197 = .ok (.baload, 1) := by decide +kernel
theorem dX12_slips_198 : decode cX12_slips 198 = .ok (.ifCond .eq 20, 3) := by decide +kernel
theorem dX12_slips_201 : decode cX12_slips 201 = .ok (.aload_n 0, 1) := by decide +kernel
theorem dX12_slips_202 : decode cX12_slips 202 = .ok (.iload_n 1, 1) := by decide +kernel
theorem dX12_slips_203 : decode cX12_slips 203 = .ok (.iload 4, 2) := by decide +kernel
theorem dX12_slips_205 : decode cX12_slips 205 = .ok (.sipush 1000, 3) := by decide +kernel
theorem dX12_slips_208 : decode cX12_slips 208 = .ok (.idiv, 1) := by decide +kernel
theorem dX12_slips_209 : decode cX12_slips 209 = .ok (.iload 4, 2) := by decide +kernel
theorem dX12_slips_211 : decode cX12_slips 211 = .ok (.sipush 1000, 3) := by decide +kernel
theorem dX12_slips_214 : decode cX12_slips 214 = .ok (.irem, 1) := by decide +kernel
theorem dX12_slips_215 : decode cX12_slips 215 = .ok (.invokevirtual 345, 3) := by decide +kernel
theorem dX12_slips_218 : decode cX12_slips 218 = .ok (.iinc 4 1, 3) := by decide +kernel
theorem dX12_slips_221 : decode cX12_slips 221 = .ok (.goto (-38), 3) := by decide +kernel
theorem dX12_slips_224 : decode cX12_slips 224 = .ok (.iconst 0, 1) := by decide +kernel
theorem dX12_slips_225 : decode cX12_slips 225 = .ok (.istore 4, 2) := by decide +kernel
theorem dX12_slips_227 : decode cX12_slips 227 = .ok (.iload 4, 2) := by decide +kernel
theorem dX12_slips_229 : decode cX12_slips 229 = .ok (.sipush 8000, 3) := by decide +kernel
theorem dX12_slips_232 : decode cX12_slips 232 = .ok (.if_icmp .ge 23, 3) := by decide +kernel
theorem dX12_slips_235 : decode cX12_slips 235 = .ok (.aload_n 0, 1) := by decide +kernel
theorem dX12_slips_236 : decode cX12_slips 236 = .ok (.getfield 70, 3) := by decide +kernel
theorem dX12_slips_239 : decode cX12_slips 239 = .ok (.iload 4, 2) := by decide +kernel
theorem dX12_slips_241 : decode cX12_slips 241 = .ok (.aload_n 0, 1) := by decide +kernel
theorem dX12_slips_242 : decode cX12_slips 242 = .ok (.getfield 74, 3) := by decide +kernel
theorem dX12_slips_245 : decode cX12_slips 245 = .ok (.iload 4, 2) := by decide +kernel
theorem dX12_slips_247 : decode cX12_slips 247 = .ok (.baload, 1) := by decide +kernel
theorem dX12_slips_248 : decode cX12_slips 248 = .ok (.bastore, 1) := by decide +kernel
theorem dX12_slips_249 : decode cX12_slips 249 = .ok (.iinc 4 1, 3) := by decide +kernel
theorem dX12_slips_252 : decode cX12_slips 252 = .ok (.goto (-25), 3) := by decide +kernel
theorem dX12_slips_255 : decode cX12_slips 255 = .ok (.aload_n 0, 1) := by decide +kernel
theorem dX12_slips_256 : decode cX12_slips 256 = .ok (.aload_n 0, 1) := by decide +kernel
theorem dX12_slips_257 : decode cX12_slips 257 = .ok (.getfield 61, 3) := by decide +kernel
theorem dX12_slips_260 : decode cX12_slips 260 = .ok (.invokevirtual 311, 3) := by decide +kernel
theorem dX12_slips_263 : decode cX12_slips 263 = .ok (.iinc 3 1, 3) := by decide +kernel
theorem dX12_slips_266 : decode cX12_slips 266 = .ok (.goto (-127), 3) := by decide +kernel
theorem dX12_slips_269 : decode cX12_slips 269 = .ok (.iconst (-1), 1) := by decide +kernel
theorem dX12_slips_270 : decode cX12_slips 270 = .ok (.ireturn, 1) := by decide +kernel
theorem dX12_hunts_0 : decode cX12_hunts 0 = .ok (.iload_n 1, 1) := by decide +kernel
theorem dX12_hunts_1 : decode cX12_hunts 1 = .ok (.aload_n 0, 1) := by decide +kernel
theorem dX12_hunts_2 : decode cX12_hunts 2 = .ok (.getfield 23, 3) := by decide +kernel
theorem dX12_hunts_5 : decode cX12_hunts 5 = .ok (.iconst 3, 1) := by decide +kernel
theorem dX12_hunts_6 : decode cX12_hunts 6 = .ok (.iaload, 1) := by decide +kernel
theorem dX12_hunts_7 : decode cX12_hunts 7 = .ok (.if_icmp .ne 68, 3) := by decide +kernel
theorem dX12_hunts_10 : decode cX12_hunts 10 = .ok (.iload_n 2, 1) := by decide +kernel
theorem dX12_hunts_11 : decode cX12_hunts 11 = .ok (.aload_n 0, 1) := by decide +kernel
theorem dX12_hunts_12 : decode cX12_hunts 12 = .ok (.getfield 349, 3) := by decide +kernel
theorem dX12_hunts_15 : decode cX12_hunts 15 = .ok (.if_icmp .lt 19, 3) := by decide +kernel
theorem dX12_hunts_18 : decode cX12_hunts 18 = .ok (.iload_n 2, 1) := by decide +kernel
theorem dX12_hunts_19 : decode cX12_hunts 19 = .ok (.aload_n 0, 1) := by decide +kernel
theorem dX12_hunts_20 : decode cX12_hunts 20 = .ok (.getfield 349, 3) := by decide +kernel
theorem dX12_hunts_23 : decode cX12_hunts 23 = .ok (.if_icmp .ne 12, 3) := by decide +kernel
theorem dX12_hunts_26 : decode cX12_hunts 26 = .ok (.iload_n 3, 1) := by decide +kernel
theorem dX12_hunts_27 : decode cX12_hunts 27 = .ok (.aload_n 0, 1) := by decide +kernel
theorem dX12_hunts_28 : decode cX12_hunts 28 = .ok (.getfield 352, 3) := by decide +kernel
theorem dX12_hunts_31 : decode cX12_hunts 31 = .ok (.if_icmp .lt 4, 3) := by decide +kernel
theorem dX12_hunts_34 : decode cX12_hunts 34 = .ok (.return_, 1) := by decide +kernel
theorem dX12_hunts_35 : decode cX12_hunts 35 = .ok (.aload_n 0, 1) := by decide +kernel
theorem dX12_hunts_36 : decode cX12_hunts 36 = .ok (.iload_n 2, 1) := by decide +kernel
theorem dX12_hunts_37 : decode cX12_hunts 37 = .ok (.putfield 349, 3) := by decide +kernel
theorem dX12_hunts_40 : decode cX12_hunts 40 = .ok (.aload_n 0, 1) := by decide +kernel
theorem dX12_hunts_41 : decode cX12_hunts 41 = .ok (.iload_n 3, 1) := by decide +kernel
theorem dX12_hunts_42 : decode cX12_hunts 42 = .ok (.putfield 352, 3) := by decide +kernel
theorem dX12_hunts_45 : decode cX12_hunts 45 = .ok (.iconst 0, 1) := by decide +kernel
theorem dX12_hunts_46 : decode cX12_hunts 46 = .ok (.istore 5, 2) := by decide +kernel
theorem dX12_hunts_48 : decode cX12_hunts 48 = .ok (.iload 5, 2) := by decide +kernel
theorem dX12_hunts_50 : decode cX12_hunts 50 = .ok (.iconst 5, 1) := by decide +kernel
theorem dX12_hunts_51 : decode cX12_hunts 51 = .ok (.if_icmp .ge 23, 3) := by decide +kernel
theorem dX12_hunts_54 : decode cX12_hunts 54 = .ok (.aload_n 0, 1) := by decide +kernel
theorem dX12_hunts_55 : decode cX12_hunts 55 = .ok (.getfield 80, 3) := by decide +kernel
theorem dX12_hunts_58 : decode cX12_hunts 58 = .ok (.iload 5, 2) := by decide +kernel
theorem dX12_hunts_60 : decode cX12_hunts 60 = .ok (.aload_n 0, 1) := by decide +kernel
theorem dX12_hunts_61 : decode cX12_hunts 61 = .ok (.getfield 77, 3) := by decide +kernel
theorem dX12_hunts_64 : decode cX12_hunts 64 = .ok (.iload 5, 2) := by decide +kernel
theorem dX12_hunts_66 : decode cX12_hunts 66 = .ok (.iaload, 1) := by decide +kernel
theorem dX12_hunts_67 : decode cX12_hunts 67 = .ok (.iastore, 1) := by decide +kernel
theorem dX12_hunts_68 : decode cX12_hunts 68 = .ok (.iinc 5 1, 3) := by decide +kernel
theorem dX12_hunts_71 : decode cX12_hunts 71 = .ok (.goto (-23), 3) := by decide +kernel
theorem dX12_hunts_74 : decode cX12_hunts 74 = .ok (.return_, 1) := by decide +kernel
theorem dX12_hunts_75 : decode cX12_hunts 75 = .ok (.iconst 0, 1) := by decide +kernel
theorem dX12_hunts_76 : decode cX12_hunts 76 = .ok (.istore 5, 2) := by decide +kernel
theorem dX12_hunts_78 : decode cX12_hunts 78 = .ok (.iload 5, 2) := by decide +kernel
theorem dX12_hunts_80 : decode cX12_hunts 80 = .ok (.aload_n 0, 1) := by decide +kernel
theorem dX12_hunts_81 : decode cX12_hunts 81 = .ok (.getfield 23, 3) := by decide +kernel
theorem dX12_hunts_84 : decode cX12_hunts 84 = .ok (.iconst 2, 1) := by decide +kernel
theorem dX12_hunts_85 : decode cX12_hunts 85 = .ok (.iaload, 1) := by decide +kernel
theorem dX12_hunts_86 : decode cX12_hunts 86 = .ok (.if_icmp .ge 129, 3) := by decide +kernel
theorem dX12_hunts_89 : decode cX12_hunts 89 = .ok (.aload_n 0, 1) := by decide +kernel
theorem dX12_hunts_90 : decode cX12_hunts 90 = .ok (.getfield 55, 3) := by decide +kernel
theorem dX12_hunts_93 : decode cX12_hunts 93 = .ok (.iload 5, 2) := by decide +kernel
theorem dX12_hunts_95 : decode cX12_hunts 95 = .ok (.invokestatic 275, 3) := by decide +kernel
theorem dX12_hunts_98 : decode cX12_hunts 98 = .ok (.ifCond .eq 70, 3) := by decide +kernel
theorem dX12_hunts_101 : decode cX12_hunts 101 = .ok (.iload 4, 2) := by decide +kernel
theorem dX12_hunts_103 : decode cX12_hunts 103 = .ok (.iload 5, 2) := by decide +kernel
theorem dX12_hunts_105 : decode cX12_hunts 105 = .ok (.invokestatic 251, 3) := by decide +kernel
theorem dX12_hunts_108 : decode cX12_hunts 108 = .ok (.ifCond .ne 60, 3) := by decide +kernel
theorem dX12_hunts_111 : decode cX12_hunts 111 = .ok (.aload_n 0, 1) := by decide +kernel
theorem dX12_hunts_112 : decode cX12_hunts 112 = .ok (.getfield 55, 3) := by decide +kernel
theorem dX12_hunts_115 : decode cX12_hunts 115 = .ok (.bipush 8, 2) := by decide +kernel
theorem dX12_hunts_117 : decode cX12_hunts 117 = .ok (.iload 5, 2) := by decide +kernel
theorem dX12_hunts_119 : decode cX12_hunts 119 = .ok (.iadd, 1) := by decide +kernel
theorem dX12_hunts_120 : decode cX12_hunts 120 = .ok (.iaload, 1) := by decide +kernel
theorem dX12_hunts_121 : decode cX12_hunts 121 = .ok (.aload_n 0, 1) := by decide +kernel
theorem dX12_hunts_122 : decode cX12_hunts 122 = .ok (.iload_n 1, 1) := by decide +kernel
theorem dX12_hunts_123 : decode cX12_hunts 123 = .ok (.invokevirtual 279, 3) := by decide +kernel
theorem dX12_hunts_126 : decode cX12_hunts 126 = .ok (.iadd, 1) := by decide +kernel
theorem dX12_hunts_127 : decode cX12_hunts 127 = .ok (.aload_n 0, 1) := by decide +kernel
theorem dX12_hunts_128 : decode cX12_hunts 128 = .ok (.aload_n 0, 1) := by decide +kernel
theorem dX12_hunts_129 : decode cX12_hunts 129 = .ok (.getfield 55, 3) := by decide +kernel
theorem dX12_hunts_132 : decode cX12_hunts 132 = .ok (.iconst 0, 1) := by decide +kernel
theorem dX12_hunts_133 : decode cX12_hunts 133 = .ok (.iload 5, 2) := by decide +kernel
theorem dX12_hunts_135 : decode cX12_hunts 135 = .ok (.iadd, 1) := by decide +kernel
theorem dX12_hunts_136 : decode cX12_hunts 136 = .ok (.iaload, 1) := by decide +kernel
theorem dX12_hunts_137 : decode cX12_hunts 137 = .ok (.invokevirtual 261, 3) := by decide +kernel
theorem dX12_hunts_140 : decode cX12_hunts 140 = .ok (.if_icmp .le 28, 3) := by decide +kernel
theorem dX12_hunts_143 : decode cX12_hunts 143 = .ok (.aload_n 0, 1) := by decide +kernel
theorem dX12_hunts_144 : decode cX12_hunts 144 = .ok (.aload_n 0, 1) := by decide +kernel
theorem dX12_hunts_145 : decode cX12_hunts 145 = .ok (.getfield 55, 3) := by decide +kernel
theorem dX12_hunts_148 : decode cX12_hunts 148 = .ok (.bipush 32, 2) := by decide +kernel
theorem dX12_hunts_150 : decode cX12_hunts 150 = .ok (.iload_n 1, 1) := by decide +kernel
theorem dX12_hunts_151 : decode cX12_hunts 151 = .ok (.iadd, 1) := by decide +kernel
theorem dX12_hunts_152 : decode cX12_hunts 152 = .ok (.iaload, 1) := by decide +kernel
theorem dX12_hunts_153 : decode cX12_hunts 153 = .ok (.aload_n 0, 1) := by decide +kernel
theorem dX12_hunts_154 : decode cX12_hunts 154 = .ok (.getfield 55, 3) := by decide +kernel
theorem dX12_hunts_157 : decode cX12_hunts 157 = .ok (.iconst 0, 1) := by decide +kernel
theorem dX12_hunts_158 : decode cX12_hunts 158 = .ok (.iload 5, 2) := by decide +kernel
theorem dX12_hunts_160 : decode cX12_hunts 160 = .ok (.iadd, 1) := by decide +kernel
theorem dX12_hunts_161 : decode cX12_hunts 161 = .ok (.iaload, 1) := by decide +kernel
theorem dX12_hunts_162 : decode cX12_hunts 162 = .ok (.invokevirtual 339, 3) := by decide +kernel
theorem dX12_hunts_165 : decode cX12_hunts 165 = .ok (.goto 4, 3) := by decide +kernel
theorem dX12_hunts_168 : decode cX12_hunts 168 = .ok (.iconst (-1), 1) := by decide +kernel
theorem dX12_hunts_169 : decode cX12_hunts 169 = .ok (.istore 6, 2) := by decide +kernel
theorem dX12_hunts_171 : decode cX12_hunts 171 = .ok (.iload 6, 2) := by decide +kernel
theorem dX12_hunts_173 : decode cX12_hunts 173 = .ok (.iconst (-1), 1) := by decide +kernel
theorem dX12_hunts_174 : decode cX12_hunts 174 = .ok (.if_icmp .ne 6, 3) := by decide +kernel
theorem dX12_hunts_177 : decode cX12_hunts 177 = .ok (.goto 32, 3) := by decide +kernel
theorem dX12_hunts_180 : decode cX12_hunts 180 = .ok (.aload_n 0, 1) := by decide +kernel
theorem dX12_hunts_181 : decode cX12_hunts 181 = .ok (.getfield 77, 3) := by decide +kernel
theorem dX12_hunts_184 : decode cX12_hunts 184 = .ok (.iload_n 1, 1) := by decide +kernel
theorem dX12_hunts_185 : decode cX12_hunts 185 = .ok (.iload 5, 2) := by decide +kernel
theorem dX12_hunts_187 : decode cX12_hunts 187 = .ok (.iastore, 1) := by decide +kernel
theorem dX12_hunts_188 : decode cX12_hunts 188 = .ok (.aload_n 0, 1) := by decide +kernel
theorem dX12_hunts_189 : decode cX12_hunts 189 = .ok (.iload_n 1, 1) := by decide +kernel
theorem dX12_hunts_190 : decode cX12_hunts 190 = .ok (.iconst 1, 1) := by decide +kernel
theorem dX12_hunts_191 : decode cX12_hunts 191 = .ok (.iadd, 1) := by decide +kernel
theorem dX12_hunts_192 : decode cX12_hunts 192 = .ok (.iload_n 2, 1) := by decide +kernel
theorem dX12_hunts_193 : decode cX12_hunts 193 = .ok (.iconst 1, 1) := by decide +kernel
theorem dX12_hunts_194 : decode cX12_hunts 194 = .ok (.iadd, 1) := by decide +kernel
theorem dX12_hunts_195 : decode cX12_hunts 195 = .ok (.iload_n 3, 1) := by decide +kernel
theorem dX12_hunts_196 : decode cX12_hunts 196 = .ok (.iload 6, 2) := by decide +kernel
theorem dX12_hunts_198 : decode cX12_hunts 198 = .ok (.iadd, 1) := by decide +kernel
theorem dX12_hunts_199 : decode cX12_hunts 199 = .ok (.iload 4, 2) := by decide +kernel
theorem dX12_hunts_201 : decode cX12_hunts 201 = .ok (.iconst 1, 1) := by decide +kernel
theorem dX12_hunts_202 : decode cX12_hunts 202 = .ok (.iload 5, 2) := by decide +kernel
theorem dX12_hunts_204 : decode cX12_hunts 204 = .ok (.ishl, 1) := by decide +kernel
theorem dX12_hunts_205 : decode cX12_hunts 205 = .ok (.ior, 1) := by decide +kernel
theorem dX12_hunts_206 : decode cX12_hunts 206 = .ok (.invokevirtual 355, 3) := by decide +kernel
theorem dX12_hunts_209 : decode cX12_hunts 209 = .ok (.iinc 5 1, 3) := by decide +kernel
theorem dX12_hunts_212 : decode cX12_hunts 212 = .ok (.goto (-134), 3) := by decide +kernel
theorem dX12_hunts_215 : decode cX12_hunts 215 = .ok (.aload_n 0, 1) := by decide +kernel
theorem dX12_hunts_216 : decode cX12_hunts 216 = .ok (.getfield 77, 3) := by decide +kernel
theorem dX12_hunts_219 : decode cX12_hunts 219 = .ok (.iload_n 1, 1) := by decide +kernel
theorem dX12_hunts_220 : decode cX12_hunts 220 = .ok (.iconst (-1), 1) := by decide +kernel
theorem dX12_hunts_221 : decode cX12_hunts 221 = .ok (.iastore, 1) := by decide +kernel
theorem dX12_hunts_222 : decode cX12_hunts 222 = .ok (.aload_n 0, 1) := by decide +kernel
theorem dX12_hunts_223 : decode cX12_hunts 223 = .ok (.iload_n 1, 1) := by decide +kernel
theorem dX12_hunts_224 : decode cX12_hunts 224 = .ok (.iconst 1, 1) := by decide +kernel
theorem dX12_hunts_225 : decode cX12_hunts 225 = .ok (.iadd, 1) := by decide +kernel
theorem dX12_hunts_226 : decode cX12_hunts 226 = .ok (.iload_n 2, 1) := by decide +kernel
theorem dX12_hunts_227 : decode cX12_hunts 227 = .ok (.iload_n 3, 1) := by decide +kernel
theorem dX12_hunts_228 : decode cX12_hunts 228 = .ok (.iload 4, 2) := by decide +kernel
theorem dX12_hunts_230 : decode cX12_hunts 230 = .ok (.invokevirtual 355, 3) := by decide +kernel
theorem dX12_hunts_233 : decode cX12_hunts 233 = .ok (.return_, 1) := by decide +kernel
theorem dX12_laysHunt_0 : decode cX12_laysHunt 0 = .ok (.aload_n 0, 1) := by decide +kernel
theorem dX12_laysHunt_1 : decode cX12_laysHunt 1 = .ok (.iconst (-1), 1) := by decide +kernel
theorem dX12_laysHunt_2 : decode cX12_laysHunt 2 = .ok (.putfield 349, 3) := by decide +kernel
theorem dX12_laysHunt_5 : decode cX12_laysHunt 5 = .ok (.aload_n 0, 1) := by decide +kernel
theorem dX12_laysHunt_6 : decode cX12_laysHunt 6 = .ok (.iconst 0, 1) := by decide +kernel
theorem dX12_laysHunt_7 : decode cX12_laysHunt 7 = .ok (.putfield 352, 3) := by decide +kernel
theorem dX12_laysHunt_10 : decode cX12_laysHunt 10 = .ok (.aload_n 0, 1) := by decide +kernel
theorem dX12_laysHunt_11 : decode cX12_laysHunt 11 = .ok (.iconst 0, 1) := by decide +kernel
theorem dX12_laysHunt_12 : decode cX12_laysHunt 12 = .ok (.iconst 0, 1) := by decide +kernel
theorem dX12_laysHunt_13 : decode cX12_laysHunt 13 = .ok (.iconst 0, 1) := by decide +kernel
theorem dX12_laysHunt_14 : decode cX12_laysHunt 14 = .ok (.iconst 0, 1) := by decide +kernel
theorem dX12_laysHunt_15 : decode cX12_laysHunt 15 = .ok (.invokevirtual 355, 3) := by decide +kernel
theorem dX12_laysHunt_18 : decode cX12_laysHunt 18 = .ok (.return_, 1) := by decide +kernel
theorem dX12_hunt_0 : decode cX12_hunt 0 = .ok (.aload_n 0, 1) := by decide +kernel
theorem dX12_hunt_1 : decode cX12_hunt 1 = .ok (.iconst 0, 1) := by decide +kernel
theorem dX12_hunt_2 : decode cX12_hunt 2 = .ok (.putfield 93, 3) := by decide +kernel
theorem dX12_hunt_5 : decode cX12_hunt 5 = .ok (.aload_n 0, 1) := by decide +kernel
theorem dX12_hunt_6 : decode cX12_hunt 6 = .ok (.iload_n 1, 1) := by decide +kernel
theorem dX12_hunt_7 : decode cX12_hunt 7 = .ok (.iconst 0, 1) := by decide +kernel
theorem dX12_hunt_8 : decode cX12_hunt 8 = .ok (.iconst 1, 1) := by decide +kernel
theorem dX12_hunt_9 : decode cX12_hunt 9 = .ok (.invokestatic 127, 3) := by decide +kernel
theorem dX12_hunt_12 : decode cX12_hunt 12 = .ok (.ifCond .ne 7, 3) := by decide +kernel
theorem dX12_hunt_15 : decode cX12_hunt 15 = .ok (.iconst 1, 1) := by decide +kernel
theorem dX12_hunt_16 : decode cX12_hunt 16 = .ok (.goto 4, 3) := by decide +kernel
theorem dX12_hunt_19 : decode cX12_hunt 19 = .ok (.iconst 0, 1) := by decide +kernel
theorem dX12_hunt_20 : decode cX12_hunt 20 = .ok (.iconst 1, 1) := by decide +kernel
theorem dX12_hunt_21 : decode cX12_hunt 21 = .ok (.iconst 1, 1) := by decide +kernel
theorem dX12_hunt_22 : decode cX12_hunt 22 = .ok (.invokevirtual 172, 3) := by decide +kernel
theorem dX12_hunt_25 : decode cX12_hunt 25 = .ok (.ifCond .eq 5, 3) := by decide +kernel
theorem dX12_hunt_28 : decode cX12_hunt 28 = .ok (.iconst 0, 1) := by decide +kernel
theorem dX12_hunt_29 : decode cX12_hunt 29 = .ok (.ireturn, 1) := by decide +kernel
theorem dX12_hunt_30 : decode cX12_hunt 30 = .ok (.aload_n 0, 1) := by decide +kernel
theorem dX12_hunt_31 : decode cX12_hunt 31 = .ok (.invokevirtual 359, 3) := by decide +kernel
theorem dX12_hunt_34 : decode cX12_hunt 34 = .ok (.iload_n 1, 1) := by decide +kernel
theorem dX12_hunt_35 : decode cX12_hunt 35 = .ok (.ifCond .ne 10, 3) := by decide +kernel
theorem dX12_hunt_38 : decode cX12_hunt 38 = .ok (.aload_n 0, 1) := by decide +kernel
theorem dX12_hunt_39 : decode cX12_hunt 39 = .ok (.getfield 349, 3) := by decide +kernel
theorem dX12_hunt_42 : decode cX12_hunt 42 = .ok (.goto 7, 3) := by decide +kernel
theorem dX12_hunt_45 : decode cX12_hunt 45 = .ok (.aload_n 0, 1) := by decide +kernel
theorem dX12_hunt_46 : decode cX12_hunt 46 = .ok (.getfield 352, 3) := by decide +kernel
theorem dX12_hunt_49 : decode cX12_hunt 49 = .ok (.ireturn, 1) := by decide +kernel
theorem dX12_prey_0 : decode cX12_prey 0 = .ok (.aload_n 0, 1) := by decide +kernel
theorem dX12_prey_1 : decode cX12_prey 1 = .ok (.iconst 0, 1) := by decide +kernel
theorem dX12_prey_2 : decode cX12_prey 2 = .ok (.putfield 93, 3) := by decide +kernel
theorem dX12_prey_5 : decode cX12_prey 5 = .ok (.aload_n 0, 1) := by decide +kernel
theorem dX12_prey_6 : decode cX12_prey 6 = .ok (.aload_n 0, 1) := by decide +kernel
theorem dX12_prey_7 : decode cX12_prey 7 = .ok (.iconst 3, 1) := by decide +kernel
theorem dX12_prey_8 : decode cX12_prey 8 = .ok (.iload_n 1, 1) := by decide +kernel
theorem dX12_prey_9 : decode cX12_prey 9 = .ok (.invokevirtual 336, 3) := by decide +kernel
theorem dX12_prey_12 : decode cX12_prey 12 = .ok (.ifCond .ne 7, 3) := by decide +kernel
theorem dX12_prey_15 : decode cX12_prey 15 = .ok (.iconst 1, 1) := by decide +kernel
theorem dX12_prey_16 : decode cX12_prey 16 = .ok (.goto 4, 3) := by decide +kernel
theorem dX12_prey_19 : decode cX12_prey 19 = .ok (.iconst 0, 1) := by decide +kernel
theorem dX12_prey_20 : decode cX12_prey 20 = .ok (.iconst 1, 1) := by decide +kernel
theorem dX12_prey_21 : decode cX12_prey 21 = .ok (.iconst 0, 1) := by decide +kernel
theorem dX12_prey_22 : decode cX12_prey 22 = .ok (.invokevirtual 172, 3) := by decide +kernel
theorem dX12_prey_25 : decode cX12_prey 25 = .ok (.ifCond .eq 5, 3) := by decide +kernel
theorem dX12_prey_28 : decode cX12_prey 28 = .ok (.iconst 0, 1) := by decide +kernel
theorem dX12_prey_29 : decode cX12_prey 29 = .ok (.ireturn, 1) := by decide +kernel
theorem dX12_prey_30 : decode cX12_prey 30 = .ok (.aload_n 0, 1) := by decide +kernel
theorem dX12_prey_31 : decode cX12_prey 31 = .ok (.invokevirtual 359, 3) := by decide +kernel
theorem dX12_prey_34 : decode cX12_prey 34 = .ok (.aload_n 0, 1) := by decide +kernel
theorem dX12_prey_35 : decode cX12_prey 35 = .ok (.getfield 80, 3) := by decide +kernel
theorem dX12_prey_38 : decode cX12_prey 38 = .ok (.iload_n 1, 1) := by decide +kernel
theorem dX12_prey_39 : decode cX12_prey 39 = .ok (.iaload, 1) := by decide +kernel
theorem dX12_prey_40 : decode cX12_prey 40 = .ok (.ireturn, 1) := by decide +kernel
theorem dX12_sums_0 : decode cX12_sums 0 = .ok (.aload_n 0, 1) := by decide +kernel
theorem dX12_sums_1 : decode cX12_sums 1 = .ok (.iconst 0, 1) := by decide +kernel
theorem dX12_sums_2 : decode cX12_sums 2 = .ok (.putfield 93, 3) := by decide +kernel
theorem dX12_sums_5 : decode cX12_sums 5 = .ok (.aload_n 0, 1) := by decide +kernel
theorem dX12_sums_6 : decode cX12_sums 6 = .ok (.aload_n 0, 1) := by decide +kernel
theorem dX12_sums_7 : decode cX12_sums 7 = .ok (.iconst 0, 1) := by decide +kernel
theorem dX12_sums_8 : decode cX12_sums 8 = .ok (.iload_n 1, 1) := by decide +kernel
theorem dX12_sums_9 : decode cX12_sums 9 = .ok (.invokevirtual 336, 3) := by decide +kernel
theorem dX12_sums_12 : decode cX12_sums 12 = .ok (.ifCond .ne 7, 3) := by decide +kernel
theorem dX12_sums_15 : decode cX12_sums 15 = .ok (.iconst 1, 1) := by decide +kernel
theorem dX12_sums_16 : decode cX12_sums 16 = .ok (.goto 4, 3) := by decide +kernel
theorem dX12_sums_19 : decode cX12_sums 19 = .ok (.iconst 0, 1) := by decide +kernel
theorem dX12_sums_20 : decode cX12_sums 20 = .ok (.iconst 1, 1) := by decide +kernel
theorem dX12_sums_21 : decode cX12_sums 21 = .ok (.iconst 0, 1) := by decide +kernel
theorem dX12_sums_22 : decode cX12_sums 22 = .ok (.invokevirtual 172, 3) := by decide +kernel
theorem dX12_sums_25 : decode cX12_sums 25 = .ok (.ifCond .ne 28, 3) := by decide +kernel
theorem dX12_sums_28 : decode cX12_sums 28 = .ok (.aload_n 0, 1) := by decide +kernel
theorem dX12_sums_29 : decode cX12_sums 29 = .ok (.iload_n 2, 1) := by decide +kernel
theorem dX12_sums_30 : decode cX12_sums 30 = .ok (.iconst 0, 1) := by decide +kernel
theorem dX12_sums_31 : decode cX12_sums 31 = .ok (.sipush 999, 3) := by decide +kernel
theorem dX12_sums_34 : decode cX12_sums 34 = .ok (.invokestatic 127, 3) := by decide +kernel
theorem dX12_sums_37 : decode cX12_sums 37 = .ok (.ifCond .ne 7, 3) := by decide +kernel
theorem dX12_sums_40 : decode cX12_sums 40 = .ok (.iconst 1, 1) := by decide +kernel
theorem dX12_sums_41 : decode cX12_sums 41 = .ok (.goto 4, 3) := by decide +kernel
theorem dX12_sums_44 : decode cX12_sums 44 = .ok (.iconst 0, 1) := by decide +kernel
theorem dX12_sums_45 : decode cX12_sums 45 = .ok (.iconst 2, 1) := by decide +kernel
theorem dX12_sums_46 : decode cX12_sums 46 = .ok (.iconst 1, 1) := by decide +kernel
theorem dX12_sums_47 : decode cX12_sums 47 = .ok (.invokevirtual 172, 3) := by decide +kernel
theorem dX12_sums_50 : decode cX12_sums 50 = .ok (.ifCond .eq 5, 3) := by decide +kernel
theorem dX12_sums_53 : decode cX12_sums 53 = .ok (.iconst 0, 1) := by decide +kernel
theorem dX12_sums_54 : decode cX12_sums 54 = .ok (.ireturn, 1) := by decide +kernel
theorem dX12_sums_55 : decode cX12_sums 55 = .ok (.iconst 0, 1) := by decide +kernel
theorem dX12_sums_56 : decode cX12_sums 56 = .ok (.istore_n 3, 1) := by decide +kernel
theorem dX12_sums_57 : decode cX12_sums 57 = .ok (.iconst 0, 1) := by decide +kernel
theorem dX12_sums_58 : decode cX12_sums 58 = .ok (.istore 4, 2) := by decide +kernel
theorem dX12_sums_60 : decode cX12_sums 60 = .ok (.iload 4, 2) := by decide +kernel
theorem dX12_sums_62 : decode cX12_sums 62 = .ok (.iconst 1, 1) := by decide +kernel
theorem dX12_sums_63 : decode cX12_sums 63 = .ok (.aload_n 0, 1) := by decide +kernel
theorem dX12_sums_64 : decode cX12_sums 64 = .ok (.getfield 23, 3) := by decide +kernel
theorem dX12_sums_67 : decode cX12_sums 67 = .ok (.iconst 2, 1) := by decide +kernel
theorem dX12_sums_68 : decode cX12_sums 68 = .ok (.iaload, 1) := by decide +kernel
theorem dX12_sums_69 : decode cX12_sums 69 = .ok (.ishl, 1) := by decide +kernel
theorem dX12_sums_70 : decode cX12_sums 70 = .ok (.if_icmp .ge 106, 3) := by decide +kernel
theorem dX12_sums_73 : decode cX12_sums 73 = .ok (.iconst 0, 1) := by decide +kernel
theorem dX12_sums_74 : decode cX12_sums 74 = .ok (.istore 5, 2) := by decide +kernel
theorem dX12_sums_76 : decode cX12_sums 76 = .ok (.iconst 0, 1) := by decide +kernel
theorem dX12_sums_77 : decode cX12_sums 77 = .ok (.istore 6, 2) := by decide +kernel
theorem dX12_sums_79 : decode cX12_sums 79 = .ok (.iload 6, 2) := by decide +kernel
theorem dX12_sums_81 : decode cX12_sums 81 = .ok (.aload_n 0, 1) := by decide +kernel
theorem dX12_sums_82 : decode cX12_sums 82 = .ok (.getfield 23, 3) := by decide +kernel
theorem dX12_sums_85 : decode cX12_sums 85 = .ok (.iconst 2, 1) := by decide +kernel
theorem dX12_sums_86 : decode cX12_sums 86 = .ok (.iaload, 1) := by decide +kernel
theorem dX12_sums_87 : decode cX12_sums 87 = .ok (.if_icmp .ge 69, 3) := by decide +kernel
theorem dX12_sums_90 : decode cX12_sums 90 = .ok (.iload 5, 2) := by decide +kernel
theorem dX12_sums_92 : decode cX12_sums 92 = .ok (.iload 4, 2) := by decide +kernel
theorem dX12_sums_94 : decode cX12_sums 94 = .ok (.iload 6, 2) := by decide +kernel
theorem dX12_sums_96 : decode cX12_sums 96 = .ok (.invokestatic 251, 3) := by decide +kernel
theorem dX12_sums_99 : decode cX12_sums 99 = .ok (.ifCond .ne 7, 3) := by decide +kernel
theorem dX12_sums_102 : decode cX12_sums 102 = .ok (.iconst 0, 1) := by decide +kernel
theorem dX12_sums_103 : decode cX12_sums 103 = .ok (.goto 44, 3) := by decide +kernel
theorem dX12_sums_106 : decode cX12_sums 106 = .ok (.aload_n 0, 1) := by decide +kernel
theorem dX12_sums_107 : decode cX12_sums 107 = .ok (.getfield 55, 3) := by decide +kernel
theorem dX12_sums_110 : decode cX12_sums 110 = .ok (.iload 6, 2) := by decide +kernel
theorem dX12_sums_112 : decode cX12_sums 112 = .ok (.invokestatic 275, 3) := by decide +kernel
theorem dX12_sums_115 : decode cX12_sums 115 = .ok (.ifCond .eq 29, 3) := by decide +kernel
theorem dX12_sums_118 : decode cX12_sums 118 = .ok (.aload_n 0, 1) := by decide +kernel
theorem dX12_sums_119 : decode cX12_sums 119 = .ok (.getfield 55, 3) := by decide +kernel
theorem dX12_sums_122 : decode cX12_sums 122 = .ok (.iconst 0, 1) := by decide +kernel
theorem dX12_sums_123 : decode cX12_sums 123 = .ok (.iload 6, 2) := by decide +kernel
theorem dX12_sums_125 : decode cX12_sums 125 = .ok (.iadd, 1) := by decide +kernel
theorem dX12_sums_126 : decode cX12_sums 126 = .ok (.iaload, 1) := by decide +kernel
theorem dX12_sums_127 : decode cX12_sums 127 = .ok (.iload_n 1, 1) := by decide +kernel
theorem dX12_sums_128 : decode cX12_sums 128 = .ok (.if_icmp .ne 16, 3) := by decide +kernel
theorem dX12_sums_131 : decode cX12_sums 131 = .ok (.aload_n 0, 1) := by decide +kernel
theorem dX12_sums_132 : decode cX12_sums 132 = .ok (.getfield 55, 3) := by decide +kernel
theorem dX12_sums_135 : decode cX12_sums 135 = .ok (.bipush 8, 2) := by decide +kernel
theorem dX12_sums_137 : decode cX12_sums 137 = .ok (.iload 6, 2) := by decide +kernel
theorem dX12_sums_139 : decode cX12_sums 139 = .ok (.iadd, 1) := by decide +kernel
theorem dX12_sums_140 : decode cX12_sums 140 = .ok (.iaload, 1) := by decide +kernel
theorem dX12_sums_141 : decode cX12_sums 141 = .ok (.goto 6, 3) := by decide +kernel
theorem dX12_sums_144 : decode cX12_sums 144 = .ok (.sipush 1000, 3) := by decide +kernel
theorem dX12_sums_147 : decode cX12_sums 147 = .ok (.iadd, 1) := by decide +kernel
theorem dX12_sums_148 : decode cX12_sums 148 = .ok (.istore 5, 2) := by decide +kernel
theorem dX12_sums_150 : decode cX12_sums 150 = .ok (.iinc 6 1, 3) := by decide +kernel
theorem dX12_sums_153 : decode cX12_sums 153 = .ok (.goto (-74), 3) := by decide +kernel
theorem dX12_sums_156 : decode cX12_sums 156 = .ok (.iload_n 3, 1) := by decide +kernel
theorem dX12_sums_157 : decode cX12_sums 157 = .ok (.iload 5, 2) := by decide +kernel
theorem dX12_sums_159 : decode cX12_sums 159 = .ok (.iload_n 2, 1) := by decide +kernel
theorem dX12_sums_160 : decode cX12_sums 160 = .ok (.if_icmp .ne 7, 3) := by decide +kernel
theorem dX12_sums_163 : decode cX12_sums 163 = .ok (.iconst 1, 1) := by decide +kernel
theorem dX12_sums_164 : decode cX12_sums 164 = .ok (.goto 4, 3) := by decide +kernel
theorem dX12_sums_167 : decode cX12_sums 167 = .ok (.iconst 0, 1) := by decide +kernel
theorem dX12_sums_168 : decode cX12_sums 168 = .ok (.iadd, 1) := by decide +kernel
theorem dX12_sums_169 : decode cX12_sums 169 = .ok (.istore_n 3, 1) := by decide +kernel
theorem dX12_sums_170 : decode cX12_sums 170 = .ok (.iinc 4 1, 3) := by decide +kernel
theorem dX12_sums_173 : decode cX12_sums 173 = .ok (.goto (-113), 3) := by decide +kernel
theorem dX12_sums_176 : decode cX12_sums 176 = .ok (.iload_n 3, 1) := by decide +kernel
theorem dX12_sums_177 : decode cX12_sums 177 = .ok (.ireturn, 1) := by decide +kernel
theorem dX12_isSo_0 : decode cX12_isSo 0 = .ok (.aload_n 0, 1) := by decide +kernel
theorem dX12_isSo_1 : decode cX12_isSo 1 = .ok (.getfield 55, 3) := by decide +kernel
theorem dX12_isSo_4 : decode cX12_isSo 4 = .ok (.aload_n 0, 1) := by decide +kernel
theorem dX12_isSo_5 : decode cX12_isSo 5 = .ok (.getfield 58, 3) := by decide +kernel
theorem dX12_isSo_8 : decode cX12_isSo 8 = .ok (.invokestatic 328, 3) := by decide +kernel
theorem dX12_isSo_11 : decode cX12_isSo 11 = .ok (.aload_n 0, 1) := by decide +kernel
theorem dX12_isSo_12 : decode cX12_isSo 12 = .ok (.getfield 58, 3) := by decide +kernel
theorem dX12_isSo_15 : decode cX12_isSo 15 = .ok (.iconst 0, 1) := by decide +kernel
theorem dX12_isSo_16 : decode cX12_isSo 16 = .ok (.iload_n 1, 1) := by decide +kernel
theorem dX12_isSo_17 : decode cX12_isSo 17 = .ok (.iadd, 1) := by decide +kernel
theorem dX12_isSo_18 : decode cX12_isSo 18 = .ok (.iload_n 2, 1) := by decide +kernel
theorem dX12_isSo_19 : decode cX12_isSo 19 = .ok (.iastore, 1) := by decide +kernel
theorem dX12_isSo_20 : decode cX12_isSo 20 = .ok (.aload_n 0, 1) := by decide +kernel
theorem dX12_isSo_21 : decode cX12_isSo 21 = .ok (.aload_n 0, 1) := by decide +kernel
theorem dX12_isSo_22 : decode cX12_isSo 22 = .ok (.getfield 58, 3) := by decide +kernel
theorem dX12_isSo_25 : decode cX12_isSo 25 = .ok (.invokevirtual 311, 3) := by decide +kernel
theorem dX12_isSo_28 : decode cX12_isSo 28 = .ok (.iconst 0, 1) := by decide +kernel
theorem dX12_isSo_29 : decode cX12_isSo 29 = .ok (.istore_n 3, 1) := by decide +kernel
theorem dX12_isSo_30 : decode cX12_isSo 30 = .ok (.iload_n 3, 1) := by decide +kernel
theorem dX12_isSo_31 : decode cX12_isSo 31 = .ok (.aload_n 0, 1) := by decide +kernel
theorem dX12_isSo_32 : decode cX12_isSo 32 = .ok (.getfield 192, 3) := by decide +kernel
theorem dX12_isSo_35 : decode cX12_isSo 35 = .ok (.if_icmp .ge 55, 3) := by decide +kernel
theorem dX12_isSo_38 : decode cX12_isSo 38 = .ok (.aload_n 0, 1) := by decide +kernel
theorem dX12_isSo_39 : decode cX12_isSo 39 = .ok (.getfield 58, 3) := by decide +kernel
theorem dX12_isSo_42 : decode cX12_isSo 42 = .ok (.bipush 37, 2) := by decide +kernel
theorem dX12_isSo_44 : decode cX12_isSo 44 = .ok (.aload_n 0, 1) := by decide +kernel
theorem dX12_isSo_45 : decode cX12_isSo 45 = .ok (.getfield 40, 3) := by decide +kernel
theorem dX12_isSo_48 : decode cX12_isSo 48 = .ok (.iload_n 3, 1) := by decide +kernel
theorem dX12_isSo_49 : decode cX12_isSo 49 = .ok (.aaload, 1) := by decide +kernel
theorem dX12_isSo_50 : decode cX12_isSo 50 = .ok (.iconst 0, 1) := by decide +kernel
theorem dX12_isSo_51 : decode cX12_isSo 51 = .ok (.iaload, 1) := by decide +kernel
theorem dX12_isSo_52 : decode cX12_isSo 52 = .ok (.iadd, 1) := by decide +kernel
theorem dX12_isSo_53 : decode cX12_isSo 53 = .ok (.iaload, 1) := by decide +kernel
theorem dX12_isSo_54 : decode cX12_isSo 54 = .ok (.aload_n 0, 1) := by decide +kernel
theorem dX12_isSo_55 : decode cX12_isSo 55 = .ok (.getfield 55, 3) := by decide +kernel
theorem dX12_isSo_58 : decode cX12_isSo 58 = .ok (.bipush 37, 2) := by decide +kernel
theorem dX12_isSo_60 : decode cX12_isSo 60 = .ok (.aload_n 0, 1) := by decide +kernel
theorem dX12_isSo_61 : decode cX12_isSo 61 = .ok (.getfield 40, 3) := by decide +kernel
theorem dX12_isSo_64 : decode cX12_isSo 64 = .ok (.iload_n 3, 1) := by decide +kernel
theorem dX12_isSo_65 : decode cX12_isSo 65 = .ok (.aaload, 1) := by decide +kernel
theorem dX12_isSo_66 : decode cX12_isSo 66 = .ok (.iconst 0, 1) := by decide +kernel
theorem dX12_isSo_67 : decode cX12_isSo 67 = .ok (.iaload, 1) := by decide +kernel
theorem dX12_isSo_68 : decode cX12_isSo 68 = .ok (.iadd, 1) := by decide +kernel
theorem dX12_isSo_69 : decode cX12_isSo 69 = .ok (.iaload, 1) := by decide +kernel
theorem dX12_isSo_70 : decode cX12_isSo 70 = .ok (.isub, 1) := by decide +kernel
theorem dX12_isSo_71 : decode cX12_isSo 71 = .ok (.aload_n 0, 1) := by decide +kernel
theorem dX12_isSo_72 : decode cX12_isSo 72 = .ok (.getfield 40, 3) := by decide +kernel
theorem dX12_isSo_75 : decode cX12_isSo 75 = .ok (.iload_n 3, 1) := by decide +kernel
theorem dX12_isSo_76 : decode cX12_isSo 76 = .ok (.aaload, 1) := by decide +kernel
theorem dX12_isSo_77 : decode cX12_isSo 77 = .ok (.iconst 1, 1) := by decide +kernel
theorem dX12_isSo_78 : decode cX12_isSo 78 = .ok (.iaload, 1) := by decide +kernel
theorem dX12_isSo_79 : decode cX12_isSo 79 = .ok (.if_icmp .eq 5, 3) := by decide +kernel
theorem dX12_isSo_82 : decode cX12_isSo 82 = .ok (.iconst 0, 1) := by decide +kernel
theorem dX12_isSo_83 : decode cX12_isSo 83 = .ok (.ireturn, 1) := by decide +kernel
theorem dX12_isSo_84 : decode cX12_isSo 84 = .ok (.iinc 3 1, 3) := by decide +kernel
theorem dX12_isSo_87 : decode cX12_isSo 87 = .ok (.goto (-57), 3) := by decide +kernel
theorem dX12_isSo_90 : decode cX12_isSo 90 = .ok (.iconst 1, 1) := by decide +kernel
theorem dX12_isSo_91 : decode cX12_isSo 91 = .ok (.ireturn, 1) := by decide +kernel
theorem dX12_fits_0 : decode cX12_fits 0 = .ok (.aload_n 0, 1) := by decide +kernel
theorem dX12_fits_1 : decode cX12_fits 1 = .ok (.iconst 0, 1) := by decide +kernel
theorem dX12_fits_2 : decode cX12_fits 2 = .ok (.putfield 93, 3) := by decide +kernel
theorem dX12_fits_5 : decode cX12_fits 5 = .ok (.aload_n 0, 1) := by decide +kernel
theorem dX12_fits_6 : decode cX12_fits 6 = .ok (.iload_n 1, 1) := by decide +kernel
theorem dX12_fits_7 : decode cX12_fits 7 = .ok (.iconst 0, 1) := by decide +kernel
theorem dX12_fits_8 : decode cX12_fits 8 = .ok (.iconst 1, 1) := by decide +kernel
theorem dX12_fits_9 : decode cX12_fits 9 = .ok (.invokestatic 127, 3) := by decide +kernel
theorem dX12_fits_12 : decode cX12_fits 12 = .ok (.ifCond .ne 7, 3) := by decide +kernel
theorem dX12_fits_15 : decode cX12_fits 15 = .ok (.iconst 1, 1) := by decide +kernel
theorem dX12_fits_16 : decode cX12_fits 16 = .ok (.goto 4, 3) := by decide +kernel
theorem dX12_fits_19 : decode cX12_fits 19 = .ok (.iconst 0, 1) := by decide +kernel
theorem dX12_fits_20 : decode cX12_fits 20 = .ok (.iconst 1, 1) := by decide +kernel
theorem dX12_fits_21 : decode cX12_fits 21 = .ok (.iconst 1, 1) := by decide +kernel
theorem dX12_fits_22 : decode cX12_fits 22 = .ok (.invokevirtual 172, 3) := by decide +kernel
theorem dX12_fits_25 : decode cX12_fits 25 = .ok (.ifCond .eq 5, 3) := by decide +kernel
theorem dX12_fits_28 : decode cX12_fits 28 = .ok (.iconst 0, 1) := by decide +kernel
theorem dX12_fits_29 : decode cX12_fits 29 = .ok (.ireturn, 1) := by decide +kernel
theorem dX12_fits_30 : decode cX12_fits 30 = .ok (.iconst 0, 1) := by decide +kernel
theorem dX12_fits_31 : decode cX12_fits 31 = .ok (.istore_n 2, 1) := by decide +kernel
theorem dX12_fits_32 : decode cX12_fits 32 = .ok (.iconst (-1), 1) := by decide +kernel
theorem dX12_fits_33 : decode cX12_fits 33 = .ok (.istore_n 3, 1) := by decide +kernel
theorem dX12_fits_34 : decode cX12_fits 34 = .ok (.iconst 0, 1) := by decide +kernel
theorem dX12_fits_35 : decode cX12_fits 35 = .ok (.istore 4, 2) := by decide +kernel
theorem dX12_fits_37 : decode cX12_fits 37 = .ok (.iload 4, 2) := by decide +kernel
theorem dX12_fits_39 : decode cX12_fits 39 = .ok (.aload_n 0, 1) := by decide +kernel
theorem dX12_fits_40 : decode cX12_fits 40 = .ok (.getfield 23, 3) := by decide +kernel
theorem dX12_fits_43 : decode cX12_fits 43 = .ok (.iconst 2, 1) := by decide +kernel
theorem dX12_fits_44 : decode cX12_fits 44 = .ok (.iaload, 1) := by decide +kernel
theorem dX12_fits_45 : decode cX12_fits 45 = .ok (.if_icmp .ge 75, 3) := by decide +kernel
theorem dX12_fits_48 : decode cX12_fits 48 = .ok (.iconst 0, 1) := by decide +kernel
theorem dX12_fits_49 : decode cX12_fits 49 = .ok (.istore 5, 2) := by decide +kernel
theorem dX12_fits_51 : decode cX12_fits 51 = .ok (.iload 5, 2) := by decide +kernel
theorem dX12_fits_53 : decode cX12_fits 53 = .ok (.aload_n 0, 1) := by decide +kernel
theorem dX12_fits_54 : decode cX12_fits 54 = .ok (.getfield 23, 3) := by decide +kernel
theorem dX12_fits_57 : decode cX12_fits 57 = .ok (.iconst 0, 1) := by decide +kernel
theorem dX12_fits_58 : decode cX12_fits 58 = .ok (.iaload, 1) := by decide +kernel
theorem dX12_fits_59 : decode cX12_fits 59 = .ok (.if_icmp .ge 55, 3) := by decide +kernel
theorem dX12_fits_62 : decode cX12_fits 62 = .ok (.aload_n 0, 1) := by decide +kernel
theorem dX12_fits_63 : decode cX12_fits 63 = .ok (.getfield 55, 3) := by decide +kernel
theorem dX12_fits_66 : decode cX12_fits 66 = .ok (.iload 4, 2) := by decide +kernel
theorem dX12_fits_68 : decode cX12_fits 68 = .ok (.invokestatic 275, 3) := by decide +kernel
theorem dX12_fits_71 : decode cX12_fits 71 = .ok (.ifCond .eq 37, 3) := by decide +kernel
theorem dX12_fits_74 : decode cX12_fits 74 = .ok (.aload_n 0, 1) := by decide +kernel
theorem dX12_fits_75 : decode cX12_fits 75 = .ok (.iload 4, 2) := by decide +kernel
theorem dX12_fits_77 : decode cX12_fits 77 = .ok (.iload 5, 2) := by decide +kernel
theorem dX12_fits_79 : decode cX12_fits 79 = .ok (.invokevirtual 362, 3) := by decide +kernel
theorem dX12_fits_82 : decode cX12_fits 82 = .ok (.ifCond .ne 6, 3) := by decide +kernel
theorem dX12_fits_85 : decode cX12_fits 85 = .ok (.goto 23, 3) := by decide +kernel
theorem dX12_fits_88 : decode cX12_fits 88 = .ok (.iload_n 2, 1) := by decide +kernel
theorem dX12_fits_89 : decode cX12_fits 89 = .ok (.ifCond .ne 14, 3) := by decide +kernel
theorem dX12_fits_92 : decode cX12_fits 92 = .ok (.bipush 10, 2) := by decide +kernel
theorem dX12_fits_94 : decode cX12_fits 94 = .ok (.iload 4, 2) := by decide +kernel
theorem dX12_fits_96 : decode cX12_fits 96 = .ok (.imul, 1) := by decide +kernel
theorem dX12_fits_97 : decode cX12_fits 97 = .ok (.iload 5, 2) := by decide +kernel
theorem dX12_fits_99 : decode cX12_fits 99 = .ok (.iadd, 1) := by decide +kernel
theorem dX12_fits_100 : decode cX12_fits 100 = .ok (.goto 4, 3) := by decide +kernel
theorem dX12_fits_103 : decode cX12_fits 103 = .ok (.iload_n 3, 1) := by decide +kernel
theorem dX12_fits_104 : decode cX12_fits 104 = .ok (.istore_n 3, 1) := by decide +kernel
theorem dX12_fits_105 : decode cX12_fits 105 = .ok (.iinc 2 1, 3) := by decide +kernel
theorem dX12_fits_108 : decode cX12_fits 108 = .ok (.iinc 5 1, 3) := by decide +kernel
theorem dX12_fits_111 : decode cX12_fits 111 = .ok (.goto (-60), 3) := by decide +kernel
theorem dX12_fits_114 : decode cX12_fits 114 = .ok (.iinc 4 1, 3) := by decide +kernel
theorem dX12_fits_117 : decode cX12_fits 117 = .ok (.goto (-80), 3) := by decide +kernel
theorem dX12_fits_120 : decode cX12_fits 120 = .ok (.iload_n 1, 1) := by decide +kernel
theorem dX12_fits_121 : decode cX12_fits 121 = .ok (.ifCond .ne 7, 3) := by decide +kernel
theorem dX12_fits_124 : decode cX12_fits 124 = .ok (.iload_n 2, 1) := by decide +kernel
theorem dX12_fits_125 : decode cX12_fits 125 = .ok (.goto 4, 3) := by decide +kernel
theorem dX12_fits_128 : decode cX12_fits 128 = .ok (.iload_n 3, 1) := by decide +kernel
theorem dX12_fits_129 : decode cX12_fits 129 = .ok (.ireturn, 1) := by decide +kernel
theorem dX12_isTold_0 : decode cX12_isTold 0 = .ok (.iconst 0, 1) := by decide +kernel
theorem dX12_isTold_1 : decode cX12_isTold 1 = .ok (.istore_n 2, 1) := by decide +kernel
theorem dX12_isTold_2 : decode cX12_isTold 2 = .ok (.iload_n 2, 1) := by decide +kernel
theorem dX12_isTold_3 : decode cX12_isTold 3 = .ok (.aload_n 0, 1) := by decide +kernel
theorem dX12_isTold_4 : decode cX12_isTold 4 = .ok (.getfield 192, 3) := by decide +kernel
theorem dX12_isTold_7 : decode cX12_isTold 7 = .ok (.if_icmp .ge 23, 3) := by decide +kernel
theorem dX12_isTold_10 : decode cX12_isTold 10 = .ok (.aload_n 0, 1) := by decide +kernel
theorem dX12_isTold_11 : decode cX12_isTold 11 = .ok (.getfield 40, 3) := by decide +kernel
theorem dX12_isTold_14 : decode cX12_isTold 14 = .ok (.iload_n 2, 1) := by decide +kernel
theorem dX12_isTold_15 : decode cX12_isTold 15 = .ok (.aaload, 1) := by decide +kernel
theorem dX12_isTold_16 : decode cX12_isTold 16 = .ok (.iconst 0, 1) := by decide +kernel
theorem dX12_isTold_17 : decode cX12_isTold 17 = .ok (.iaload, 1) := by decide +kernel
theorem dX12_isTold_18 : decode cX12_isTold 18 = .ok (.iload_n 1, 1) := by decide +kernel
theorem dX12_isTold_19 : decode cX12_isTold 19 = .ok (.if_icmp .ne 5, 3) := by decide +kernel
theorem dX12_isTold_22 : decode cX12_isTold 22 = .ok (.iconst 1, 1) := by decide +kernel
theorem dX12_isTold_23 : decode cX12_isTold 23 = .ok (.ireturn, 1) := by decide +kernel
theorem dX12_isTold_24 : decode cX12_isTold 24 = .ok (.iinc 2 1, 3) := by decide +kernel
theorem dX12_isTold_27 : decode cX12_isTold 27 = .ok (.goto (-25), 3) := by decide +kernel
theorem dX12_isTold_30 : decode cX12_isTold 30 = .ok (.iconst 0, 1) := by decide +kernel
theorem dX12_isTold_31 : decode cX12_isTold 31 = .ok (.ireturn, 1) := by decide +kernel
theorem dX12_worstAt_0 : decode cX12_worstAt 0 = .ok (.iconst 0, 1) := by decide +kernel
theorem dX12_worstAt_1 : decode cX12_worstAt 1 = .ok (.istore_n 2, 1) := by decide +kernel
theorem dX12_worstAt_2 : decode cX12_worstAt 2 = .ok (.iconst 0, 1) := by decide +kernel
theorem dX12_worstAt_3 : decode cX12_worstAt 3 = .ok (.istore_n 3, 1) := by decide +kernel
theorem dX12_worstAt_4 : decode cX12_worstAt 4 = .ok (.iconst 0, 1) := by decide +kernel
theorem dX12_worstAt_5 : decode cX12_worstAt 5 = .ok (.istore 4, 2) := by decide +kernel
theorem dX12_worstAt_7 : decode cX12_worstAt 7 = .ok (.iload 4, 2) := by decide +kernel
theorem dX12_worstAt_9 : decode cX12_worstAt 9 = .ok (.aload_n 0, 1) := by decide +kernel
theorem dX12_worstAt_10 : decode cX12_worstAt 10 = .ok (.getfield 23, 3) := by decide +kernel
theorem dX12_worstAt_13 : decode cX12_worstAt 13 = .ok (.iconst 2, 1) := by decide +kernel
theorem dX12_worstAt_14 : decode cX12_worstAt 14 = .ok (.iaload, 1) := by decide +kernel
theorem dX12_worstAt_15 : decode cX12_worstAt 15 = .ok (.if_icmp .ge 80, 3) := by decide +kernel
theorem dX12_worstAt_18 : decode cX12_worstAt 18 = .ok (.iconst 0, 1) := by decide +kernel
theorem dX12_worstAt_19 : decode cX12_worstAt 19 = .ok (.istore 5, 2) := by decide +kernel
theorem dX12_worstAt_21 : decode cX12_worstAt 21 = .ok (.iload 5, 2) := by decide +kernel
theorem dX12_worstAt_23 : decode cX12_worstAt 23 = .ok (.aload_n 0, 1) := by decide +kernel
theorem dX12_worstAt_24 : decode cX12_worstAt 24 = .ok (.getfield 23, 3) := by decide +kernel
theorem dX12_worstAt_27 : decode cX12_worstAt 27 = .ok (.iconst 0, 1) := by decide +kernel
theorem dX12_worstAt_28 : decode cX12_worstAt 28 = .ok (.iaload, 1) := by decide +kernel
theorem dX12_worstAt_29 : decode cX12_worstAt 29 = .ok (.if_icmp .ge 60, 3) := by decide +kernel
theorem dX12_worstAt_32 : decode cX12_worstAt 32 = .ok (.aload_n 0, 1) := by decide +kernel
theorem dX12_worstAt_33 : decode cX12_worstAt 33 = .ok (.getfield 55, 3) := by decide +kernel
theorem dX12_worstAt_36 : decode cX12_worstAt 36 = .ok (.iload 4, 2) := by decide +kernel
theorem dX12_worstAt_38 : decode cX12_worstAt 38 = .ok (.invokestatic 275, 3) := by decide +kernel
theorem dX12_worstAt_41 : decode cX12_worstAt 41 = .ok (.ifCond .eq 42, 3) := by decide +kernel
theorem dX12_worstAt_44 : decode cX12_worstAt 44 = .ok (.aload_n 0, 1) := by decide +kernel
theorem dX12_worstAt_45 : decode cX12_worstAt 45 = .ok (.iload 4, 2) := by decide +kernel
theorem dX12_worstAt_47 : decode cX12_worstAt 47 = .ok (.iload 5, 2) := by decide +kernel
theorem dX12_worstAt_49 : decode cX12_worstAt 49 = .ok (.invokevirtual 362, 3) := by decide +kernel
theorem dX12_worstAt_52 : decode cX12_worstAt 52 = .ok (.ifCond .ne 6, 3) := by decide +kernel
theorem dX12_worstAt_55 : decode cX12_worstAt 55 = .ok (.goto 28, 3) := by decide +kernel
theorem dX12_worstAt_58 : decode cX12_worstAt 58 = .ok (.iinc 3 1, 3) := by decide +kernel
theorem dX12_worstAt_61 : decode cX12_worstAt 61 = .ok (.iload_n 2, 1) := by decide +kernel
theorem dX12_worstAt_62 : decode cX12_worstAt 62 = .ok (.aload_n 0, 1) := by decide +kernel
theorem dX12_worstAt_63 : decode cX12_worstAt 63 = .ok (.getfield 58, 3) := by decide +kernel
theorem dX12_worstAt_66 : decode cX12_worstAt 66 = .ok (.bipush 37, 2) := by decide +kernel
theorem dX12_worstAt_68 : decode cX12_worstAt 68 = .ok (.iload_n 1, 1) := by decide +kernel
theorem dX12_worstAt_69 : decode cX12_worstAt 69 = .ok (.iadd, 1) := by decide +kernel
theorem dX12_worstAt_70 : decode cX12_worstAt 70 = .ok (.iaload, 1) := by decide +kernel
theorem dX12_worstAt_71 : decode cX12_worstAt 71 = .ok (.aload_n 0, 1) := by decide +kernel
theorem dX12_worstAt_72 : decode cX12_worstAt 72 = .ok (.getfield 55, 3) := by decide +kernel
theorem dX12_worstAt_75 : decode cX12_worstAt 75 = .ok (.bipush 37, 2) := by decide +kernel
theorem dX12_worstAt_77 : decode cX12_worstAt 77 = .ok (.iload_n 1, 1) := by decide +kernel
theorem dX12_worstAt_78 : decode cX12_worstAt 78 = .ok (.iadd, 1) := by decide +kernel
theorem dX12_worstAt_79 : decode cX12_worstAt 79 = .ok (.iaload, 1) := by decide +kernel
theorem dX12_worstAt_80 : decode cX12_worstAt 80 = .ok (.isub, 1) := by decide +kernel
theorem dX12_worstAt_81 : decode cX12_worstAt 81 = .ok (.iadd, 1) := by decide +kernel
theorem dX12_worstAt_82 : decode cX12_worstAt 82 = .ok (.istore_n 2, 1) := by decide +kernel
theorem dX12_worstAt_83 : decode cX12_worstAt 83 = .ok (.iinc 5 1, 3) := by decide +kernel
theorem dX12_worstAt_86 : decode cX12_worstAt 86 = .ok (.goto (-65), 3) := by decide +kernel
theorem dX12_worstAt_89 : decode cX12_worstAt 89 = .ok (.iinc 4 1, 3) := by decide +kernel
theorem dX12_worstAt_92 : decode cX12_worstAt 92 = .ok (.goto (-85), 3) := by decide +kernel
theorem dX12_worstAt_95 : decode cX12_worstAt 95 = .ok (.iload_n 2, 1) := by decide +kernel
theorem dX12_worstAt_96 : decode cX12_worstAt 96 = .ok (.iload_n 3, 1) := by decide +kernel
theorem dX12_worstAt_97 : decode cX12_worstAt 97 = .ok (.iload_n 2, 1) := by decide +kernel
theorem dX12_worstAt_98 : decode cX12_worstAt 98 = .ok (.isub, 1) := by decide +kernel
theorem dX12_worstAt_99 : decode cX12_worstAt 99 = .ok (.invokestatic 235, 3) := by decide +kernel
theorem dX12_worstAt_102 : decode cX12_worstAt 102 = .ok (.ireturn, 1) := by decide +kernel
theorem dX12_look_0 : decode cX12_look 0 = .ok (.aload_n 0, 1) := by decide +kernel
theorem dX12_look_1 : decode cX12_look 1 = .ok (.iconst 0, 1) := by decide +kernel
theorem dX12_look_2 : decode cX12_look 2 = .ok (.putfield 93, 3) := by decide +kernel
theorem dX12_look_5 : decode cX12_look 5 = .ok (.aload_n 0, 1) := by decide +kernel
theorem dX12_look_6 : decode cX12_look 6 = .ok (.iload_n 1, 1) := by decide +kernel
theorem dX12_look_7 : decode cX12_look 7 = .ok (.iconst 0, 1) := by decide +kernel
theorem dX12_look_8 : decode cX12_look 8 = .ok (.iconst 1, 1) := by decide +kernel
theorem dX12_look_9 : decode cX12_look 9 = .ok (.invokestatic 127, 3) := by decide +kernel
theorem dX12_look_12 : decode cX12_look 12 = .ok (.ifCond .ne 7, 3) := by decide +kernel
theorem dX12_look_15 : decode cX12_look 15 = .ok (.iconst 1, 1) := by decide +kernel
theorem dX12_look_16 : decode cX12_look 16 = .ok (.goto 4, 3) := by decide +kernel
theorem dX12_look_19 : decode cX12_look 19 = .ok (.iconst 0, 1) := by decide +kernel
theorem dX12_look_20 : decode cX12_look 20 = .ok (.iconst 1, 1) := by decide +kernel
theorem dX12_look_21 : decode cX12_look 21 = .ok (.iconst 1, 1) := by decide +kernel
theorem dX12_look_22 : decode cX12_look 22 = .ok (.invokevirtual 172, 3) := by decide +kernel
theorem dX12_look_25 : decode cX12_look 25 = .ok (.ifCond .eq 5, 3) := by decide +kernel
theorem dX12_look_28 : decode cX12_look 28 = .ok (.iconst 0, 1) := by decide +kernel
theorem dX12_look_29 : decode cX12_look 29 = .ok (.ireturn, 1) := by decide +kernel
theorem dX12_look_30 : decode cX12_look 30 = .ok (.iconst (-1), 1) := by decide +kernel
theorem dX12_look_31 : decode cX12_look 31 = .ok (.istore_n 2, 1) := by decide +kernel
theorem dX12_look_32 : decode cX12_look 32 = .ok (.iconst (-1), 1) := by decide +kernel
theorem dX12_look_33 : decode cX12_look 33 = .ok (.istore_n 3, 1) := by decide +kernel
theorem dX12_look_34 : decode cX12_look 34 = .ok (.iconst 0, 1) := by decide +kernel
theorem dX12_look_35 : decode cX12_look 35 = .ok (.istore 4, 2) := by decide +kernel
theorem dX12_look_37 : decode cX12_look 37 = .ok (.iload 4, 2) := by decide +kernel
theorem dX12_look_39 : decode cX12_look 39 = .ok (.aload_n 0, 1) := by decide +kernel
theorem dX12_look_40 : decode cX12_look 40 = .ok (.getfield 23, 3) := by decide +kernel
theorem dX12_look_43 : decode cX12_look 43 = .ok (.iconst 3, 1) := by decide +kernel
theorem dX12_look_44 : decode cX12_look 44 = .ok (.iaload, 1) := by decide +kernel
theorem dX12_look_45 : decode cX12_look 45 = .ok (.if_icmp .ge 49, 3) := by decide +kernel
theorem dX12_look_48 : decode cX12_look 48 = .ok (.aload_n 0, 1) := by decide +kernel
theorem dX12_look_49 : decode cX12_look 49 = .ok (.iload 4, 2) := by decide +kernel
theorem dX12_look_51 : decode cX12_look 51 = .ok (.invokevirtual 365, 3) := by decide +kernel
theorem dX12_look_54 : decode cX12_look 54 = .ok (.ifCond .eq 6, 3) := by decide +kernel
theorem dX12_look_57 : decode cX12_look 57 = .ok (.goto 31, 3) := by decide +kernel
theorem dX12_look_60 : decode cX12_look 60 = .ok (.aload_n 0, 1) := by decide +kernel
theorem dX12_look_61 : decode cX12_look 61 = .ok (.iload 4, 2) := by decide +kernel
theorem dX12_look_63 : decode cX12_look 63 = .ok (.invokevirtual 368, 3) := by decide +kernel
theorem dX12_look_66 : decode cX12_look 66 = .ok (.istore 5, 2) := by decide +kernel
theorem dX12_look_68 : decode cX12_look 68 = .ok (.iload_n 2, 1) := by decide +kernel
theorem dX12_look_69 : decode cX12_look 69 = .ok (.iconst (-1), 1) := by decide +kernel
theorem dX12_look_70 : decode cX12_look 70 = .ok (.if_icmp .eq 12, 3) := by decide +kernel
theorem dX12_look_73 : decode cX12_look 73 = .ok (.iload 5, 2) := by decide +kernel
theorem dX12_look_75 : decode cX12_look 75 = .ok (.iload_n 3, 1) := by decide +kernel
theorem dX12_look_76 : decode cX12_look 76 = .ok (.if_icmp .lt 6, 3) := by decide +kernel
theorem dX12_look_79 : decode cX12_look 79 = .ok (.goto 9, 3) := by decide +kernel
theorem dX12_look_82 : decode cX12_look 82 = .ok (.iload 4, 2) := by decide +kernel
theorem dX12_look_84 : decode cX12_look 84 = .ok (.istore_n 2, 1) := by decide +kernel
theorem dX12_look_85 : decode cX12_look 85 = .ok (.iload 5, 2) := by decide +kernel
theorem dX12_look_87 : decode cX12_look 87 = .ok (.istore_n 3, 1) := by decide +kernel
theorem dX12_look_88 : decode cX12_look 88 = .ok (.iinc 4 1, 3) := by decide +kernel
theorem dX12_look_91 : decode cX12_look 91 = .ok (.goto (-54), 3) := by decide +kernel
theorem dX12_look_94 : decode cX12_look 94 = .ok (.iload_n 1, 1) := by decide +kernel
theorem dX12_look_95 : decode cX12_look 95 = .ok (.ifCond .ne 7, 3) := by decide +kernel
theorem dX12_look_98 : decode cX12_look 98 = .ok (.iload_n 2, 1) := by decide +kernel
theorem dX12_look_99 : decode cX12_look 99 = .ok (.goto 4, 3) := by decide +kernel
theorem dX12_look_102 : decode cX12_look 102 = .ok (.iload_n 3, 1) := by decide +kernel
theorem dX12_look_103 : decode cX12_look 103 = .ok (.ireturn, 1) := by decide +kernel
theorem dX12_hasBy_0 : decode cX12_hasBy 0 = .ok (.iload_n 1, 1) := by decide +kernel
theorem dX12_hasBy_1 : decode cX12_hasBy 1 = .ok (.ifCond .ne 7, 3) := by decide +kernel
theorem dX12_hasBy_4 : decode cX12_hasBy 4 = .ok (.iload_n 2, 1) := by decide +kernel
theorem dX12_hasBy_5 : decode cX12_hasBy 5 = .ok (.goto 4, 3) := by decide +kernel
theorem dX12_hasBy_8 : decode cX12_hasBy 8 = .ok (.iconst 0, 1) := by decide +kernel
theorem dX12_hasBy_9 : decode cX12_hasBy 9 = .ok (.iload_n 0, 1) := by decide +kernel
theorem dX12_hasBy_10 : decode cX12_hasBy 10 = .ok (.ifCond .ne 7, 3) := by decide +kernel
theorem dX12_hasBy_13 : decode cX12_hasBy 13 = .ok (.iload_n 3, 1) := by decide +kernel
theorem dX12_hasBy_14 : decode cX12_hasBy 14 = .ok (.goto 4, 3) := by decide +kernel
theorem dX12_hasBy_17 : decode cX12_hasBy 17 = .ok (.iconst 0, 1) := by decide +kernel
theorem dX12_hasBy_18 : decode cX12_hasBy 18 = .ok (.isub, 1) := by decide +kernel
theorem dX12_hasBy_19 : decode cX12_hasBy 19 = .ok (.ireturn, 1) := by decide +kernel
theorem dX12_isBest_0 : decode cX12_isBest 0 = .ok (.iload_n 0, 1) := by decide +kernel
theorem dX12_isBest_1 : decode cX12_isBest 1 = .ok (.iload_n 1, 1) := by decide +kernel
theorem dX12_isBest_2 : decode cX12_isBest 2 = .ok (.iload_n 2, 1) := by decide +kernel
theorem dX12_isBest_3 : decode cX12_isBest 3 = .ok (.iload_n 3, 1) := by decide +kernel
theorem dX12_isBest_4 : decode cX12_isBest 4 = .ok (.invokestatic 371, 3) := by decide +kernel
theorem dX12_isBest_7 : decode cX12_isBest 7 = .ok (.iconst 1, 1) := by decide +kernel
theorem dX12_isBest_8 : decode cX12_isBest 8 = .ok (.iload_n 0, 1) := by decide +kernel
theorem dX12_isBest_9 : decode cX12_isBest 9 = .ok (.isub, 1) := by decide +kernel
theorem dX12_isBest_10 : decode cX12_isBest 10 = .ok (.iload_n 1, 1) := by decide +kernel
theorem dX12_isBest_11 : decode cX12_isBest 11 = .ok (.iload_n 2, 1) := by decide +kernel
theorem dX12_isBest_12 : decode cX12_isBest 12 = .ok (.iload_n 3, 1) := by decide +kernel
theorem dX12_isBest_13 : decode cX12_isBest 13 = .ok (.invokestatic 371, 3) := by decide +kernel
theorem dX12_isBest_16 : decode cX12_isBest 16 = .ok (.if_icmp .lt 7, 3) := by decide +kernel
theorem dX12_isBest_19 : decode cX12_isBest 19 = .ok (.iconst 1, 1) := by decide +kernel
theorem dX12_isBest_20 : decode cX12_isBest 20 = .ok (.goto 4, 3) := by decide +kernel
theorem dX12_isBest_23 : decode cX12_isBest 23 = .ok (.iconst 0, 1) := by decide +kernel
theorem dX12_isBest_24 : decode cX12_isBest 24 = .ok (.ireturn, 1) := by decide +kernel
theorem dX12_uncle_0 : decode cX12_uncle 0 = .ok (.aload_n 0, 1) := by decide +kernel
theorem dX12_uncle_1 : decode cX12_uncle 1 = .ok (.iconst 0, 1) := by decide +kernel
theorem dX12_uncle_2 : decode cX12_uncle 2 = .ok (.putfield 93, 3) := by decide +kernel
theorem dX12_uncle_5 : decode cX12_uncle 5 = .ok (.aload_n 0, 1) := by decide +kernel
theorem dX12_uncle_6 : decode cX12_uncle 6 = .ok (.iload_n 1, 1) := by decide +kernel
theorem dX12_uncle_7 : decode cX12_uncle 7 = .ok (.iconst 0, 1) := by decide +kernel
theorem dX12_uncle_8 : decode cX12_uncle 8 = .ok (.bipush 99, 2) := by decide +kernel
theorem dX12_uncle_10 : decode cX12_uncle 10 = .ok (.invokestatic 127, 3) := by decide +kernel
theorem dX12_uncle_13 : decode cX12_uncle 13 = .ok (.ifCond .eq 22, 3) := by decide +kernel
theorem dX12_uncle_16 : decode cX12_uncle 16 = .ok (.iload_n 2, 1) := by decide +kernel
theorem dX12_uncle_17 : decode cX12_uncle 17 = .ok (.iconst 0, 1) := by decide +kernel
theorem dX12_uncle_18 : decode cX12_uncle 18 = .ok (.bipush 99, 2) := by decide +kernel
theorem dX12_uncle_20 : decode cX12_uncle 20 = .ok (.invokestatic 127, 3) := by decide +kernel
theorem dX12_uncle_23 : decode cX12_uncle 23 = .ok (.ifCond .eq 12, 3) := by decide +kernel
theorem dX12_uncle_26 : decode cX12_uncle 26 = .ok (.iload_n 3, 1) := by decide +kernel
theorem dX12_uncle_27 : decode cX12_uncle 27 = .ok (.iconst 0, 1) := by decide +kernel
theorem dX12_uncle_28 : decode cX12_uncle 28 = .ok (.iconst 2, 1) := by decide +kernel
theorem dX12_uncle_29 : decode cX12_uncle 29 = .ok (.invokestatic 127, 3) := by decide +kernel
theorem dX12_uncle_32 : decode cX12_uncle 32 = .ok (.ifCond .ne 7, 3) := by decide +kernel
theorem dX12_uncle_35 : decode cX12_uncle 35 = .ok (.iconst 1, 1) := by decide +kernel
theorem dX12_uncle_36 : decode cX12_uncle 36 = .ok (.goto 4, 3) := by decide +kernel
theorem dX12_uncle_39 : decode cX12_uncle 39 = .ok (.iconst 0, 1) := by decide +kernel
theorem dX12_uncle_40 : decode cX12_uncle 40 = .ok (.iconst 1, 1) := by decide +kernel
theorem dX12_uncle_41 : decode cX12_uncle 41 = .ok (.iconst 1, 1) := by decide +kernel
theorem dX12_uncle_42 : decode cX12_uncle 42 = .ok (.invokevirtual 172, 3) := by decide +kernel
theorem dX12_uncle_45 : decode cX12_uncle 45 = .ok (.ifCond .eq 5, 3) := by decide +kernel
theorem dX12_uncle_48 : decode cX12_uncle 48 = .ok (.iconst 0, 1) := by decide +kernel
theorem dX12_uncle_49 : decode cX12_uncle 49 = .ok (.ireturn, 1) := by decide +kernel
theorem dX12_uncle_50 : decode cX12_uncle 50 = .ok (.iconst 0, 1) := by decide +kernel
theorem dX12_uncle_51 : decode cX12_uncle 51 = .ok (.istore 4, 2) := by decide +kernel
theorem dX12_uncle_53 : decode cX12_uncle 53 = .ok (.iconst (-1), 1) := by decide +kernel
theorem dX12_uncle_54 : decode cX12_uncle 54 = .ok (.istore 5, 2) := by decide +kernel
theorem dX12_uncle_56 : decode cX12_uncle 56 = .ok (.iconst 0, 1) := by decide +kernel
theorem dX12_uncle_57 : decode cX12_uncle 57 = .ok (.istore 6, 2) := by decide +kernel
theorem dX12_uncle_59 : decode cX12_uncle 59 = .ok (.iconst 0, 1) := by decide +kernel
theorem dX12_uncle_60 : decode cX12_uncle 60 = .ok (.istore 7, 2) := by decide +kernel
theorem dX12_uncle_62 : decode cX12_uncle 62 = .ok (.iload 7, 2) := by decide +kernel
theorem dX12_uncle_64 : decode cX12_uncle 64 = .ok (.iconst 2, 1) := by decide +kernel
theorem dX12_uncle_65 : decode cX12_uncle 65 = .ok (.if_icmp .ge 105, 3) := by decide +kernel
theorem dX12_uncle_68 : decode cX12_uncle 68 = .ok (.iconst 0, 1) := by decide +kernel
theorem dX12_uncle_69 : decode cX12_uncle 69 = .ok (.istore 8, 2) := by decide +kernel
theorem dX12_uncle_71 : decode cX12_uncle 71 = .ok (.iload 8, 2) := by decide +kernel
theorem dX12_uncle_73 : decode cX12_uncle 73 = .ok (.iconst 2, 1) := by decide +kernel
theorem dX12_uncle_74 : decode cX12_uncle 74 = .ok (.if_icmp .ge 90, 3) := by decide +kernel
theorem dX12_uncle_77 : decode cX12_uncle 77 = .ok (.iload 7, 2) := by decide +kernel
theorem dX12_uncle_79 : decode cX12_uncle 79 = .ok (.iload 8, 2) := by decide +kernel
theorem dX12_uncle_81 : decode cX12_uncle 81 = .ok (.iload_n 1, 1) := by decide +kernel
theorem dX12_uncle_82 : decode cX12_uncle 82 = .ok (.iload_n 2, 1) := by decide +kernel
theorem dX12_uncle_83 : decode cX12_uncle 83 = .ok (.invokestatic 375, 3) := by decide +kernel
theorem dX12_uncle_86 : decode cX12_uncle 86 = .ok (.ifCond .eq 72, 3) := by decide +kernel
theorem dX12_uncle_89 : decode cX12_uncle 89 = .ok (.iload 8, 2) := by decide +kernel
theorem dX12_uncle_91 : decode cX12_uncle 91 = .ok (.iload 7, 2) := by decide +kernel
theorem dX12_uncle_93 : decode cX12_uncle 93 = .ok (.iload_n 1, 1) := by decide +kernel
theorem dX12_uncle_94 : decode cX12_uncle 94 = .ok (.iload_n 2, 1) := by decide +kernel
theorem dX12_uncle_95 : decode cX12_uncle 95 = .ok (.invokestatic 375, 3) := by decide +kernel
theorem dX12_uncle_98 : decode cX12_uncle 98 = .ok (.ifCond .ne 6, 3) := by decide +kernel
theorem dX12_uncle_101 : decode cX12_uncle 101 = .ok (.goto 57, 3) := by decide +kernel
theorem dX12_uncle_104 : decode cX12_uncle 104 = .ok (.iload 4, 2) := by decide +kernel
theorem dX12_uncle_106 : decode cX12_uncle 106 = .ok (.ifCond .ne 25, 3) := by decide +kernel
theorem dX12_uncle_109 : decode cX12_uncle 109 = .ok (.iload 7, 2) := by decide +kernel
theorem dX12_uncle_111 : decode cX12_uncle 111 = .ok (.iload 8, 2) := by decide +kernel
theorem dX12_uncle_113 : decode cX12_uncle 113 = .ok (.iload_n 1, 1) := by decide +kernel
theorem dX12_uncle_114 : decode cX12_uncle 114 = .ok (.iload_n 2, 1) := by decide +kernel
theorem dX12_uncle_115 : decode cX12_uncle 115 = .ok (.invokestatic 371, 3) := by decide +kernel
theorem dX12_uncle_118 : decode cX12_uncle 118 = .ok (.iload 8, 2) := by decide +kernel
theorem dX12_uncle_120 : decode cX12_uncle 120 = .ok (.iload 7, 2) := by decide +kernel
theorem dX12_uncle_122 : decode cX12_uncle 122 = .ok (.iload_n 1, 1) := by decide +kernel
theorem dX12_uncle_123 : decode cX12_uncle 123 = .ok (.iload_n 2, 1) := by decide +kernel
theorem dX12_uncle_124 : decode cX12_uncle 124 = .ok (.invokestatic 371, 3) := by decide +kernel
theorem dX12_uncle_127 : decode cX12_uncle 127 = .ok (.iadd, 1) := by decide +kernel
theorem dX12_uncle_128 : decode cX12_uncle 128 = .ok (.goto 5, 3) := by decide +kernel
theorem dX12_uncle_131 : decode cX12_uncle 131 = .ok (.iload 6, 2) := by decide +kernel
theorem dX12_uncle_133 : decode cX12_uncle 133 = .ok (.istore 6, 2) := by decide +kernel
theorem dX12_uncle_135 : decode cX12_uncle 135 = .ok (.iload 4, 2) := by decide +kernel
theorem dX12_uncle_137 : decode cX12_uncle 137 = .ok (.ifCond .ne 14, 3) := by decide +kernel
theorem dX12_uncle_140 : decode cX12_uncle 140 = .ok (.bipush 10, 2) := by decide +kernel
theorem dX12_uncle_142 : decode cX12_uncle 142 = .ok (.iload 7, 2) := by decide +kernel
theorem dX12_uncle_144 : decode cX12_uncle 144 = .ok (.imul, 1) := by decide +kernel
theorem dX12_uncle_145 : decode cX12_uncle 145 = .ok (.iload 8, 2) := by decide +kernel
theorem dX12_uncle_147 : decode cX12_uncle 147 = .ok (.iadd, 1) := by decide +kernel
theorem dX12_uncle_148 : decode cX12_uncle 148 = .ok (.goto 5, 3) := by decide +kernel
theorem dX12_uncle_151 : decode cX12_uncle 151 = .ok (.iload 5, 2) := by decide +kernel
theorem dX12_uncle_153 : decode cX12_uncle 153 = .ok (.istore 5, 2) := by decide +kernel
theorem dX12_uncle_155 : decode cX12_uncle 155 = .ok (.iinc 4 1, 3) := by decide +kernel
theorem dX12_uncle_158 : decode cX12_uncle 158 = .ok (.iinc 8 1, 3) := by decide +kernel
theorem dX12_uncle_161 : decode cX12_uncle 161 = .ok (.goto (-90), 3) := by decide +kernel
theorem dX12_uncle_164 : decode cX12_uncle 164 = .ok (.iinc 7 1, 3) := by decide +kernel
theorem dX12_uncle_167 : decode cX12_uncle 167 = .ok (.goto (-105), 3) := by decide +kernel
theorem dX12_uncle_170 : decode cX12_uncle 170 = .ok (.iload_n 3, 1) := by decide +kernel
theorem dX12_uncle_171 : decode cX12_uncle 171 = .ok (.ifCond .ne 8, 3) := by decide +kernel
theorem dX12_uncle_174 : decode cX12_uncle 174 = .ok (.iload 4, 2) := by decide +kernel
theorem dX12_uncle_176 : decode cX12_uncle 176 = .ok (.goto 15, 3) := by decide +kernel
theorem dX12_uncle_179 : decode cX12_uncle 179 = .ok (.iload_n 3, 1) := by decide +kernel
theorem dX12_uncle_180 : decode cX12_uncle 180 = .ok (.iconst 1, 1) := by decide +kernel
theorem dX12_uncle_181 : decode cX12_uncle 181 = .ok (.if_icmp .ne 8, 3) := by decide +kernel
theorem dX12_uncle_184 : decode cX12_uncle 184 = .ok (.iload 5, 2) := by decide +kernel
theorem dX12_uncle_186 : decode cX12_uncle 186 = .ok (.goto 5, 3) := by decide +kernel
theorem dX12_uncle_189 : decode cX12_uncle 189 = .ok (.iload 6, 2) := by decide +kernel
theorem dX12_uncle_191 : decode cX12_uncle 191 = .ok (.ireturn, 1) := by decide +kernel
theorem dX12_boat_0 : decode cX12_boat 0 = .ok (.aload_n 0, 1) := by decide +kernel
theorem dX12_boat_1 : decode cX12_boat 1 = .ok (.iconst 0, 1) := by decide +kernel
theorem dX12_boat_2 : decode cX12_boat 2 = .ok (.putfield 93, 3) := by decide +kernel
theorem dX12_boat_5 : decode cX12_boat 5 = .ok (.aload_n 0, 1) := by decide +kernel
theorem dX12_boat_6 : decode cX12_boat 6 = .ok (.iload_n 1, 1) := by decide +kernel
theorem dX12_boat_7 : decode cX12_boat 7 = .ok (.iconst 0, 1) := by decide +kernel
theorem dX12_boat_8 : decode cX12_boat 8 = .ok (.bipush 12, 2) := by decide +kernel
theorem dX12_boat_10 : decode cX12_boat 10 = .ok (.invokestatic 127, 3) := by decide +kernel
theorem dX12_boat_13 : decode cX12_boat 13 = .ok (.ifCond .eq 33, 3) := by decide +kernel
theorem dX12_boat_16 : decode cX12_boat 16 = .ok (.iload_n 2, 1) := by decide +kernel
theorem dX12_boat_17 : decode cX12_boat 17 = .ok (.iconst 0, 1) := by decide +kernel
theorem dX12_boat_18 : decode cX12_boat 18 = .ok (.bipush 13, 2) := by decide +kernel
theorem dX12_boat_20 : decode cX12_boat 20 = .ok (.invokestatic 127, 3) := by decide +kernel
theorem dX12_boat_23 : decode cX12_boat 23 = .ok (.ifCond .eq 23, 3) := by decide +kernel
theorem dX12_boat_26 : decode cX12_boat 26 = .ok (.iload_n 3, 1) := by decide +kernel
theorem dX12_boat_27 : decode cX12_boat 27 = .ok (.iconst 0, 1) := by decide +kernel
theorem dX12_boat_28 : decode cX12_boat 28 = .ok (.bipush 16, 2) := by decide +kernel
theorem dX12_boat_30 : decode cX12_boat 30 = .ok (.invokestatic 127, 3) := by decide +kernel
theorem dX12_boat_33 : decode cX12_boat 33 = .ok (.ifCond .eq 13, 3) := by decide +kernel
theorem dX12_boat_36 : decode cX12_boat 36 = .ok (.iload 4, 2) := by decide +kernel
theorem dX12_boat_38 : decode cX12_boat 38 = .ok (.iconst 0, 1) := by decide +kernel
theorem dX12_boat_39 : decode cX12_boat 39 = .ok (.iconst 1, 1) := by decide +kernel
theorem dX12_boat_40 : decode cX12_boat 40 = .ok (.invokestatic 127, 3) := by decide +kernel
theorem dX12_boat_43 : decode cX12_boat 43 = .ok (.ifCond .ne 7, 3) := by decide +kernel
theorem dX12_boat_46 : decode cX12_boat 46 = .ok (.iconst 1, 1) := by decide +kernel
theorem dX12_boat_47 : decode cX12_boat 47 = .ok (.goto 4, 3) := by decide +kernel
theorem dX12_boat_50 : decode cX12_boat 50 = .ok (.iconst 0, 1) := by decide +kernel
theorem dX12_boat_51 : decode cX12_boat 51 = .ok (.iconst 1, 1) := by decide +kernel
theorem dX12_boat_52 : decode cX12_boat 52 = .ok (.iconst 1, 1) := by decide +kernel
theorem dX12_boat_53 : decode cX12_boat 53 = .ok (.invokevirtual 172, 3) := by decide +kernel
theorem dX12_boat_56 : decode cX12_boat 56 = .ok (.ifCond .eq 5, 3) := by decide +kernel
theorem dX12_boat_59 : decode cX12_boat 59 = .ok (.lconst 0, 1) := by decide +kernel
theorem dX12_boat_60 : decode cX12_boat 60 = .ok (.lreturn, 1) := by decide +kernel
theorem dX12_boat_61 : decode cX12_boat 61 = .ok (.iconst 0, 1) := by decide +kernel
theorem dX12_boat_62 : decode cX12_boat 62 = .ok (.istore 5, 2) := by decide +kernel
theorem dX12_boat_64 : decode cX12_boat 64 = .ok (.iload 5, 2) := by decide +kernel
theorem dX12_boat_66 : decode cX12_boat 66 = .ok (.bipush 14, 2) := by decide +kernel
theorem dX12_boat_68 : decode cX12_boat 68 = .ok (.if_icmp .ge 26, 3) := by decide +kernel
theorem dX12_boat_71 : decode cX12_boat 71 = .ok (.aload_n 0, 1) := by decide +kernel
theorem dX12_boat_72 : decode cX12_boat 72 = .ok (.getfield 83, 3) := by decide +kernel
theorem dX12_boat_75 : decode cX12_boat 75 = .ok (.iload 5, 2) := by decide +kernel
theorem dX12_boat_77 : decode cX12_boat 77 = .ok (.iload 5, 2) := by decide +kernel
theorem dX12_boat_79 : decode cX12_boat 79 = .ok (.ifCond .ne 7, 3) := by decide +kernel
theorem dX12_boat_82 : decode cX12_boat 82 = .ok (.lconst 1, 1) := by decide +kernel
theorem dX12_boat_83 : decode cX12_boat 83 = .ok (.goto 4, 3) := by decide +kernel
theorem dX12_boat_86 : decode cX12_boat 86 = .ok (.lconst 0, 1) := by decide +kernel
theorem dX12_boat_87 : decode cX12_boat 87 = .ok (.lastore, 1) := by decide +kernel
theorem dX12_boat_88 : decode cX12_boat 88 = .ok (.iinc 5 1, 3) := by decide +kernel
theorem dX12_boat_91 : decode cX12_boat 91 = .ok (.goto (-27), 3) := by decide +kernel
theorem dX12_boat_94 : decode cX12_boat 94 = .ok (.iconst 0, 1) := by decide +kernel
theorem dX12_boat_95 : decode cX12_boat 95 = .ok (.istore 5, 2) := by decide +kernel
theorem dX12_boat_97 : decode cX12_boat 97 = .ok (.iload 5, 2) := by decide +kernel
theorem dX12_boat_99 : decode cX12_boat 99 = .ok (.iload_n 1, 1) := by decide +kernel
theorem dX12_boat_100 : decode cX12_boat 100 = .ok (.if_icmp .ge 66, 3) := by decide +kernel
theorem dX12_boat_103 : decode cX12_boat 103 = .ok (.bipush 13, 2) := by decide +kernel
theorem dX12_boat_105 : decode cX12_boat 105 = .ok (.istore 6, 2) := by decide +kernel
theorem dX12_boat_107 : decode cX12_boat 107 = .ok (.iload 6, 2) := by decide +kernel
theorem dX12_boat_109 : decode cX12_boat 109 = .ok (.ifCond .lt 51, 3) := by decide +kernel
theorem dX12_boat_112 : decode cX12_boat 112 = .ok (.aload_n 0, 1) := by decide +kernel
theorem dX12_boat_113 : decode cX12_boat 113 = .ok (.getfield 83, 3) := by decide +kernel
theorem dX12_boat_116 : decode cX12_boat 116 = .ok (.iload 6, 2) := by decide +kernel
theorem dX12_boat_118 : decode cX12_boat 118 = .ok (.aload_n 0, 1) := by decide +kernel
theorem dX12_boat_119 : decode cX12_boat 119 = .ok (.getfield 83, 3) := by decide +kernel
theorem dX12_boat_122 : decode cX12_boat 122 = .ok (.iload 6, 2) := by decide +kernel
theorem dX12_boat_124 : decode cX12_boat 124 = .ok (.laload, 1) := by decide +kernel
theorem dX12_boat_125 : decode cX12_boat 125 = .ok (.iload_n 3, 1) := by decide +kernel
theorem dX12_boat_126 : decode cX12_boat 126 = .ok (.i2l, 1) := by decide +kernel
theorem dX12_boat_127 : decode cX12_boat 127 = .ok (.lmul, 1) := by decide +kernel
theorem dX12_boat_128 : decode cX12_boat 128 = .ok (.iload 6, 2) := by decide +kernel
theorem dX12_boat_130 : decode cX12_boat 130 = .ok (.ifCond .le 21, 3) := by decide +kernel
theorem dX12_boat_133 : decode cX12_boat 133 = .ok (.aload_n 0, 1) := by decide +kernel
theorem dX12_boat_134 : decode cX12_boat 134 = .ok (.getfield 83, 3) := by decide +kernel
theorem dX12_boat_137 : decode cX12_boat 137 = .ok (.iload 6, 2) := by decide +kernel
theorem dX12_boat_139 : decode cX12_boat 139 = .ok (.iconst 1, 1) := by decide +kernel
theorem dX12_boat_140 : decode cX12_boat 140 = .ok (.isub, 1) := by decide +kernel
theorem dX12_boat_141 : decode cX12_boat 141 = .ok (.laload, 1) := by decide +kernel
theorem dX12_boat_142 : decode cX12_boat 142 = .ok (.bipush 16, 2) := by decide +kernel
theorem dX12_boat_144 : decode cX12_boat 144 = .ok (.iload_n 3, 1) := by decide +kernel
theorem dX12_boat_145 : decode cX12_boat 145 = .ok (.isub, 1) := by decide +kernel
theorem dX12_boat_146 : decode cX12_boat 146 = .ok (.i2l, 1) := by decide +kernel
theorem dX12_boat_147 : decode cX12_boat 147 = .ok (.lmul, 1) := by decide +kernel
theorem dX12_boat_148 : decode cX12_boat 148 = .ok (.goto 4, 3) := by decide +kernel
theorem dX12_boat_151 : decode cX12_boat 151 = .ok (.lconst 0, 1) := by decide +kernel
theorem dX12_boat_152 : decode cX12_boat 152 = .ok (.ladd, 1) := by decide +kernel
theorem dX12_boat_153 : decode cX12_boat 153 = .ok (.lastore, 1) := by decide +kernel
theorem dX12_boat_154 : decode cX12_boat 154 = .ok (.iinc 6 (-1), 3) := by decide +kernel
theorem dX12_boat_157 : decode cX12_boat 157 = .ok (.goto (-50), 3) := by decide +kernel
theorem dX12_boat_160 : decode cX12_boat 160 = .ok (.iinc 5 1, 3) := by decide +kernel
theorem dX12_boat_163 : decode cX12_boat 163 = .ok (.goto (-66), 3) := by decide +kernel
theorem dX12_boat_166 : decode cX12_boat 166 = .ok (.lconst 0, 1) := by decide +kernel
theorem dX12_boat_167 : decode cX12_boat 167 = .ok (.lstore 5, 2) := by decide +kernel
theorem dX12_boat_169 : decode cX12_boat 169 = .ok (.lconst 1, 1) := by decide +kernel
theorem dX12_boat_170 : decode cX12_boat 170 = .ok (.iconst 4, 1) := by decide +kernel
theorem dX12_boat_171 : decode cX12_boat 171 = .ok (.iload_n 1, 1) := by decide +kernel
theorem dX12_boat_172 : decode cX12_boat 172 = .ok (.imul, 1) := by decide +kernel
theorem dX12_boat_173 : decode cX12_boat 173 = .ok (.lshl, 1) := by decide +kernel
theorem dX12_boat_174 : decode cX12_boat 174 = .ok (.lstore 7, 2) := by decide +kernel
theorem dX12_boat_176 : decode cX12_boat 176 = .ok (.iload_n 2, 1) := by decide +kernel
theorem dX12_boat_177 : decode cX12_boat 177 = .ok (.istore 9, 2) := by decide +kernel
theorem dX12_boat_179 : decode cX12_boat 179 = .ok (.iload 9, 2) := by decide +kernel
theorem dX12_boat_181 : decode cX12_boat 181 = .ok (.bipush 14, 2) := by decide +kernel
theorem dX12_boat_183 : decode cX12_boat 183 = .ok (.if_icmp .ge 21, 3) := by decide +kernel
theorem dX12_boat_186 : decode cX12_boat 186 = .ok (.lload 5, 2) := by decide +kernel
theorem dX12_boat_188 : decode cX12_boat 188 = .ok (.aload_n 0, 1) := by decide +kernel
theorem dX12_boat_189 : decode cX12_boat 189 = .ok (.getfield 83, 3) := by decide +kernel
theorem dX12_boat_192 : decode cX12_boat 192 = .ok (.iload 9, 2) := by decide +kernel
theorem dX12_boat_194 : decode cX12_boat 194 = .ok (.laload, 1) := by decide +kernel
theorem dX12_boat_195 : decode cX12_boat 195 = .ok (.ladd, 1) := by decide +kernel
theorem dX12_boat_196 : decode cX12_boat 196 = .ok (.lstore 5, 2) := by decide +kernel
theorem dX12_boat_198 : decode cX12_boat 198 = .ok (.iinc 9 1, 3) := by decide +kernel
theorem dX12_boat_201 : decode cX12_boat 201 = .ok (.goto (-22), 3) := by decide +kernel
theorem dX12_boat_204 : decode cX12_boat 204 = .ok (.lload 7, 2) := by decide +kernel
theorem dX12_boat_206 : decode cX12_boat 206 = .ok (.lstore 9, 2) := by decide +kernel
theorem dX12_boat_208 : decode cX12_boat 208 = .ok (.lload 5, 2) := by decide +kernel
theorem dX12_boat_210 : decode cX12_boat 210 = .ok (.lstore 11, 2) := by decide +kernel
theorem dX12_boat_212 : decode cX12_boat 212 = .ok (.lload 11, 2) := by decide +kernel
theorem dX12_boat_214 : decode cX12_boat 214 = .ok (.lconst 0, 1) := by decide +kernel
theorem dX12_boat_215 : decode cX12_boat 215 = .ok (.lcmp, 1) := by decide +kernel
theorem dX12_boat_216 : decode cX12_boat 216 = .ok (.ifCond .eq 21, 3) := by decide +kernel
theorem dX12_boat_219 : decode cX12_boat 219 = .ok (.lload 9, 2) := by decide +kernel
theorem dX12_boat_221 : decode cX12_boat 221 = .ok (.lload 11, 2) := by decide +kernel
theorem dX12_boat_223 : decode cX12_boat 223 = .ok (.lrem, 1) := by decide +kernel
theorem dX12_boat_224 : decode cX12_boat 224 = .ok (.lstore 13, 2) := by decide +kernel
theorem dX12_boat_226 : decode cX12_boat 226 = .ok (.lload 11, 2) := by decide +kernel
theorem dX12_boat_228 : decode cX12_boat 228 = .ok (.lstore 9, 2) := by decide +kernel
theorem dX12_boat_230 : decode cX12_boat 230 = .ok (.lload 13, 2) := by decide +kernel
theorem dX12_boat_232 : decode cX12_boat 232 = .ok (.lstore 11, 2) := by decide +kernel
theorem dX12_boat_234 : decode cX12_boat 234 = .ok (.goto (-22), 3) := by decide +kernel
theorem dX12_boat_237 : decode cX12_boat 237 = .ok (.iload 4, 2) := by decide +kernel
theorem dX12_boat_239 : decode cX12_boat 239 = .ok (.ifCond .ne 11, 3) := by decide +kernel
theorem dX12_boat_242 : decode cX12_boat 242 = .ok (.lload 5, 2) := by decide +kernel
theorem dX12_boat_244 : decode cX12_boat 244 = .ok (.lload 9, 2) := by decide +kernel
theorem dX12_boat_246 : decode cX12_boat 246 = .ok (.ldiv, 1) := by decide +kernel
theorem dX12_boat_247 : decode cX12_boat 247 = .ok (.goto 8, 3) := by decide +kernel
theorem dX12_boat_250 : decode cX12_boat 250 = .ok (.lload 7, 2) := by decide +kernel
theorem dX12_boat_252 : decode cX12_boat 252 = .ok (.lload 9, 2) := by decide +kernel
theorem dX12_boat_254 : decode cX12_boat 254 = .ok (.ldiv, 1) := by decide +kernel
theorem dX12_boat_255 : decode cX12_boat 255 = .ok (.lreturn, 1) := by decide +kernel
theorem dX12_sizeNow_0 : decode cX12_sizeNow 0 = .ok (.aload_n 0, 1) := by decide +kernel
theorem dX12_sizeNow_1 : decode cX12_sizeNow 1 = .ok (.getfield 55, 3) := by decide +kernel
theorem dX12_sizeNow_4 : decode cX12_sizeNow 4 = .ok (.iload_n 1, 1) := by decide +kernel
theorem dX12_sizeNow_5 : decode cX12_sizeNow 5 = .ok (.invokestatic 275, 3) := by decide +kernel
theorem dX12_sizeNow_8 : decode cX12_sizeNow 8 = .ok (.ifCond .eq 15, 3) := by decide +kernel
theorem dX12_sizeNow_11 : decode cX12_sizeNow 11 = .ok (.aload_n 0, 1) := by decide +kernel
theorem dX12_sizeNow_12 : decode cX12_sizeNow 12 = .ok (.getfield 55, 3) := by decide +kernel
theorem dX12_sizeNow_15 : decode cX12_sizeNow 15 = .ok (.bipush 8, 2) := by decide +kernel
theorem dX12_sizeNow_17 : decode cX12_sizeNow 17 = .ok (.iload_n 1, 1) := by decide +kernel
theorem dX12_sizeNow_18 : decode cX12_sizeNow 18 = .ok (.iadd, 1) := by decide +kernel
theorem dX12_sizeNow_19 : decode cX12_sizeNow 19 = .ok (.iaload, 1) := by decide +kernel
theorem dX12_sizeNow_20 : decode cX12_sizeNow 20 = .ok (.goto 4, 3) := by decide +kernel
theorem dX12_sizeNow_23 : decode cX12_sizeNow 23 = .ok (.iconst 0, 1) := by decide +kernel
theorem dX12_sizeNow_24 : decode cX12_sizeNow 24 = .ok (.ireturn, 1) := by decide +kernel
theorem dX12_givenBy_0 : decode cX12_givenBy 0 = .ok (.iconst 0, 1) := by decide +kernel
theorem dX12_givenBy_1 : decode cX12_givenBy 1 = .ok (.istore_n 3, 1) := by decide +kernel
theorem dX12_givenBy_2 : decode cX12_givenBy 2 = .ok (.iconst 0, 1) := by decide +kernel
theorem dX12_givenBy_3 : decode cX12_givenBy 3 = .ok (.istore 4, 2) := by decide +kernel
theorem dX12_givenBy_5 : decode cX12_givenBy 5 = .ok (.iload 4, 2) := by decide +kernel
theorem dX12_givenBy_7 : decode cX12_givenBy 7 = .ok (.aload_n 0, 1) := by decide +kernel
theorem dX12_givenBy_8 : decode cX12_givenBy 8 = .ok (.getfield 23, 3) := by decide +kernel
theorem dX12_givenBy_11 : decode cX12_givenBy 11 = .ok (.iconst 2, 1) := by decide +kernel
theorem dX12_givenBy_12 : decode cX12_givenBy 12 = .ok (.iaload, 1) := by decide +kernel
theorem dX12_givenBy_13 : decode cX12_givenBy 13 = .ok (.if_icmp .ge 35, 3) := by decide +kernel
theorem dX12_givenBy_16 : decode cX12_givenBy 16 = .ok (.iload_n 3, 1) := by decide +kernel
theorem dX12_givenBy_17 : decode cX12_givenBy 17 = .ok (.iload_n 1, 1) := by decide +kernel
theorem dX12_givenBy_18 : decode cX12_givenBy 18 = .ok (.iload 4, 2) := by decide +kernel
theorem dX12_givenBy_20 : decode cX12_givenBy 20 = .ok (.invokestatic 251, 3) := by decide +kernel
theorem dX12_givenBy_23 : decode cX12_givenBy 23 = .ok (.ifCond .eq 16, 3) := by decide +kernel
theorem dX12_givenBy_26 : decode cX12_givenBy 26 = .ok (.iload_n 2, 1) := by decide +kernel
theorem dX12_givenBy_27 : decode cX12_givenBy 27 = .ok (.aload_n 0, 1) := by decide +kernel
theorem dX12_givenBy_28 : decode cX12_givenBy 28 = .ok (.iload 4, 2) := by decide +kernel
theorem dX12_givenBy_30 : decode cX12_givenBy 30 = .ok (.invokevirtual 379, 3) := by decide +kernel
theorem dX12_givenBy_33 : decode cX12_givenBy 33 = .ok (.invokestatic 232, 3) := by decide +kernel
theorem dX12_givenBy_36 : decode cX12_givenBy 36 = .ok (.goto 4, 3) := by decide +kernel
theorem dX12_givenBy_39 : decode cX12_givenBy 39 = .ok (.iconst 0, 1) := by decide +kernel
theorem dX12_givenBy_40 : decode cX12_givenBy 40 = .ok (.iadd, 1) := by decide +kernel
theorem dX12_givenBy_41 : decode cX12_givenBy 41 = .ok (.istore_n 3, 1) := by decide +kernel
theorem dX12_givenBy_42 : decode cX12_givenBy 42 = .ok (.iinc 4 1, 3) := by decide +kernel
theorem dX12_givenBy_45 : decode cX12_givenBy 45 = .ok (.goto (-40), 3) := by decide +kernel
theorem dX12_givenBy_48 : decode cX12_givenBy 48 = .ok (.iload_n 3, 1) := by decide +kernel
theorem dX12_givenBy_49 : decode cX12_givenBy 49 = .ok (.ireturn, 1) := by decide +kernel
theorem dX12_crumbs_0 : decode cX12_crumbs 0 = .ok (.aload_n 0, 1) := by decide +kernel
theorem dX12_crumbs_1 : decode cX12_crumbs 1 = .ok (.iconst 0, 1) := by decide +kernel
theorem dX12_crumbs_2 : decode cX12_crumbs 2 = .ok (.putfield 93, 3) := by decide +kernel
theorem dX12_crumbs_5 : decode cX12_crumbs 5 = .ok (.aload_n 0, 1) := by decide +kernel
theorem dX12_crumbs_6 : decode cX12_crumbs 6 = .ok (.aload_n 0, 1) := by decide +kernel
theorem dX12_crumbs_7 : decode cX12_crumbs 7 = .ok (.iconst 2, 1) := by decide +kernel
theorem dX12_crumbs_8 : decode cX12_crumbs 8 = .ok (.iload_n 1, 1) := by decide +kernel
theorem dX12_crumbs_9 : decode cX12_crumbs 9 = .ok (.invokevirtual 336, 3) := by decide +kernel
theorem dX12_crumbs_12 : decode cX12_crumbs 12 = .ok (.ifCond .ne 7, 3) := by decide +kernel
theorem dX12_crumbs_15 : decode cX12_crumbs 15 = .ok (.iconst 1, 1) := by decide +kernel
theorem dX12_crumbs_16 : decode cX12_crumbs 16 = .ok (.goto 4, 3) := by decide +kernel
theorem dX12_crumbs_19 : decode cX12_crumbs 19 = .ok (.iconst 0, 1) := by decide +kernel
theorem dX12_crumbs_20 : decode cX12_crumbs 20 = .ok (.iconst 1, 1) := by decide +kernel
theorem dX12_crumbs_21 : decode cX12_crumbs 21 = .ok (.iconst 0, 1) := by decide +kernel
theorem dX12_crumbs_22 : decode cX12_crumbs 22 = .ok (.invokevirtual 172, 3) := by decide +kernel
theorem dX12_crumbs_25 : decode cX12_crumbs 25 = .ok (.ifCond .ne 46, 3) := by decide +kernel
theorem dX12_crumbs_28 : decode cX12_crumbs 28 = .ok (.aload_n 0, 1) := by decide +kernel
theorem dX12_crumbs_29 : decode cX12_crumbs 29 = .ok (.iload_n 2, 1) := by decide +kernel
theorem dX12_crumbs_30 : decode cX12_crumbs 30 = .ok (.iconst 0, 1) := by decide +kernel
theorem dX12_crumbs_31 : decode cX12_crumbs 31 = .ok (.iconst 1, 1) := by decide +kernel
theorem dX12_crumbs_32 : decode cX12_crumbs 32 = .ok (.aload_n 0, 1) := by decide +kernel
theorem dX12_crumbs_33 : decode cX12_crumbs 33 = .ok (.getfield 23, 3) := by decide +kernel
theorem dX12_crumbs_36 : decode cX12_crumbs 36 = .ok (.iconst 2, 1) := by decide +kernel
theorem dX12_crumbs_37 : decode cX12_crumbs 37 = .ok (.iaload, 1) := by decide +kernel
theorem dX12_crumbs_38 : decode cX12_crumbs 38 = .ok (.ishl, 1) := by decide +kernel
theorem dX12_crumbs_39 : decode cX12_crumbs 39 = .ok (.iconst 1, 1) := by decide +kernel
theorem dX12_crumbs_40 : decode cX12_crumbs 40 = .ok (.isub, 1) := by decide +kernel
theorem dX12_crumbs_41 : decode cX12_crumbs 41 = .ok (.invokestatic 127, 3) := by decide +kernel
theorem dX12_crumbs_44 : decode cX12_crumbs 44 = .ok (.ifCond .eq 14, 3) := by decide +kernel
theorem dX12_crumbs_47 : decode cX12_crumbs 47 = .ok (.iload_n 3, 1) := by decide +kernel
theorem dX12_crumbs_48 : decode cX12_crumbs 48 = .ok (.iconst 0, 1) := by decide +kernel
theorem dX12_crumbs_49 : decode cX12_crumbs 49 = .ok (.sipush 999, 3) := by decide +kernel
theorem dX12_crumbs_52 : decode cX12_crumbs 52 = .ok (.invokestatic 127, 3) := by decide +kernel
theorem dX12_crumbs_55 : decode cX12_crumbs 55 = .ok (.ifCond .ne 7, 3) := by decide +kernel
theorem dX12_crumbs_58 : decode cX12_crumbs 58 = .ok (.iconst 1, 1) := by decide +kernel
theorem dX12_crumbs_59 : decode cX12_crumbs 59 = .ok (.goto 4, 3) := by decide +kernel
theorem dX12_crumbs_62 : decode cX12_crumbs 62 = .ok (.iconst 0, 1) := by decide +kernel
theorem dX12_crumbs_63 : decode cX12_crumbs 63 = .ok (.iconst 2, 1) := by decide +kernel
theorem dX12_crumbs_64 : decode cX12_crumbs 64 = .ok (.iconst 1, 1) := by decide +kernel
theorem dX12_crumbs_65 : decode cX12_crumbs 65 = .ok (.invokevirtual 172, 3) := by decide +kernel
theorem dX12_crumbs_68 : decode cX12_crumbs 68 = .ok (.ifCond .eq 5, 3) := by decide +kernel
theorem dX12_crumbs_71 : decode cX12_crumbs 71 = .ok (.iconst 0, 1) := by decide +kernel
theorem dX12_crumbs_72 : decode cX12_crumbs 72 = .ok (.ireturn, 1) := by decide +kernel
theorem dX12_crumbs_73 : decode cX12_crumbs 73 = .ok (.iconst 0, 1) := by decide +kernel
theorem dX12_crumbs_74 : decode cX12_crumbs 74 = .ok (.istore 4, 2) := by decide +kernel
theorem dX12_crumbs_76 : decode cX12_crumbs 76 = .ok (.iload 4, 2) := by decide +kernel
theorem dX12_crumbs_78 : decode cX12_crumbs 78 = .ok (.sipush 999, 3) := by decide +kernel
theorem dX12_crumbs_81 : decode cX12_crumbs 81 = .ok (.if_icmp .ge 22, 3) := by decide +kernel
theorem dX12_crumbs_84 : decode cX12_crumbs 84 = .ok (.aload_n 0, 1) := by decide +kernel
theorem dX12_crumbs_85 : decode cX12_crumbs 85 = .ok (.iload_n 2, 1) := by decide +kernel
theorem dX12_crumbs_86 : decode cX12_crumbs 86 = .ok (.iload 4, 2) := by decide +kernel
theorem dX12_crumbs_88 : decode cX12_crumbs 88 = .ok (.iconst 1, 1) := by decide +kernel
theorem dX12_crumbs_89 : decode cX12_crumbs 89 = .ok (.iadd, 1) := by decide +kernel
theorem dX12_crumbs_90 : decode cX12_crumbs 90 = .ok (.invokevirtual 382, 3) := by decide +kernel
theorem dX12_crumbs_93 : decode cX12_crumbs 93 = .ok (.iload_n 3, 1) := by decide +kernel
theorem dX12_crumbs_94 : decode cX12_crumbs 94 = .ok (.if_icmp .gt 9, 3) := by decide +kernel
theorem dX12_crumbs_97 : decode cX12_crumbs 97 = .ok (.iinc 4 1, 3) := by decide +kernel
theorem dX12_crumbs_100 : decode cX12_crumbs 100 = .ok (.goto (-24), 3) := by decide +kernel
theorem dX12_crumbs_103 : decode cX12_crumbs 103 = .ok (.iload_n 2, 1) := by decide +kernel
theorem dX12_crumbs_104 : decode cX12_crumbs 104 = .ok (.iload_n 1, 1) := by decide +kernel
theorem dX12_crumbs_105 : decode cX12_crumbs 105 = .ok (.invokestatic 251, 3) := by decide +kernel
theorem dX12_crumbs_108 : decode cX12_crumbs 108 = .ok (.ifCond .eq 16, 3) := by decide +kernel
theorem dX12_crumbs_111 : decode cX12_crumbs 111 = .ok (.iload 4, 2) := by decide +kernel
theorem dX12_crumbs_113 : decode cX12_crumbs 113 = .ok (.aload_n 0, 1) := by decide +kernel
theorem dX12_crumbs_114 : decode cX12_crumbs 114 = .ok (.iload_n 1, 1) := by decide +kernel
theorem dX12_crumbs_115 : decode cX12_crumbs 115 = .ok (.invokevirtual 379, 3) := by decide +kernel
theorem dX12_crumbs_118 : decode cX12_crumbs 118 = .ok (.invokestatic 232, 3) := by decide +kernel
theorem dX12_crumbs_121 : decode cX12_crumbs 121 = .ok (.goto 4, 3) := by decide +kernel
theorem dX12_crumbs_124 : decode cX12_crumbs 124 = .ok (.iconst 0, 1) := by decide +kernel
theorem dX12_crumbs_125 : decode cX12_crumbs 125 = .ok (.ireturn, 1) := by decide +kernel
theorem dX12_greatest_0 : decode cX12_greatest 0 = .ok (.aload_n 0, 1) := by decide +kernel
theorem dX12_greatest_1 : decode cX12_greatest 1 = .ok (.iconst 0, 1) := by decide +kernel
theorem dX12_greatest_2 : decode cX12_greatest 2 = .ok (.putfield 93, 3) := by decide +kernel
theorem dX12_greatest_5 : decode cX12_greatest 5 = .ok (.aload_n 0, 1) := by decide +kernel
theorem dX12_greatest_6 : decode cX12_greatest 6 = .ok (.iload_n 1, 1) := by decide +kernel
theorem dX12_greatest_7 : decode cX12_greatest 7 = .ok (.iconst 0, 1) := by decide +kernel
theorem dX12_greatest_8 : decode cX12_greatest 8 = .ok (.iconst 1, 1) := by decide +kernel
theorem dX12_greatest_9 : decode cX12_greatest 9 = .ok (.invokestatic 127, 3) := by decide +kernel
theorem dX12_greatest_12 : decode cX12_greatest 12 = .ok (.ifCond .ne 7, 3) := by decide +kernel
theorem dX12_greatest_15 : decode cX12_greatest 15 = .ok (.iconst 1, 1) := by decide +kernel
theorem dX12_greatest_16 : decode cX12_greatest 16 = .ok (.goto 4, 3) := by decide +kernel
theorem dX12_greatest_19 : decode cX12_greatest 19 = .ok (.iconst 0, 1) := by decide +kernel
theorem dX12_greatest_20 : decode cX12_greatest 20 = .ok (.iconst 1, 1) := by decide +kernel
theorem dX12_greatest_21 : decode cX12_greatest 21 = .ok (.iconst 1, 1) := by decide +kernel
theorem dX12_greatest_22 : decode cX12_greatest 22 = .ok (.invokevirtual 172, 3) := by decide +kernel
theorem dX12_greatest_25 : decode cX12_greatest 25 = .ok (.ifCond .eq 5, 3) := by decide +kernel
theorem dX12_greatest_28 : decode cX12_greatest 28 = .ok (.iconst 0, 1) := by decide +kernel
theorem dX12_greatest_29 : decode cX12_greatest 29 = .ok (.ireturn, 1) := by decide +kernel
theorem dX12_greatest_30 : decode cX12_greatest 30 = .ok (.iconst (-1), 1) := by decide +kernel
theorem dX12_greatest_31 : decode cX12_greatest 31 = .ok (.istore_n 2, 1) := by decide +kernel
theorem dX12_greatest_32 : decode cX12_greatest 32 = .ok (.iconst 0, 1) := by decide +kernel
theorem dX12_greatest_33 : decode cX12_greatest 33 = .ok (.istore_n 3, 1) := by decide +kernel
theorem dX12_greatest_34 : decode cX12_greatest 34 = .ok (.iload_n 3, 1) := by decide +kernel
theorem dX12_greatest_35 : decode cX12_greatest 35 = .ok (.aload_n 0, 1) := by decide +kernel
theorem dX12_greatest_36 : decode cX12_greatest 36 = .ok (.getfield 23, 3) := by decide +kernel
theorem dX12_greatest_39 : decode cX12_greatest 39 = .ok (.iconst 2, 1) := by decide +kernel
theorem dX12_greatest_40 : decode cX12_greatest 40 = .ok (.iaload, 1) := by decide +kernel
theorem dX12_greatest_41 : decode cX12_greatest 41 = .ok (.if_icmp .ge 52, 3) := by decide +kernel
theorem dX12_greatest_44 : decode cX12_greatest 44 = .ok (.aload_n 0, 1) := by decide +kernel
theorem dX12_greatest_45 : decode cX12_greatest 45 = .ok (.getfield 55, 3) := by decide +kernel
theorem dX12_greatest_48 : decode cX12_greatest 48 = .ok (.iload_n 3, 1) := by decide +kernel
theorem dX12_greatest_49 : decode cX12_greatest 49 = .ok (.invokestatic 275, 3) := by decide +kernel
theorem dX12_greatest_52 : decode cX12_greatest 52 = .ok (.ifCond .eq 33, 3) := by decide +kernel
theorem dX12_greatest_55 : decode cX12_greatest 55 = .ok (.iload_n 2, 1) := by decide +kernel
theorem dX12_greatest_56 : decode cX12_greatest 56 = .ok (.iconst (-1), 1) := by decide +kernel
theorem dX12_greatest_57 : decode cX12_greatest 57 = .ok (.if_icmp .eq 24, 3) := by decide +kernel
theorem dX12_greatest_60 : decode cX12_greatest 60 = .ok (.aload_n 0, 1) := by decide +kernel
theorem dX12_greatest_61 : decode cX12_greatest 61 = .ok (.getfield 55, 3) := by decide +kernel
theorem dX12_greatest_64 : decode cX12_greatest 64 = .ok (.bipush 8, 2) := by decide +kernel
theorem dX12_greatest_66 : decode cX12_greatest 66 = .ok (.iload_n 3, 1) := by decide +kernel
theorem dX12_greatest_67 : decode cX12_greatest 67 = .ok (.iadd, 1) := by decide +kernel
theorem dX12_greatest_68 : decode cX12_greatest 68 = .ok (.iaload, 1) := by decide +kernel
theorem dX12_greatest_69 : decode cX12_greatest 69 = .ok (.aload_n 0, 1) := by decide +kernel
theorem dX12_greatest_70 : decode cX12_greatest 70 = .ok (.getfield 55, 3) := by decide +kernel
theorem dX12_greatest_73 : decode cX12_greatest 73 = .ok (.bipush 8, 2) := by decide +kernel
theorem dX12_greatest_75 : decode cX12_greatest 75 = .ok (.iload_n 2, 1) := by decide +kernel
theorem dX12_greatest_76 : decode cX12_greatest 76 = .ok (.iadd, 1) := by decide +kernel
theorem dX12_greatest_77 : decode cX12_greatest 77 = .ok (.iaload, 1) := by decide +kernel
theorem dX12_greatest_78 : decode cX12_greatest 78 = .ok (.if_icmp .le 7, 3) := by decide +kernel
theorem dX12_greatest_81 : decode cX12_greatest 81 = .ok (.iload_n 3, 1) := by decide +kernel
theorem dX12_greatest_82 : decode cX12_greatest 82 = .ok (.goto 4, 3) := by decide +kernel
theorem dX12_greatest_85 : decode cX12_greatest 85 = .ok (.iload_n 2, 1) := by decide +kernel
theorem dX12_greatest_86 : decode cX12_greatest 86 = .ok (.istore_n 2, 1) := by decide +kernel
theorem dX12_greatest_87 : decode cX12_greatest 87 = .ok (.iinc 3 1, 3) := by decide +kernel
theorem dX12_greatest_90 : decode cX12_greatest 90 = .ok (.goto (-56), 3) := by decide +kernel
theorem dX12_greatest_93 : decode cX12_greatest 93 = .ok (.iload_n 1, 1) := by decide +kernel
theorem dX12_greatest_94 : decode cX12_greatest 94 = .ok (.ifCond .eq 8, 3) := by decide +kernel
theorem dX12_greatest_97 : decode cX12_greatest 97 = .ok (.iload_n 2, 1) := by decide +kernel
theorem dX12_greatest_98 : decode cX12_greatest 98 = .ok (.iconst (-1), 1) := by decide +kernel
theorem dX12_greatest_99 : decode cX12_greatest 99 = .ok (.if_icmp .ne 7, 3) := by decide +kernel
theorem dX12_greatest_102 : decode cX12_greatest 102 = .ok (.iload_n 2, 1) := by decide +kernel
theorem dX12_greatest_103 : decode cX12_greatest 103 = .ok (.goto 12, 3) := by decide +kernel
theorem dX12_greatest_106 : decode cX12_greatest 106 = .ok (.aload_n 0, 1) := by decide +kernel
theorem dX12_greatest_107 : decode cX12_greatest 107 = .ok (.getfield 55, 3) := by decide +kernel
theorem dX12_greatest_110 : decode cX12_greatest 110 = .ok (.bipush 8, 2) := by decide +kernel
theorem dX12_greatest_112 : decode cX12_greatest 112 = .ok (.iload_n 2, 1) := by decide +kernel
theorem dX12_greatest_113 : decode cX12_greatest 113 = .ok (.iadd, 1) := by decide +kernel
theorem dX12_greatest_114 : decode cX12_greatest 114 = .ok (.iaload, 1) := by decide +kernel
theorem dX12_greatest_115 : decode cX12_greatest 115 = .ok (.ireturn, 1) := by decide +kernel
theorem dX12_proud_0 : decode cX12_proud 0 = .ok (.iconst (-1), 1) := by decide +kernel
theorem dX12_proud_1 : decode cX12_proud 1 = .ok (.istore_n 2, 1) := by decide +kernel
theorem dX12_proud_2 : decode cX12_proud 2 = .ok (.iconst 0, 1) := by decide +kernel
theorem dX12_proud_3 : decode cX12_proud 3 = .ok (.istore_n 3, 1) := by decide +kernel
theorem dX12_proud_4 : decode cX12_proud 4 = .ok (.iconst 0, 1) := by decide +kernel
theorem dX12_proud_5 : decode cX12_proud 5 = .ok (.istore 4, 2) := by decide +kernel
theorem dX12_proud_7 : decode cX12_proud 7 = .ok (.iload 4, 2) := by decide +kernel
theorem dX12_proud_9 : decode cX12_proud 9 = .ok (.aload_n 0, 1) := by decide +kernel
theorem dX12_proud_10 : decode cX12_proud 10 = .ok (.getfield 23, 3) := by decide +kernel
theorem dX12_proud_13 : decode cX12_proud 13 = .ok (.iconst 3, 1) := by decide +kernel
theorem dX12_proud_14 : decode cX12_proud 14 = .ok (.iaload, 1) := by decide +kernel
theorem dX12_proud_15 : decode cX12_proud 15 = .ok (.if_icmp .ge 39, 3) := by decide +kernel
theorem dX12_proud_18 : decode cX12_proud 18 = .ok (.aload_n 1, 1) := by decide +kernel
theorem dX12_proud_19 : decode cX12_proud 19 = .ok (.bipush 37, 2) := by decide +kernel
theorem dX12_proud_21 : decode cX12_proud 21 = .ok (.iload 4, 2) := by decide +kernel
theorem dX12_proud_23 : decode cX12_proud 23 = .ok (.iadd, 1) := by decide +kernel
theorem dX12_proud_24 : decode cX12_proud 24 = .ok (.iaload, 1) := by decide +kernel
theorem dX12_proud_25 : decode cX12_proud 25 = .ok (.iload_n 3, 1) := by decide +kernel
theorem dX12_proud_26 : decode cX12_proud 26 = .ok (.if_icmp .le 8, 3) := by decide +kernel
theorem dX12_proud_29 : decode cX12_proud 29 = .ok (.iload 4, 2) := by decide +kernel
theorem dX12_proud_31 : decode cX12_proud 31 = .ok (.goto 4, 3) := by decide +kernel
theorem dX12_proud_34 : decode cX12_proud 34 = .ok (.iload_n 2, 1) := by decide +kernel
theorem dX12_proud_35 : decode cX12_proud 35 = .ok (.istore_n 2, 1) := by decide +kernel
theorem dX12_proud_36 : decode cX12_proud 36 = .ok (.iload_n 3, 1) := by decide +kernel
theorem dX12_proud_37 : decode cX12_proud 37 = .ok (.aload_n 1, 1) := by decide +kernel
theorem dX12_proud_38 : decode cX12_proud 38 = .ok (.bipush 37, 2) := by decide +kernel
theorem dX12_proud_40 : decode cX12_proud 40 = .ok (.iload 4, 2) := by decide +kernel
theorem dX12_proud_42 : decode cX12_proud 42 = .ok (.iadd, 1) := by decide +kernel
theorem dX12_proud_43 : decode cX12_proud 43 = .ok (.iaload, 1) := by decide +kernel
theorem dX12_proud_44 : decode cX12_proud 44 = .ok (.invokestatic 235, 3) := by decide +kernel
theorem dX12_proud_47 : decode cX12_proud 47 = .ok (.istore_n 3, 1) := by decide +kernel
theorem dX12_proud_48 : decode cX12_proud 48 = .ok (.iinc 4 1, 3) := by decide +kernel
theorem dX12_proud_51 : decode cX12_proud 51 = .ok (.goto (-44), 3) := by decide +kernel
theorem dX12_proud_54 : decode cX12_proud 54 = .ok (.iload_n 2, 1) := by decide +kernel
theorem dX12_proud_55 : decode cX12_proud 55 = .ok (.ireturn, 1) := by decide +kernel
theorem dX12_proudest_0 : decode cX12_proudest 0 = .ok (.aload_n 0, 1) := by decide +kernel
theorem dX12_proudest_1 : decode cX12_proudest 1 = .ok (.iconst 0, 1) := by decide +kernel
theorem dX12_proudest_2 : decode cX12_proudest 2 = .ok (.putfield 93, 3) := by decide +kernel
theorem dX12_proudest_5 : decode cX12_proudest 5 = .ok (.aload_n 0, 1) := by decide +kernel
theorem dX12_proudest_6 : decode cX12_proudest 6 = .ok (.iload_n 1, 1) := by decide +kernel
theorem dX12_proudest_7 : decode cX12_proudest 7 = .ok (.iconst 0, 1) := by decide +kernel
theorem dX12_proudest_8 : decode cX12_proudest 8 = .ok (.iconst 1, 1) := by decide +kernel
theorem dX12_proudest_9 : decode cX12_proudest 9 = .ok (.invokestatic 127, 3) := by decide +kernel
theorem dX12_proudest_12 : decode cX12_proudest 12 = .ok (.ifCond .ne 7, 3) := by decide +kernel
theorem dX12_proudest_15 : decode cX12_proudest 15 = .ok (.iconst 1, 1) := by decide +kernel
theorem dX12_proudest_16 : decode cX12_proudest 16 = .ok (.goto 4, 3) := by decide +kernel
theorem dX12_proudest_19 : decode cX12_proudest 19 = .ok (.iconst 0, 1) := by decide +kernel
theorem dX12_proudest_20 : decode cX12_proudest 20 = .ok (.iconst 1, 1) := by decide +kernel
theorem dX12_proudest_21 : decode cX12_proudest 21 = .ok (.iconst 1, 1) := by decide +kernel
theorem dX12_proudest_22 : decode cX12_proudest 22 = .ok (.invokevirtual 172, 3) := by decide +kernel
theorem dX12_proudest_25 : decode cX12_proudest 25 = .ok (.ifCond .eq 5, 3) := by decide +kernel
theorem dX12_proudest_28 : decode cX12_proudest 28 = .ok (.iconst 0, 1) := by decide +kernel
theorem dX12_proudest_29 : decode cX12_proudest 29 = .ok (.ireturn, 1) := by decide +kernel
theorem dX12_proudest_30 : decode cX12_proudest 30 = .ok (.aload_n 0, 1) := by decide +kernel
theorem dX12_proudest_31 : decode cX12_proudest 31 = .ok (.aload_n 0, 1) := by decide +kernel
theorem dX12_proudest_32 : decode cX12_proudest 32 = .ok (.getfield 55, 3) := by decide +kernel
theorem dX12_proudest_35 : decode cX12_proudest 35 = .ok (.invokevirtual 385, 3) := by decide +kernel
theorem dX12_proudest_38 : decode cX12_proudest 38 = .ok (.istore_n 2, 1) := by decide +kernel
theorem dX12_proudest_39 : decode cX12_proudest 39 = .ok (.iload_n 1, 1) := by decide +kernel
theorem dX12_proudest_40 : decode cX12_proudest 40 = .ok (.ifCond .eq 8, 3) := by decide +kernel
theorem dX12_proudest_43 : decode cX12_proudest 43 = .ok (.iload_n 2, 1) := by decide +kernel
theorem dX12_proudest_44 : decode cX12_proudest 44 = .ok (.iconst (-1), 1) := by decide +kernel
theorem dX12_proudest_45 : decode cX12_proudest 45 = .ok (.if_icmp .ne 7, 3) := by decide +kernel
theorem dX12_proudest_48 : decode cX12_proudest 48 = .ok (.iload_n 2, 1) := by decide +kernel
theorem dX12_proudest_49 : decode cX12_proudest 49 = .ok (.goto 12, 3) := by decide +kernel
theorem dX12_proudest_52 : decode cX12_proudest 52 = .ok (.aload_n 0, 1) := by decide +kernel
theorem dX12_proudest_53 : decode cX12_proudest 53 = .ok (.getfield 55, 3) := by decide +kernel
theorem dX12_proudest_56 : decode cX12_proudest 56 = .ok (.bipush 37, 2) := by decide +kernel
theorem dX12_proudest_58 : decode cX12_proudest 58 = .ok (.iload_n 2, 1) := by decide +kernel
theorem dX12_proudest_59 : decode cX12_proudest 59 = .ok (.iadd, 1) := by decide +kernel
theorem dX12_proudest_60 : decode cX12_proudest 60 = .ok (.iaload, 1) := by decide +kernel
theorem dX12_proudest_61 : decode cX12_proudest 61 = .ok (.ireturn, 1) := by decide +kernel
theorem dX12_safe_0 : decode cX12_safe 0 = .ok (.aload_n 0, 1) := by decide +kernel
theorem dX12_safe_1 : decode cX12_safe 1 = .ok (.iconst 0, 1) := by decide +kernel
theorem dX12_safe_2 : decode cX12_safe 2 = .ok (.putfield 93, 3) := by decide +kernel
theorem dX12_safe_5 : decode cX12_safe 5 = .ok (.aload_n 0, 1) := by decide +kernel
theorem dX12_safe_6 : decode cX12_safe 6 = .ok (.getfield 55, 3) := by decide +kernel
theorem dX12_safe_9 : decode cX12_safe 9 = .ok (.bipush 42, 2) := by decide +kernel
theorem dX12_safe_11 : decode cX12_safe 11 = .ok (.iaload, 1) := by decide +kernel
theorem dX12_safe_12 : decode cX12_safe 12 = .ok (.istore_n 1, 1) := by decide +kernel
theorem dX12_safe_13 : decode cX12_safe 13 = .ok (.iconst 0, 1) := by decide +kernel
theorem dX12_safe_14 : decode cX12_safe 14 = .ok (.istore_n 2, 1) := by decide +kernel
theorem dX12_safe_15 : decode cX12_safe 15 = .ok (.iload_n 2, 1) := by decide +kernel
theorem dX12_safe_16 : decode cX12_safe 16 = .ok (.aload_n 0, 1) := by decide +kernel
theorem dX12_safe_17 : decode cX12_safe 17 = .ok (.getfield 23, 3) := by decide +kernel
theorem dX12_safe_20 : decode cX12_safe 20 = .ok (.iconst 3, 1) := by decide +kernel
theorem dX12_safe_21 : decode cX12_safe 21 = .ok (.iaload, 1) := by decide +kernel
theorem dX12_safe_22 : decode cX12_safe 22 = .ok (.if_icmp .ge 23, 3) := by decide +kernel
theorem dX12_safe_25 : decode cX12_safe 25 = .ok (.iload_n 1, 1) := by decide +kernel
theorem dX12_safe_26 : decode cX12_safe 26 = .ok (.aload_n 0, 1) := by decide +kernel
theorem dX12_safe_27 : decode cX12_safe 27 = .ok (.aload_n 0, 1) := by decide +kernel
theorem dX12_safe_28 : decode cX12_safe 28 = .ok (.getfield 55, 3) := by decide +kernel
theorem dX12_safe_31 : decode cX12_safe 31 = .ok (.iload_n 2, 1) := by decide +kernel
theorem dX12_safe_32 : decode cX12_safe 32 = .ok (.invokevirtual 289, 3) := by decide +kernel
theorem dX12_safe_35 : decode cX12_safe 35 = .ok (.iconst (-1), 1) := by decide +kernel
theorem dX12_safe_36 : decode cX12_safe 36 = .ok (.ixor, 1) := by decide +kernel
theorem dX12_safe_37 : decode cX12_safe 37 = .ok (.iand, 1) := by decide +kernel
theorem dX12_safe_38 : decode cX12_safe 38 = .ok (.istore_n 1, 1) := by decide +kernel
theorem dX12_safe_39 : decode cX12_safe 39 = .ok (.iinc 2 1, 3) := by decide +kernel
theorem dX12_safe_42 : decode cX12_safe 42 = .ok (.goto (-27), 3) := by decide +kernel
theorem dX12_safe_45 : decode cX12_safe 45 = .ok (.iload_n 1, 1) := by decide +kernel
theorem dX12_safe_46 : decode cX12_safe 46 = .ok (.ireturn, 1) := by decide +kernel
theorem dX12_doomed_0 : decode cX12_doomed 0 = .ok (.aload_n 0, 1) := by decide +kernel
theorem dX12_doomed_1 : decode cX12_doomed 1 = .ok (.iconst 0, 1) := by decide +kernel
theorem dX12_doomed_2 : decode cX12_doomed 2 = .ok (.putfield 93, 3) := by decide +kernel
theorem dX12_doomed_5 : decode cX12_doomed 5 = .ok (.aload_n 0, 1) := by decide +kernel
theorem dX12_doomed_6 : decode cX12_doomed 6 = .ok (.getfield 55, 3) := by decide +kernel
theorem dX12_doomed_9 : decode cX12_doomed 9 = .ok (.aload_n 0, 1) := by decide +kernel
theorem dX12_doomed_10 : decode cX12_doomed 10 = .ok (.getfield 58, 3) := by decide +kernel
theorem dX12_doomed_13 : decode cX12_doomed 13 = .ok (.invokestatic 328, 3) := by decide +kernel
theorem dX12_doomed_16 : decode cX12_doomed 16 = .ok (.aload_n 0, 1) := by decide +kernel
theorem dX12_doomed_17 : decode cX12_doomed 17 = .ok (.aload_n 0, 1) := by decide +kernel
theorem dX12_doomed_18 : decode cX12_doomed 18 = .ok (.getfield 58, 3) := by decide +kernel
theorem dX12_doomed_21 : decode cX12_doomed 21 = .ok (.invokevirtual 311, 3) := by decide +kernel
theorem dX12_doomed_24 : decode cX12_doomed 24 = .ok (.aload_n 0, 1) := by decide +kernel
theorem dX12_doomed_25 : decode cX12_doomed 25 = .ok (.getfield 55, 3) := by decide +kernel
theorem dX12_doomed_28 : decode cX12_doomed 28 = .ok (.bipush 42, 2) := by decide +kernel
theorem dX12_doomed_30 : decode cX12_doomed 30 = .ok (.iaload, 1) := by decide +kernel
theorem dX12_doomed_31 : decode cX12_doomed 31 = .ok (.aload_n 0, 1) := by decide +kernel
theorem dX12_doomed_32 : decode cX12_doomed 32 = .ok (.getfield 58, 3) := by decide +kernel
theorem dX12_doomed_35 : decode cX12_doomed 35 = .ok (.bipush 42, 2) := by decide +kernel
theorem dX12_doomed_37 : decode cX12_doomed 37 = .ok (.iaload, 1) := by decide +kernel
theorem dX12_doomed_38 : decode cX12_doomed 38 = .ok (.iconst (-1), 1) := by decide +kernel
theorem dX12_doomed_39 : decode cX12_doomed 39 = .ok (.ixor, 1) := by decide +kernel
theorem dX12_doomed_40 : decode cX12_doomed 40 = .ok (.iand, 1) := by decide +kernel
theorem dX12_doomed_41 : decode cX12_doomed 41 = .ok (.ireturn, 1) := by decide +kernel
theorem dX12_havens_0 : decode cX12_havens 0 = .ok (.aload_n 0, 1) := by decide +kernel
theorem dX12_havens_1 : decode cX12_havens 1 = .ok (.iconst 0, 1) := by decide +kernel
theorem dX12_havens_2 : decode cX12_havens 2 = .ok (.putfield 93, 3) := by decide +kernel
theorem dX12_havens_5 : decode cX12_havens 5 = .ok (.aload_n 0, 1) := by decide +kernel
theorem dX12_havens_6 : decode cX12_havens 6 = .ok (.iload_n 1, 1) := by decide +kernel
theorem dX12_havens_7 : decode cX12_havens 7 = .ok (.iconst 1, 1) := by decide +kernel
theorem dX12_havens_8 : decode cX12_havens 8 = .ok (.sipush 999, 3) := by decide +kernel
theorem dX12_havens_11 : decode cX12_havens 11 = .ok (.invokestatic 127, 3) := by decide +kernel
theorem dX12_havens_14 : decode cX12_havens 14 = .ok (.ifCond .ne 7, 3) := by decide +kernel
theorem dX12_havens_17 : decode cX12_havens 17 = .ok (.iconst 1, 1) := by decide +kernel
theorem dX12_havens_18 : decode cX12_havens 18 = .ok (.goto 4, 3) := by decide +kernel
theorem dX12_havens_21 : decode cX12_havens 21 = .ok (.iconst 0, 1) := by decide +kernel
theorem dX12_havens_22 : decode cX12_havens 22 = .ok (.iconst 1, 1) := by decide +kernel
theorem dX12_havens_23 : decode cX12_havens 23 = .ok (.iconst 1, 1) := by decide +kernel
theorem dX12_havens_24 : decode cX12_havens 24 = .ok (.invokevirtual 172, 3) := by decide +kernel
theorem dX12_havens_27 : decode cX12_havens 27 = .ok (.ifCond .eq 5, 3) := by decide +kernel
theorem dX12_havens_30 : decode cX12_havens 30 = .ok (.iconst 0, 1) := by decide +kernel
theorem dX12_havens_31 : decode cX12_havens 31 = .ok (.ireturn, 1) := by decide +kernel
theorem dX12_havens_32 : decode cX12_havens 32 = .ok (.iconst 1, 1) := by decide +kernel
theorem dX12_havens_33 : decode cX12_havens 33 = .ok (.aload_n 0, 1) := by decide +kernel
theorem dX12_havens_34 : decode cX12_havens 34 = .ok (.getfield 23, 3) := by decide +kernel
theorem dX12_havens_37 : decode cX12_havens 37 = .ok (.iconst 0, 1) := by decide +kernel
theorem dX12_havens_38 : decode cX12_havens 38 = .ok (.iaload, 1) := by decide +kernel
theorem dX12_havens_39 : decode cX12_havens 39 = .ok (.ishl, 1) := by decide +kernel
theorem dX12_havens_40 : decode cX12_havens 40 = .ok (.iconst 1, 1) := by decide +kernel
theorem dX12_havens_41 : decode cX12_havens 41 = .ok (.isub, 1) := by decide +kernel
theorem dX12_havens_42 : decode cX12_havens 42 = .ok (.istore_n 2, 1) := by decide +kernel
theorem dX12_havens_43 : decode cX12_havens 43 = .ok (.iconst 0, 1) := by decide +kernel
theorem dX12_havens_44 : decode cX12_havens 44 = .ok (.istore_n 3, 1) := by decide +kernel
theorem dX12_havens_45 : decode cX12_havens 45 = .ok (.iload_n 3, 1) := by decide +kernel
theorem dX12_havens_46 : decode cX12_havens 46 = .ok (.aload_n 0, 1) := by decide +kernel
theorem dX12_havens_47 : decode cX12_havens 47 = .ok (.getfield 23, 3) := by decide +kernel
theorem dX12_havens_50 : decode cX12_havens 50 = .ok (.iconst 3, 1) := by decide +kernel
theorem dX12_havens_51 : decode cX12_havens 51 = .ok (.iaload, 1) := by decide +kernel
theorem dX12_havens_52 : decode cX12_havens 52 = .ok (.if_icmp .ge 52, 3) := by decide +kernel
theorem dX12_havens_55 : decode cX12_havens 55 = .ok (.iload_n 2, 1) := by decide +kernel
theorem dX12_havens_56 : decode cX12_havens 56 = .ok (.iload_n 1, 1) := by decide +kernel
theorem dX12_havens_57 : decode cX12_havens 57 = .ok (.aload_n 0, 1) := by decide +kernel
theorem dX12_havens_58 : decode cX12_havens 58 = .ok (.iload_n 3, 1) := by decide +kernel
theorem dX12_havens_59 : decode cX12_havens 59 = .ok (.invokevirtual 279, 3) := by decide +kernel
theorem dX12_havens_62 : decode cX12_havens 62 = .ok (.iadd, 1) := by decide +kernel
theorem dX12_havens_63 : decode cX12_havens 63 = .ok (.aload_n 0, 1) := by decide +kernel
theorem dX12_havens_64 : decode cX12_havens 64 = .ok (.aload_n 0, 1) := by decide +kernel
theorem dX12_havens_65 : decode cX12_havens 65 = .ok (.getfield 55, 3) := by decide +kernel
theorem dX12_havens_68 : decode cX12_havens 68 = .ok (.bipush 32, 2) := by decide +kernel
theorem dX12_havens_70 : decode cX12_havens 70 = .ok (.iload_n 3, 1) := by decide +kernel
theorem dX12_havens_71 : decode cX12_havens 71 = .ok (.iadd, 1) := by decide +kernel
theorem dX12_havens_72 : decode cX12_havens 72 = .ok (.iaload, 1) := by decide +kernel
theorem dX12_havens_73 : decode cX12_havens 73 = .ok (.invokevirtual 261, 3) := by decide +kernel
theorem dX12_havens_76 : decode cX12_havens 76 = .ok (.if_icmp .le 19, 3) := by decide +kernel
theorem dX12_havens_79 : decode cX12_havens 79 = .ok (.iconst 1, 1) := by decide +kernel
theorem dX12_havens_80 : decode cX12_havens 80 = .ok (.aload_n 0, 1) := by decide +kernel
theorem dX12_havens_81 : decode cX12_havens 81 = .ok (.getfield 55, 3) := by decide +kernel
theorem dX12_havens_84 : decode cX12_havens 84 = .ok (.bipush 32, 2) := by decide +kernel
theorem dX12_havens_86 : decode cX12_havens 86 = .ok (.iload_n 3, 1) := by decide +kernel
theorem dX12_havens_87 : decode cX12_havens 87 = .ok (.iadd, 1) := by decide +kernel
theorem dX12_havens_88 : decode cX12_havens 88 = .ok (.iaload, 1) := by decide +kernel
theorem dX12_havens_89 : decode cX12_havens 89 = .ok (.ishl, 1) := by decide +kernel
theorem dX12_havens_90 : decode cX12_havens 90 = .ok (.iconst (-1), 1) := by decide +kernel
theorem dX12_havens_91 : decode cX12_havens 91 = .ok (.ixor, 1) := by decide +kernel
theorem dX12_havens_92 : decode cX12_havens 92 = .ok (.goto 4, 3) := by decide +kernel
theorem dX12_havens_95 : decode cX12_havens 95 = .ok (.iconst (-1), 1) := by decide +kernel
theorem dX12_havens_96 : decode cX12_havens 96 = .ok (.iand, 1) := by decide +kernel
theorem dX12_havens_97 : decode cX12_havens 97 = .ok (.istore_n 2, 1) := by decide +kernel
theorem dX12_havens_98 : decode cX12_havens 98 = .ok (.iinc 3 1, 3) := by decide +kernel
theorem dX12_havens_101 : decode cX12_havens 101 = .ok (.goto (-56), 3) := by decide +kernel
theorem dX12_havens_104 : decode cX12_havens 104 = .ok (.iload_n 2, 1) := by decide +kernel
theorem dX12_havens_105 : decode cX12_havens 105 = .ok (.ireturn, 1) := by decide +kernel
theorem dX12_hungry_0 : decode cX12_hungry 0 = .ok (.aload_n 0, 1) := by decide +kernel
theorem dX12_hungry_1 : decode cX12_hungry 1 = .ok (.iconst 0, 1) := by decide +kernel
theorem dX12_hungry_2 : decode cX12_hungry 2 = .ok (.putfield 93, 3) := by decide +kernel
theorem dX12_hungry_5 : decode cX12_hungry 5 = .ok (.iconst 0, 1) := by decide +kernel
theorem dX12_hungry_6 : decode cX12_hungry 6 = .ok (.istore_n 1, 1) := by decide +kernel
theorem dX12_hungry_7 : decode cX12_hungry 7 = .ok (.iconst 0, 1) := by decide +kernel
theorem dX12_hungry_8 : decode cX12_hungry 8 = .ok (.istore_n 2, 1) := by decide +kernel
theorem dX12_hungry_9 : decode cX12_hungry 9 = .ok (.iload_n 2, 1) := by decide +kernel
theorem dX12_hungry_10 : decode cX12_hungry 10 = .ok (.aload_n 0, 1) := by decide +kernel
theorem dX12_hungry_11 : decode cX12_hungry 11 = .ok (.getfield 23, 3) := by decide +kernel
theorem dX12_hungry_14 : decode cX12_hungry 14 = .ok (.iconst 3, 1) := by decide +kernel
theorem dX12_hungry_15 : decode cX12_hungry 15 = .ok (.iaload, 1) := by decide +kernel
theorem dX12_hungry_16 : decode cX12_hungry 16 = .ok (.if_icmp .ge 31, 3) := by decide +kernel
theorem dX12_hungry_19 : decode cX12_hungry 19 = .ok (.iload_n 1, 1) := by decide +kernel
theorem dX12_hungry_20 : decode cX12_hungry 20 = .ok (.aload_n 0, 1) := by decide +kernel
theorem dX12_hungry_21 : decode cX12_hungry 21 = .ok (.aload_n 0, 1) := by decide +kernel
theorem dX12_hungry_22 : decode cX12_hungry 22 = .ok (.getfield 55, 3) := by decide +kernel
theorem dX12_hungry_25 : decode cX12_hungry 25 = .ok (.iload_n 2, 1) := by decide +kernel
theorem dX12_hungry_26 : decode cX12_hungry 26 = .ok (.invokevirtual 289, 3) := by decide +kernel
theorem dX12_hungry_29 : decode cX12_hungry 29 = .ok (.ifCond .ne 9, 3) := by decide +kernel
theorem dX12_hungry_32 : decode cX12_hungry 32 = .ok (.iconst 1, 1) := by decide +kernel
theorem dX12_hungry_33 : decode cX12_hungry 33 = .ok (.iload_n 2, 1) := by decide +kernel
theorem dX12_hungry_34 : decode cX12_hungry 34 = .ok (.ishl, 1) := by decide +kernel
theorem dX12_hungry_35 : decode cX12_hungry 35 = .ok (.goto 4, 3) := by decide +kernel
theorem dX12_hungry_38 : decode cX12_hungry 38 = .ok (.iconst 0, 1) := by decide +kernel
theorem dX12_hungry_39 : decode cX12_hungry 39 = .ok (.ior, 1) := by decide +kernel
theorem dX12_hungry_40 : decode cX12_hungry 40 = .ok (.istore_n 1, 1) := by decide +kernel
theorem dX12_hungry_41 : decode cX12_hungry 41 = .ok (.iinc 2 1, 3) := by decide +kernel
theorem dX12_hungry_44 : decode cX12_hungry 44 = .ok (.goto (-35), 3) := by decide +kernel
theorem dX12_hungry_47 : decode cX12_hungry 47 = .ok (.iload_n 1, 1) := by decide +kernel
theorem dX12_hungry_48 : decode cX12_hungry 48 = .ok (.ireturn, 1) := by decide +kernel
theorem dX12_crowd_0 : decode cX12_crowd 0 = .ok (.aload_n 0, 1) := by decide +kernel
theorem dX12_crowd_1 : decode cX12_crowd 1 = .ok (.iconst 0, 1) := by decide +kernel
theorem dX12_crowd_2 : decode cX12_crowd 2 = .ok (.putfield 93, 3) := by decide +kernel
theorem dX12_crowd_5 : decode cX12_crowd 5 = .ok (.aload_n 0, 1) := by decide +kernel
theorem dX12_crowd_6 : decode cX12_crowd 6 = .ok (.iload_n 1, 1) := by decide +kernel
theorem dX12_crowd_7 : decode cX12_crowd 7 = .ok (.iconst 0, 1) := by decide +kernel
theorem dX12_crowd_8 : decode cX12_crowd 8 = .ok (.iconst 1, 1) := by decide +kernel
theorem dX12_crowd_9 : decode cX12_crowd 9 = .ok (.invokestatic 127, 3) := by decide +kernel
theorem dX12_crowd_12 : decode cX12_crowd 12 = .ok (.ifCond .ne 7, 3) := by decide +kernel
theorem dX12_crowd_15 : decode cX12_crowd 15 = .ok (.iconst 1, 1) := by decide +kernel
theorem dX12_crowd_16 : decode cX12_crowd 16 = .ok (.goto 4, 3) := by decide +kernel
theorem dX12_crowd_19 : decode cX12_crowd 19 = .ok (.iconst 0, 1) := by decide +kernel
theorem dX12_crowd_20 : decode cX12_crowd 20 = .ok (.iconst 1, 1) := by decide +kernel
theorem dX12_crowd_21 : decode cX12_crowd 21 = .ok (.iconst 1, 1) := by decide +kernel
theorem dX12_crowd_22 : decode cX12_crowd 22 = .ok (.invokevirtual 172, 3) := by decide +kernel
theorem dX12_crowd_25 : decode cX12_crowd 25 = .ok (.ifCond .eq 5, 3) := by decide +kernel
theorem dX12_crowd_28 : decode cX12_crowd 28 = .ok (.iconst 0, 1) := by decide +kernel
theorem dX12_crowd_29 : decode cX12_crowd 29 = .ok (.ireturn, 1) := by decide +kernel
theorem dX12_crowd_30 : decode cX12_crowd 30 = .ok (.iconst (-1), 1) := by decide +kernel
theorem dX12_crowd_31 : decode cX12_crowd 31 = .ok (.istore_n 2, 1) := by decide +kernel
theorem dX12_crowd_32 : decode cX12_crowd 32 = .ok (.iconst 0, 1) := by decide +kernel
theorem dX12_crowd_33 : decode cX12_crowd 33 = .ok (.istore_n 3, 1) := by decide +kernel
theorem dX12_crowd_34 : decode cX12_crowd 34 = .ok (.iconst 0, 1) := by decide +kernel
theorem dX12_crowd_35 : decode cX12_crowd 35 = .ok (.istore 4, 2) := by decide +kernel
theorem dX12_crowd_37 : decode cX12_crowd 37 = .ok (.iload 4, 2) := by decide +kernel
theorem dX12_crowd_39 : decode cX12_crowd 39 = .ok (.aload_n 0, 1) := by decide +kernel
theorem dX12_crowd_40 : decode cX12_crowd 40 = .ok (.getfield 23, 3) := by decide +kernel
theorem dX12_crowd_43 : decode cX12_crowd 43 = .ok (.iconst 0, 1) := by decide +kernel
theorem dX12_crowd_44 : decode cX12_crowd 44 = .ok (.iaload, 1) := by decide +kernel
theorem dX12_crowd_45 : decode cX12_crowd 45 = .ok (.if_icmp .ge 88, 3) := by decide +kernel
theorem dX12_crowd_48 : decode cX12_crowd 48 = .ok (.iconst 0, 1) := by decide +kernel
theorem dX12_crowd_49 : decode cX12_crowd 49 = .ok (.istore 5, 2) := by decide +kernel
theorem dX12_crowd_51 : decode cX12_crowd 51 = .ok (.iconst 0, 1) := by decide +kernel
theorem dX12_crowd_52 : decode cX12_crowd 52 = .ok (.istore 6, 2) := by decide +kernel
theorem dX12_crowd_54 : decode cX12_crowd 54 = .ok (.iload 6, 2) := by decide +kernel
theorem dX12_crowd_56 : decode cX12_crowd 56 = .ok (.aload_n 0, 1) := by decide +kernel
theorem dX12_crowd_57 : decode cX12_crowd 57 = .ok (.getfield 23, 3) := by decide +kernel
theorem dX12_crowd_60 : decode cX12_crowd 60 = .ok (.iconst 2, 1) := by decide +kernel
theorem dX12_crowd_61 : decode cX12_crowd 61 = .ok (.iaload, 1) := by decide +kernel
theorem dX12_crowd_62 : decode cX12_crowd 62 = .ok (.if_icmp .ge 45, 3) := by decide +kernel
theorem dX12_crowd_65 : decode cX12_crowd 65 = .ok (.iload 5, 2) := by decide +kernel
theorem dX12_crowd_67 : decode cX12_crowd 67 = .ok (.aload_n 0, 1) := by decide +kernel
theorem dX12_crowd_68 : decode cX12_crowd 68 = .ok (.getfield 55, 3) := by decide +kernel
theorem dX12_crowd_71 : decode cX12_crowd 71 = .ok (.iload 6, 2) := by decide +kernel
theorem dX12_crowd_73 : decode cX12_crowd 73 = .ok (.invokestatic 275, 3) := by decide +kernel
theorem dX12_crowd_76 : decode cX12_crowd 76 = .ok (.ifCond .eq 21, 3) := by decide +kernel
theorem dX12_crowd_79 : decode cX12_crowd 79 = .ok (.aload_n 0, 1) := by decide +kernel
theorem dX12_crowd_80 : decode cX12_crowd 80 = .ok (.getfield 55, 3) := by decide +kernel
theorem dX12_crowd_83 : decode cX12_crowd 83 = .ok (.iconst 0, 1) := by decide +kernel
theorem dX12_crowd_84 : decode cX12_crowd 84 = .ok (.iload 6, 2) := by decide +kernel
theorem dX12_crowd_86 : decode cX12_crowd 86 = .ok (.iadd, 1) := by decide +kernel
theorem dX12_crowd_87 : decode cX12_crowd 87 = .ok (.iaload, 1) := by decide +kernel
theorem dX12_crowd_88 : decode cX12_crowd 88 = .ok (.iload 4, 2) := by decide +kernel
theorem dX12_crowd_90 : decode cX12_crowd 90 = .ok (.if_icmp .ne 7, 3) := by decide +kernel
theorem dX12_crowd_93 : decode cX12_crowd 93 = .ok (.iconst 1, 1) := by decide +kernel
theorem dX12_crowd_94 : decode cX12_crowd 94 = .ok (.goto 4, 3) := by decide +kernel
theorem dX12_crowd_97 : decode cX12_crowd 97 = .ok (.iconst 0, 1) := by decide +kernel
theorem dX12_crowd_98 : decode cX12_crowd 98 = .ok (.iadd, 1) := by decide +kernel
theorem dX12_crowd_99 : decode cX12_crowd 99 = .ok (.istore 5, 2) := by decide +kernel
theorem dX12_crowd_101 : decode cX12_crowd 101 = .ok (.iinc 6 1, 3) := by decide +kernel
theorem dX12_crowd_104 : decode cX12_crowd 104 = .ok (.goto (-50), 3) := by decide +kernel
theorem dX12_crowd_107 : decode cX12_crowd 107 = .ok (.iload 5, 2) := by decide +kernel
theorem dX12_crowd_109 : decode cX12_crowd 109 = .ok (.iload_n 3, 1) := by decide +kernel
theorem dX12_crowd_110 : decode cX12_crowd 110 = .ok (.if_icmp .le 8, 3) := by decide +kernel
theorem dX12_crowd_113 : decode cX12_crowd 113 = .ok (.iload 4, 2) := by decide +kernel
theorem dX12_crowd_115 : decode cX12_crowd 115 = .ok (.goto 4, 3) := by decide +kernel
theorem dX12_crowd_118 : decode cX12_crowd 118 = .ok (.iload_n 2, 1) := by decide +kernel
theorem dX12_crowd_119 : decode cX12_crowd 119 = .ok (.istore_n 2, 1) := by decide +kernel
theorem dX12_crowd_120 : decode cX12_crowd 120 = .ok (.iload_n 3, 1) := by decide +kernel
theorem dX12_crowd_121 : decode cX12_crowd 121 = .ok (.iload 5, 2) := by decide +kernel
theorem dX12_crowd_123 : decode cX12_crowd 123 = .ok (.invokestatic 235, 3) := by decide +kernel
theorem dX12_crowd_126 : decode cX12_crowd 126 = .ok (.istore_n 3, 1) := by decide +kernel
theorem dX12_crowd_127 : decode cX12_crowd 127 = .ok (.iinc 4 1, 3) := by decide +kernel
theorem dX12_crowd_130 : decode cX12_crowd 130 = .ok (.goto (-93), 3) := by decide +kernel
theorem dX12_crowd_133 : decode cX12_crowd 133 = .ok (.iload_n 1, 1) := by decide +kernel
theorem dX12_crowd_134 : decode cX12_crowd 134 = .ok (.ifCond .eq 8, 3) := by decide +kernel
theorem dX12_crowd_137 : decode cX12_crowd 137 = .ok (.iload_n 2, 1) := by decide +kernel
theorem dX12_crowd_138 : decode cX12_crowd 138 = .ok (.iconst (-1), 1) := by decide +kernel
theorem dX12_crowd_139 : decode cX12_crowd 139 = .ok (.if_icmp .ne 7, 3) := by decide +kernel
theorem dX12_crowd_142 : decode cX12_crowd 142 = .ok (.iload_n 2, 1) := by decide +kernel
theorem dX12_crowd_143 : decode cX12_crowd 143 = .ok (.goto 4, 3) := by decide +kernel
theorem dX12_crowd_146 : decode cX12_crowd 146 = .ok (.iload_n 3, 1) := by decide +kernel
theorem dX12_crowd_147 : decode cX12_crowd 147 = .ok (.ireturn, 1) := by decide +kernel
theorem dX12_grown_0 : decode cX12_grown 0 = .ok (.aload_n 0, 1) := by decide +kernel
theorem dX12_grown_1 : decode cX12_grown 1 = .ok (.iconst 0, 1) := by decide +kernel
theorem dX12_grown_2 : decode cX12_grown 2 = .ok (.putfield 93, 3) := by decide +kernel
theorem dX12_grown_5 : decode cX12_grown 5 = .ok (.aload_n 0, 1) := by decide +kernel
theorem dX12_grown_6 : decode cX12_grown 6 = .ok (.aload_n 0, 1) := by decide +kernel
theorem dX12_grown_7 : decode cX12_grown 7 = .ok (.iconst 2, 1) := by decide +kernel
theorem dX12_grown_8 : decode cX12_grown 8 = .ok (.iload_n 1, 1) := by decide +kernel
theorem dX12_grown_9 : decode cX12_grown 9 = .ok (.invokevirtual 336, 3) := by decide +kernel
theorem dX12_grown_12 : decode cX12_grown 12 = .ok (.ifCond .ne 7, 3) := by decide +kernel
theorem dX12_grown_15 : decode cX12_grown 15 = .ok (.iconst 1, 1) := by decide +kernel
theorem dX12_grown_16 : decode cX12_grown 16 = .ok (.goto 4, 3) := by decide +kernel
theorem dX12_grown_19 : decode cX12_grown 19 = .ok (.iconst 0, 1) := by decide +kernel
theorem dX12_grown_20 : decode cX12_grown 20 = .ok (.iconst 1, 1) := by decide +kernel
theorem dX12_grown_21 : decode cX12_grown 21 = .ok (.iconst 0, 1) := by decide +kernel
theorem dX12_grown_22 : decode cX12_grown 22 = .ok (.invokevirtual 172, 3) := by decide +kernel
theorem dX12_grown_25 : decode cX12_grown 25 = .ok (.ifCond .ne 27, 3) := by decide +kernel
theorem dX12_grown_28 : decode cX12_grown 28 = .ok (.aload_n 0, 1) := by decide +kernel
theorem dX12_grown_29 : decode cX12_grown 29 = .ok (.iload_n 2, 1) := by decide +kernel
theorem dX12_grown_30 : decode cX12_grown 30 = .ok (.iconst 0, 1) := by decide +kernel
theorem dX12_grown_31 : decode cX12_grown 31 = .ok (.bipush 99, 2) := by decide +kernel
theorem dX12_grown_33 : decode cX12_grown 33 = .ok (.invokestatic 127, 3) := by decide +kernel
theorem dX12_grown_36 : decode cX12_grown 36 = .ok (.ifCond .ne 7, 3) := by decide +kernel
theorem dX12_grown_39 : decode cX12_grown 39 = .ok (.iconst 1, 1) := by decide +kernel
theorem dX12_grown_40 : decode cX12_grown 40 = .ok (.goto 4, 3) := by decide +kernel
theorem dX12_grown_43 : decode cX12_grown 43 = .ok (.iconst 0, 1) := by decide +kernel
theorem dX12_grown_44 : decode cX12_grown 44 = .ok (.iconst 2, 1) := by decide +kernel
theorem dX12_grown_45 : decode cX12_grown 45 = .ok (.iconst 1, 1) := by decide +kernel
theorem dX12_grown_46 : decode cX12_grown 46 = .ok (.invokevirtual 172, 3) := by decide +kernel
theorem dX12_grown_49 : decode cX12_grown 49 = .ok (.ifCond .eq 5, 3) := by decide +kernel
theorem dX12_grown_52 : decode cX12_grown 52 = .ok (.iconst 0, 1) := by decide +kernel
theorem dX12_grown_53 : decode cX12_grown 53 = .ok (.ireturn, 1) := by decide +kernel
theorem dX12_grown_54 : decode cX12_grown 54 = .ok (.aload_n 0, 1) := by decide +kernel
theorem dX12_grown_55 : decode cX12_grown 55 = .ok (.getfield 55, 3) := by decide +kernel
theorem dX12_grown_58 : decode cX12_grown 58 = .ok (.aload_n 0, 1) := by decide +kernel
theorem dX12_grown_59 : decode cX12_grown 59 = .ok (.getfield 58, 3) := by decide +kernel
theorem dX12_grown_62 : decode cX12_grown 62 = .ok (.invokestatic 328, 3) := by decide +kernel
theorem dX12_grown_65 : decode cX12_grown 65 = .ok (.iconst 0, 1) := by decide +kernel
theorem dX12_grown_66 : decode cX12_grown 66 = .ok (.istore_n 3, 1) := by decide +kernel
theorem dX12_grown_67 : decode cX12_grown 67 = .ok (.iload_n 3, 1) := by decide +kernel
theorem dX12_grown_68 : decode cX12_grown 68 = .ok (.iload_n 2, 1) := by decide +kernel
theorem dX12_grown_69 : decode cX12_grown 69 = .ok (.if_icmp .ge 17, 3) := by decide +kernel
theorem dX12_grown_72 : decode cX12_grown 72 = .ok (.aload_n 0, 1) := by decide +kernel
theorem dX12_grown_73 : decode cX12_grown 73 = .ok (.aload_n 0, 1) := by decide +kernel
theorem dX12_grown_74 : decode cX12_grown 74 = .ok (.getfield 58, 3) := by decide +kernel
theorem dX12_grown_77 : decode cX12_grown 77 = .ok (.invokevirtual 311, 3) := by decide +kernel
theorem dX12_grown_80 : decode cX12_grown 80 = .ok (.iinc 3 1, 3) := by decide +kernel
theorem dX12_grown_83 : decode cX12_grown 83 = .ok (.goto (-16), 3) := by decide +kernel
theorem dX12_grown_86 : decode cX12_grown 86 = .ok (.aload_n 0, 1) := by decide +kernel
theorem dX12_grown_87 : decode cX12_grown 87 = .ok (.getfield 58, 3) := by decide +kernel
theorem dX12_grown_90 : decode cX12_grown 90 = .ok (.iload_n 1, 1) := by decide +kernel
theorem dX12_grown_91 : decode cX12_grown 91 = .ok (.invokestatic 275, 3) := by decide +kernel
theorem dX12_grown_94 : decode cX12_grown 94 = .ok (.ifCond .eq 15, 3) := by decide +kernel
theorem dX12_grown_97 : decode cX12_grown 97 = .ok (.aload_n 0, 1) := by decide +kernel
theorem dX12_grown_98 : decode cX12_grown 98 = .ok (.getfield 58, 3) := by decide +kernel
theorem dX12_grown_101 : decode cX12_grown 101 = .ok (.bipush 8, 2) := by decide +kernel
theorem dX12_grown_103 : decode cX12_grown 103 = .ok (.iload_n 1, 1) := by decide +kernel
theorem dX12_grown_104 : decode cX12_grown 104 = .ok (.iadd, 1) := by decide +kernel
theorem dX12_grown_105 : decode cX12_grown 105 = .ok (.iaload, 1) := by decide +kernel
theorem dX12_grown_106 : decode cX12_grown 106 = .ok (.goto 4, 3) := by decide +kernel
theorem dX12_grown_109 : decode cX12_grown 109 = .ok (.iconst (-1), 1) := by decide +kernel
theorem dX12_grown_110 : decode cX12_grown 110 = .ok (.ireturn, 1) := by decide +kernel
theorem dX12_escapes_0 : decode cX12_escapes 0 = .ok (.aload_n 0, 1) := by decide +kernel
theorem dX12_escapes_1 : decode cX12_escapes 1 = .ok (.iconst 0, 1) := by decide +kernel
theorem dX12_escapes_2 : decode cX12_escapes 2 = .ok (.putfield 93, 3) := by decide +kernel
theorem dX12_escapes_5 : decode cX12_escapes 5 = .ok (.aload_n 0, 1) := by decide +kernel
theorem dX12_escapes_6 : decode cX12_escapes 6 = .ok (.aload_n 0, 1) := by decide +kernel
theorem dX12_escapes_7 : decode cX12_escapes 7 = .ok (.iconst 2, 1) := by decide +kernel
theorem dX12_escapes_8 : decode cX12_escapes 8 = .ok (.iload_n 1, 1) := by decide +kernel
theorem dX12_escapes_9 : decode cX12_escapes 9 = .ok (.invokevirtual 336, 3) := by decide +kernel
theorem dX12_escapes_12 : decode cX12_escapes 12 = .ok (.ifCond .ne 7, 3) := by decide +kernel
theorem dX12_escapes_15 : decode cX12_escapes 15 = .ok (.iconst 1, 1) := by decide +kernel
theorem dX12_escapes_16 : decode cX12_escapes 16 = .ok (.goto 4, 3) := by decide +kernel
theorem dX12_escapes_19 : decode cX12_escapes 19 = .ok (.iconst 0, 1) := by decide +kernel
theorem dX12_escapes_20 : decode cX12_escapes 20 = .ok (.iconst 1, 1) := by decide +kernel
theorem dX12_escapes_21 : decode cX12_escapes 21 = .ok (.iconst 0, 1) := by decide +kernel
theorem dX12_escapes_22 : decode cX12_escapes 22 = .ok (.invokevirtual 172, 3) := by decide +kernel
theorem dX12_escapes_25 : decode cX12_escapes 25 = .ok (.ifCond .eq 5, 3) := by decide +kernel
theorem dX12_escapes_28 : decode cX12_escapes 28 = .ok (.iconst 0, 1) := by decide +kernel
theorem dX12_escapes_29 : decode cX12_escapes 29 = .ok (.ireturn, 1) := by decide +kernel
theorem dX12_escapes_30 : decode cX12_escapes 30 = .ok (.aload_n 0, 1) := by decide +kernel
theorem dX12_escapes_31 : decode cX12_escapes 31 = .ok (.getfield 55, 3) := by decide +kernel
theorem dX12_escapes_34 : decode cX12_escapes 34 = .ok (.iload_n 1, 1) := by decide +kernel
theorem dX12_escapes_35 : decode cX12_escapes 35 = .ok (.invokestatic 275, 3) := by decide +kernel
theorem dX12_escapes_38 : decode cX12_escapes 38 = .ok (.ifCond .ne 5, 3) := by decide +kernel
theorem dX12_escapes_41 : decode cX12_escapes 41 = .ok (.iconst 0, 1) := by decide +kernel
theorem dX12_escapes_42 : decode cX12_escapes 42 = .ok (.ireturn, 1) := by decide +kernel
theorem dX12_escapes_43 : decode cX12_escapes 43 = .ok (.aload_n 0, 1) := by decide +kernel
theorem dX12_escapes_44 : decode cX12_escapes 44 = .ok (.aload_n 0, 1) := by decide +kernel
theorem dX12_escapes_45 : decode cX12_escapes 45 = .ok (.getfield 55, 3) := by decide +kernel
theorem dX12_escapes_48 : decode cX12_escapes 48 = .ok (.aload_n 0, 1) := by decide +kernel
theorem dX12_escapes_49 : decode cX12_escapes 49 = .ok (.getfield 55, 3) := by decide +kernel
theorem dX12_escapes_52 : decode cX12_escapes 52 = .ok (.iconst 0, 1) := by decide +kernel
theorem dX12_escapes_53 : decode cX12_escapes 53 = .ok (.iload_n 1, 1) := by decide +kernel
theorem dX12_escapes_54 : decode cX12_escapes 54 = .ok (.iadd, 1) := by decide +kernel
theorem dX12_escapes_55 : decode cX12_escapes 55 = .ok (.iaload, 1) := by decide +kernel
theorem dX12_escapes_56 : decode cX12_escapes 56 = .ok (.invokevirtual 299, 3) := by decide +kernel
theorem dX12_escapes_59 : decode cX12_escapes 59 = .ok (.iconst 1, 1) := by decide +kernel
theorem dX12_escapes_60 : decode cX12_escapes 60 = .ok (.aload_n 0, 1) := by decide +kernel
theorem dX12_escapes_61 : decode cX12_escapes 61 = .ok (.getfield 55, 3) := by decide +kernel
theorem dX12_escapes_64 : decode cX12_escapes 64 = .ok (.iconst 0, 1) := by decide +kernel
theorem dX12_escapes_65 : decode cX12_escapes 65 = .ok (.iload_n 1, 1) := by decide +kernel
theorem dX12_escapes_66 : decode cX12_escapes 66 = .ok (.iadd, 1) := by decide +kernel
theorem dX12_escapes_67 : decode cX12_escapes 67 = .ok (.iaload, 1) := by decide +kernel
theorem dX12_escapes_68 : decode cX12_escapes 68 = .ok (.ishl, 1) := by decide +kernel
theorem dX12_escapes_69 : decode cX12_escapes 69 = .ok (.ior, 1) := by decide +kernel
theorem dX12_escapes_70 : decode cX12_escapes 70 = .ok (.istore_n 2, 1) := by decide +kernel
theorem dX12_escapes_71 : decode cX12_escapes 71 = .ok (.iconst 0, 1) := by decide +kernel
theorem dX12_escapes_72 : decode cX12_escapes 72 = .ok (.istore_n 3, 1) := by decide +kernel
theorem dX12_escapes_73 : decode cX12_escapes 73 = .ok (.iload_n 3, 1) := by decide +kernel
theorem dX12_escapes_74 : decode cX12_escapes 74 = .ok (.aload_n 0, 1) := by decide +kernel
theorem dX12_escapes_75 : decode cX12_escapes 75 = .ok (.getfield 23, 3) := by decide +kernel
theorem dX12_escapes_78 : decode cX12_escapes 78 = .ok (.iconst 3, 1) := by decide +kernel
theorem dX12_escapes_79 : decode cX12_escapes 79 = .ok (.iaload, 1) := by decide +kernel
theorem dX12_escapes_80 : decode cX12_escapes 80 = .ok (.if_icmp .ge 60, 3) := by decide +kernel
theorem dX12_escapes_83 : decode cX12_escapes 83 = .ok (.iload_n 2, 1) := by decide +kernel
theorem dX12_escapes_84 : decode cX12_escapes 84 = .ok (.aload_n 0, 1) := by decide +kernel
theorem dX12_escapes_85 : decode cX12_escapes 85 = .ok (.getfield 55, 3) := by decide +kernel
theorem dX12_escapes_88 : decode cX12_escapes 88 = .ok (.bipush 8, 2) := by decide +kernel
theorem dX12_escapes_90 : decode cX12_escapes 90 = .ok (.iload_n 1, 1) := by decide +kernel
theorem dX12_escapes_91 : decode cX12_escapes 91 = .ok (.iadd, 1) := by decide +kernel
theorem dX12_escapes_92 : decode cX12_escapes 92 = .ok (.iaload, 1) := by decide +kernel
theorem dX12_escapes_93 : decode cX12_escapes 93 = .ok (.aload_n 0, 1) := by decide +kernel
theorem dX12_escapes_94 : decode cX12_escapes 94 = .ok (.iload_n 3, 1) := by decide +kernel
theorem dX12_escapes_95 : decode cX12_escapes 95 = .ok (.invokevirtual 279, 3) := by decide +kernel
theorem dX12_escapes_98 : decode cX12_escapes 98 = .ok (.iadd, 1) := by decide +kernel
theorem dX12_escapes_99 : decode cX12_escapes 99 = .ok (.aload_n 0, 1) := by decide +kernel
theorem dX12_escapes_100 : decode cX12_escapes 100 = .ok (.aload_n 0, 1) := by decide +kernel
theorem dX12_escapes_101 : decode cX12_escapes 101 = .ok (.getfield 55, 3) := by decide +kernel
theorem dX12_escapes_104 : decode cX12_escapes 104 = .ok (.bipush 32, 2) := by decide +kernel
theorem dX12_escapes_106 : decode cX12_escapes 106 = .ok (.iload_n 3, 1) := by decide +kernel
theorem dX12_escapes_107 : decode cX12_escapes 107 = .ok (.iadd, 1) := by decide +kernel
theorem dX12_escapes_108 : decode cX12_escapes 108 = .ok (.iaload, 1) := by decide +kernel
theorem dX12_escapes_109 : decode cX12_escapes 109 = .ok (.invokevirtual 261, 3) := by decide +kernel
theorem dX12_escapes_112 : decode cX12_escapes 112 = .ok (.if_icmp .le 19, 3) := by decide +kernel
theorem dX12_escapes_115 : decode cX12_escapes 115 = .ok (.iconst 1, 1) := by decide +kernel
theorem dX12_escapes_116 : decode cX12_escapes 116 = .ok (.aload_n 0, 1) := by decide +kernel
theorem dX12_escapes_117 : decode cX12_escapes 117 = .ok (.getfield 55, 3) := by decide +kernel
theorem dX12_escapes_120 : decode cX12_escapes 120 = .ok (.bipush 32, 2) := by decide +kernel
theorem dX12_escapes_122 : decode cX12_escapes 122 = .ok (.iload_n 3, 1) := by decide +kernel
theorem dX12_escapes_123 : decode cX12_escapes 123 = .ok (.iadd, 1) := by decide +kernel
theorem dX12_escapes_124 : decode cX12_escapes 124 = .ok (.iaload, 1) := by decide +kernel
theorem dX12_escapes_125 : decode cX12_escapes 125 = .ok (.ishl, 1) := by decide +kernel
theorem dX12_escapes_126 : decode cX12_escapes 126 = .ok (.iconst (-1), 1) := by decide +kernel
theorem dX12_escapes_127 : decode cX12_escapes 127 = .ok (.ixor, 1) := by decide +kernel
theorem dX12_escapes_128 : decode cX12_escapes 128 = .ok (.goto 4, 3) := by decide +kernel
theorem dX12_escapes_131 : decode cX12_escapes 131 = .ok (.iconst (-1), 1) := by decide +kernel
theorem dX12_escapes_132 : decode cX12_escapes 132 = .ok (.iand, 1) := by decide +kernel
theorem dX12_escapes_133 : decode cX12_escapes 133 = .ok (.istore_n 2, 1) := by decide +kernel
theorem dX12_escapes_134 : decode cX12_escapes 134 = .ok (.iinc 3 1, 3) := by decide +kernel
theorem dX12_escapes_137 : decode cX12_escapes 137 = .ok (.goto (-64), 3) := by decide +kernel
theorem dX12_escapes_140 : decode cX12_escapes 140 = .ok (.iload_n 2, 1) := by decide +kernel
theorem dX12_escapes_141 : decode cX12_escapes 141 = .ok (.ireturn, 1) := by decide +kernel
theorem dX12_weight_0 : decode cX12_weight 0 = .ok (.aload_n 0, 1) := by decide +kernel
theorem dX12_weight_1 : decode cX12_weight 1 = .ok (.iconst 0, 1) := by decide +kernel
theorem dX12_weight_2 : decode cX12_weight 2 = .ok (.putfield 93, 3) := by decide +kernel
theorem dX12_weight_5 : decode cX12_weight 5 = .ok (.aload_n 0, 1) := by decide +kernel
theorem dX12_weight_6 : decode cX12_weight 6 = .ok (.aload_n 0, 1) := by decide +kernel
theorem dX12_weight_7 : decode cX12_weight 7 = .ok (.iconst 0, 1) := by decide +kernel
theorem dX12_weight_8 : decode cX12_weight 8 = .ok (.iload_n 1, 1) := by decide +kernel
theorem dX12_weight_9 : decode cX12_weight 9 = .ok (.invokevirtual 336, 3) := by decide +kernel
theorem dX12_weight_12 : decode cX12_weight 12 = .ok (.ifCond .ne 7, 3) := by decide +kernel
theorem dX12_weight_15 : decode cX12_weight 15 = .ok (.iconst 1, 1) := by decide +kernel
theorem dX12_weight_16 : decode cX12_weight 16 = .ok (.goto 4, 3) := by decide +kernel
theorem dX12_weight_19 : decode cX12_weight 19 = .ok (.iconst 0, 1) := by decide +kernel
theorem dX12_weight_20 : decode cX12_weight 20 = .ok (.iconst 1, 1) := by decide +kernel
theorem dX12_weight_21 : decode cX12_weight 21 = .ok (.iconst 0, 1) := by decide +kernel
theorem dX12_weight_22 : decode cX12_weight 22 = .ok (.invokevirtual 172, 3) := by decide +kernel
theorem dX12_weight_25 : decode cX12_weight 25 = .ok (.ifCond .eq 5, 3) := by decide +kernel
theorem dX12_weight_28 : decode cX12_weight 28 = .ok (.iconst 0, 1) := by decide +kernel
theorem dX12_weight_29 : decode cX12_weight 29 = .ok (.ireturn, 1) := by decide +kernel
theorem dX12_weight_30 : decode cX12_weight 30 = .ok (.iconst 0, 1) := by decide +kernel
theorem dX12_weight_31 : decode cX12_weight 31 = .ok (.istore_n 2, 1) := by decide +kernel
theorem dX12_weight_32 : decode cX12_weight 32 = .ok (.iconst 0, 1) := by decide +kernel
theorem dX12_weight_33 : decode cX12_weight 33 = .ok (.istore_n 3, 1) := by decide +kernel
theorem dX12_weight_34 : decode cX12_weight 34 = .ok (.iload_n 3, 1) := by decide +kernel
theorem dX12_weight_35 : decode cX12_weight 35 = .ok (.aload_n 0, 1) := by decide +kernel
theorem dX12_weight_36 : decode cX12_weight 36 = .ok (.getfield 23, 3) := by decide +kernel
theorem dX12_weight_39 : decode cX12_weight 39 = .ok (.iconst 2, 1) := by decide +kernel
theorem dX12_weight_40 : decode cX12_weight 40 = .ok (.iaload, 1) := by decide +kernel
theorem dX12_weight_41 : decode cX12_weight 41 = .ok (.if_icmp .ge 33, 3) := by decide +kernel
theorem dX12_weight_44 : decode cX12_weight 44 = .ok (.iload_n 2, 1) := by decide +kernel
theorem dX12_weight_45 : decode cX12_weight 45 = .ok (.aload_n 0, 1) := by decide +kernel
theorem dX12_weight_46 : decode cX12_weight 46 = .ok (.getfield 55, 3) := by decide +kernel
theorem dX12_weight_49 : decode cX12_weight 49 = .ok (.iconst 0, 1) := by decide +kernel
theorem dX12_weight_50 : decode cX12_weight 50 = .ok (.iload_n 3, 1) := by decide +kernel
theorem dX12_weight_51 : decode cX12_weight 51 = .ok (.iadd, 1) := by decide +kernel
theorem dX12_weight_52 : decode cX12_weight 52 = .ok (.iaload, 1) := by decide +kernel
theorem dX12_weight_53 : decode cX12_weight 53 = .ok (.iload_n 1, 1) := by decide +kernel
theorem dX12_weight_54 : decode cX12_weight 54 = .ok (.if_icmp .ne 11, 3) := by decide +kernel
theorem dX12_weight_57 : decode cX12_weight 57 = .ok (.aload_n 0, 1) := by decide +kernel
theorem dX12_weight_58 : decode cX12_weight 58 = .ok (.iload_n 3, 1) := by decide +kernel
theorem dX12_weight_59 : decode cX12_weight 59 = .ok (.invokevirtual 379, 3) := by decide +kernel
theorem dX12_weight_62 : decode cX12_weight 62 = .ok (.goto 4, 3) := by decide +kernel
theorem dX12_weight_65 : decode cX12_weight 65 = .ok (.iconst 0, 1) := by decide +kernel
theorem dX12_weight_66 : decode cX12_weight 66 = .ok (.iadd, 1) := by decide +kernel
theorem dX12_weight_67 : decode cX12_weight 67 = .ok (.istore_n 2, 1) := by decide +kernel
theorem dX12_weight_68 : decode cX12_weight 68 = .ok (.iinc 3 1, 3) := by decide +kernel
theorem dX12_weight_71 : decode cX12_weight 71 = .ok (.goto (-37), 3) := by decide +kernel
theorem dX12_weight_74 : decode cX12_weight 74 = .ok (.iload_n 2, 1) := by decide +kernel
theorem dX12_weight_75 : decode cX12_weight 75 = .ok (.ireturn, 1) := by decide +kernel
theorem dX12_draw_0 : decode cX12_draw 0 = .ok (.aload_n 0, 1) := by decide +kernel
theorem dX12_draw_1 : decode cX12_draw 1 = .ok (.aload_n 0, 1) := by decide +kernel
theorem dX12_draw_2 : decode cX12_draw 2 = .ok (.getfield 388, 3) := by decide +kernel
theorem dX12_draw_5 : decode cX12_draw 5 = .ok (.ldc_w 391, 3) := by decide +kernel
theorem dX12_draw_8 : decode cX12_draw 8 = .ok (.imul, 1) := by decide +kernel
theorem dX12_draw_9 : decode cX12_draw 9 = .ok (.sipush 12345, 3) := by decide +kernel
theorem dX12_draw_12 : decode cX12_draw 12 = .ok (.iadd, 1) := by decide +kernel
theorem dX12_draw_13 : decode cX12_draw 13 = .ok (.putfield 388, 3) := by decide +kernel
theorem dX12_draw_16 : decode cX12_draw 16 = .ok (.aload_n 0, 1) := by decide +kernel
theorem dX12_draw_17 : decode cX12_draw 17 = .ok (.getfield 388, 3) := by decide +kernel
theorem dX12_draw_20 : decode cX12_draw 20 = .ok (.bipush 16, 2) := by decide +kernel
theorem dX12_draw_22 : decode cX12_draw 22 = .ok (.ishr, 1) := by decide +kernel
theorem dX12_draw_23 : decode cX12_draw 23 = .ok (.sipush 32767, 3) := by decide +kernel
theorem dX12_draw_26 : decode cX12_draw 26 = .ok (.iand, 1) := by decide +kernel
theorem dX12_draw_27 : decode cX12_draw 27 = .ok (.iload_n 1, 1) := by decide +kernel
theorem dX12_draw_28 : decode cX12_draw 28 = .ok (.irem, 1) := by decide +kernel
theorem dX12_draw_29 : decode cX12_draw 29 = .ok (.ireturn, 1) := by decide +kernel
theorem dX12_seasonBy_0 : decode cX12_seasonBy 0 = .ok (.aload_n 0, 1) := by decide +kernel
theorem dX12_seasonBy_1 : decode cX12_seasonBy 1 = .ok (.getfield 55, 3) := by decide +kernel
theorem dX12_seasonBy_4 : decode cX12_seasonBy 4 = .ok (.aload_n 0, 1) := by decide +kernel
theorem dX12_seasonBy_5 : decode cX12_seasonBy 5 = .ok (.getfield 58, 3) := by decide +kernel
theorem dX12_seasonBy_8 : decode cX12_seasonBy 8 = .ok (.invokestatic 328, 3) := by decide +kernel
theorem dX12_seasonBy_11 : decode cX12_seasonBy 11 = .ok (.aload_n 0, 1) := by decide +kernel
theorem dX12_seasonBy_12 : decode cX12_seasonBy 12 = .ok (.iload_n 1, 1) := by decide +kernel
theorem dX12_seasonBy_13 : decode cX12_seasonBy 13 = .ok (.putfield 388, 3) := by decide +kernel
theorem dX12_seasonBy_16 : decode cX12_seasonBy 16 = .ok (.iconst 0, 1) := by decide +kernel
theorem dX12_seasonBy_17 : decode cX12_seasonBy 17 = .ok (.istore 4, 2) := by decide +kernel
theorem dX12_seasonBy_19 : decode cX12_seasonBy 19 = .ok (.iload 4, 2) := by decide +kernel
theorem dX12_seasonBy_21 : decode cX12_seasonBy 21 = .ok (.iload_n 2, 1) := by decide +kernel
theorem dX12_seasonBy_22 : decode cX12_seasonBy 22 = .ok (.if_icmp .ge 132, 3) := by decide +kernel
theorem dX12_seasonBy_25 : decode cX12_seasonBy 25 = .ok (.aload_n 0, 1) := by decide +kernel
theorem dX12_seasonBy_26 : decode cX12_seasonBy 26 = .ok (.getfield 23, 3) := by decide +kernel
theorem dX12_seasonBy_29 : decode cX12_seasonBy 29 = .ok (.iconst 2, 1) := by decide +kernel
theorem dX12_seasonBy_30 : decode cX12_seasonBy 30 = .ok (.iaload, 1) := by decide +kernel
theorem dX12_seasonBy_31 : decode cX12_seasonBy 31 = .ok (.ifCond .le 54, 3) := by decide +kernel
theorem dX12_seasonBy_34 : decode cX12_seasonBy 34 = .ok (.aload_n 0, 1) := by decide +kernel
theorem dX12_seasonBy_35 : decode cX12_seasonBy 35 = .ok (.aload_n 0, 1) := by decide +kernel
theorem dX12_seasonBy_36 : decode cX12_seasonBy 36 = .ok (.getfield 23, 3) := by decide +kernel
theorem dX12_seasonBy_39 : decode cX12_seasonBy 39 = .ok (.iconst 2, 1) := by decide +kernel
theorem dX12_seasonBy_40 : decode cX12_seasonBy 40 = .ok (.iaload, 1) := by decide +kernel
theorem dX12_seasonBy_41 : decode cX12_seasonBy 41 = .ok (.invokevirtual 392, 3) := by decide +kernel
theorem dX12_seasonBy_44 : decode cX12_seasonBy 44 = .ok (.istore 5, 2) := by decide +kernel
theorem dX12_seasonBy_46 : decode cX12_seasonBy 46 = .ok (.aload_n 0, 1) := by decide +kernel
theorem dX12_seasonBy_47 : decode cX12_seasonBy 47 = .ok (.aload_n 0, 1) := by decide +kernel
theorem dX12_seasonBy_48 : decode cX12_seasonBy 48 = .ok (.getfield 23, 3) := by decide +kernel
theorem dX12_seasonBy_51 : decode cX12_seasonBy 51 = .ok (.iconst 0, 1) := by decide +kernel
theorem dX12_seasonBy_52 : decode cX12_seasonBy 52 = .ok (.iaload, 1) := by decide +kernel
theorem dX12_seasonBy_53 : decode cX12_seasonBy 53 = .ok (.invokevirtual 392, 3) := by decide +kernel
theorem dX12_seasonBy_56 : decode cX12_seasonBy 56 = .ok (.istore 6, 2) := by decide +kernel
theorem dX12_seasonBy_58 : decode cX12_seasonBy 58 = .ok (.aload_n 0, 1) := by decide +kernel
theorem dX12_seasonBy_59 : decode cX12_seasonBy 59 = .ok (.getfield 58, 3) := by decide +kernel
theorem dX12_seasonBy_62 : decode cX12_seasonBy 62 = .ok (.iload 5, 2) := by decide +kernel
theorem dX12_seasonBy_64 : decode cX12_seasonBy 64 = .ok (.invokestatic 275, 3) := by decide +kernel
theorem dX12_seasonBy_67 : decode cX12_seasonBy 67 = .ok (.ifCond .eq 18, 3) := by decide +kernel
theorem dX12_seasonBy_70 : decode cX12_seasonBy 70 = .ok (.aload_n 0, 1) := by decide +kernel
theorem dX12_seasonBy_71 : decode cX12_seasonBy 71 = .ok (.aload_n 0, 1) := by decide +kernel
theorem dX12_seasonBy_72 : decode cX12_seasonBy 72 = .ok (.getfield 58, 3) := by decide +kernel
theorem dX12_seasonBy_75 : decode cX12_seasonBy 75 = .ok (.iconst 0, 1) := by decide +kernel
theorem dX12_seasonBy_76 : decode cX12_seasonBy 76 = .ok (.iload 5, 2) := by decide +kernel
theorem dX12_seasonBy_78 : decode cX12_seasonBy 78 = .ok (.iadd, 1) := by decide +kernel
theorem dX12_seasonBy_79 : decode cX12_seasonBy 79 = .ok (.iload 6, 2) := by decide +kernel
theorem dX12_seasonBy_81 : decode cX12_seasonBy 81 = .ok (.invokevirtual 305, 3) := by decide +kernel
theorem dX12_seasonBy_84 : decode cX12_seasonBy 84 = .ok (.pop, 1) := by decide +kernel
theorem dX12_seasonBy_85 : decode cX12_seasonBy 85 = .ok (.aload_n 0, 1) := by decide +kernel
theorem dX12_seasonBy_86 : decode cX12_seasonBy 86 = .ok (.getfield 23, 3) := by decide +kernel
theorem dX12_seasonBy_89 : decode cX12_seasonBy 89 = .ok (.iconst 3, 1) := by decide +kernel
theorem dX12_seasonBy_90 : decode cX12_seasonBy 90 = .ok (.iaload, 1) := by decide +kernel
theorem dX12_seasonBy_91 : decode cX12_seasonBy 91 = .ok (.ifCond .le 49, 3) := by decide +kernel
theorem dX12_seasonBy_94 : decode cX12_seasonBy 94 = .ok (.aload_n 0, 1) := by decide +kernel
theorem dX12_seasonBy_95 : decode cX12_seasonBy 95 = .ok (.bipush 16, 2) := by decide +kernel
theorem dX12_seasonBy_97 : decode cX12_seasonBy 97 = .ok (.invokevirtual 392, 3) := by decide +kernel
theorem dX12_seasonBy_100 : decode cX12_seasonBy 100 = .ok (.iload_n 3, 1) := by decide +kernel
theorem dX12_seasonBy_101 : decode cX12_seasonBy 101 = .ok (.if_icmp .ge 39, 3) := by decide +kernel
theorem dX12_seasonBy_104 : decode cX12_seasonBy 104 = .ok (.aload_n 0, 1) := by decide +kernel
theorem dX12_seasonBy_105 : decode cX12_seasonBy 105 = .ok (.aload_n 0, 1) := by decide +kernel
theorem dX12_seasonBy_106 : decode cX12_seasonBy 106 = .ok (.getfield 23, 3) := by decide +kernel
theorem dX12_seasonBy_109 : decode cX12_seasonBy 109 = .ok (.iconst 3, 1) := by decide +kernel
theorem dX12_seasonBy_110 : decode cX12_seasonBy 110 = .ok (.iaload, 1) := by decide +kernel
theorem dX12_seasonBy_111 : decode cX12_seasonBy 111 = .ok (.invokevirtual 392, 3) := by decide +kernel
theorem dX12_seasonBy_114 : decode cX12_seasonBy 114 = .ok (.istore 5, 2) := by decide +kernel
theorem dX12_seasonBy_116 : decode cX12_seasonBy 116 = .ok (.aload_n 0, 1) := by decide +kernel
theorem dX12_seasonBy_117 : decode cX12_seasonBy 117 = .ok (.aload_n 0, 1) := by decide +kernel
theorem dX12_seasonBy_118 : decode cX12_seasonBy 118 = .ok (.getfield 58, 3) := by decide +kernel
theorem dX12_seasonBy_121 : decode cX12_seasonBy 121 = .ok (.bipush 32, 2) := by decide +kernel
theorem dX12_seasonBy_123 : decode cX12_seasonBy 123 = .ok (.iload 5, 2) := by decide +kernel
theorem dX12_seasonBy_125 : decode cX12_seasonBy 125 = .ok (.iadd, 1) := by decide +kernel
theorem dX12_seasonBy_126 : decode cX12_seasonBy 126 = .ok (.aload_n 0, 1) := by decide +kernel
theorem dX12_seasonBy_127 : decode cX12_seasonBy 127 = .ok (.aload_n 0, 1) := by decide +kernel
theorem dX12_seasonBy_128 : decode cX12_seasonBy 128 = .ok (.getfield 23, 3) := by decide +kernel
theorem dX12_seasonBy_131 : decode cX12_seasonBy 131 = .ok (.iconst 0, 1) := by decide +kernel
theorem dX12_seasonBy_132 : decode cX12_seasonBy 132 = .ok (.iaload, 1) := by decide +kernel
theorem dX12_seasonBy_133 : decode cX12_seasonBy 133 = .ok (.invokevirtual 392, 3) := by decide +kernel
theorem dX12_seasonBy_136 : decode cX12_seasonBy 136 = .ok (.invokevirtual 305, 3) := by decide +kernel
theorem dX12_seasonBy_139 : decode cX12_seasonBy 139 = .ok (.pop, 1) := by decide +kernel
theorem dX12_seasonBy_140 : decode cX12_seasonBy 140 = .ok (.aload_n 0, 1) := by decide +kernel
theorem dX12_seasonBy_141 : decode cX12_seasonBy 141 = .ok (.aload_n 0, 1) := by decide +kernel
theorem dX12_seasonBy_142 : decode cX12_seasonBy 142 = .ok (.getfield 58, 3) := by decide +kernel
theorem dX12_seasonBy_145 : decode cX12_seasonBy 145 = .ok (.invokevirtual 311, 3) := by decide +kernel
theorem dX12_seasonBy_148 : decode cX12_seasonBy 148 = .ok (.iinc 4 1, 3) := by decide +kernel
theorem dX12_seasonBy_151 : decode cX12_seasonBy 151 = .ok (.goto (-132), 3) := by decide +kernel
theorem dX12_seasonBy_154 : decode cX12_seasonBy 154 = .ok (.return_, 1) := by decide +kernel
theorem dX12_isSeason_0 : decode cX12_isSeason 0 = .ok (.iload_n 0, 1) := by decide +kernel
theorem dX12_isSeason_1 : decode cX12_isSeason 1 = .ok (.iconst 1, 1) := by decide +kernel
theorem dX12_isSeason_2 : decode cX12_isSeason 2 = .ok (.bipush 96, 2) := by decide +kernel
theorem dX12_isSeason_4 : decode cX12_isSeason 4 = .ok (.invokestatic 127, 3) := by decide +kernel
theorem dX12_isSeason_7 : decode cX12_isSeason 7 = .ok (.ifCond .eq 17, 3) := by decide +kernel
theorem dX12_isSeason_10 : decode cX12_isSeason 10 = .ok (.iload_n 1, 1) := by decide +kernel
theorem dX12_isSeason_11 : decode cX12_isSeason 11 = .ok (.iconst 0, 1) := by decide +kernel
theorem dX12_isSeason_12 : decode cX12_isSeason 12 = .ok (.bipush 16, 2) := by decide +kernel
theorem dX12_isSeason_14 : decode cX12_isSeason 14 = .ok (.invokestatic 127, 3) := by decide +kernel
theorem dX12_isSeason_17 : decode cX12_isSeason 17 = .ok (.ifCond .eq 7, 3) := by decide +kernel
theorem dX12_isSeason_20 : decode cX12_isSeason 20 = .ok (.iconst 1, 1) := by decide +kernel
theorem dX12_isSeason_21 : decode cX12_isSeason 21 = .ok (.goto 4, 3) := by decide +kernel
theorem dX12_isSeason_24 : decode cX12_isSeason 24 = .ok (.iconst 0, 1) := by decide +kernel
theorem dX12_isSeason_25 : decode cX12_isSeason 25 = .ok (.ireturn, 1) := by decide +kernel
theorem dX12_season_0 : decode cX12_season 0 = .ok (.aload_n 0, 1) := by decide +kernel
theorem dX12_season_1 : decode cX12_season 1 = .ok (.iconst 0, 1) := by decide +kernel
theorem dX12_season_2 : decode cX12_season 2 = .ok (.putfield 93, 3) := by decide +kernel
theorem dX12_season_5 : decode cX12_season 5 = .ok (.aload_n 0, 1) := by decide +kernel
theorem dX12_season_6 : decode cX12_season 6 = .ok (.iload_n 2, 1) := by decide +kernel
theorem dX12_season_7 : decode cX12_season 7 = .ok (.iload_n 3, 1) := by decide +kernel
theorem dX12_season_8 : decode cX12_season 8 = .ok (.invokestatic 395, 3) := by decide +kernel
theorem dX12_season_11 : decode cX12_season 11 = .ok (.ifCond .eq 13, 3) := by decide +kernel
theorem dX12_season_14 : decode cX12_season 14 = .ok (.iload 4, 2) := by decide +kernel
theorem dX12_season_16 : decode cX12_season 16 = .ok (.iconst 0, 1) := by decide +kernel
theorem dX12_season_17 : decode cX12_season 17 = .ok (.iconst 3, 1) := by decide +kernel
theorem dX12_season_18 : decode cX12_season 18 = .ok (.invokestatic 127, 3) := by decide +kernel
theorem dX12_season_21 : decode cX12_season 21 = .ok (.ifCond .ne 7, 3) := by decide +kernel
theorem dX12_season_24 : decode cX12_season 24 = .ok (.iconst 1, 1) := by decide +kernel
theorem dX12_season_25 : decode cX12_season 25 = .ok (.goto 4, 3) := by decide +kernel
theorem dX12_season_28 : decode cX12_season 28 = .ok (.iconst 0, 1) := by decide +kernel
theorem dX12_season_29 : decode cX12_season 29 = .ok (.iconst 1, 1) := by decide +kernel
theorem dX12_season_30 : decode cX12_season 30 = .ok (.iconst 1, 1) := by decide +kernel
theorem dX12_season_31 : decode cX12_season 31 = .ok (.invokevirtual 172, 3) := by decide +kernel
theorem dX12_season_34 : decode cX12_season 34 = .ok (.ifCond .eq 5, 3) := by decide +kernel
theorem dX12_season_37 : decode cX12_season 37 = .ok (.iconst 0, 1) := by decide +kernel
theorem dX12_season_38 : decode cX12_season 38 = .ok (.ireturn, 1) := by decide +kernel
theorem dX12_season_39 : decode cX12_season 39 = .ok (.aload_n 0, 1) := by decide +kernel
theorem dX12_season_40 : decode cX12_season 40 = .ok (.iload_n 1, 1) := by decide +kernel
theorem dX12_season_41 : decode cX12_season 41 = .ok (.iload_n 2, 1) := by decide +kernel
theorem dX12_season_42 : decode cX12_season 42 = .ok (.iload_n 3, 1) := by decide +kernel
theorem dX12_season_43 : decode cX12_season 43 = .ok (.invokevirtual 398, 3) := by decide +kernel
theorem dX12_season_46 : decode cX12_season 46 = .ok (.iload 4, 2) := by decide +kernel
theorem dX12_season_48 : decode cX12_season 48 = .ok (.ifCond .ne 13, 3) := by decide +kernel
theorem dX12_season_51 : decode cX12_season 51 = .ok (.aload_n 0, 1) := by decide +kernel
theorem dX12_season_52 : decode cX12_season 52 = .ok (.getfield 58, 3) := by decide +kernel
theorem dX12_season_55 : decode cX12_season 55 = .ok (.bipush 42, 2) := by decide +kernel
theorem dX12_season_57 : decode cX12_season 57 = .ok (.iaload, 1) := by decide +kernel
theorem dX12_season_58 : decode cX12_season 58 = .ok (.goto 47, 3) := by decide +kernel
theorem dX12_season_61 : decode cX12_season 61 = .ok (.iload 4, 2) := by decide +kernel
theorem dX12_season_63 : decode cX12_season 63 = .ok (.iconst 1, 1) := by decide +kernel
theorem dX12_season_64 : decode cX12_season 64 = .ok (.if_icmp .ne 14, 3) := by decide +kernel
theorem dX12_season_67 : decode cX12_season 67 = .ok (.aload_n 0, 1) := by decide +kernel
theorem dX12_season_68 : decode cX12_season 68 = .ok (.aload_n 0, 1) := by decide +kernel
theorem dX12_season_69 : decode cX12_season 69 = .ok (.getfield 58, 3) := by decide +kernel
theorem dX12_season_72 : decode cX12_season 72 = .ok (.invokevirtual 332, 3) := by decide +kernel
theorem dX12_season_75 : decode cX12_season 75 = .ok (.goto 30, 3) := by decide +kernel
theorem dX12_season_78 : decode cX12_season 78 = .ok (.iload 4, 2) := by decide +kernel
theorem dX12_season_80 : decode cX12_season 80 = .ok (.iconst 2, 1) := by decide +kernel
theorem dX12_season_81 : decode cX12_season 81 = .ok (.if_icmp .ne 16, 3) := by decide +kernel
theorem dX12_season_84 : decode cX12_season 84 = .ok (.aload_n 0, 1) := by decide +kernel
theorem dX12_season_85 : decode cX12_season 85 = .ok (.getfield 58, 3) := by decide +kernel
theorem dX12_season_88 : decode cX12_season 88 = .ok (.bipush 43, 2) := by decide +kernel
theorem dX12_season_90 : decode cX12_season 90 = .ok (.iaload, 1) := by decide +kernel
theorem dX12_season_91 : decode cX12_season 91 = .ok (.invokestatic 268, 3) := by decide +kernel
theorem dX12_season_94 : decode cX12_season 94 = .ok (.goto 11, 3) := by decide +kernel
theorem dX12_season_97 : decode cX12_season 97 = .ok (.aload_n 0, 1) := by decide +kernel
theorem dX12_season_98 : decode cX12_season 98 = .ok (.aload_n 0, 1) := by decide +kernel
theorem dX12_season_99 : decode cX12_season 99 = .ok (.getfield 58, 3) := by decide +kernel
theorem dX12_season_102 : decode cX12_season 102 = .ok (.invokevirtual 385, 3) := by decide +kernel
theorem dX12_season_105 : decode cX12_season 105 = .ok (.ireturn, 1) := by decide +kernel
theorem dX12_span_0 : decode cX12_span 0 = .ok (.aload_n 0, 1) := by decide +kernel
theorem dX12_span_1 : decode cX12_span 1 = .ok (.iconst 0, 1) := by decide +kernel
theorem dX12_span_2 : decode cX12_span 2 = .ok (.putfield 93, 3) := by decide +kernel
theorem dX12_span_5 : decode cX12_span 5 = .ok (.aload_n 0, 1) := by decide +kernel
theorem dX12_span_6 : decode cX12_span 6 = .ok (.iload_n 2, 1) := by decide +kernel
theorem dX12_span_7 : decode cX12_span 7 = .ok (.iconst 1, 1) := by decide +kernel
theorem dX12_span_8 : decode cX12_span 8 = .ok (.bipush 20, 2) := by decide +kernel
theorem dX12_span_10 : decode cX12_span 10 = .ok (.invokestatic 127, 3) := by decide +kernel
theorem dX12_span_13 : decode cX12_span 13 = .ok (.ifCond .eq 32, 3) := by decide +kernel
theorem dX12_span_16 : decode cX12_span 16 = .ok (.iload_n 3, 1) := by decide +kernel
theorem dX12_span_17 : decode cX12_span 17 = .ok (.iload 4, 2) := by decide +kernel
theorem dX12_span_19 : decode cX12_span 19 = .ok (.invokestatic 395, 3) := by decide +kernel
theorem dX12_span_22 : decode cX12_span 22 = .ok (.ifCond .eq 23, 3) := by decide +kernel
theorem dX12_span_25 : decode cX12_span 25 = .ok (.iload 5, 2) := by decide +kernel
theorem dX12_span_27 : decode cX12_span 27 = .ok (.iconst 0, 1) := by decide +kernel
theorem dX12_span_28 : decode cX12_span 28 = .ok (.iconst 2, 1) := by decide +kernel
theorem dX12_span_29 : decode cX12_span 29 = .ok (.invokestatic 127, 3) := by decide +kernel
theorem dX12_span_32 : decode cX12_span 32 = .ok (.ifCond .eq 13, 3) := by decide +kernel
theorem dX12_span_35 : decode cX12_span 35 = .ok (.aload_n 0, 1) := by decide +kernel
theorem dX12_span_36 : decode cX12_span 36 = .ok (.iconst 2, 1) := by decide +kernel
theorem dX12_span_37 : decode cX12_span 37 = .ok (.iload 6, 2) := by decide +kernel
theorem dX12_span_39 : decode cX12_span 39 = .ok (.invokevirtual 336, 3) := by decide +kernel
theorem dX12_span_42 : decode cX12_span 42 = .ok (.ifCond .ne 7, 3) := by decide +kernel
theorem dX12_span_45 : decode cX12_span 45 = .ok (.iconst 1, 1) := by decide +kernel
theorem dX12_span_46 : decode cX12_span 46 = .ok (.goto 4, 3) := by decide +kernel
theorem dX12_span_49 : decode cX12_span 49 = .ok (.iconst 0, 1) := by decide +kernel
theorem dX12_span_50 : decode cX12_span 50 = .ok (.iconst 1, 1) := by decide +kernel
theorem dX12_span_51 : decode cX12_span 51 = .ok (.iconst 1, 1) := by decide +kernel
theorem dX12_span_52 : decode cX12_span 52 = .ok (.invokevirtual 172, 3) := by decide +kernel
theorem dX12_span_55 : decode cX12_span 55 = .ok (.ifCond .eq 5, 3) := by decide +kernel
theorem dX12_span_58 : decode cX12_span 58 = .ok (.iconst 0, 1) := by decide +kernel
theorem dX12_span_59 : decode cX12_span 59 = .ok (.ireturn, 1) := by decide +kernel
theorem dX12_span_60 : decode cX12_span 60 = .ok (.iconst (-1), 1) := by decide +kernel
theorem dX12_span_61 : decode cX12_span 61 = .ok (.istore 7, 2) := by decide +kernel
theorem dX12_span_63 : decode cX12_span 63 = .ok (.iconst 0, 1) := by decide +kernel
theorem dX12_span_64 : decode cX12_span 64 = .ok (.istore 8, 2) := by decide +kernel
theorem dX12_span_66 : decode cX12_span 66 = .ok (.iconst 0, 1) := by decide +kernel
theorem dX12_span_67 : decode cX12_span 67 = .ok (.istore 9, 2) := by decide +kernel
theorem dX12_span_69 : decode cX12_span 69 = .ok (.iconst 0, 1) := by decide +kernel
theorem dX12_span_70 : decode cX12_span 70 = .ok (.istore 10, 2) := by decide +kernel
theorem dX12_span_72 : decode cX12_span 72 = .ok (.iload 10, 2) := by decide +kernel
theorem dX12_span_74 : decode cX12_span 74 = .ok (.iload_n 2, 1) := by decide +kernel
theorem dX12_span_75 : decode cX12_span 75 = .ok (.if_icmp .ge 78, 3) := by decide +kernel
theorem dX12_span_78 : decode cX12_span 78 = .ok (.aload_n 0, 1) := by decide +kernel
theorem dX12_span_79 : decode cX12_span 79 = .ok (.iload_n 1, 1) := by decide +kernel
theorem dX12_span_80 : decode cX12_span 80 = .ok (.iload 10, 2) := by decide +kernel
theorem dX12_span_82 : decode cX12_span 82 = .ok (.iadd, 1) := by decide +kernel
theorem dX12_span_83 : decode cX12_span 83 = .ok (.iload_n 3, 1) := by decide +kernel
theorem dX12_span_84 : decode cX12_span 84 = .ok (.iload 4, 2) := by decide +kernel
theorem dX12_span_86 : decode cX12_span 86 = .ok (.invokevirtual 398, 3) := by decide +kernel
theorem dX12_span_89 : decode cX12_span 89 = .ok (.aload_n 0, 1) := by decide +kernel
theorem dX12_span_90 : decode cX12_span 90 = .ok (.getfield 58, 3) := by decide +kernel
theorem dX12_span_93 : decode cX12_span 93 = .ok (.bipush 42, 2) := by decide +kernel
theorem dX12_span_95 : decode cX12_span 95 = .ok (.iaload, 1) := by decide +kernel
theorem dX12_span_96 : decode cX12_span 96 = .ok (.invokestatic 268, 3) := by decide +kernel
theorem dX12_span_99 : decode cX12_span 99 = .ok (.istore 11, 2) := by decide +kernel
theorem dX12_span_101 : decode cX12_span 101 = .ok (.iload 7, 2) := by decide +kernel
theorem dX12_span_103 : decode cX12_span 103 = .ok (.iconst (-1), 1) := by decide +kernel
theorem dX12_span_104 : decode cX12_span 104 = .ok (.if_icmp .ne 8, 3) := by decide +kernel
theorem dX12_span_107 : decode cX12_span 107 = .ok (.iload 11, 2) := by decide +kernel
theorem dX12_span_109 : decode cX12_span 109 = .ok (.goto 10, 3) := by decide +kernel
theorem dX12_span_112 : decode cX12_span 112 = .ok (.iload 7, 2) := by decide +kernel
theorem dX12_span_114 : decode cX12_span 114 = .ok (.iload 11, 2) := by decide +kernel
theorem dX12_span_116 : decode cX12_span 116 = .ok (.invokestatic 232, 3) := by decide +kernel
theorem dX12_span_119 : decode cX12_span 119 = .ok (.istore 7, 2) := by decide +kernel
theorem dX12_span_121 : decode cX12_span 121 = .ok (.iload 8, 2) := by decide +kernel
theorem dX12_span_123 : decode cX12_span 123 = .ok (.iload 11, 2) := by decide +kernel
theorem dX12_span_125 : decode cX12_span 125 = .ok (.invokestatic 235, 3) := by decide +kernel
theorem dX12_span_128 : decode cX12_span 128 = .ok (.istore 8, 2) := by decide +kernel
theorem dX12_span_130 : decode cX12_span 130 = .ok (.iload 9, 2) := by decide +kernel
theorem dX12_span_132 : decode cX12_span 132 = .ok (.aload_n 0, 1) := by decide +kernel
theorem dX12_span_133 : decode cX12_span 133 = .ok (.getfield 58, 3) := by decide +kernel
theorem dX12_span_136 : decode cX12_span 136 = .ok (.bipush 42, 2) := by decide +kernel
theorem dX12_span_138 : decode cX12_span 138 = .ok (.iaload, 1) := by decide +kernel
theorem dX12_span_139 : decode cX12_span 139 = .ok (.iload 6, 2) := by decide +kernel
theorem dX12_span_141 : decode cX12_span 141 = .ok (.ishr, 1) := by decide +kernel
theorem dX12_span_142 : decode cX12_span 142 = .ok (.iconst 1, 1) := by decide +kernel
theorem dX12_span_143 : decode cX12_span 143 = .ok (.iand, 1) := by decide +kernel
theorem dX12_span_144 : decode cX12_span 144 = .ok (.iadd, 1) := by decide +kernel
theorem dX12_span_145 : decode cX12_span 145 = .ok (.istore 9, 2) := by decide +kernel
theorem dX12_span_147 : decode cX12_span 147 = .ok (.iinc 10 1, 3) := by decide +kernel
theorem dX12_span_150 : decode cX12_span 150 = .ok (.goto (-78), 3) := by decide +kernel
theorem dX12_span_153 : decode cX12_span 153 = .ok (.iload 5, 2) := by decide +kernel
theorem dX12_span_155 : decode cX12_span 155 = .ok (.ifCond .ne 8, 3) := by decide +kernel
theorem dX12_span_158 : decode cX12_span 158 = .ok (.iload 7, 2) := by decide +kernel
theorem dX12_span_160 : decode cX12_span 160 = .ok (.goto 16, 3) := by decide +kernel
theorem dX12_span_163 : decode cX12_span 163 = .ok (.iload 5, 2) := by decide +kernel
theorem dX12_span_165 : decode cX12_span 165 = .ok (.iconst 1, 1) := by decide +kernel
theorem dX12_span_166 : decode cX12_span 166 = .ok (.if_icmp .ne 8, 3) := by decide +kernel
theorem dX12_span_169 : decode cX12_span 169 = .ok (.iload 8, 2) := by decide +kernel
theorem dX12_span_171 : decode cX12_span 171 = .ok (.goto 5, 3) := by decide +kernel
theorem dX12_span_174 : decode cX12_span 174 = .ok (.iload 9, 2) := by decide +kernel
theorem dX12_span_176 : decode cX12_span 176 = .ok (.ireturn, 1) := by decide +kernel
theorem dX12_puts_0 : decode cX12_puts 0 = .ok (.iload_n 3, 1) := by decide +kernel
theorem dX12_puts_1 : decode cX12_puts 1 = .ok (.ifCond .ne 10, 3) := by decide +kernel
theorem dX12_puts_4 : decode cX12_puts 4 = .ok (.aload_n 1, 1) := by decide +kernel
theorem dX12_puts_5 : decode cX12_puts 5 = .ok (.aload_n 0, 1) := by decide +kernel
theorem dX12_puts_6 : decode cX12_puts 6 = .ok (.getfield 401, 3) := by decide +kernel
theorem dX12_puts_9 : decode cX12_puts 9 = .ok (.iload_n 2, 1) := by decide +kernel
theorem dX12_puts_10 : decode cX12_puts 10 = .ok (.iastore, 1) := by decide +kernel
theorem dX12_puts_11 : decode cX12_puts 11 = .ok (.aload_n 0, 1) := by decide +kernel
theorem dX12_puts_12 : decode cX12_puts 12 = .ok (.dup, 1) := by decide +kernel
theorem dX12_puts_13 : decode cX12_puts 13 = .ok (.getfield 401, 3) := by decide +kernel
theorem dX12_puts_16 : decode cX12_puts 16 = .ok (.iconst 1, 1) := by decide +kernel
theorem dX12_puts_17 : decode cX12_puts 17 = .ok (.iadd, 1) := by decide +kernel
theorem dX12_puts_18 : decode cX12_puts 18 = .ok (.putfield 401, 3) := by decide +kernel
theorem dX12_puts_21 : decode cX12_puts 21 = .ok (.aload_n 1, 1) := by decide +kernel
theorem dX12_puts_22 : decode cX12_puts 22 = .ok (.aload_n 0, 1) := by decide +kernel
theorem dX12_puts_23 : decode cX12_puts 23 = .ok (.getfield 401, 3) := by decide +kernel
theorem dX12_puts_26 : decode cX12_puts 26 = .ok (.iconst 1, 1) := by decide +kernel
theorem dX12_puts_27 : decode cX12_puts 27 = .ok (.isub, 1) := by decide +kernel
theorem dX12_puts_28 : decode cX12_puts 28 = .ok (.iaload, 1) := by decide +kernel
theorem dX12_puts_29 : decode cX12_puts 29 = .ok (.ireturn, 1) := by decide +kernel
theorem dX12_putsAll_0 : decode cX12_putsAll 0 = .ok (.aload_n 0, 1) := by decide +kernel
theorem dX12_putsAll_1 : decode cX12_putsAll 1 = .ok (.iconst 0, 1) := by decide +kernel
theorem dX12_putsAll_2 : decode cX12_putsAll 2 = .ok (.putfield 401, 3) := by decide +kernel
theorem dX12_putsAll_5 : decode cX12_putsAll 5 = .ok (.aload_n 0, 1) := by decide +kernel
theorem dX12_putsAll_6 : decode cX12_putsAll 6 = .ok (.aload_n 0, 1) := by decide +kernel
theorem dX12_putsAll_7 : decode cX12_putsAll 7 = .ok (.aload_n 1, 1) := by decide +kernel
theorem dX12_putsAll_8 : decode cX12_putsAll 8 = .ok (.aload_n 0, 1) := by decide +kernel
theorem dX12_putsAll_9 : decode cX12_putsAll 9 = .ok (.getfield 195, 3) := by decide +kernel
theorem dX12_putsAll_12 : decode cX12_putsAll 12 = .ok (.iload_n 2, 1) := by decide +kernel
theorem dX12_putsAll_13 : decode cX12_putsAll 13 = .ok (.invokevirtual 404, 3) := by decide +kernel
theorem dX12_putsAll_16 : decode cX12_putsAll 16 = .ok (.putfield 195, 3) := by decide +kernel
theorem dX12_putsAll_19 : decode cX12_putsAll 19 = .ok (.iconst 0, 1) := by decide +kernel
theorem dX12_putsAll_20 : decode cX12_putsAll 20 = .ok (.istore_n 3, 1) := by decide +kernel
theorem dX12_putsAll_21 : decode cX12_putsAll 21 = .ok (.iload_n 3, 1) := by decide +kernel
theorem dX12_putsAll_22 : decode cX12_putsAll 22 = .ok (.bipush 47, 2) := by decide +kernel
theorem dX12_putsAll_24 : decode cX12_putsAll 24 = .ok (.if_icmp .ge 27, 3) := by decide +kernel
theorem dX12_putsAll_27 : decode cX12_putsAll 27 = .ok (.aload_n 0, 1) := by decide +kernel
theorem dX12_putsAll_28 : decode cX12_putsAll 28 = .ok (.getfield 55, 3) := by decide +kernel
theorem dX12_putsAll_31 : decode cX12_putsAll 31 = .ok (.iload_n 3, 1) := by decide +kernel
theorem dX12_putsAll_32 : decode cX12_putsAll 32 = .ok (.aload_n 0, 1) := by decide +kernel
theorem dX12_putsAll_33 : decode cX12_putsAll 33 = .ok (.aload_n 1, 1) := by decide +kernel
theorem dX12_putsAll_34 : decode cX12_putsAll 34 = .ok (.aload_n 0, 1) := by decide +kernel
theorem dX12_putsAll_35 : decode cX12_putsAll 35 = .ok (.getfield 55, 3) := by decide +kernel
theorem dX12_putsAll_38 : decode cX12_putsAll 38 = .ok (.iload_n 3, 1) := by decide +kernel
theorem dX12_putsAll_39 : decode cX12_putsAll 39 = .ok (.iaload, 1) := by decide +kernel
theorem dX12_putsAll_40 : decode cX12_putsAll 40 = .ok (.iload_n 2, 1) := by decide +kernel
theorem dX12_putsAll_41 : decode cX12_putsAll 41 = .ok (.invokevirtual 404, 3) := by decide +kernel
theorem dX12_putsAll_44 : decode cX12_putsAll 44 = .ok (.iastore, 1) := by decide +kernel
theorem dX12_putsAll_45 : decode cX12_putsAll 45 = .ok (.iinc 3 1, 3) := by decide +kernel
theorem dX12_putsAll_48 : decode cX12_putsAll 48 = .ok (.goto (-27), 3) := by decide +kernel
theorem dX12_putsAll_51 : decode cX12_putsAll 51 = .ok (.iconst 0, 1) := by decide +kernel
theorem dX12_putsAll_52 : decode cX12_putsAll 52 = .ok (.istore_n 3, 1) := by decide +kernel
theorem dX12_putsAll_53 : decode cX12_putsAll 53 = .ok (.iload_n 3, 1) := by decide +kernel
theorem dX12_putsAll_54 : decode cX12_putsAll 54 = .ok (.bipush 16, 2) := by decide +kernel
theorem dX12_putsAll_56 : decode cX12_putsAll 56 = .ok (.if_icmp .ge 49, 3) := by decide +kernel
theorem dX12_putsAll_59 : decode cX12_putsAll 59 = .ok (.iconst 0, 1) := by decide +kernel
theorem dX12_putsAll_60 : decode cX12_putsAll 60 = .ok (.istore 4, 2) := by decide +kernel
theorem dX12_putsAll_62 : decode cX12_putsAll 62 = .ok (.iload 4, 2) := by decide +kernel
theorem dX12_putsAll_64 : decode cX12_putsAll 64 = .ok (.bipush 47, 2) := by decide +kernel
theorem dX12_putsAll_66 : decode cX12_putsAll 66 = .ok (.if_icmp .ge 33, 3) := by decide +kernel
theorem dX12_putsAll_69 : decode cX12_putsAll 69 = .ok (.aload_n 0, 1) := by decide +kernel
theorem dX12_putsAll_70 : decode cX12_putsAll 70 = .ok (.getfield 64, 3) := by decide +kernel
theorem dX12_putsAll_73 : decode cX12_putsAll 73 = .ok (.iload_n 3, 1) := by decide +kernel
theorem dX12_putsAll_74 : decode cX12_putsAll 74 = .ok (.aaload, 1) := by decide +kernel
theorem dX12_putsAll_75 : decode cX12_putsAll 75 = .ok (.iload 4, 2) := by decide +kernel
theorem dX12_putsAll_77 : decode cX12_putsAll 77 = .ok (.aload_n 0, 1) := by decide +kernel
theorem dX12_putsAll_78 : decode cX12_putsAll 78 = .ok (.aload_n 1, 1) := by decide +kernel
theorem dX12_putsAll_79 : decode cX12_putsAll 79 = .ok (.aload_n 0, 1) := by decide +kernel
theorem dX12_putsAll_80 : decode cX12_putsAll 80 = .ok (.getfield 64, 3) := by decide +kernel
theorem dX12_putsAll_83 : decode cX12_putsAll 83 = .ok (.iload_n 3, 1) := by decide +kernel
theorem dX12_putsAll_84 : decode cX12_putsAll 84 = .ok (.aaload, 1) := by decide +kernel
theorem dX12_putsAll_85 : decode cX12_putsAll 85 = .ok (.iload 4, 2) := by decide +kernel
theorem dX12_putsAll_87 : decode cX12_putsAll 87 = .ok (.iaload, 1) := by decide +kernel
theorem dX12_putsAll_88 : decode cX12_putsAll 88 = .ok (.iload_n 2, 1) := by decide +kernel
theorem dX12_putsAll_89 : decode cX12_putsAll 89 = .ok (.invokevirtual 404, 3) := by decide +kernel
theorem dX12_putsAll_92 : decode cX12_putsAll 92 = .ok (.iastore, 1) := by decide +kernel
theorem dX12_putsAll_93 : decode cX12_putsAll 93 = .ok (.iinc 4 1, 3) := by decide +kernel
theorem dX12_putsAll_96 : decode cX12_putsAll 96 = .ok (.goto (-34), 3) := by decide +kernel
theorem dX12_putsAll_99 : decode cX12_putsAll 99 = .ok (.iinc 3 1, 3) := by decide +kernel
theorem dX12_putsAll_102 : decode cX12_putsAll 102 = .ok (.goto (-49), 3) := by decide +kernel
theorem dX12_putsAll_105 : decode cX12_putsAll 105 = .ok (.return_, 1) := by decide +kernel
theorem dX12_image_0 : decode cX12_image 0 = .ok (.aload_n 0, 1) := by decide +kernel
theorem dX12_image_1 : decode cX12_image 1 = .ok (.iconst 0, 1) := by decide +kernel
theorem dX12_image_2 : decode cX12_image 2 = .ok (.putfield 93, 3) := by decide +kernel
theorem dX12_image_5 : decode cX12_image 5 = .ok (.aload_n 0, 1) := by decide +kernel
theorem dX12_image_6 : decode cX12_image 6 = .ok (.getfield 201, 3) := by decide +kernel
theorem dX12_image_9 : decode cX12_image 9 = .ok (.iconst 3, 1) := by decide +kernel
theorem dX12_image_10 : decode cX12_image 10 = .ok (.if_icmp .ne 5, 3) := by decide +kernel
theorem dX12_image_13 : decode cX12_image 13 = .ok (.iconst (-1), 1) := by decide +kernel
theorem dX12_image_14 : decode cX12_image 14 = .ok (.ireturn, 1) := by decide +kernel
theorem dX12_image_15 : decode cX12_image 15 = .ok (.aload_n 0, 1) := by decide +kernel
theorem dX12_image_16 : decode cX12_image 16 = .ok (.aload_n 0, 1) := by decide +kernel
theorem dX12_image_17 : decode cX12_image 17 = .ok (.getfield 67, 3) := by decide +kernel
theorem dX12_image_20 : decode cX12_image 20 = .ok (.aload_n 0, 1) := by decide +kernel
theorem dX12_image_21 : decode cX12_image 21 = .ok (.getfield 201, 3) := by decide +kernel
theorem dX12_image_24 : decode cX12_image 24 = .ok (.aaload, 1) := by decide +kernel
theorem dX12_image_25 : decode cX12_image 25 = .ok (.iconst 0, 1) := by decide +kernel
theorem dX12_image_26 : decode cX12_image 26 = .ok (.invokevirtual 408, 3) := by decide +kernel
theorem dX12_image_29 : decode cX12_image 29 = .ok (.aload_n 0, 1) := by decide +kernel
theorem dX12_image_30 : decode cX12_image 30 = .ok (.dup, 1) := by decide +kernel
theorem dX12_image_31 : decode cX12_image 31 = .ok (.getfield 201, 3) := by decide +kernel
theorem dX12_image_34 : decode cX12_image 34 = .ok (.iconst 1, 1) := by decide +kernel
theorem dX12_image_35 : decode cX12_image 35 = .ok (.iadd, 1) := by decide +kernel
theorem dX12_image_36 : decode cX12_image 36 = .ok (.putfield 201, 3) := by decide +kernel
theorem dX12_image_39 : decode cX12_image 39 = .ok (.aload_n 0, 1) := by decide +kernel
theorem dX12_image_40 : decode cX12_image 40 = .ok (.getfield 201, 3) := by decide +kernel
theorem dX12_image_43 : decode cX12_image 43 = .ok (.ireturn, 1) := by decide +kernel
theorem dX12_restore_0 : decode cX12_restore 0 = .ok (.aload_n 0, 1) := by decide +kernel
theorem dX12_restore_1 : decode cX12_restore 1 = .ok (.iconst 0, 1) := by decide +kernel
theorem dX12_restore_2 : decode cX12_restore 2 = .ok (.putfield 93, 3) := by decide +kernel
theorem dX12_restore_5 : decode cX12_restore 5 = .ok (.aload_n 0, 1) := by decide +kernel
theorem dX12_restore_6 : decode cX12_restore 6 = .ok (.getfield 201, 3) := by decide +kernel
theorem dX12_restore_9 : decode cX12_restore 9 = .ok (.ifCond .ne 5, 3) := by decide +kernel
theorem dX12_restore_12 : decode cX12_restore 12 = .ok (.iconst (-1), 1) := by decide +kernel
theorem dX12_restore_13 : decode cX12_restore 13 = .ok (.ireturn, 1) := by decide +kernel
theorem dX12_restore_14 : decode cX12_restore 14 = .ok (.aload_n 0, 1) := by decide +kernel
theorem dX12_restore_15 : decode cX12_restore 15 = .ok (.dup, 1) := by decide +kernel
theorem dX12_restore_16 : decode cX12_restore 16 = .ok (.getfield 201, 3) := by decide +kernel
theorem dX12_restore_19 : decode cX12_restore 19 = .ok (.iconst 1, 1) := by decide +kernel
theorem dX12_restore_20 : decode cX12_restore 20 = .ok (.isub, 1) := by decide +kernel
theorem dX12_restore_21 : decode cX12_restore 21 = .ok (.putfield 201, 3) := by decide +kernel
theorem dX12_restore_24 : decode cX12_restore 24 = .ok (.aload_n 0, 1) := by decide +kernel
theorem dX12_restore_25 : decode cX12_restore 25 = .ok (.aload_n 0, 1) := by decide +kernel
theorem dX12_restore_26 : decode cX12_restore 26 = .ok (.getfield 67, 3) := by decide +kernel
theorem dX12_restore_29 : decode cX12_restore 29 = .ok (.aload_n 0, 1) := by decide +kernel
theorem dX12_restore_30 : decode cX12_restore 30 = .ok (.getfield 201, 3) := by decide +kernel
theorem dX12_restore_33 : decode cX12_restore 33 = .ok (.aaload, 1) := by decide +kernel
theorem dX12_restore_34 : decode cX12_restore 34 = .ok (.iconst 1, 1) := by decide +kernel
theorem dX12_restore_35 : decode cX12_restore 35 = .ok (.invokevirtual 408, 3) := by decide +kernel
theorem dX12_restore_38 : decode cX12_restore 38 = .ok (.aload_n 0, 1) := by decide +kernel
theorem dX12_restore_39 : decode cX12_restore 39 = .ok (.iconst 0, 1) := by decide +kernel
theorem dX12_restore_40 : decode cX12_restore 40 = .ok (.putfield 198, 3) := by decide +kernel
theorem dX12_restore_43 : decode cX12_restore 43 = .ok (.aload_n 0, 1) := by decide +kernel
theorem dX12_restore_44 : decode cX12_restore 44 = .ok (.getfield 201, 3) := by decide +kernel
theorem dX12_restore_47 : decode cX12_restore 47 = .ok (.ireturn, 1) := by decide +kernel
theorem dX12_status_0 : decode cX12_status 0 = .ok (.aload_n 0, 1) := by decide +kernel
theorem dX12_status_1 : decode cX12_status 1 = .ok (.iconst 0, 1) := by decide +kernel
theorem dX12_status_2 : decode cX12_status 2 = .ok (.putfield 93, 3) := by decide +kernel
theorem dX12_status_5 : decode cX12_status 5 = .ok (.iload_n 1, 1) := by decide +kernel
theorem dX12_status_6 : decode cX12_status 6 = .ok (.iconst 0, 1) := by decide +kernel
theorem dX12_status_7 : decode cX12_status 7 = .ok (.iconst 1, 1) := by decide +kernel
theorem dX12_status_8 : decode cX12_status 8 = .ok (.invokestatic 127, 3) := by decide +kernel
theorem dX12_status_11 : decode cX12_status 11 = .ok (.ifCond .eq 12, 3) := by decide +kernel
theorem dX12_status_14 : decode cX12_status 14 = .ok (.aload_n 0, 1) := by decide +kernel
theorem dX12_status_15 : decode cX12_status 15 = .ok (.getfield 17, 3) := by decide +kernel
theorem dX12_status_18 : decode cX12_status 18 = .ok (.iload_n 1, 1) := by decide +kernel
theorem dX12_status_19 : decode cX12_status 19 = .ok (.iaload, 1) := by decide +kernel
theorem dX12_status_20 : decode cX12_status 20 = .ok (.goto 4, 3) := by decide +kernel
theorem dX12_status_23 : decode cX12_status 23 = .ok (.iconst (-1), 1) := by decide +kernel
theorem dX12_status_24 : decode cX12_status 24 = .ok (.ireturn, 1) := by decide +kernel
theorem dX12_count_0 : decode cX12_count 0 = .ok (.aload_n 0, 1) := by decide +kernel
theorem dX12_count_1 : decode cX12_count 1 = .ok (.iconst 0, 1) := by decide +kernel
theorem dX12_count_2 : decode cX12_count 2 = .ok (.putfield 93, 3) := by decide +kernel
theorem dX12_count_5 : decode cX12_count 5 = .ok (.iload_n 1, 1) := by decide +kernel
theorem dX12_count_6 : decode cX12_count 6 = .ok (.ifCond .ne 10, 3) := by decide +kernel
theorem dX12_count_9 : decode cX12_count 9 = .ok (.aload_n 0, 1) := by decide +kernel
theorem dX12_count_10 : decode cX12_count 10 = .ok (.getfield 201, 3) := by decide +kernel
theorem dX12_count_13 : decode cX12_count 13 = .ok (.goto 28, 3) := by decide +kernel
theorem dX12_count_16 : decode cX12_count 16 = .ok (.iload_n 1, 1) := by decide +kernel
theorem dX12_count_17 : decode cX12_count 17 = .ok (.iconst 1, 1) := by decide +kernel
theorem dX12_count_18 : decode cX12_count 18 = .ok (.if_icmp .ne 10, 3) := by decide +kernel
theorem dX12_count_21 : decode cX12_count 21 = .ok (.aload_n 0, 1) := by decide +kernel
theorem dX12_count_22 : decode cX12_count 22 = .ok (.getfield 96, 3) := by decide +kernel
theorem dX12_count_25 : decode cX12_count 25 = .ok (.goto 16, 3) := by decide +kernel
theorem dX12_count_28 : decode cX12_count 28 = .ok (.iload_n 1, 1) := by decide +kernel
theorem dX12_count_29 : decode cX12_count 29 = .ok (.iconst 2, 1) := by decide +kernel
theorem dX12_count_30 : decode cX12_count 30 = .ok (.if_icmp .ne 10, 3) := by decide +kernel
theorem dX12_count_33 : decode cX12_count 33 = .ok (.aload_n 0, 1) := by decide +kernel
theorem dX12_count_34 : decode cX12_count 34 = .ok (.getfield 195, 3) := by decide +kernel
theorem dX12_count_37 : decode cX12_count 37 = .ok (.goto 4, 3) := by decide +kernel
theorem dX12_count_40 : decode cX12_count 40 = .ok (.iconst (-1), 1) := by decide +kernel
theorem dX12_count_41 : decode cX12_count 41 = .ok (.ireturn, 1) := by decide +kernel
