theorem dX12_init_10 : decode cX12_init 10 = .ok (.putfield 7, 3) := by decide +kernel
theorem dX12_init_13 : decode cX12_init 13 = .ok (.aload_n 0, 1) := by decide +kernel
theorem dX12_init_14 : decode cX12_init 14 = .ok (.sipush 412, 3) := by decide +kernel
theorem dX12_init_17 : decode cX12_init 17 = .ok (.newarray .int, 2) := by decide +kernel
theorem dX12_init_19 : decode cX12_init 19 = .ok (.putfield 13, 3) := by decide +kernel
theorem dX12_init_22 : decode cX12_init 22 = .ok (.aload_n 0, 1) := by decide +kernel
theorem dX12_init_23 : decode cX12_init 23 = .ok (.sipush 170, 3) := by decide +kernel
theorem dX12_init_26 : decode cX12_init 26 = .ok (.newarray .int, 2) := by decide +kernel
theorem dX12_init_28 : decode cX12_init 28 = .ok (.putfield 16, 3) := by decide +kernel
theorem dX12_init_31 : decode cX12_init 31 = .ok (.aload_n 0, 1) := by decide +kernel
theorem dX12_init_32 : decode cX12_init 32 = .ok (.sipush 824, 3) := by decide +kernel
theorem dX12_init_35 : decode cX12_init 35 = .ok (.newarray .int, 2) := by decide +kernel
theorem dX12_init_37 : decode cX12_init 37 = .ok (.putfield 19, 3) := by decide +kernel
theorem dX12_init_40 : decode cX12_init 40 = .ok (.aload_n 0, 1) := by decide +kernel
theorem dX12_init_41 : decode cX12_init 41 = .ok (.bipush 16, 2) := by decide +kernel
theorem dX12_init_43 : decode cX12_init 43 = .ok (.newarray .long, 2) := by decide +kernel
theorem dX12_init_45 : decode cX12_init 45 = .ok (.putfield 22, 3) := by decide +kernel
theorem dX12_init_48 : decode cX12_init 48 = .ok (.aload_n 0, 1) := by decide +kernel
theorem dX12_init_49 : decode cX12_init 49 = .ok (.bipush 16, 2) := by decide +kernel
theorem dX12_init_51 : decode cX12_init 51 = .ok (.newarray .long, 2) := by decide +kernel
theorem dX12_init_53 : decode cX12_init 53 = .ok (.putfield 26, 3) := by decide +kernel
theorem dX12_init_56 : decode cX12_init 56 = .ok (.aload_n 0, 1) := by decide +kernel
theorem dX12_init_57 : decode cX12_init 57 = .ok (.bipush 32, 2) := by decide +kernel
theorem dX12_init_59 : decode cX12_init 59 = .ok (.newarray .long, 2) := by decide +kernel
theorem dX12_init_61 : decode cX12_init 61 = .ok (.putfield 29, 3) := by decide +kernel
theorem dX12_init_64 : decode cX12_init 64 = .ok (.aload_n 0, 1) := by decide +kernel
theorem dX12_init_65 : decode cX12_init 65 = .ok (.iconst 2, 1) := by decide +kernel
theorem dX12_init_66 : decode cX12_init 66 = .ok (.newarray .boolean, 2) := by decide +kernel
theorem dX12_init_68 : decode cX12_init 68 = .ok (.putfield 32, 3) := by decide +kernel
theorem dX12_init_71 : decode cX12_init 71 = .ok (.aload_n 0, 1) := by decide +kernel
theorem dX12_init_72 : decode cX12_init 72 = .ok (.bipush 7, 2) := by decide +kernel
theorem dX12_init_74 : decode cX12_init 74 = .ok (.newarray .int, 2) := by decide +kernel
theorem dX12_init_76 : decode cX12_init 76 = .ok (.putfield 36, 3) := by decide +kernel
theorem dX12_init_79 : decode cX12_init 79 = .ok (.aload_n 0, 1) := by decide +kernel
theorem dX12_init_80 : decode cX12_init 80 = .ok (.bipush 7, 2) := by decide +kernel
theorem dX12_init_82 : decode cX12_init 82 = .ok (.newarray .int, 2) := by decide +kernel
theorem dX12_init_84 : decode cX12_init 84 = .ok (.putfield 39, 3) := by decide +kernel
theorem dX12_init_87 : decode cX12_init 87 = .ok (.aload_n 0, 1) := by decide +kernel
theorem dX12_init_88 : decode cX12_init 88 = .ok (.bipush 7, 2) := by decide +kernel
theorem dX12_init_90 : decode cX12_init 90 = .ok (.newarray .int, 2) := by decide +kernel
theorem dX12_init_92 : decode cX12_init 92 = .ok (.putfield 42, 3) := by decide +kernel
theorem dX12_init_95 : decode cX12_init 95 = .ok (.aload_n 0, 1) := by decide +kernel
theorem dX12_init_96 : decode cX12_init 96 = .ok (.bipush 7, 2) := by decide +kernel
theorem dX12_init_98 : decode cX12_init 98 = .ok (.newarray .int, 2) := by decide +kernel
theorem dX12_init_100 : decode cX12_init 100 = .ok (.putfield 45, 3) := by decide +kernel
theorem dX12_init_103 : decode cX12_init 103 = .ok (.aload_n 0, 1) := by decide +kernel
theorem dX12_init_104 : decode cX12_init 104 = .ok (.bipush 10, 2) := by decide +kernel
theorem dX12_init_106 : decode cX12_init 106 = .ok (.newarray .int, 2) := by decide +kernel
theorem dX12_init_108 : decode cX12_init 108 = .ok (.putfield 48, 3) := by decide +kernel
theorem dX12_init_111 : decode cX12_init 111 = .ok (.aload_n 0, 1) := by decide +kernel
theorem dX12_init_112 : decode cX12_init 112 = .ok (.bipush 10, 2) := by decide +kernel
theorem dX12_init_114 : decode cX12_init 114 = .ok (.newarray .int, 2) := by decide +kernel
theorem dX12_init_116 : decode cX12_init 116 = .ok (.putfield 51, 3) := by decide +kernel
theorem dX12_init_119 : decode cX12_init 119 = .ok (.aload_n 0, 1) := by decide +kernel
theorem dX12_init_120 : decode cX12_init 120 = .ok (.bipush 100, 2) := by decide +kernel
theorem dX12_init_122 : decode cX12_init 122 = .ok (.newarray .int, 2) := by decide +kernel
theorem dX12_init_124 : decode cX12_init 124 = .ok (.putfield 54, 3) := by decide +kernel
theorem dX12_init_127 : decode cX12_init 127 = .ok (.aload_n 0, 1) := by decide +kernel
theorem dX12_init_128 : decode cX12_init 128 = .ok (.bipush 10, 2) := by decide +kernel
theorem dX12_init_130 : decode cX12_init 130 = .ok (.newarray .int, 2) := by decide +kernel
theorem dX12_init_132 : decode cX12_init 132 = .ok (.putfield 57, 3) := by decide +kernel
theorem dX12_init_135 : decode cX12_init 135 = .ok (.aload_n 0, 1) := by decide +kernel
theorem dX12_init_136 : decode cX12_init 136 = .ok (.bipush 10, 2) := by decide +kernel
theorem dX12_init_138 : decode cX12_init 138 = .ok (.newarray .int, 2) := by decide +kernel
theorem dX12_init_140 : decode cX12_init 140 = .ok (.putfield 60, 3) := by decide +kernel
theorem dX12_init_143 : decode cX12_init 143 = .ok (.aload_n 0, 1) := by decide +kernel
theorem dX12_init_144 : decode cX12_init 144 = .ok (.sipush 5040, 3) := by decide +kernel
theorem dX12_init_147 : decode cX12_init 147 = .ok (.newarray .long, 2) := by decide +kernel
theorem dX12_init_149 : decode cX12_init 149 = .ok (.putfield 63, 3) := by decide +kernel
theorem dX12_init_152 : decode cX12_init 152 = .ok (.aload_n 0, 1) := by decide +kernel
theorem dX12_init_153 : decode cX12_init 153 = .ok (.sipush 5040, 3) := by decide +kernel
theorem dX12_init_156 : decode cX12_init 156 = .ok (.newarray .long, 2) := by decide +kernel
theorem dX12_init_158 : decode cX12_init 158 = .ok (.putfield 66, 3) := by decide +kernel
theorem dX12_init_161 : decode cX12_init 161 = .ok (.aload_n 0, 1) := by decide +kernel
theorem dX12_init_162 : decode cX12_init 162 = .ok (.sipush 5040, 3) := by decide +kernel
theorem dX12_init_165 : decode cX12_init 165 = .ok (.newarray .long, 2) := by decide +kernel
theorem dX12_init_167 : decode cX12_init 167 = .ok (.putfield 69, 3) := by decide +kernel
theorem dX12_init_170 : decode cX12_init 170 = .ok (.aload_n 0, 1) := by decide +kernel
theorem dX12_init_171 : decode cX12_init 171 = .ok (.sipush 30240, 3) := by decide +kernel
theorem dX12_init_174 : decode cX12_init 174 = .ok (.newarray .int, 2) := by decide +kernel
theorem dX12_init_176 : decode cX12_init 176 = .ok (.putfield 72, 3) := by decide +kernel
theorem dX12_init_179 : decode cX12_init 179 = .ok (.aload_n 0, 1) := by decide +kernel
theorem dX12_init_180 : decode cX12_init 180 = .ok (.bipush 7, 2) := by decide +kernel
theorem dX12_init_182 : decode cX12_init 182 = .ok (.newarray .int, 2) := by decide +kernel
theorem dX12_init_184 : decode cX12_init 184 = .ok (.putfield 75, 3) := by decide +kernel
theorem dX12_init_187 : decode cX12_init 187 = .ok (.aload_n 0, 1) := by decide +kernel
theorem dX12_init_188 : decode cX12_init 188 = .ok (.sipush 240, 3) := by decide +kernel
theorem dX12_init_191 : decode cX12_init 191 = .ok (.newarray .int, 2) := by decide +kernel
theorem dX12_init_193 : decode cX12_init 193 = .ok (.putfield 78, 3) := by decide +kernel
theorem dX12_init_196 : decode cX12_init 196 = .ok (.return_, 1) := by decide +kernel
theorem dX12_thrown_0 : decode cX12_thrown 0 = .ok (.aload_n 0, 1) := by decide +kernel
theorem dX12_thrown_1 : decode cX12_thrown 1 = .ok (.getfield 81, 3) := by decide +kernel
theorem dX12_thrown_4 : decode cX12_thrown 4 = .ok (.ireturn, 1) := by decide +kernel
theorem dX12_refuse_0 : decode cX12_refuse 0 = .ok (.aload_n 0, 1) := by decide +kernel
theorem dX12_refuse_1 : decode cX12_refuse 1 = .ok (.iconst 1, 1) := by decide +kernel
theorem dX12_refuse_2 : decode cX12_refuse 2 = .ok (.putfield 81, 3) := by decide +kernel
theorem dX12_refuse_5 : decode cX12_refuse 5 = .ok (.iconst 0, 1) := by decide +kernel
theorem dX12_refuse_6 : decode cX12_refuse 6 = .ok (.ireturn, 1) := by decide +kernel
theorem dX12_come_0 : decode cX12_come 0 = .ok (.bipush 24, 2) := by decide +kernel
theorem dX12_come_2 : decode cX12_come 2 = .ok (.istore_n 2, 1) := by decide +kernel
theorem dX12_come_3 : decode cX12_come 3 = .ok (.iload_n 2, 1) := by decide +kernel
theorem dX12_come_4 : decode cX12_come 4 = .ok (.ifCond .lt 35, 3) := by decide +kernel
theorem dX12_come_7 : decode cX12_come 7 = .ok (.aload_n 0, 1) := by decide +kernel
theorem dX12_come_8 : decode cX12_come 8 = .ok (.getfield 7, 3) := by decide +kernel
theorem dX12_come_11 : decode cX12_come 11 = .ok (.aload_n 0, 1) := by decide +kernel
theorem dX12_come_12 : decode cX12_come 12 = .ok (.getfield 85, 3) := by decide +kernel
theorem dX12_come_15 : decode cX12_come 15 = .ok (.iload_n 1, 1) := by decide +kernel
theorem dX12_come_16 : decode cX12_come 16 = .ok (.iload_n 2, 1) := by decide +kernel
theorem dX12_come_17 : decode cX12_come 17 = .ok (.iushr, 1) := by decide +kernel
theorem dX12_come_18 : decode cX12_come 18 = .ok (.sipush 255, 3) := by decide +kernel
theorem dX12_come_21 : decode cX12_come 21 = .ok (.iand, 1) := by decide +kernel
theorem dX12_come_22 : decode cX12_come 22 = .ok (.iastore, 1) := by decide +kernel
theorem dX12_come_23 : decode cX12_come 23 = .ok (.aload_n 0, 1) := by decide +kernel
theorem dX12_come_24 : decode cX12_come 24 = .ok (.dup, 1) := by decide +kernel
theorem dX12_come_25 : decode cX12_come 25 = .ok (.getfield 85, 3) := by decide +kernel
theorem dX12_come_28 : decode cX12_come 28 = .ok (.iconst 1, 1) := by decide +kernel
theorem dX12_come_29 : decode cX12_come 29 = .ok (.iadd, 1) := by decide +kernel
theorem dX12_come_30 : decode cX12_come 30 = .ok (.putfield 85, 3) := by decide +kernel
theorem dX12_come_33 : decode cX12_come 33 = .ok (.iinc 2 (-8), 3) := by decide +kernel
theorem dX12_come_36 : decode cX12_come 36 = .ok (.goto (-33), 3) := by decide +kernel
theorem dX12_come_39 : decode cX12_come 39 = .ok (.return_, 1) := by decide +kernel
theorem dX12_feed_0 : decode cX12_feed 0 = .ok (.aload_n 0, 1) := by decide +kernel
theorem dX12_feed_1 : decode cX12_feed 1 = .ok (.iconst 0, 1) := by decide +kernel
theorem dX12_feed_2 : decode cX12_feed 2 = .ok (.putfield 81, 3) := by decide +kernel
theorem dX12_feed_5 : decode cX12_feed 5 = .ok (.aload_n 0, 1) := by decide +kernel
theorem dX12_feed_6 : decode cX12_feed 6 = .ok (.getfield 85, 3) := by decide +kernel
theorem dX12_feed_9 : decode cX12_feed 9 = .ok (.bipush 20, 2) := by decide +kernel
theorem dX12_feed_11 : decode cX12_feed 11 = .ok (.iadd, 1) := by decide +kernel
theorem dX12_feed_12 : decode cX12_feed 12 = .ok (.sipush 740, 3) := by decide +kernel
theorem dX12_feed_15 : decode cX12_feed 15 = .ok (.if_icmp .le 5, 3) := by decide +kernel
theorem dX12_feed_18 : decode cX12_feed 18 = .ok (.iconst (-1), 1) := by decide +kernel
theorem dX12_feed_19 : decode cX12_feed 19 = .ok (.ireturn, 1) := by decide +kernel
theorem dX12_feed_20 : decode cX12_feed 20 = .ok (.aload_n 0, 1) := by decide +kernel
theorem dX12_feed_21 : decode cX12_feed 21 = .ok (.iload_n 1, 1) := by decide +kernel
theorem dX12_feed_22 : decode cX12_feed 22 = .ok (.invokevirtual 88, 3) := by decide +kernel
theorem dX12_feed_25 : decode cX12_feed 25 = .ok (.aload_n 0, 1) := by decide +kernel
theorem dX12_feed_26 : decode cX12_feed 26 = .ok (.iload_n 2, 1) := by decide +kernel
theorem dX12_feed_27 : decode cX12_feed 27 = .ok (.invokevirtual 88, 3) := by decide +kernel
theorem dX12_feed_30 : decode cX12_feed 30 = .ok (.aload_n 0, 1) := by decide +kernel
theorem dX12_feed_31 : decode cX12_feed 31 = .ok (.iload_n 3, 1) := by decide +kernel
theorem dX12_feed_32 : decode cX12_feed 32 = .ok (.invokevirtual 88, 3) := by decide +kernel
theorem dX12_feed_35 : decode cX12_feed 35 = .ok (.aload_n 0, 1) := by decide +kernel
theorem dX12_feed_36 : decode cX12_feed 36 = .ok (.iload 4, 2) := by decide +kernel
theorem dX12_feed_38 : decode cX12_feed 38 = .ok (.invokevirtual 88, 3) := by decide +kernel
theorem dX12_feed_41 : decode cX12_feed 41 = .ok (.aload_n 0, 1) := by decide +kernel
theorem dX12_feed_42 : decode cX12_feed 42 = .ok (.iload 5, 2) := by decide +kernel
theorem dX12_feed_44 : decode cX12_feed 44 = .ok (.invokevirtual 88, 3) := by decide +kernel
theorem dX12_feed_47 : decode cX12_feed 47 = .ok (.aload_n 0, 1) := by decide +kernel
theorem dX12_feed_48 : decode cX12_feed 48 = .ok (.getfield 85, 3) := by decide +kernel
theorem dX12_feed_51 : decode cX12_feed 51 = .ok (.ireturn, 1) := by decide +kernel
theorem dX12_end_0 : decode cX12_end 0 = .ok (.aload_n 0, 1) := by decide +kernel
theorem dX12_end_1 : decode cX12_end 1 = .ok (.iconst 0, 1) := by decide +kernel
theorem dX12_end_2 : decode cX12_end 2 = .ok (.putfield 81, 3) := by decide +kernel
theorem dX12_end_5 : decode cX12_end 5 = .ok (.iload_n 1, 1) := by decide +kernel
theorem dX12_end_6 : decode cX12_end 6 = .ok (.ifCond .lt 11, 3) := by decide +kernel
theorem dX12_end_9 : decode cX12_end 9 = .ok (.iload_n 1, 1) := by decide +kernel
theorem dX12_end_10 : decode cX12_end 10 = .ok (.aload_n 0, 1) := by decide +kernel
theorem dX12_end_11 : decode cX12_end 11 = .ok (.getfield 85, 3) := by decide +kernel
theorem dX12_end_14 : decode cX12_end 14 = .ok (.if_icmp .le 5, 3) := by decide +kernel
theorem dX12_end_17 : decode cX12_end 17 = .ok (.iconst 0, 1) := by decide +kernel
theorem dX12_end_18 : decode cX12_end 18 = .ok (.ireturn, 1) := by decide +kernel
theorem dX12_end_19 : decode cX12_end 19 = .ok (.aload_n 0, 1) := by decide +kernel
theorem dX12_end_20 : decode cX12_end 20 = .ok (.iload_n 1, 1) := by decide +kernel
theorem dX12_end_21 : decode cX12_end 21 = .ok (.putfield 85, 3) := by decide +kernel
theorem dX12_end_24 : decode cX12_end 24 = .ok (.iconst 1, 1) := by decide +kernel
theorem dX12_end_25 : decode cX12_end 25 = .ok (.ireturn, 1) := by decide +kernel
theorem dX12_take_0 : decode cX12_take 0 = .ok (.aload_n 0, 1) := by decide +kernel
theorem dX12_take_1 : decode cX12_take 1 = .ok (.getfield 85, 3) := by decide +kernel
theorem dX12_take_4 : decode cX12_take 4 = .ok (.istore_n 1, 1) := by decide +kernel
theorem dX12_take_5 : decode cX12_take 5 = .ok (.aload_n 0, 1) := by decide +kernel
theorem dX12_take_6 : decode cX12_take 6 = .ok (.iconst 0, 1) := by decide +kernel
theorem dX12_take_7 : decode cX12_take 7 = .ok (.putfield 85, 3) := by decide +kernel
theorem dX12_take_10 : decode cX12_take 10 = .ok (.iload_n 1, 1) := by decide +kernel
theorem dX12_take_11 : decode cX12_take 11 = .ok (.ireturn, 1) := by decide +kernel
theorem dX12_isIn_0 : decode cX12_isIn 0 = .ok (.iload_n 0, 1) := by decide +kernel
theorem dX12_isIn_1 : decode cX12_isIn 1 = .ok (.iload_n 1, 1) := by decide +kernel
theorem dX12_isIn_2 : decode cX12_isIn 2 = .ok (.if_icmp .lt 12, 3) := by decide +kernel
theorem dX12_isIn_5 : decode cX12_isIn 5 = .ok (.iload_n 0, 1) := by decide +kernel
theorem dX12_isIn_6 : decode cX12_isIn 6 = .ok (.iload_n 2, 1) := by decide +kernel
theorem dX12_isIn_7 : decode cX12_isIn 7 = .ok (.if_icmp .gt 7, 3) := by decide +kernel
theorem dX12_isIn_10 : decode cX12_isIn 10 = .ok (.iconst 1, 1) := by decide +kernel
theorem dX12_isIn_11 : decode cX12_isIn 11 = .ok (.goto 4, 3) := by decide +kernel
theorem dX12_isIn_14 : decode cX12_isIn 14 = .ok (.iconst 0, 1) := by decide +kernel
theorem dX12_isIn_15 : decode cX12_isIn 15 = .ok (.ireturn, 1) := by decide +kernel
theorem dX12_has_0 : decode cX12_has 0 = .ok (.iload_n 0, 1) := by decide +kernel
theorem dX12_has_1 : decode cX12_has 1 = .ok (.iload_n 1, 1) := by decide +kernel
theorem dX12_has_2 : decode cX12_has 2 = .ok (.ishr, 1) := by decide +kernel
theorem dX12_has_3 : decode cX12_has 3 = .ok (.iconst 1, 1) := by decide +kernel
theorem dX12_has_4 : decode cX12_has 4 = .ok (.iand, 1) := by decide +kernel
theorem dX12_has_5 : decode cX12_has 5 = .ok (.iconst 1, 1) := by decide +kernel
theorem dX12_has_6 : decode cX12_has 6 = .ok (.if_icmp .ne 7, 3) := by decide +kernel
theorem dX12_has_9 : decode cX12_has 9 = .ok (.iconst 1, 1) := by decide +kernel
theorem dX12_has_10 : decode cX12_has 10 = .ok (.goto 4, 3) := by decide +kernel
theorem dX12_has_13 : decode cX12_has 13 = .ok (.iconst 0, 1) := by decide +kernel
theorem dX12_has_14 : decode cX12_has 14 = .ok (.ireturn, 1) := by decide +kernel
theorem dX12_byteAt_0 : decode cX12_byteAt 0 = .ok (.iload_n 1, 1) := by decide +kernel
theorem dX12_byteAt_1 : decode cX12_byteAt 1 = .ok (.aload_n 0, 1) := by decide +kernel
theorem dX12_byteAt_2 : decode cX12_byteAt 2 = .ok (.getfield 92, 3) := by decide +kernel
theorem dX12_byteAt_5 : decode cX12_byteAt 5 = .ok (.if_icmp .ge 12, 3) := by decide +kernel
theorem dX12_byteAt_8 : decode cX12_byteAt 8 = .ok (.aload_n 0, 1) := by decide +kernel
theorem dX12_byteAt_9 : decode cX12_byteAt 9 = .ok (.getfield 7, 3) := by decide +kernel
theorem dX12_byteAt_12 : decode cX12_byteAt 12 = .ok (.iload_n 1, 1) := by decide +kernel
theorem dX12_byteAt_13 : decode cX12_byteAt 13 = .ok (.iaload, 1) := by decide +kernel
theorem dX12_byteAt_14 : decode cX12_byteAt 14 = .ok (.goto 4, 3) := by decide +kernel
theorem dX12_byteAt_17 : decode cX12_byteAt 17 = .ok (.iconst 0, 1) := by decide +kernel
theorem dX12_byteAt_18 : decode cX12_byteAt 18 = .ok (.ireturn, 1) := by decide +kernel
theorem dX12_isDigit_0 : decode cX12_isDigit 0 = .ok (.iload_n 0, 1) := by decide +kernel
theorem dX12_isDigit_1 : decode cX12_isDigit 1 = .ok (.bipush 48, 2) := by decide +kernel
theorem dX12_isDigit_3 : decode cX12_isDigit 3 = .ok (.if_icmp .lt 13, 3) := by decide +kernel
theorem dX12_isDigit_6 : decode cX12_isDigit 6 = .ok (.iload_n 0, 1) := by decide +kernel
theorem dX12_isDigit_7 : decode cX12_isDigit 7 = .ok (.bipush 57, 2) := by decide +kernel
theorem dX12_isDigit_9 : decode cX12_isDigit 9 = .ok (.if_icmp .gt 7, 3) := by decide +kernel
theorem dX12_isDigit_12 : decode cX12_isDigit 12 = .ok (.iconst 1, 1) := by decide +kernel
theorem dX12_isDigit_13 : decode cX12_isDigit 13 = .ok (.goto 4, 3) := by decide +kernel
theorem dX12_isDigit_16 : decode cX12_isDigit 16 = .ok (.iconst 0, 1) := by decide +kernel
theorem dX12_isDigit_17 : decode cX12_isDigit 17 = .ok (.ireturn, 1) := by decide +kernel
theorem dX12_isLetter_0 : decode cX12_isLetter 0 = .ok (.iload_n 0, 1) := by decide +kernel
theorem dX12_isLetter_1 : decode cX12_isLetter 1 = .ok (.bipush 97, 2) := by decide +kernel
theorem dX12_isLetter_3 : decode cX12_isLetter 3 = .ok (.if_icmp .lt 13, 3) := by decide +kernel
theorem dX12_isLetter_6 : decode cX12_isLetter 6 = .ok (.iload_n 0, 1) := by decide +kernel
theorem dX12_isLetter_7 : decode cX12_isLetter 7 = .ok (.bipush 122, 2) := by decide +kernel
theorem dX12_isLetter_9 : decode cX12_isLetter 9 = .ok (.if_icmp .gt 7, 3) := by decide +kernel
theorem dX12_isLetter_12 : decode cX12_isLetter 12 = .ok (.iconst 1, 1) := by decide +kernel
theorem dX12_isLetter_13 : decode cX12_isLetter 13 = .ok (.goto 4, 3) := by decide +kernel
theorem dX12_isLetter_16 : decode cX12_isLetter 16 = .ok (.iconst 0, 1) := by decide +kernel
theorem dX12_isLetter_17 : decode cX12_isLetter 17 = .ok (.ireturn, 1) := by decide +kernel
theorem dX12_go_0 : decode cX12_go 0 = .ok (.aload_n 0, 1) := by decide +kernel
theorem dX12_go_1 : decode cX12_go 1 = .ok (.getfield 95, 3) := by decide +kernel
theorem dX12_go_4 : decode cX12_go 4 = .ok (.aload_n 0, 1) := by decide +kernel
theorem dX12_go_5 : decode cX12_go 5 = .ok (.getfield 92, 3) := by decide +kernel
theorem dX12_go_8 : decode cX12_go 8 = .ok (.if_icmp .ge 44, 3) := by decide +kernel
theorem dX12_go_11 : decode cX12_go 11 = .ok (.aload_n 0, 1) := by decide +kernel
theorem dX12_go_12 : decode cX12_go 12 = .ok (.getfield 7, 3) := by decide +kernel
theorem dX12_go_15 : decode cX12_go 15 = .ok (.aload_n 0, 1) := by decide +kernel
theorem dX12_go_16 : decode cX12_go 16 = .ok (.getfield 95, 3) := by decide +kernel
theorem dX12_go_19 : decode cX12_go 19 = .ok (.iaload, 1) := by decide +kernel
theorem dX12_go_20 : decode cX12_go 20 = .ok (.bipush 32, 2) := by decide +kernel
theorem dX12_go_22 : decode cX12_go 22 = .ok (.if_icmp .eq 17, 3) := by decide +kernel
theorem dX12_go_25 : decode cX12_go 25 = .ok (.aload_n 0, 1) := by decide +kernel
theorem dX12_go_26 : decode cX12_go 26 = .ok (.getfield 7, 3) := by decide +kernel
theorem dX12_go_29 : decode cX12_go 29 = .ok (.aload_n 0, 1) := by decide +kernel
theorem dX12_go_30 : decode cX12_go 30 = .ok (.getfield 95, 3) := by decide +kernel
theorem dX12_go_33 : decode cX12_go 33 = .ok (.iaload, 1) := by decide +kernel
theorem dX12_go_34 : decode cX12_go 34 = .ok (.bipush 10, 2) := by decide +kernel
theorem dX12_go_36 : decode cX12_go 36 = .ok (.if_icmp .ne 16, 3) := by decide +kernel
theorem dX12_go_39 : decode cX12_go 39 = .ok (.aload_n 0, 1) := by decide +kernel
theorem dX12_go_40 : decode cX12_go 40 = .ok (.dup, 1) := by decide +kernel
theorem dX12_go_41 : decode cX12_go 41 = .ok (.getfield 95, 3) := by decide +kernel
theorem dX12_go_44 : decode cX12_go 44 = .ok (.iconst 1, 1) := by decide +kernel
theorem dX12_go_45 : decode cX12_go 45 = .ok (.iadd, 1) := by decide +kernel
theorem dX12_go_46 : decode cX12_go 46 = .ok (.putfield 95, 3) := by decide +kernel
theorem dX12_go_49 : decode cX12_go 49 = .ok (.goto (-49), 3) := by decide +kernel
theorem dX12_go_52 : decode cX12_go 52 = .ok (.aload_n 0, 1) := by decide +kernel
theorem dX12_go_53 : decode cX12_go 53 = .ok (.aload_n 0, 1) := by decide +kernel
theorem dX12_go_54 : decode cX12_go 54 = .ok (.getfield 95, 3) := by decide +kernel
theorem dX12_go_57 : decode cX12_go 57 = .ok (.putfield 98, 3) := by decide +kernel
theorem dX12_go_60 : decode cX12_go 60 = .ok (.aload_n 0, 1) := by decide +kernel
theorem dX12_go_61 : decode cX12_go 61 = .ok (.getfield 92, 3) := by decide +kernel
theorem dX12_go_64 : decode cX12_go 64 = .ok (.aload_n 0, 1) := by decide +kernel
theorem dX12_go_65 : decode cX12_go 65 = .ok (.getfield 101, 3) := by decide +kernel
theorem dX12_go_68 : decode cX12_go 68 = .ok (.if_icmp .le 28, 3) := by decide +kernel
theorem dX12_go_71 : decode cX12_go 71 = .ok (.aload_n 0, 1) := by decide +kernel
theorem dX12_go_72 : decode cX12_go 72 = .ok (.getfield 98, 3) := by decide +kernel
theorem dX12_go_75 : decode cX12_go 75 = .ok (.aload_n 0, 1) := by decide +kernel
theorem dX12_go_76 : decode cX12_go 76 = .ok (.getfield 101, 3) := by decide +kernel
theorem dX12_go_79 : decode cX12_go 79 = .ok (.if_icmp .lt 17, 3) := by decide +kernel
theorem dX12_go_82 : decode cX12_go 82 = .ok (.aload_n 0, 1) := by decide +kernel
theorem dX12_go_83 : decode cX12_go 83 = .ok (.aload_n 0, 1) := by decide +kernel
theorem dX12_go_84 : decode cX12_go 84 = .ok (.getfield 101, 3) := by decide +kernel
theorem dX12_go_87 : decode cX12_go 87 = .ok (.putfield 98, 3) := by decide +kernel
theorem dX12_go_90 : decode cX12_go 90 = .ok (.aload_n 0, 1) := by decide +kernel
theorem dX12_go_91 : decode cX12_go 91 = .ok (.iconst 1, 1) := by decide +kernel
theorem dX12_go_92 : decode cX12_go 92 = .ok (.putfield 104, 3) := by decide +kernel
theorem dX12_go_95 : decode cX12_go 95 = .ok (.return_, 1) := by decide +kernel
theorem dX12_go_96 : decode cX12_go 96 = .ok (.aload_n 0, 1) := by decide +kernel
theorem dX12_go_97 : decode cX12_go 97 = .ok (.getfield 95, 3) := by decide +kernel
theorem dX12_go_100 : decode cX12_go 100 = .ok (.aload_n 0, 1) := by decide +kernel
theorem dX12_go_101 : decode cX12_go 101 = .ok (.getfield 92, 3) := by decide +kernel
theorem dX12_go_104 : decode cX12_go 104 = .ok (.if_icmp .lt 9, 3) := by decide +kernel
theorem dX12_go_107 : decode cX12_go 107 = .ok (.aload_n 0, 1) := by decide +kernel
theorem dX12_go_108 : decode cX12_go 108 = .ok (.iconst 0, 1) := by decide +kernel
theorem dX12_go_109 : decode cX12_go 109 = .ok (.putfield 104, 3) := by decide +kernel
theorem dX12_go_112 : decode cX12_go 112 = .ok (.return_, 1) := by decide +kernel
theorem dX12_go_113 : decode cX12_go 113 = .ok (.aload_n 0, 1) := by decide +kernel
theorem dX12_go_114 : decode cX12_go 114 = .ok (.getfield 7, 3) := by decide +kernel
theorem dX12_go_117 : decode cX12_go 117 = .ok (.aload_n 0, 1) := by decide +kernel
theorem dX12_go_118 : decode cX12_go 118 = .ok (.getfield 95, 3) := by decide +kernel
theorem dX12_go_121 : decode cX12_go 121 = .ok (.iaload, 1) := by decide +kernel
theorem dX12_go_122 : decode cX12_go 122 = .ok (.istore_n 1, 1) := by decide +kernel
theorem dX12_go_123 : decode cX12_go 123 = .ok (.iload_n 1, 1) := by decide +kernel
theorem dX12_go_124 : decode cX12_go 124 = .ok (.invokestatic 107, 3) := by decide +kernel
theorem dX12_go_127 : decode cX12_go 127 = .ok (.ifCond .ne 71, 3) := by decide +kernel
theorem dX12_go_130 : decode cX12_go 130 = .ok (.iload_n 1, 1) := by decide +kernel
theorem dX12_go_131 : decode cX12_go 131 = .ok (.invokestatic 111, 3) := by decide +kernel
theorem dX12_go_134 : decode cX12_go 134 = .ok (.ifCond .ne 64, 3) := by decide +kernel
theorem dX12_go_137 : decode cX12_go 137 = .ok (.aload_n 0, 1) := by decide +kernel
theorem dX12_go_138 : decode cX12_go 138 = .ok (.iload_n 1, 1) := by decide +kernel
theorem dX12_go_139 : decode cX12_go 139 = .ok (.bipush 59, 2) := by decide +kernel
theorem dX12_go_141 : decode cX12_go 141 = .ok (.if_icmp .eq 33, 3) := by decide +kernel
theorem dX12_go_144 : decode cX12_go 144 = .ok (.iload_n 1, 1) := by decide +kernel
theorem dX12_go_145 : decode cX12_go 145 = .ok (.bipush 60, 2) := by decide +kernel
theorem dX12_go_147 : decode cX12_go 147 = .ok (.if_icmp .eq 27, 3) := by decide +kernel
theorem dX12_go_150 : decode cX12_go 150 = .ok (.iload_n 1, 1) := by decide +kernel
theorem dX12_go_151 : decode cX12_go 151 = .ok (.bipush 61, 2) := by decide +kernel
theorem dX12_go_153 : decode cX12_go 153 = .ok (.if_icmp .eq 21, 3) := by decide +kernel
theorem dX12_go_156 : decode cX12_go 156 = .ok (.iload_n 1, 1) := by decide +kernel
theorem dX12_go_157 : decode cX12_go 157 = .ok (.bipush 62, 2) := by decide +kernel
theorem dX12_go_159 : decode cX12_go 159 = .ok (.if_icmp .eq 15, 3) := by decide +kernel
theorem dX12_go_162 : decode cX12_go 162 = .ok (.iload_n 1, 1) := by decide +kernel
theorem dX12_go_163 : decode cX12_go 163 = .ok (.bipush 40, 2) := by decide +kernel
theorem dX12_go_165 : decode cX12_go 165 = .ok (.if_icmp .eq 9, 3) := by decide +kernel
theorem dX12_go_168 : decode cX12_go 168 = .ok (.iload_n 1, 1) := by decide +kernel
theorem dX12_go_169 : decode cX12_go 169 = .ok (.bipush 41, 2) := by decide +kernel
theorem dX12_go_171 : decode cX12_go 171 = .ok (.if_icmp .ne 7, 3) := by decide +kernel
theorem dX12_go_174 : decode cX12_go 174 = .ok (.iconst 4, 1) := by decide +kernel
theorem dX12_go_175 : decode cX12_go 175 = .ok (.goto 4, 3) := by decide +kernel
theorem dX12_go_178 : decode cX12_go 178 = .ok (.iconst 1, 1) := by decide +kernel
theorem dX12_go_179 : decode cX12_go 179 = .ok (.putfield 104, 3) := by decide +kernel
theorem dX12_go_182 : decode cX12_go 182 = .ok (.aload_n 0, 1) := by decide +kernel
theorem dX12_go_183 : decode cX12_go 183 = .ok (.iload_n 1, 1) := by decide +kernel
theorem dX12_go_184 : decode cX12_go 184 = .ok (.putfield 114, 3) := by decide +kernel
theorem dX12_go_187 : decode cX12_go 187 = .ok (.aload_n 0, 1) := by decide +kernel
theorem dX12_go_188 : decode cX12_go 188 = .ok (.dup, 1) := by decide +kernel
theorem dX12_go_189 : decode cX12_go 189 = .ok (.getfield 95, 3) := by decide +kernel
theorem dX12_go_192 : decode cX12_go 192 = .ok (.iconst 1, 1) := by decide +kernel
theorem dX12_go_193 : decode cX12_go 193 = .ok (.iadd, 1) := by decide +kernel
theorem dX12_go_194 : decode cX12_go 194 = .ok (.putfield 95, 3) := by decide +kernel
theorem dX12_go_197 : decode cX12_go 197 = .ok (.return_, 1) := by decide +kernel
theorem dX12_go_198 : decode cX12_go 198 = .ok (.iload_n 1, 1) := by decide +kernel
theorem dX12_go_199 : decode cX12_go 199 = .ok (.invokestatic 107, 3) := by decide +kernel
theorem dX12_go_202 : decode cX12_go 202 = .ok (.istore_n 2, 1) := by decide +kernel
theorem dX12_go_203 : decode cX12_go 203 = .ok (.iconst 1, 1) := by decide +kernel
theorem dX12_go_204 : decode cX12_go 204 = .ok (.istore_n 3, 1) := by decide +kernel
theorem dX12_go_205 : decode cX12_go 205 = .ok (.aload_n 0, 1) := by decide +kernel
theorem dX12_go_206 : decode cX12_go 206 = .ok (.lconst 0, 1) := by decide +kernel
theorem dX12_go_207 : decode cX12_go 207 = .ok (.putfield 117, 3) := by decide +kernel
theorem dX12_go_210 : decode cX12_go 210 = .ok (.aload_n 0, 1) := by decide +kernel
theorem dX12_go_211 : decode cX12_go 211 = .ok (.iconst 0, 1) := by decide +kernel
theorem dX12_go_212 : decode cX12_go 212 = .ok (.putfield 121, 3) := by decide +kernel
theorem dX12_go_215 : decode cX12_go 215 = .ok (.aload_n 0, 1) := by decide +kernel
theorem dX12_go_216 : decode cX12_go 216 = .ok (.aload_n 0, 1) := by decide +kernel
theorem dX12_go_217 : decode cX12_go 217 = .ok (.getfield 95, 3) := by decide +kernel
theorem dX12_go_220 : decode cX12_go 220 = .ok (.invokevirtual 124, 3) := by decide +kernel
theorem dX12_go_223 : decode cX12_go 223 = .ok (.invokestatic 107, 3) := by decide +kernel
theorem dX12_go_226 : decode cX12_go 226 = .ok (.ifCond .ne 17, 3) := by decide +kernel
theorem dX12_go_229 : decode cX12_go 229 = .ok (.aload_n 0, 1) := by decide +kernel
theorem dX12_go_230 : decode cX12_go 230 = .ok (.aload_n 0, 1) := by decide +kernel
theorem dX12_go_231 : decode cX12_go 231 = .ok (.getfield 95, 3) := by decide +kernel
theorem dX12_go_234 : decode cX12_go 234 = .ok (.invokevirtual 124, 3) := by decide +kernel
theorem dX12_go_237 : decode cX12_go 237 = .ok (.invokestatic 111, 3) := by decide +kernel
theorem dX12_go_240 : decode cX12_go 240 = .ok (.ifCond .eq 110, 3) := by decide +kernel
theorem dX12_go_243 : decode cX12_go 243 = .ok (.aload_n 0, 1) := by decide +kernel
theorem dX12_go_244 : decode cX12_go 244 = .ok (.getfield 7, 3) := by decide +kernel
theorem dX12_go_247 : decode cX12_go 247 = .ok (.aload_n 0, 1) := by decide +kernel
theorem dX12_go_248 : decode cX12_go 248 = .ok (.getfield 95, 3) := by decide +kernel
theorem dX12_go_251 : decode cX12_go 251 = .ok (.iaload, 1) := by decide +kernel
theorem dX12_go_252 : decode cX12_go 252 = .ok (.istore 4, 2) := by decide +kernel
theorem dX12_go_254 : decode cX12_go 254 = .ok (.iload_n 3, 1) := by decide +kernel
theorem dX12_go_255 : decode cX12_go 255 = .ok (.ifCond .eq 16, 3) := by decide +kernel
theorem dX12_go_258 : decode cX12_go 258 = .ok (.iload 4, 2) := by decide +kernel
theorem dX12_go_260 : decode cX12_go 260 = .ok (.invokestatic 107, 3) := by decide +kernel
theorem dX12_go_263 : decode cX12_go 263 = .ok (.iload_n 2, 1) := by decide +kernel
theorem dX12_go_264 : decode cX12_go 264 = .ok (.if_icmp .ne 7, 3) := by decide +kernel
theorem dX12_go_267 : decode cX12_go 267 = .ok (.iconst 1, 1) := by decide +kernel
theorem dX12_go_268 : decode cX12_go 268 = .ok (.goto 4, 3) := by decide +kernel
theorem dX12_go_271 : decode cX12_go 271 = .ok (.iconst 0, 1) := by decide +kernel
theorem dX12_go_272 : decode cX12_go 272 = .ok (.istore_n 3, 1) := by decide +kernel
theorem dX12_go_273 : decode cX12_go 273 = .ok (.aload_n 0, 1) := by decide +kernel
theorem dX12_go_274 : decode cX12_go 274 = .ok (.getfield 95, 3) := by decide +kernel
theorem dX12_go_277 : decode cX12_go 277 = .ok (.aload_n 0, 1) := by decide +kernel
theorem dX12_go_278 : decode cX12_go 278 = .ok (.getfield 98, 3) := by decide +kernel
theorem dX12_go_281 : decode cX12_go 281 = .ok (.isub, 1) := by decide +kernel
theorem dX12_go_282 : decode cX12_go 282 = .ok (.bipush 7, 2) := by decide +kernel
theorem dX12_go_284 : decode cX12_go 284 = .ok (.if_icmp .ge 23, 3) := by decide +kernel
theorem dX12_go_287 : decode cX12_go 287 = .ok (.aload_n 0, 1) := by decide +kernel
theorem dX12_go_288 : decode cX12_go 288 = .ok (.ldc2_w 128, 3) := by decide +kernel
theorem dX12_go_291 : decode cX12_go 291 = .ok (.aload_n 0, 1) := by decide +kernel
theorem dX12_go_292 : decode cX12_go 292 = .ok (.getfield 117, 3) := by decide +kernel
theorem dX12_go_295 : decode cX12_go 295 = .ok (.lmul, 1) := by decide +kernel
theorem dX12_go_296 : decode cX12_go 296 = .ok (.iload 4, 2) := by decide +kernel
theorem dX12_go_298 : decode cX12_go 298 = .ok (.i2l, 1) := by decide +kernel
theorem dX12_go_299 : decode cX12_go 299 = .ok (.ladd, 1) := by decide +kernel
theorem dX12_go_300 : decode cX12_go 300 = .ok (.ldc2_w 130, 3) := by decide +kernel
theorem dX12_go_303 : decode cX12_go 303 = .ok (.lsub, 1) := by decide +kernel
theorem dX12_go_304 : decode cX12_go 304 = .ok (.putfield 117, 3) := by decide +kernel
theorem dX12_go_307 : decode cX12_go 307 = .ok (.aload_n 0, 1) := by decide +kernel
theorem dX12_go_308 : decode cX12_go 308 = .ok (.getfield 95, 3) := by decide +kernel
theorem dX12_go_311 : decode cX12_go 311 = .ok (.aload_n 0, 1) := by decide +kernel
theorem dX12_go_312 : decode cX12_go 312 = .ok (.getfield 98, 3) := by decide +kernel
theorem dX12_go_315 : decode cX12_go 315 = .ok (.isub, 1) := by decide +kernel
theorem dX12_go_316 : decode cX12_go 316 = .ok (.iconst 2, 1) := by decide +kernel
theorem dX12_go_317 : decode cX12_go 317 = .ok (.if_icmp .ge 20, 3) := by decide +kernel
theorem dX12_go_320 : decode cX12_go 320 = .ok (.aload_n 0, 1) := by decide +kernel
theorem dX12_go_321 : decode cX12_go 321 = .ok (.bipush 10, 2) := by decide +kernel
theorem dX12_go_323 : decode cX12_go 323 = .ok (.aload_n 0, 1) := by decide +kernel
theorem dX12_go_324 : decode cX12_go 324 = .ok (.getfield 121, 3) := by decide +kernel
theorem dX12_go_327 : decode cX12_go 327 = .ok (.imul, 1) := by decide +kernel
theorem dX12_go_328 : decode cX12_go 328 = .ok (.iload 4, 2) := by decide +kernel
theorem dX12_go_330 : decode cX12_go 330 = .ok (.iadd, 1) := by decide +kernel
theorem dX12_go_331 : decode cX12_go 331 = .ok (.bipush 48, 2) := by decide +kernel
theorem dX12_go_333 : decode cX12_go 333 = .ok (.isub, 1) := by decide +kernel
theorem dX12_go_334 : decode cX12_go 334 = .ok (.putfield 121, 3) := by decide +kernel
theorem dX12_go_337 : decode cX12_go 337 = .ok (.aload_n 0, 1) := by decide +kernel
theorem dX12_go_338 : decode cX12_go 338 = .ok (.dup, 1) := by decide +kernel
theorem dX12_go_339 : decode cX12_go 339 = .ok (.getfield 95, 3) := by decide +kernel
theorem dX12_go_342 : decode cX12_go 342 = .ok (.iconst 1, 1) := by decide +kernel
theorem dX12_go_343 : decode cX12_go 343 = .ok (.iadd, 1) := by decide +kernel
theorem dX12_go_344 : decode cX12_go 344 = .ok (.putfield 95, 3) := by decide +kernel
theorem dX12_go_347 : decode cX12_go 347 = .ok (.goto (-132), 3) := by decide +kernel
theorem dX12_go_350 : decode cX12_go 350 = .ok (.aload_n 0, 1) := by decide +kernel
theorem dX12_go_351 : decode cX12_go 351 = .ok (.iload_n 3, 1) := by decide +kernel
theorem dX12_go_352 : decode cX12_go 352 = .ok (.ifCond .eq 25, 3) := by decide +kernel
theorem dX12_go_355 : decode cX12_go 355 = .ok (.aload_n 0, 1) := by decide +kernel
theorem dX12_go_356 : decode cX12_go 356 = .ok (.getfield 95, 3) := by decide +kernel
theorem dX12_go_359 : decode cX12_go 359 = .ok (.aload_n 0, 1) := by decide +kernel
theorem dX12_go_360 : decode cX12_go 360 = .ok (.getfield 98, 3) := by decide +kernel
theorem dX12_go_363 : decode cX12_go 363 = .ok (.isub, 1) := by decide +kernel
theorem dX12_go_364 : decode cX12_go 364 = .ok (.iload_n 2, 1) := by decide +kernel
theorem dX12_go_365 : decode cX12_go 365 = .ok (.ifCond .eq 8, 3) := by decide +kernel
theorem dX12_go_368 : decode cX12_go 368 = .ok (.bipush 7, 2) := by decide +kernel
theorem dX12_go_370 : decode cX12_go 370 = .ok (.goto 4, 3) := by decide +kernel
theorem dX12_go_373 : decode cX12_go 373 = .ok (.iconst 2, 1) := by decide +kernel
theorem dX12_go_374 : decode cX12_go 374 = .ok (.if_icmp .le 7, 3) := by decide +kernel
theorem dX12_go_377 : decode cX12_go 377 = .ok (.iconst 1, 1) := by decide +kernel
theorem dX12_go_378 : decode cX12_go 378 = .ok (.goto 12, 3) := by decide +kernel
theorem dX12_go_381 : decode cX12_go 381 = .ok (.iload_n 2, 1) := by decide +kernel
theorem dX12_go_382 : decode cX12_go 382 = .ok (.ifCond .eq 7, 3) := by decide +kernel
theorem dX12_go_385 : decode cX12_go 385 = .ok (.iconst 2, 1) := by decide +kernel
theorem dX12_go_386 : decode cX12_go 386 = .ok (.goto 4, 3) := by decide +kernel
theorem dX12_go_389 : decode cX12_go 389 = .ok (.iconst 3, 1) := by decide +kernel
theorem dX12_go_390 : decode cX12_go 390 = .ok (.putfield 104, 3) := by decide +kernel
theorem dX12_go_393 : decode cX12_go 393 = .ok (.return_, 1) := by decide +kernel
theorem dX12_spelt_0 : decode cX12_spelt 0 = .ok (.ldc2_w 128, 3) := by decide +kernel
theorem dX12_spelt_3 : decode cX12_spelt 3 = .ok (.iload_n 0, 1) := by decide +kernel
theorem dX12_spelt_4 : decode cX12_spelt 4 = .ok (.i2l, 1) := by decide +kernel
theorem dX12_spelt_5 : decode cX12_spelt 5 = .ok (.ldc2_w 130, 3) := by decide +kernel
theorem dX12_spelt_8 : decode cX12_spelt 8 = .ok (.lsub, 1) := by decide +kernel
theorem dX12_spelt_9 : decode cX12_spelt 9 = .ok (.lmul, 1) := by decide +kernel
theorem dX12_spelt_10 : decode cX12_spelt 10 = .ok (.iload_n 1, 1) := by decide +kernel
theorem dX12_spelt_11 : decode cX12_spelt 11 = .ok (.i2l, 1) := by decide +kernel
theorem dX12_spelt_12 : decode cX12_spelt 12 = .ok (.ladd, 1) := by decide +kernel
theorem dX12_spelt_13 : decode cX12_spelt 13 = .ok (.ldc2_w 130, 3) := by decide +kernel
theorem dX12_spelt_16 : decode cX12_spelt 16 = .ok (.lsub, 1) := by decide +kernel
theorem dX12_spelt_17 : decode cX12_spelt 17 = .ok (.lstore 5, 2) := by decide +kernel
theorem dX12_spelt_19 : decode cX12_spelt 19 = .ok (.iload_n 2, 1) := by decide +kernel
theorem dX12_spelt_20 : decode cX12_spelt 20 = .ok (.ifCond .le 18, 3) := by decide +kernel
theorem dX12_spelt_23 : decode cX12_spelt 23 = .ok (.ldc2_w 128, 3) := by decide +kernel
theorem dX12_spelt_26 : decode cX12_spelt 26 = .ok (.lload 5, 2) := by decide +kernel
theorem dX12_spelt_28 : decode cX12_spelt 28 = .ok (.lmul, 1) := by decide +kernel
theorem dX12_spelt_29 : decode cX12_spelt 29 = .ok (.iload_n 2, 1) := by decide +kernel
theorem dX12_spelt_30 : decode cX12_spelt 30 = .ok (.i2l, 1) := by decide +kernel
theorem dX12_spelt_31 : decode cX12_spelt 31 = .ok (.ladd, 1) := by decide +kernel
theorem dX12_spelt_32 : decode cX12_spelt 32 = .ok (.ldc2_w 130, 3) := by decide +kernel
theorem dX12_spelt_35 : decode cX12_spelt 35 = .ok (.lsub, 1) := by decide +kernel
theorem dX12_spelt_36 : decode cX12_spelt 36 = .ok (.lstore 5, 2) := by decide +kernel
theorem dX12_spelt_38 : decode cX12_spelt 38 = .ok (.iload_n 3, 1) := by decide +kernel
theorem dX12_spelt_39 : decode cX12_spelt 39 = .ok (.ifCond .le 18, 3) := by decide +kernel
theorem dX12_spelt_42 : decode cX12_spelt 42 = .ok (.ldc2_w 128, 3) := by decide +kernel
theorem dX12_spelt_45 : decode cX12_spelt 45 = .ok (.lload 5, 2) := by decide +kernel
theorem dX12_spelt_47 : decode cX12_spelt 47 = .ok (.lmul, 1) := by decide +kernel
theorem dX12_spelt_48 : decode cX12_spelt 48 = .ok (.iload_n 3, 1) := by decide +kernel
theorem dX12_spelt_49 : decode cX12_spelt 49 = .ok (.i2l, 1) := by decide +kernel
theorem dX12_spelt_50 : decode cX12_spelt 50 = .ok (.ladd, 1) := by decide +kernel
theorem dX12_spelt_51 : decode cX12_spelt 51 = .ok (.ldc2_w 130, 3) := by decide +kernel
theorem dX12_spelt_54 : decode cX12_spelt 54 = .ok (.lsub, 1) := by decide +kernel
theorem dX12_spelt_55 : decode cX12_spelt 55 = .ok (.lstore 5, 2) := by decide +kernel
theorem dX12_spelt_57 : decode cX12_spelt 57 = .ok (.iload 4, 2) := by decide +kernel
theorem dX12_spelt_59 : decode cX12_spelt 59 = .ok (.ifCond .le 20, 3) := by decide +kernel
theorem dX12_spelt_62 : decode cX12_spelt 62 = .ok (.ldc2_w 128, 3) := by decide +kernel
theorem dX12_spelt_65 : decode cX12_spelt 65 = .ok (.lload 5, 2) := by decide +kernel
theorem dX12_spelt_67 : decode cX12_spelt 67 = .ok (.lmul, 1) := by decide +kernel
theorem dX12_spelt_68 : decode cX12_spelt 68 = .ok (.iload 4, 2) := by decide +kernel
theorem dX12_spelt_70 : decode cX12_spelt 70 = .ok (.i2l, 1) := by decide +kernel
theorem dX12_spelt_71 : decode cX12_spelt 71 = .ok (.ladd, 1) := by decide +kernel
theorem dX12_spelt_72 : decode cX12_spelt 72 = .ok (.ldc2_w 130, 3) := by decide +kernel
theorem dX12_spelt_75 : decode cX12_spelt 75 = .ok (.lsub, 1) := by decide +kernel
theorem dX12_spelt_76 : decode cX12_spelt 76 = .ok (.goto 5, 3) := by decide +kernel
theorem dX12_spelt_79 : decode cX12_spelt 79 = .ok (.lload 5, 2) := by decide +kernel
theorem dX12_spelt_81 : decode cX12_spelt 81 = .ok (.lreturn, 1) := by decide +kernel
theorem dX12_wordOf_0 : decode cX12_wordOf 0 = .ok (.iload_n 0, 1) := by decide +kernel
theorem dX12_wordOf_1 : decode cX12_wordOf 1 = .ok (.tableswitch 353 0 18 #[91, 105, 118, 131, 157, 171, 185, 198, 211, 225, 236, 248, 260, 274, 288, 300, 314, 326, 340], 91) := by decide +kernel
theorem dX12_wordOf_92 : decode cX12_wordOf 92 = .ok (.bipush 108, 2) := by decide +kernel
theorem dX12_wordOf_94 : decode cX12_wordOf 94 = .ok (.bipush 105, 2) := by decide +kernel
theorem dX12_wordOf_96 : decode cX12_wordOf 96 = .ok (.bipush 110, 2) := by decide +kernel
theorem dX12_wordOf_98 : decode cX12_wordOf 98 = .ok (.bipush 101, 2) := by decide +kernel
theorem dX12_wordOf_100 : decode cX12_wordOf 100 = .ok (.bipush 115, 2) := by decide +kernel
theorem dX12_wordOf_102 : decode cX12_wordOf 102 = .ok (.invokestatic 132, 3) := by decide +kernel
theorem dX12_wordOf_105 : decode cX12_wordOf 105 = .ok (.lreturn, 1) := by decide +kernel
theorem dX12_wordOf_106 : decode cX12_wordOf 106 = .ok (.bipush 99, 2) := by decide +kernel
theorem dX12_wordOf_108 : decode cX12_wordOf 108 = .ok (.bipush 111, 2) := by decide +kernel
theorem dX12_wordOf_110 : decode cX12_wordOf 110 = .ok (.bipush 112, 2) := by decide +kernel
theorem dX12_wordOf_112 : decode cX12_wordOf 112 = .ok (.bipush 121, 2) := by decide +kernel
theorem dX12_wordOf_114 : decode cX12_wordOf 114 = .ok (.iconst 0, 1) := by decide +kernel
theorem dX12_wordOf_115 : decode cX12_wordOf 115 = .ok (.invokestatic 132, 3) := by decide +kernel
theorem dX12_wordOf_118 : decode cX12_wordOf 118 = .ok (.lreturn, 1) := by decide +kernel
theorem dX12_wordOf_119 : decode cX12_wordOf 119 = .ok (.bipush 100, 2) := by decide +kernel
theorem dX12_wordOf_121 : decode cX12_wordOf 121 = .ok (.bipush 101, 2) := by decide +kernel
theorem dX12_wordOf_123 : decode cX12_wordOf 123 = .ok (.bipush 115, 2) := by decide +kernel
theorem dX12_wordOf_125 : decode cX12_wordOf 125 = .ok (.bipush 107, 2) := by decide +kernel
theorem dX12_wordOf_127 : decode cX12_wordOf 127 = .ok (.iconst 0, 1) := by decide +kernel
theorem dX12_wordOf_128 : decode cX12_wordOf 128 = .ok (.invokestatic 132, 3) := by decide +kernel
theorem dX12_wordOf_131 : decode cX12_wordOf 131 = .ok (.lreturn, 1) := by decide +kernel
theorem dX12_wordOf_132 : decode cX12_wordOf 132 = .ok (.ldc2_w 128, 3) := by decide +kernel
theorem dX12_wordOf_135 : decode cX12_wordOf 135 = .ok (.bipush 108, 2) := by decide +kernel
theorem dX12_wordOf_137 : decode cX12_wordOf 137 = .ok (.bipush 105, 2) := by decide +kernel
theorem dX12_wordOf_139 : decode cX12_wordOf 139 = .ok (.bipush 107, 2) := by decide +kernel
theorem dX12_wordOf_141 : decode cX12_wordOf 141 = .ok (.bipush 101, 2) := by decide +kernel
theorem dX12_wordOf_143 : decode cX12_wordOf 143 = .ok (.bipush 108, 2) := by decide +kernel
theorem dX12_wordOf_145 : decode cX12_wordOf 145 = .ok (.invokestatic 132, 3) := by decide +kernel
theorem dX12_wordOf_148 : decode cX12_wordOf 148 = .ok (.lmul, 1) := by decide +kernel
theorem dX12_wordOf_149 : decode cX12_wordOf 149 = .ok (.ldc2_w 136, 3) := by decide +kernel
theorem dX12_wordOf_152 : decode cX12_wordOf 152 = .ok (.ladd, 1) := by decide +kernel
theorem dX12_wordOf_153 : decode cX12_wordOf 153 = .ok (.ldc2_w 130, 3) := by decide +kernel
theorem dX12_wordOf_156 : decode cX12_wordOf 156 = .ok (.lsub, 1) := by decide +kernel
theorem dX12_wordOf_157 : decode cX12_wordOf 157 = .ok (.lreturn, 1) := by decide +kernel
theorem dX12_wordOf_158 : decode cX12_wordOf 158 = .ok (.bipush 115, 2) := by decide +kernel
theorem dX12_wordOf_160 : decode cX12_wordOf 160 = .ok (.bipush 101, 2) := by decide +kernel
theorem dX12_wordOf_162 : decode cX12_wordOf 162 = .ok (.bipush 110, 2) := by decide +kernel
theorem dX12_wordOf_164 : decode cX12_wordOf 164 = .ok (.bipush 115, 2) := by decide +kernel
theorem dX12_wordOf_166 : decode cX12_wordOf 166 = .ok (.bipush 101, 2) := by decide +kernel
theorem dX12_wordOf_168 : decode cX12_wordOf 168 = .ok (.invokestatic 132, 3) := by decide +kernel
theorem dX12_wordOf_171 : decode cX12_wordOf 171 = .ok (.lreturn, 1) := by decide +kernel
theorem dX12_wordOf_172 : decode cX12_wordOf 172 = .ok (.bipush 114, 2) := by decide +kernel
theorem dX12_wordOf_174 : decode cX12_wordOf 174 = .ok (.bipush 104, 2) := by decide +kernel
theorem dX12_wordOf_176 : decode cX12_wordOf 176 = .ok (.bipush 121, 2) := by decide +kernel
theorem dX12_wordOf_178 : decode cX12_wordOf 178 = .ok (.bipush 109, 2) := by decide +kernel
theorem dX12_wordOf_180 : decode cX12_wordOf 180 = .ok (.bipush 101, 2) := by decide +kernel
theorem dX12_wordOf_182 : decode cX12_wordOf 182 = .ok (.invokestatic 132, 3) := by decide +kernel
theorem dX12_wordOf_185 : decode cX12_wordOf 185 = .ok (.lreturn, 1) := by decide +kernel
theorem dX12_wordOf_186 : decode cX12_wordOf 186 = .ok (.bipush 115, 2) := by decide +kernel
theorem dX12_wordOf_188 : decode cX12_wordOf 188 = .ok (.bipush 119, 2) := by decide +kernel
theorem dX12_wordOf_190 : decode cX12_wordOf 190 = .ok (.bipush 97, 2) := by decide +kernel
theorem dX12_wordOf_192 : decode cX12_wordOf 192 = .ok (.bipush 112, 2) := by decide +kernel
theorem dX12_wordOf_194 : decode cX12_wordOf 194 = .ok (.iconst 0, 1) := by decide +kernel
theorem dX12_wordOf_195 : decode cX12_wordOf 195 = .ok (.invokestatic 132, 3) := by decide +kernel
theorem dX12_wordOf_198 : decode cX12_wordOf 198 = .ok (.lreturn, 1) := by decide +kernel
theorem dX12_wordOf_199 : decode cX12_wordOf 199 = .ok (.bipush 109, 2) := by decide +kernel
theorem dX12_wordOf_201 : decode cX12_wordOf 201 = .ok (.bipush 111, 2) := by decide +kernel
theorem dX12_wordOf_203 : decode cX12_wordOf 203 = .ok (.bipush 115, 2) := by decide +kernel
theorem dX12_wordOf_205 : decode cX12_wordOf 205 = .ok (.bipush 116, 2) := by decide +kernel
theorem dX12_wordOf_207 : decode cX12_wordOf 207 = .ok (.iconst 0, 1) := by decide +kernel
theorem dX12_wordOf_208 : decode cX12_wordOf 208 = .ok (.invokestatic 132, 3) := by decide +kernel
theorem dX12_wordOf_211 : decode cX12_wordOf 211 = .ok (.lreturn, 1) := by decide +kernel
theorem dX12_wordOf_212 : decode cX12_wordOf 212 = .ok (.bipush 100, 2) := by decide +kernel
theorem dX12_wordOf_214 : decode cX12_wordOf 214 = .ok (.bipush 114, 2) := by decide +kernel
theorem dX12_wordOf_216 : decode cX12_wordOf 216 = .ok (.bipush 111, 2) := by decide +kernel
theorem dX12_wordOf_218 : decode cX12_wordOf 218 = .ok (.bipush 112, 2) := by decide +kernel
theorem dX12_wordOf_220 : decode cX12_wordOf 220 = .ok (.bipush 115, 2) := by decide +kernel
theorem dX12_wordOf_222 : decode cX12_wordOf 222 = .ok (.invokestatic 132, 3) := by decide +kernel
theorem dX12_wordOf_225 : decode cX12_wordOf 225 = .ok (.lreturn, 1) := by decide +kernel
theorem dX12_wordOf_226 : decode cX12_wordOf 226 = .ok (.bipush 111, 2) := by decide +kernel
theorem dX12_wordOf_228 : decode cX12_wordOf 228 = .ok (.bipush 114, 2) := by decide +kernel
theorem dX12_wordOf_230 : decode cX12_wordOf 230 = .ok (.iconst 0, 1) := by decide +kernel
theorem dX12_wordOf_231 : decode cX12_wordOf 231 = .ok (.iconst 0, 1) := by decide +kernel
theorem dX12_wordOf_232 : decode cX12_wordOf 232 = .ok (.iconst 0, 1) := by decide +kernel
theorem dX12_wordOf_233 : decode cX12_wordOf 233 = .ok (.invokestatic 132, 3) := by decide +kernel
theorem dX12_wordOf_236 : decode cX12_wordOf 236 = .ok (.lreturn, 1) := by decide +kernel
theorem dX12_wordOf_237 : decode cX12_wordOf 237 = .ok (.bipush 97, 2) := by decide +kernel
theorem dX12_wordOf_239 : decode cX12_wordOf 239 = .ok (.bipush 110, 2) := by decide +kernel
theorem dX12_wordOf_241 : decode cX12_wordOf 241 = .ok (.bipush 100, 2) := by decide +kernel
theorem dX12_wordOf_243 : decode cX12_wordOf 243 = .ok (.iconst 0, 1) := by decide +kernel
theorem dX12_wordOf_244 : decode cX12_wordOf 244 = .ok (.iconst 0, 1) := by decide +kernel
theorem dX12_wordOf_245 : decode cX12_wordOf 245 = .ok (.invokestatic 132, 3) := by decide +kernel
theorem dX12_wordOf_248 : decode cX12_wordOf 248 = .ok (.lreturn, 1) := by decide +kernel
theorem dX12_wordOf_249 : decode cX12_wordOf 249 = .ok (.bipush 110, 2) := by decide +kernel
theorem dX12_wordOf_251 : decode cX12_wordOf 251 = .ok (.bipush 111, 2) := by decide +kernel
theorem dX12_wordOf_253 : decode cX12_wordOf 253 = .ok (.bipush 116, 2) := by decide +kernel
theorem dX12_wordOf_255 : decode cX12_wordOf 255 = .ok (.iconst 0, 1) := by decide +kernel
theorem dX12_wordOf_256 : decode cX12_wordOf 256 = .ok (.iconst 0, 1) := by decide +kernel
theorem dX12_wordOf_257 : decode cX12_wordOf 257 = .ok (.invokestatic 132, 3) := by decide +kernel
theorem dX12_wordOf_260 : decode cX12_wordOf 260 = .ok (.lreturn, 1) := by decide +kernel
theorem dX12_wordOf_261 : decode cX12_wordOf 261 = .ok (.bipush 119, 2) := by decide +kernel
theorem dX12_wordOf_263 : decode cX12_wordOf 263 = .ok (.bipush 104, 2) := by decide +kernel
theorem dX12_wordOf_265 : decode cX12_wordOf 265 = .ok (.bipush 111, 2) := by decide +kernel
theorem dX12_wordOf_267 : decode cX12_wordOf 267 = .ok (.bipush 108, 2) := by decide +kernel
theorem dX12_wordOf_269 : decode cX12_wordOf 269 = .ok (.bipush 101, 2) := by decide +kernel
theorem dX12_wordOf_271 : decode cX12_wordOf 271 = .ok (.invokestatic 132, 3) := by decide +kernel
theorem dX12_wordOf_274 : decode cX12_wordOf 274 = .ok (.lreturn, 1) := by decide +kernel
theorem dX12_wordOf_275 : decode cX12_wordOf 275 = .ok (.bipush 104, 2) := by decide +kernel
theorem dX12_wordOf_277 : decode cX12_wordOf 277 = .ok (.bipush 111, 2) := by decide +kernel
theorem dX12_wordOf_279 : decode cX12_wordOf 279 = .ok (.bipush 108, 2) := by decide +kernel
theorem dX12_wordOf_281 : decode cX12_wordOf 281 = .ok (.bipush 100, 2) := by decide +kernel
theorem dX12_wordOf_283 : decode cX12_wordOf 283 = .ok (.bipush 115, 2) := by decide +kernel
theorem dX12_wordOf_285 : decode cX12_wordOf 285 = .ok (.invokestatic 132, 3) := by decide +kernel
theorem dX12_wordOf_288 : decode cX12_wordOf 288 = .ok (.lreturn, 1) := by decide +kernel
theorem dX12_wordOf_289 : decode cX12_wordOf 289 = .ok (.bipush 104, 2) := by decide +kernel
theorem dX12_wordOf_291 : decode cX12_wordOf 291 = .ok (.bipush 97, 2) := by decide +kernel
theorem dX12_wordOf_293 : decode cX12_wordOf 293 = .ok (.bipush 115, 2) := by decide +kernel
theorem dX12_wordOf_295 : decode cX12_wordOf 295 = .ok (.iconst 0, 1) := by decide +kernel
theorem dX12_wordOf_296 : decode cX12_wordOf 296 = .ok (.iconst 0, 1) := by decide +kernel
theorem dX12_wordOf_297 : decode cX12_wordOf 297 = .ok (.invokestatic 132, 3) := by decide +kernel
theorem dX12_wordOf_300 : decode cX12_wordOf 300 = .ok (.lreturn, 1) := by decide +kernel
theorem dX12_wordOf_301 : decode cX12_wordOf 301 = .ok (.bipush 97, 2) := by decide +kernel
theorem dX12_wordOf_303 : decode cX12_wordOf 303 = .ok (.bipush 104, 2) := by decide +kernel
theorem dX12_wordOf_305 : decode cX12_wordOf 305 = .ok (.bipush 101, 2) := by decide +kernel
theorem dX12_wordOf_307 : decode cX12_wordOf 307 = .ok (.bipush 97, 2) := by decide +kernel
theorem dX12_wordOf_309 : decode cX12_wordOf 309 = .ok (.bipush 100, 2) := by decide +kernel
theorem dX12_wordOf_311 : decode cX12_wordOf 311 = .ok (.invokestatic 132, 3) := by decide +kernel
theorem dX12_wordOf_314 : decode cX12_wordOf 314 = .ok (.lreturn, 1) := by decide +kernel
theorem dX12_wordOf_315 : decode cX12_wordOf 315 = .ok (.bipush 102, 2) := by decide +kernel
theorem dX12_wordOf_317 : decode cX12_wordOf 317 = .ok (.bipush 97, 2) := by decide +kernel
theorem dX12_wordOf_319 : decode cX12_wordOf 319 = .ok (.bipush 114, 2) := by decide +kernel
theorem dX12_wordOf_321 : decode cX12_wordOf 321 = .ok (.iconst 0, 1) := by decide +kernel
theorem dX12_wordOf_322 : decode cX12_wordOf 322 = .ok (.iconst 0, 1) := by decide +kernel
theorem dX12_wordOf_323 : decode cX12_wordOf 323 = .ok (.invokestatic 132, 3) := by decide +kernel
theorem dX12_wordOf_326 : decode cX12_wordOf 326 = .ok (.lreturn, 1) := by decide +kernel
theorem dX12_wordOf_327 : decode cX12_wordOf 327 = .ok (.bipush 115, 2) := by decide +kernel
theorem dX12_wordOf_329 : decode cX12_wordOf 329 = .ok (.bipush 116, 2) := by decide +kernel
theorem dX12_wordOf_331 : decode cX12_wordOf 331 = .ok (.bipush 101, 2) := by decide +kernel
theorem dX12_wordOf_333 : decode cX12_wordOf 333 = .ok (.bipush 112, 2) := by decide +kernel
theorem dX12_wordOf_335 : decode cX12_wordOf 335 = .ok (.bipush 115, 2) := by decide +kernel
theorem dX12_wordOf_337 : decode cX12_wordOf 337 = .ok (.invokestatic 132, 3) := by decide +kernel
theorem dX12_wordOf_340 : decode cX12_wordOf 340 = .ok (.lreturn, 1) := by decide +kernel
theorem dX12_wordOf_341 : decode cX12_wordOf 341 = .ok (.bipush 115, 2) := by decide +kernel
theorem dX12_wordOf_343 : decode cX12_wordOf 343 = .ok (.bipush 111, 2) := by decide +kernel
theorem dX12_wordOf_345 : decode cX12_wordOf 345 = .ok (.bipush 110, 2) := by decide +kernel
theorem dX12_wordOf_347 : decode cX12_wordOf 347 = .ok (.bipush 103, 2) := by decide +kernel
theorem dX12_wordOf_349 : decode cX12_wordOf 349 = .ok (.iconst 0, 1) := by decide +kernel
theorem dX12_wordOf_350 : decode cX12_wordOf 350 = .ok (.invokestatic 132, 3) := by decide +kernel
theorem dX12_wordOf_353 : decode cX12_wordOf 353 = .ok (.lreturn, 1) := by decide +kernel
theorem dX12_wordOf_354 : decode cX12_wordOf 354 = .ok (.bipush 115, 2) := by decide +kernel
theorem dX12_wordOf_356 : decode cX12_wordOf 356 = .ok (.bipush 105, 2) := by decide +kernel
theorem dX12_wordOf_358 : decode cX12_wordOf 358 = .ok (.bipush 122, 2) := by decide +kernel
theorem dX12_wordOf_360 : decode cX12_wordOf 360 = .ok (.bipush 101, 2) := by decide +kernel
theorem dX12_wordOf_362 : decode cX12_wordOf 362 = .ok (.iconst 0, 1) := by decide +kernel
theorem dX12_wordOf_363 : decode cX12_wordOf 363 = .ok (.invokestatic 132, 3) := by decide +kernel
theorem dX12_wordOf_366 : decode cX12_wordOf 366 = .ok (.lreturn, 1) := by decide +kernel
theorem dX12_isWord_0 : decode cX12_isWord 0 = .ok (.aload_n 0, 1) := by decide +kernel
theorem dX12_isWord_1 : decode cX12_isWord 1 = .ok (.getfield 104, 3) := by decide +kernel
theorem dX12_isWord_4 : decode cX12_isWord 4 = .ok (.iconst 2, 1) := by decide +kernel
theorem dX12_isWord_5 : decode cX12_isWord 5 = .ok (.if_icmp .ne 19, 3) := by decide +kernel
theorem dX12_isWord_8 : decode cX12_isWord 8 = .ok (.aload_n 0, 1) := by decide +kernel
theorem dX12_isWord_9 : decode cX12_isWord 9 = .ok (.getfield 117, 3) := by decide +kernel
theorem dX12_isWord_12 : decode cX12_isWord 12 = .ok (.iload_n 1, 1) := by decide +kernel
theorem dX12_isWord_13 : decode cX12_isWord 13 = .ok (.invokestatic 138, 3) := by decide +kernel
theorem dX12_isWord_16 : decode cX12_isWord 16 = .ok (.lcmp, 1) := by decide +kernel
theorem dX12_isWord_17 : decode cX12_isWord 17 = .ok (.ifCond .ne 7, 3) := by decide +kernel
theorem dX12_isWord_20 : decode cX12_isWord 20 = .ok (.iconst 1, 1) := by decide +kernel
theorem dX12_isWord_21 : decode cX12_isWord 21 = .ok (.goto 4, 3) := by decide +kernel
theorem dX12_isWord_24 : decode cX12_isWord 24 = .ok (.iconst 0, 1) := by decide +kernel
theorem dX12_isWord_25 : decode cX12_isWord 25 = .ok (.ireturn, 1) := by decide +kernel
theorem dX12_isSign_0 : decode cX12_isSign 0 = .ok (.aload_n 0, 1) := by decide +kernel
theorem dX12_isSign_1 : decode cX12_isSign 1 = .ok (.getfield 104, 3) := by decide +kernel
theorem dX12_isSign_4 : decode cX12_isSign 4 = .ok (.iconst 4, 1) := by decide +kernel
theorem dX12_isSign_5 : decode cX12_isSign 5 = .ok (.if_icmp .ne 15, 3) := by decide +kernel
theorem dX12_isSign_8 : decode cX12_isSign 8 = .ok (.aload_n 0, 1) := by decide +kernel
theorem dX12_isSign_9 : decode cX12_isSign 9 = .ok (.getfield 114, 3) := by decide +kernel
theorem dX12_isSign_12 : decode cX12_isSign 12 = .ok (.iload_n 1, 1) := by decide +kernel
theorem dX12_isSign_13 : decode cX12_isSign 13 = .ok (.if_icmp .ne 7, 3) := by decide +kernel
theorem dX12_isSign_16 : decode cX12_isSign 16 = .ok (.iconst 1, 1) := by decide +kernel
theorem dX12_isSign_17 : decode cX12_isSign 17 = .ok (.goto 4, 3) := by decide +kernel
theorem dX12_isSign_20 : decode cX12_isSign 20 = .ok (.iconst 0, 1) := by decide +kernel
theorem dX12_isSign_21 : decode cX12_isSign 21 = .ok (.ireturn, 1) := by decide +kernel
theorem dX12_isName_0 : decode cX12_isName 0 = .ok (.aload_n 0, 1) := by decide +kernel
theorem dX12_isName_1 : decode cX12_isName 1 = .ok (.getfield 104, 3) := by decide +kernel
theorem dX12_isName_4 : decode cX12_isName 4 = .ok (.iconst 2, 1) := by decide +kernel
theorem dX12_isName_5 : decode cX12_isName 5 = .ok (.if_icmp .eq 5, 3) := by decide +kernel
theorem dX12_isName_8 : decode cX12_isName 8 = .ok (.iconst 0, 1) := by decide +kernel
theorem dX12_isName_9 : decode cX12_isName 9 = .ok (.ireturn, 1) := by decide +kernel
theorem dX12_isName_10 : decode cX12_isName 10 = .ok (.iconst 0, 1) := by decide +kernel
theorem dX12_isName_11 : decode cX12_isName 11 = .ok (.istore_n 1, 1) := by decide +kernel
theorem dX12_isName_12 : decode cX12_isName 12 = .ok (.iload_n 1, 1) := by decide +kernel
theorem dX12_isName_13 : decode cX12_isName 13 = .ok (.bipush 19, 2) := by decide +kernel
theorem dX12_isName_15 : decode cX12_isName 15 = .ok (.if_icmp .gt 23, 3) := by decide +kernel
theorem dX12_isName_18 : decode cX12_isName 18 = .ok (.aload_n 0, 1) := by decide +kernel
theorem dX12_isName_19 : decode cX12_isName 19 = .ok (.getfield 117, 3) := by decide +kernel
theorem dX12_isName_22 : decode cX12_isName 22 = .ok (.iload_n 1, 1) := by decide +kernel
theorem dX12_isName_23 : decode cX12_isName 23 = .ok (.invokestatic 138, 3) := by decide +kernel
theorem dX12_isName_26 : decode cX12_isName 26 = .ok (.lcmp, 1) := by decide +kernel
theorem dX12_isName_27 : decode cX12_isName 27 = .ok (.ifCond .ne 5, 3) := by decide +kernel
theorem dX12_isName_30 : decode cX12_isName 30 = .ok (.iconst 0, 1) := by decide +kernel
theorem dX12_isName_31 : decode cX12_isName 31 = .ok (.ireturn, 1) := by decide +kernel
theorem dX12_isName_32 : decode cX12_isName 32 = .ok (.iinc 1 1, 3) := by decide +kernel
theorem dX12_isName_35 : decode cX12_isName 35 = .ok (.goto (-23), 3) := by decide +kernel
theorem dX12_isName_38 : decode cX12_isName 38 = .ok (.iconst 1, 1) := by decide +kernel
theorem dX12_isName_39 : decode cX12_isName 39 = .ok (.ireturn, 1) := by decide +kernel
theorem dX12_bad_0 : decode cX12_bad 0 = .ok (.aload_n 0, 1) := by decide +kernel
theorem dX12_bad_1 : decode cX12_bad 1 = .ok (.aload_n 0, 1) := by decide +kernel
theorem dX12_bad_2 : decode cX12_bad 2 = .ok (.getfield 104, 3) := by decide +kernel
theorem dX12_bad_5 : decode cX12_bad 5 = .ok (.iconst 1, 1) := by decide +kernel
theorem dX12_bad_6 : decode cX12_bad 6 = .ok (.if_icmp .ne 7, 3) := by decide +kernel
theorem dX12_bad_9 : decode cX12_bad 9 = .ok (.iconst 1, 1) := by decide +kernel
theorem dX12_bad_10 : decode cX12_bad 10 = .ok (.goto 4, 3) := by decide +kernel
theorem dX12_bad_13 : decode cX12_bad 13 = .ok (.iload_n 1, 1) := by decide +kernel
theorem dX12_bad_14 : decode cX12_bad 14 = .ok (.putfield 142, 3) := by decide +kernel
theorem dX12_bad_17 : decode cX12_bad 17 = .ok (.aload_n 0, 1) := by decide +kernel
theorem dX12_bad_18 : decode cX12_bad 18 = .ok (.aload_n 0, 1) := by decide +kernel
theorem dX12_bad_19 : decode cX12_bad 19 = .ok (.getfield 98, 3) := by decide +kernel
theorem dX12_bad_22 : decode cX12_bad 22 = .ok (.putfield 145, 3) := by decide +kernel
theorem dX12_bad_25 : decode cX12_bad 25 = .ok (.iconst 0, 1) := by decide +kernel
theorem dX12_bad_26 : decode cX12_bad 26 = .ok (.ireturn, 1) := by decide +kernel
theorem dX12_readNumber_0 : decode cX12_readNumber 0 = .ok (.aload_n 0, 1) := by decide +kernel
theorem dX12_readNumber_1 : decode cX12_readNumber 1 = .ok (.getfield 104, 3) := by decide +kernel
theorem dX12_readNumber_4 : decode cX12_readNumber 4 = .ok (.iconst 3, 1) := by decide +kernel
theorem dX12_readNumber_5 : decode cX12_readNumber 5 = .ok (.if_icmp .eq 9, 3) := by decide +kernel
theorem dX12_readNumber_8 : decode cX12_readNumber 8 = .ok (.aload_n 0, 1) := by decide +kernel
theorem dX12_readNumber_9 : decode cX12_readNumber 9 = .ok (.iconst 1, 1) := by decide +kernel
theorem dX12_readNumber_10 : decode cX12_readNumber 10 = .ok (.invokevirtual 148, 3) := by decide +kernel
theorem dX12_readNumber_13 : decode cX12_readNumber 13 = .ok (.ireturn, 1) := by decide +kernel
theorem dX12_readNumber_14 : decode cX12_readNumber 14 = .ok (.aload_n 0, 1) := by decide +kernel
theorem dX12_readNumber_15 : decode cX12_readNumber 15 = .ok (.getfield 121, 3) := by decide +kernel
theorem dX12_readNumber_18 : decode cX12_readNumber 18 = .ok (.iload_n 1, 1) := by decide +kernel
theorem dX12_readNumber_19 : decode cX12_readNumber 19 = .ok (.iload_n 2, 1) := by decide +kernel
theorem dX12_readNumber_20 : decode cX12_readNumber 20 = .ok (.invokestatic 151, 3) := by decide +kernel
theorem dX12_readNumber_23 : decode cX12_readNumber 23 = .ok (.ifCond .ne 9, 3) := by decide +kernel
theorem dX12_readNumber_26 : decode cX12_readNumber 26 = .ok (.aload_n 0, 1) := by decide +kernel
theorem dX12_readNumber_27 : decode cX12_readNumber 27 = .ok (.iconst 2, 1) := by decide +kernel
theorem dX12_readNumber_28 : decode cX12_readNumber 28 = .ok (.invokevirtual 148, 3) := by decide +kernel
theorem dX12_readNumber_31 : decode cX12_readNumber 31 = .ok (.ireturn, 1) := by decide +kernel
theorem dX12_readNumber_32 : decode cX12_readNumber 32 = .ok (.aload_n 0, 1) := by decide +kernel
theorem dX12_readNumber_33 : decode cX12_readNumber 33 = .ok (.aload_n 0, 1) := by decide +kernel
theorem dX12_readNumber_34 : decode cX12_readNumber 34 = .ok (.getfield 121, 3) := by decide +kernel
theorem dX12_readNumber_37 : decode cX12_readNumber 37 = .ok (.putfield 155, 3) := by decide +kernel
theorem dX12_readNumber_40 : decode cX12_readNumber 40 = .ok (.aload_n 0, 1) := by decide +kernel
theorem dX12_readNumber_41 : decode cX12_readNumber 41 = .ok (.invokevirtual 158, 3) := by decide +kernel
theorem dX12_readNumber_44 : decode cX12_readNumber 44 = .ok (.iconst 1, 1) := by decide +kernel
theorem dX12_readNumber_45 : decode cX12_readNumber 45 = .ok (.ireturn, 1) := by decide +kernel
theorem dX12_readEnd_0 : decode cX12_readEnd 0 = .ok (.aload_n 0, 1) := by decide +kernel
theorem dX12_readEnd_1 : decode cX12_readEnd 1 = .ok (.bipush 59, 2) := by decide +kernel
theorem dX12_readEnd_3 : decode cX12_readEnd 3 = .ok (.invokevirtual 161, 3) := by decide +kernel
theorem dX12_readEnd_6 : decode cX12_readEnd 6 = .ok (.ifCond .ne 9, 3) := by decide +kernel
theorem dX12_readEnd_9 : decode cX12_readEnd 9 = .ok (.aload_n 0, 1) := by decide +kernel
theorem dX12_readEnd_10 : decode cX12_readEnd 10 = .ok (.iconst 1, 1) := by decide +kernel
theorem dX12_readEnd_11 : decode cX12_readEnd 11 = .ok (.invokevirtual 148, 3) := by decide +kernel
theorem dX12_readEnd_14 : decode cX12_readEnd 14 = .ok (.ireturn, 1) := by decide +kernel
theorem dX12_readEnd_15 : decode cX12_readEnd 15 = .ok (.aload_n 0, 1) := by decide +kernel
theorem dX12_readEnd_16 : decode cX12_readEnd 16 = .ok (.invokevirtual 158, 3) := by decide +kernel
theorem dX12_readEnd_19 : decode cX12_readEnd 19 = .ok (.iconst 1, 1) := by decide +kernel
theorem dX12_readEnd_20 : decode cX12_readEnd 20 = .ok (.ireturn, 1) := by decide +kernel
theorem dX12_begin_0 : decode cX12_begin 0 = .ok (.aload_n 0, 1) := by decide +kernel
theorem dX12_begin_1 : decode cX12_begin 1 = .ok (.iconst 0, 1) := by decide +kernel
theorem dX12_begin_2 : decode cX12_begin 2 = .ok (.putfield 81, 3) := by decide +kernel
theorem dX12_begin_5 : decode cX12_begin 5 = .ok (.aload_n 0, 1) := by decide +kernel
theorem dX12_begin_6 : decode cX12_begin 6 = .ok (.invokevirtual 164, 3) := by decide +kernel
theorem dX12_begin_9 : decode cX12_begin 9 = .ok (.aload_n 0, 1) := by decide +kernel
theorem dX12_begin_10 : decode cX12_begin 10 = .ok (.aload_n 0, 1) := by decide +kernel
theorem dX12_begin_11 : decode cX12_begin 11 = .ok (.invokevirtual 167, 3) := by decide +kernel
theorem dX12_begin_14 : decode cX12_begin 14 = .ok (.putfield 92, 3) := by decide +kernel
theorem dX12_begin_17 : decode cX12_begin 17 = .ok (.aload_n 0, 1) := by decide +kernel
theorem dX12_begin_18 : decode cX12_begin 18 = .ok (.iload_n 1, 1) := by decide +kernel
theorem dX12_begin_19 : decode cX12_begin 19 = .ok (.putfield 101, 3) := by decide +kernel
theorem dX12_begin_22 : decode cX12_begin 22 = .ok (.aload_n 0, 1) := by decide +kernel
theorem dX12_begin_23 : decode cX12_begin 23 = .ok (.iconst 0, 1) := by decide +kernel
theorem dX12_begin_24 : decode cX12_begin 24 = .ok (.putfield 142, 3) := by decide +kernel
theorem dX12_begin_27 : decode cX12_begin 27 = .ok (.aload_n 0, 1) := by decide +kernel
theorem dX12_begin_28 : decode cX12_begin 28 = .ok (.iconst 0, 1) := by decide +kernel
theorem dX12_begin_29 : decode cX12_begin 29 = .ok (.putfield 95, 3) := by decide +kernel
theorem dX12_begin_32 : decode cX12_begin 32 = .ok (.aload_n 0, 1) := by decide +kernel
theorem dX12_begin_33 : decode cX12_begin 33 = .ok (.invokevirtual 158, 3) := by decide +kernel
theorem dX12_begin_36 : decode cX12_begin 36 = .ok (.return_, 1) := by decide +kernel
theorem dX12_lay_0 : decode cX12_lay 0 = .ok (.aload_n 0, 1) := by decide +kernel
theorem dX12_lay_1 : decode cX12_lay 1 = .ok (.getfield 171, 3) := by decide +kernel
theorem dX12_lay_4 : decode cX12_lay 4 = .ok (.ifCond .eq 4, 3) := by decide +kernel
theorem dX12_lay_7 : decode cX12_lay 7 = .ok (.return_, 1) := by decide +kernel
theorem dX12_lay_8 : decode cX12_lay 8 = .ok (.aload_n 0, 1) := by decide +kernel
theorem dX12_lay_9 : decode cX12_lay 9 = .ok (.iconst 1, 1) := by decide +kernel
theorem dX12_lay_10 : decode cX12_lay 10 = .ok (.putfield 171, 3) := by decide +kernel
theorem dX12_lay_13 : decode cX12_lay 13 = .ok (.aload_n 0, 1) := by decide +kernel
theorem dX12_lay_14 : decode cX12_lay 14 = .ok (.getfield 13, 3) := by decide +kernel
theorem dX12_lay_17 : decode cX12_lay 17 = .ok (.invokestatic 175, 3) := by decide +kernel
theorem dX12_lay_20 : decode cX12_lay 20 = .ok (.return_, 1) := by decide +kernel
theorem dX12_standard_0 : decode cX12_standard 0 = .ok (.iconst 0, 1) := by decide +kernel
theorem dX12_standard_1 : decode cX12_standard 1 = .ok (.istore_n 1, 1) := by decide +kernel
theorem dX12_standard_2 : decode cX12_standard 2 = .ok (.iload_n 1, 1) := by decide +kernel
theorem dX12_standard_3 : decode cX12_standard 3 = .ok (.sipush 170, 3) := by decide +kernel
theorem dX12_standard_6 : decode cX12_standard 6 = .ok (.if_icmp .ge 13, 3) := by decide +kernel
theorem dX12_standard_9 : decode cX12_standard 9 = .ok (.aload_n 0, 1) := by decide +kernel
theorem dX12_standard_10 : decode cX12_standard 10 = .ok (.iload_n 1, 1) := by decide +kernel
theorem dX12_standard_11 : decode cX12_standard 11 = .ok (.iconst 0, 1) := by decide +kernel
theorem dX12_standard_12 : decode cX12_standard 12 = .ok (.iastore, 1) := by decide +kernel
theorem dX12_standard_13 : decode cX12_standard 13 = .ok (.iinc 1 1, 3) := by decide +kernel
theorem dX12_standard_16 : decode cX12_standard 16 = .ok (.goto (-14), 3) := by decide +kernel
theorem dX12_standard_19 : decode cX12_standard 19 = .ok (.aload_n 0, 1) := by decide +kernel
theorem dX12_standard_20 : decode cX12_standard 20 = .ok (.iconst 0, 1) := by decide +kernel
theorem dX12_standard_21 : decode cX12_standard 21 = .ok (.iconst 4, 1) := by decide +kernel
theorem dX12_standard_22 : decode cX12_standard 22 = .ok (.iastore, 1) := by decide +kernel
theorem dX12_standard_23 : decode cX12_standard 23 = .ok (.iconst 0, 1) := by decide +kernel
theorem dX12_standard_24 : decode cX12_standard 24 = .ok (.istore_n 1, 1) := by decide +kernel
theorem dX12_standard_25 : decode cX12_standard 25 = .ok (.iload_n 1, 1) := by decide +kernel
theorem dX12_standard_26 : decode cX12_standard 26 = .ok (.bipush 7, 2) := by decide +kernel
theorem dX12_standard_28 : decode cX12_standard 28 = .ok (.if_icmp .ge 16, 3) := by decide +kernel
theorem dX12_standard_31 : decode cX12_standard 31 = .ok (.aload_n 0, 1) := by decide +kernel
theorem dX12_standard_32 : decode cX12_standard 32 = .ok (.bipush 102, 2) := by decide +kernel
theorem dX12_standard_34 : decode cX12_standard 34 = .ok (.iload_n 1, 1) := by decide +kernel
theorem dX12_standard_35 : decode cX12_standard 35 = .ok (.iadd, 1) := by decide +kernel
theorem dX12_standard_36 : decode cX12_standard 36 = .ok (.iconst 1, 1) := by decide +kernel
theorem dX12_standard_37 : decode cX12_standard 37 = .ok (.iastore, 1) := by decide +kernel
theorem dX12_standard_38 : decode cX12_standard 38 = .ok (.iinc 1 1, 3) := by decide +kernel
theorem dX12_standard_41 : decode cX12_standard 41 = .ok (.goto (-16), 3) := by decide +kernel
theorem dX12_standard_44 : decode cX12_standard 44 = .ok (.return_, 1) := by decide +kernel
theorem dX12_lines_0 : decode cX12_lines 0 = .ok (.aload_n 0, 1) := by decide +kernel
theorem dX12_lines_1 : decode cX12_lines 1 = .ok (.getfield 13, 3) := by decide +kernel
theorem dX12_lines_4 : decode cX12_lines 4 = .ok (.iconst 0, 1) := by decide +kernel
theorem dX12_lines_5 : decode cX12_lines 5 = .ok (.iaload, 1) := by decide +kernel
theorem dX12_lines_6 : decode cX12_lines 6 = .ok (.ireturn, 1) := by decide +kernel
theorem dX12_copies_0 : decode cX12_copies 0 = .ok (.aload_n 0, 1) := by decide +kernel
theorem dX12_copies_1 : decode cX12_copies 1 = .ok (.getfield 13, 3) := by decide +kernel
theorem dX12_copies_4 : decode cX12_copies 4 = .ok (.iconst 1, 1) := by decide +kernel
theorem dX12_copies_5 : decode cX12_copies 5 = .ok (.iaload, 1) := by decide +kernel
theorem dX12_copies_6 : decode cX12_copies 6 = .ok (.ireturn, 1) := by decide +kernel
theorem dX12_isCopy_0 : decode cX12_isCopy 0 = .ok (.iload_n 1, 1) := by decide +kernel
theorem dX12_isCopy_1 : decode cX12_isCopy 1 = .ok (.ifCond .lt 15, 3) := by decide +kernel
theorem dX12_isCopy_4 : decode cX12_isCopy 4 = .ok (.iload_n 1, 1) := by decide +kernel
theorem dX12_isCopy_5 : decode cX12_isCopy 5 = .ok (.aload_n 0, 1) := by decide +kernel
theorem dX12_isCopy_6 : decode cX12_isCopy 6 = .ok (.invokevirtual 179, 3) := by decide +kernel
theorem dX12_isCopy_9 : decode cX12_isCopy 9 = .ok (.if_icmp .ge 7, 3) := by decide +kernel
theorem dX12_isCopy_12 : decode cX12_isCopy 12 = .ok (.iconst 1, 1) := by decide +kernel
theorem dX12_isCopy_13 : decode cX12_isCopy 13 = .ok (.goto 4, 3) := by decide +kernel
theorem dX12_isCopy_16 : decode cX12_isCopy 16 = .ok (.iconst 0, 1) := by decide +kernel
theorem dX12_isCopy_17 : decode cX12_isCopy 17 = .ok (.ireturn, 1) := by decide +kernel
theorem dX12_sizeOf_0 : decode cX12_sizeOf 0 = .ok (.aload_n 0, 1) := by decide +kernel
theorem dX12_sizeOf_1 : decode cX12_sizeOf 1 = .ok (.getfield 13, 3) := by decide +kernel
theorem dX12_sizeOf_4 : decode cX12_sizeOf 4 = .ok (.bipush 10, 2) := by decide +kernel
theorem dX12_sizeOf_6 : decode cX12_sizeOf 6 = .ok (.bipush 8, 2) := by decide +kernel
theorem dX12_sizeOf_8 : decode cX12_sizeOf 8 = .ok (.iload_n 1, 1) := by decide +kernel
theorem dX12_sizeOf_9 : decode cX12_sizeOf 9 = .ok (.imul, 1) := by decide +kernel
theorem dX12_sizeOf_10 : decode cX12_sizeOf 10 = .ok (.iadd, 1) := by decide +kernel
theorem dX12_sizeOf_11 : decode cX12_sizeOf 11 = .ok (.iaload, 1) := by decide +kernel
theorem dX12_sizeOf_12 : decode cX12_sizeOf 12 = .ok (.ireturn, 1) := by decide +kernel
theorem dX12_lineOf_0 : decode cX12_lineOf 0 = .ok (.aload_n 0, 1) := by decide +kernel
theorem dX12_lineOf_1 : decode cX12_lineOf 1 = .ok (.getfield 13, 3) := by decide +kernel
theorem dX12_lineOf_4 : decode cX12_lineOf 4 = .ok (.bipush 10, 2) := by decide +kernel
theorem dX12_lineOf_6 : decode cX12_lineOf 6 = .ok (.bipush 8, 2) := by decide +kernel
theorem dX12_lineOf_8 : decode cX12_lineOf 8 = .ok (.iload_n 1, 1) := by decide +kernel
theorem dX12_lineOf_9 : decode cX12_lineOf 9 = .ok (.imul, 1) := by decide +kernel
theorem dX12_lineOf_10 : decode cX12_lineOf 10 = .ok (.iadd, 1) := by decide +kernel
theorem dX12_lineOf_11 : decode cX12_lineOf 11 = .ok (.iconst 1, 1) := by decide +kernel
theorem dX12_lineOf_12 : decode cX12_lineOf 12 = .ok (.iadd, 1) := by decide +kernel
theorem dX12_lineOf_13 : decode cX12_lineOf 13 = .ok (.iload_n 2, 1) := by decide +kernel
theorem dX12_lineOf_14 : decode cX12_lineOf 14 = .ok (.iadd, 1) := by decide +kernel
theorem dX12_lineOf_15 : decode cX12_lineOf 15 = .ok (.iaload, 1) := by decide +kernel
theorem dX12_lineOf_16 : decode cX12_lineOf 16 = .ok (.ireturn, 1) := by decide +kernel
theorem dX12_isWhole_0 : decode cX12_isWhole 0 = .ok (.aload_n 0, 1) := by decide +kernel
theorem dX12_isWhole_1 : decode cX12_isWhole 1 = .ok (.iload_n 1, 1) := by decide +kernel
theorem dX12_isWhole_2 : decode cX12_isWhole 2 = .ok (.invokevirtual 182, 3) := by decide +kernel
theorem dX12_isWhole_5 : decode cX12_isWhole 5 = .ok (.aload_n 0, 1) := by decide +kernel
theorem dX12_isWhole_6 : decode cX12_isWhole 6 = .ok (.invokevirtual 185, 3) := by decide +kernel
theorem dX12_isWhole_9 : decode cX12_isWhole 9 = .ok (.if_icmp .ne 7, 3) := by decide +kernel
theorem dX12_isWhole_12 : decode cX12_isWhole 12 = .ok (.iconst 1, 1) := by decide +kernel
theorem dX12_isWhole_13 : decode cX12_isWhole 13 = .ok (.goto 4, 3) := by decide +kernel
theorem dX12_isWhole_16 : decode cX12_isWhole 16 = .ok (.iconst 0, 1) := by decide +kernel
theorem dX12_isWhole_17 : decode cX12_isWhole 17 = .ok (.ireturn, 1) := by decide +kernel
theorem dX12_findRead_0 : decode cX12_findRead 0 = .ok (.iconst 0, 1) := by decide +kernel
theorem dX12_findRead_1 : decode cX12_findRead 1 = .ok (.istore_n 1, 1) := by decide +kernel
theorem dX12_findRead_2 : decode cX12_findRead 2 = .ok (.iload_n 1, 1) := by decide +kernel
theorem dX12_findRead_3 : decode cX12_findRead 3 = .ok (.aload_n 0, 1) := by decide +kernel
theorem dX12_findRead_4 : decode cX12_findRead 4 = .ok (.getfield 16, 3) := by decide +kernel
theorem dX12_findRead_7 : decode cX12_findRead 7 = .ok (.iconst 1, 1) := by decide +kernel
theorem dX12_findRead_8 : decode cX12_findRead 8 = .ok (.iaload, 1) := by decide +kernel
theorem dX12_findRead_9 : decode cX12_findRead 9 = .ok (.if_icmp .ge 25, 3) := by decide +kernel
theorem dX12_findRead_12 : decode cX12_findRead 12 = .ok (.aload_n 0, 1) := by decide +kernel
theorem dX12_findRead_13 : decode cX12_findRead 13 = .ok (.getfield 26, 3) := by decide +kernel
theorem dX12_findRead_16 : decode cX12_findRead 16 = .ok (.iload_n 1, 1) := by decide +kernel
theorem dX12_findRead_17 : decode cX12_findRead 17 = .ok (.laload, 1) := by decide +kernel
theorem dX12_findRead_18 : decode cX12_findRead 18 = .ok (.aload_n 0, 1) := by decide +kernel
theorem dX12_findRead_19 : decode cX12_findRead 19 = .ok (.getfield 117, 3) := by decide +kernel
theorem dX12_findRead_22 : decode cX12_findRead 22 = .ok (.lcmp, 1) := by decide +kernel
theorem dX12_findRead_23 : decode cX12_findRead 23 = .ok (.ifCond .ne 5, 3) := by decide +kernel
theorem dX12_findRead_26 : decode cX12_findRead 26 = .ok (.iload_n 1, 1) := by decide +kernel
theorem dX12_findRead_27 : decode cX12_findRead 27 = .ok (.ireturn, 1) := by decide +kernel
theorem dX12_findRead_28 : decode cX12_findRead 28 = .ok (.iinc 1 1, 3) := by decide +kernel
theorem dX12_findRead_31 : decode cX12_findRead 31 = .ok (.goto (-29), 3) := by decide +kernel
theorem dX12_findRead_34 : decode cX12_findRead 34 = .ok (.iconst 0, 1) := by decide +kernel
theorem dX12_findRead_35 : decode cX12_findRead 35 = .ok (.istore_n 1, 1) := by decide +kernel
theorem dX12_findRead_36 : decode cX12_findRead 36 = .ok (.iload_n 1, 1) := by decide +kernel
theorem dX12_findRead_37 : decode cX12_findRead 37 = .ok (.aload_n 0, 1) := by decide +kernel
theorem dX12_findRead_38 : decode cX12_findRead 38 = .ok (.getfield 16, 3) := by decide +kernel
theorem dX12_findRead_41 : decode cX12_findRead 41 = .ok (.iconst 2, 1) := by decide +kernel
theorem dX12_findRead_42 : decode cX12_findRead 42 = .ok (.iaload, 1) := by decide +kernel
theorem dX12_findRead_43 : decode cX12_findRead 43 = .ok (.if_icmp .ge 31, 3) := by decide +kernel
theorem dX12_findRead_46 : decode cX12_findRead 46 = .ok (.aload_n 0, 1) := by decide +kernel
theorem dX12_findRead_47 : decode cX12_findRead 47 = .ok (.getfield 26, 3) := by decide +kernel
theorem dX12_findRead_50 : decode cX12_findRead 50 = .ok (.bipush 10, 2) := by decide +kernel
theorem dX12_findRead_52 : decode cX12_findRead 52 = .ok (.iload_n 1, 1) := by decide +kernel
theorem dX12_findRead_53 : decode cX12_findRead 53 = .ok (.iadd, 1) := by decide +kernel
theorem dX12_findRead_54 : decode cX12_findRead 54 = .ok (.laload, 1) := by decide +kernel
theorem dX12_findRead_55 : decode cX12_findRead 55 = .ok (.aload_n 0, 1) := by decide +kernel
theorem dX12_findRead_56 : decode cX12_findRead 56 = .ok (.getfield 117, 3) := by decide +kernel
theorem dX12_findRead_59 : decode cX12_findRead 59 = .ok (.lcmp, 1) := by decide +kernel
theorem dX12_findRead_60 : decode cX12_findRead 60 = .ok (.ifCond .ne 8, 3) := by decide +kernel
theorem dX12_findRead_63 : decode cX12_findRead 63 = .ok (.bipush 10, 2) := by decide +kernel
theorem dX12_findRead_65 : decode cX12_findRead 65 = .ok (.iload_n 1, 1) := by decide +kernel
theorem dX12_findRead_66 : decode cX12_findRead 66 = .ok (.iadd, 1) := by decide +kernel
theorem dX12_findRead_67 : decode cX12_findRead 67 = .ok (.ireturn, 1) := by decide +kernel
theorem dX12_findRead_68 : decode cX12_findRead 68 = .ok (.iinc 1 1, 3) := by decide +kernel
theorem dX12_findRead_71 : decode cX12_findRead 71 = .ok (.goto (-35), 3) := by decide +kernel
theorem dX12_findRead_74 : decode cX12_findRead 74 = .ok (.iconst (-1), 1) := by decide +kernel
theorem dX12_findRead_75 : decode cX12_findRead 75 = .ok (.ireturn, 1) := by decide +kernel
theorem dX12_readNew_0 : decode cX12_readNew 0 = .ok (.aload_n 0, 1) := by decide +kernel
theorem dX12_readNew_1 : decode cX12_readNew 1 = .ok (.invokevirtual 188, 3) := by decide +kernel
theorem dX12_readNew_4 : decode cX12_readNew 4 = .ok (.ifCond .ne 9, 3) := by decide +kernel
theorem dX12_readNew_7 : decode cX12_readNew 7 = .ok (.aload_n 0, 1) := by decide +kernel
theorem dX12_readNew_8 : decode cX12_readNew 8 = .ok (.iconst 1, 1) := by decide +kernel
theorem dX12_readNew_9 : decode cX12_readNew 9 = .ok (.invokevirtual 148, 3) := by decide +kernel
theorem dX12_readNew_12 : decode cX12_readNew 12 = .ok (.ireturn, 1) := by decide +kernel
theorem dX12_readNew_13 : decode cX12_readNew 13 = .ok (.aload_n 0, 1) := by decide +kernel
theorem dX12_readNew_14 : decode cX12_readNew 14 = .ok (.invokevirtual 192, 3) := by decide +kernel
theorem dX12_readNew_17 : decode cX12_readNew 17 = .ok (.iconst (-1), 1) := by decide +kernel
theorem dX12_readNew_18 : decode cX12_readNew 18 = .ok (.if_icmp .eq 9, 3) := by decide +kernel
theorem dX12_readNew_21 : decode cX12_readNew 21 = .ok (.aload_n 0, 1) := by decide +kernel
theorem dX12_readNew_22 : decode cX12_readNew 22 = .ok (.iconst 3, 1) := by decide +kernel
theorem dX12_readNew_23 : decode cX12_readNew 23 = .ok (.invokevirtual 148, 3) := by decide +kernel
theorem dX12_readNew_26 : decode cX12_readNew 26 = .ok (.ireturn, 1) := by decide +kernel
theorem dX12_readNew_27 : decode cX12_readNew 27 = .ok (.aload_n 0, 1) := by decide +kernel
theorem dX12_readNew_28 : decode cX12_readNew 28 = .ok (.getfield 26, 3) := by decide +kernel
theorem dX12_readNew_31 : decode cX12_readNew 31 = .ok (.iload_n 1, 1) := by decide +kernel
theorem dX12_readNew_32 : decode cX12_readNew 32 = .ok (.aload_n 0, 1) := by decide +kernel
theorem dX12_readNew_33 : decode cX12_readNew 33 = .ok (.getfield 117, 3) := by decide +kernel
theorem dX12_readNew_36 : decode cX12_readNew 36 = .ok (.lastore, 1) := by decide +kernel
theorem dX12_readNew_37 : decode cX12_readNew 37 = .ok (.aload_n 0, 1) := by decide +kernel
theorem dX12_readNew_38 : decode cX12_readNew 38 = .ok (.invokevirtual 158, 3) := by decide +kernel
theorem dX12_readNew_41 : decode cX12_readNew 41 = .ok (.iconst 1, 1) := by decide +kernel
theorem dX12_readNew_42 : decode cX12_readNew 42 = .ok (.ireturn, 1) := by decide +kernel
theorem dX12_readCopy_0 : decode cX12_readCopy 0 = .ok (.aload_n 0, 1) := by decide +kernel
theorem dX12_readCopy_1 : decode cX12_readCopy 1 = .ok (.getfield 16, 3) := by decide +kernel
theorem dX12_readCopy_4 : decode cX12_readCopy 4 = .ok (.iconst 1, 1) := by decide +kernel
theorem dX12_readCopy_5 : decode cX12_readCopy 5 = .ok (.iaload, 1) := by decide +kernel
theorem dX12_readCopy_6 : decode cX12_readCopy 6 = .ok (.istore_n 1, 1) := by decide +kernel
theorem dX12_readCopy_7 : decode cX12_readCopy 7 = .ok (.iload_n 1, 1) := by decide +kernel
theorem dX12_readCopy_8 : decode cX12_readCopy 8 = .ok (.bipush 10, 2) := by decide +kernel
theorem dX12_readCopy_10 : decode cX12_readCopy 10 = .ok (.if_icmp .ne 9, 3) := by decide +kernel
theorem dX12_readCopy_13 : decode cX12_readCopy 13 = .ok (.aload_n 0, 1) := by decide +kernel
theorem dX12_readCopy_14 : decode cX12_readCopy 14 = .ok (.iconst 4, 1) := by decide +kernel
theorem dX12_readCopy_15 : decode cX12_readCopy 15 = .ok (.invokevirtual 148, 3) := by decide +kernel
theorem dX12_readCopy_18 : decode cX12_readCopy 18 = .ok (.ireturn, 1) := by decide +kernel
theorem dX12_readCopy_19 : decode cX12_readCopy 19 = .ok (.aload_n 0, 1) := by decide +kernel
theorem dX12_readCopy_20 : decode cX12_readCopy 20 = .ok (.invokevirtual 158, 3) := by decide +kernel
theorem dX12_readCopy_23 : decode cX12_readCopy 23 = .ok (.aload_n 0, 1) := by decide +kernel
theorem dX12_readCopy_24 : decode cX12_readCopy 24 = .ok (.iload_n 1, 1) := by decide +kernel
theorem dX12_readCopy_25 : decode cX12_readCopy 25 = .ok (.invokevirtual 195, 3) := by decide +kernel
theorem dX12_readCopy_28 : decode cX12_readCopy 28 = .ok (.ifCond .ne 5, 3) := by decide +kernel
theorem dX12_readCopy_31 : decode cX12_readCopy 31 = .ok (.iconst 0, 1) := by decide +kernel
theorem dX12_readCopy_32 : decode cX12_readCopy 32 = .ok (.ireturn, 1) := by decide +kernel
theorem dX12_readCopy_33 : decode cX12_readCopy 33 = .ok (.aload_n 0, 1) := by decide +kernel
theorem dX12_readCopy_34 : decode cX12_readCopy 34 = .ok (.getfield 104, 3) := by decide +kernel
theorem dX12_readCopy_37 : decode cX12_readCopy 37 = .ok (.iconst 2, 1) := by decide +kernel
theorem dX12_readCopy_38 : decode cX12_readCopy 38 = .ok (.if_icmp .eq 9, 3) := by decide +kernel
theorem dX12_readCopy_41 : decode cX12_readCopy 41 = .ok (.aload_n 0, 1) := by decide +kernel
theorem dX12_readCopy_42 : decode cX12_readCopy 42 = .ok (.iconst 1, 1) := by decide +kernel
theorem dX12_readCopy_43 : decode cX12_readCopy 43 = .ok (.invokevirtual 148, 3) := by decide +kernel
theorem dX12_readCopy_46 : decode cX12_readCopy 46 = .ok (.ireturn, 1) := by decide +kernel
theorem dX12_readCopy_47 : decode cX12_readCopy 47 = .ok (.bipush 10, 2) := by decide +kernel
theorem dX12_readCopy_49 : decode cX12_readCopy 49 = .ok (.bipush 8, 2) := by decide +kernel
theorem dX12_readCopy_51 : decode cX12_readCopy 51 = .ok (.iload_n 1, 1) := by decide +kernel
theorem dX12_readCopy_52 : decode cX12_readCopy 52 = .ok (.imul, 1) := by decide +kernel
theorem dX12_readCopy_53 : decode cX12_readCopy 53 = .ok (.iadd, 1) := by decide +kernel
theorem dX12_readCopy_54 : decode cX12_readCopy 54 = .ok (.istore_n 2, 1) := by decide +kernel
theorem dX12_readCopy_55 : decode cX12_readCopy 55 = .ok (.iconst 0, 1) := by decide +kernel
theorem dX12_readCopy_56 : decode cX12_readCopy 56 = .ok (.istore_n 3, 1) := by decide +kernel
theorem dX12_readCopy_57 : decode cX12_readCopy 57 = .ok (.aload_n 0, 1) := by decide +kernel
theorem dX12_readCopy_58 : decode cX12_readCopy 58 = .ok (.getfield 98, 3) := by decide +kernel
theorem dX12_readCopy_61 : decode cX12_readCopy 61 = .ok (.istore 4, 2) := by decide +kernel
theorem dX12_readCopy_63 : decode cX12_readCopy 63 = .ok (.iload 4, 2) := by decide +kernel
theorem dX12_readCopy_65 : decode cX12_readCopy 65 = .ok (.aload_n 0, 1) := by decide +kernel
theorem dX12_readCopy_66 : decode cX12_readCopy 66 = .ok (.getfield 95, 3) := by decide +kernel
theorem dX12_readCopy_69 : decode cX12_readCopy 69 = .ok (.if_icmp .ge 72, 3) := by decide +kernel
theorem dX12_readCopy_72 : decode cX12_readCopy 72 = .ok (.aload_n 0, 1) := by decide +kernel
theorem dX12_readCopy_73 : decode cX12_readCopy 73 = .ok (.getfield 7, 3) := by decide +kernel
theorem dX12_readCopy_76 : decode cX12_readCopy 76 = .ok (.iload 4, 2) := by decide +kernel
theorem dX12_readCopy_78 : decode cX12_readCopy 78 = .ok (.iaload, 1) := by decide +kernel
theorem dX12_readCopy_79 : decode cX12_readCopy 79 = .ok (.bipush 97, 2) := by decide +kernel
theorem dX12_readCopy_81 : decode cX12_readCopy 81 = .ok (.isub, 1) := by decide +kernel
theorem dX12_readCopy_82 : decode cX12_readCopy 82 = .ok (.istore 5, 2) := by decide +kernel
theorem dX12_readCopy_84 : decode cX12_readCopy 84 = .ok (.iload 5, 2) := by decide +kernel
theorem dX12_readCopy_86 : decode cX12_readCopy 86 = .ok (.aload_n 0, 1) := by decide +kernel
theorem dX12_readCopy_87 : decode cX12_readCopy 87 = .ok (.getfield 16, 3) := by decide +kernel
theorem dX12_readCopy_90 : decode cX12_readCopy 90 = .ok (.iconst 0, 1) := by decide +kernel
theorem dX12_readCopy_91 : decode cX12_readCopy 91 = .ok (.iaload, 1) := by decide +kernel
theorem dX12_readCopy_92 : decode cX12_readCopy 92 = .ok (.if_icmp .ge 12, 3) := by decide +kernel
theorem dX12_readCopy_95 : decode cX12_readCopy 95 = .ok (.iload_n 3, 1) := by decide +kernel
theorem dX12_readCopy_96 : decode cX12_readCopy 96 = .ok (.iload 5, 2) := by decide +kernel
theorem dX12_readCopy_98 : decode cX12_readCopy 98 = .ok (.invokestatic 198, 3) := by decide +kernel
theorem dX12_readCopy_101 : decode cX12_readCopy 101 = .ok (.ifCond .eq 9, 3) := by decide +kernel
theorem dX12_readCopy_104 : decode cX12_readCopy 104 = .ok (.aload_n 0, 1) := by decide +kernel
theorem dX12_readCopy_105 : decode cX12_readCopy 105 = .ok (.iconst 2, 1) := by decide +kernel
theorem dX12_readCopy_106 : decode cX12_readCopy 106 = .ok (.invokevirtual 148, 3) := by decide +kernel
theorem dX12_readCopy_109 : decode cX12_readCopy 109 = .ok (.ireturn, 1) := by decide +kernel
theorem dX12_readCopy_110 : decode cX12_readCopy 110 = .ok (.iload_n 3, 1) := by decide +kernel
theorem dX12_readCopy_111 : decode cX12_readCopy 111 = .ok (.iconst 1, 1) := by decide +kernel
theorem dX12_readCopy_112 : decode cX12_readCopy 112 = .ok (.iload 5, 2) := by decide +kernel
theorem dX12_readCopy_114 : decode cX12_readCopy 114 = .ok (.ishl, 1) := by decide +kernel
theorem dX12_readCopy_115 : decode cX12_readCopy 115 = .ok (.ior, 1) := by decide +kernel
theorem dX12_readCopy_116 : decode cX12_readCopy 116 = .ok (.istore_n 3, 1) := by decide +kernel
theorem dX12_readCopy_117 : decode cX12_readCopy 117 = .ok (.aload_n 0, 1) := by decide +kernel
theorem dX12_readCopy_118 : decode cX12_readCopy 118 = .ok (.getfield 16, 3) := by decide +kernel
theorem dX12_readCopy_121 : decode cX12_readCopy 121 = .ok (.iload_n 2, 1) := by decide +kernel
theorem dX12_readCopy_122 : decode cX12_readCopy 122 = .ok (.iconst 1, 1) := by decide +kernel
theorem dX12_readCopy_123 : decode cX12_readCopy 123 = .ok (.iadd, 1) := by decide +kernel
theorem dX12_readCopy_124 : decode cX12_readCopy 124 = .ok (.iload 4, 2) := by decide +kernel
theorem dX12_readCopy_126 : decode cX12_readCopy 126 = .ok (.iadd, 1) := by decide +kernel
theorem dX12_readCopy_127 : decode cX12_readCopy 127 = .ok (.aload_n 0, 1) := by decide +kernel
theorem dX12_readCopy_128 : decode cX12_readCopy 128 = .ok (.getfield 98, 3) := by decide +kernel
theorem dX12_readCopy_131 : decode cX12_readCopy 131 = .ok (.isub, 1) := by decide +kernel
theorem dX12_readCopy_132 : decode cX12_readCopy 132 = .ok (.iload 5, 2) := by decide +kernel
theorem dX12_readCopy_134 : decode cX12_readCopy 134 = .ok (.iastore, 1) := by decide +kernel
theorem dX12_readCopy_135 : decode cX12_readCopy 135 = .ok (.iinc 4 1, 3) := by decide +kernel
theorem dX12_readCopy_138 : decode cX12_readCopy 138 = .ok (.goto (-75), 3) := by decide +kernel
theorem dX12_readCopy_141 : decode cX12_readCopy 141 = .ok (.aload_n 0, 1) := by decide +kernel
theorem dX12_readCopy_142 : decode cX12_readCopy 142 = .ok (.getfield 16, 3) := by decide +kernel
theorem dX12_readCopy_145 : decode cX12_readCopy 145 = .ok (.iload_n 2, 1) := by decide +kernel
theorem dX12_readCopy_146 : decode cX12_readCopy 146 = .ok (.aload_n 0, 1) := by decide +kernel
theorem dX12_readCopy_147 : decode cX12_readCopy 147 = .ok (.getfield 95, 3) := by decide +kernel
theorem dX12_readCopy_150 : decode cX12_readCopy 150 = .ok (.aload_n 0, 1) := by decide +kernel
theorem dX12_readCopy_151 : decode cX12_readCopy 151 = .ok (.getfield 98, 3) := by decide +kernel
theorem dX12_readCopy_154 : decode cX12_readCopy 154 = .ok (.isub, 1) := by decide +kernel
theorem dX12_readCopy_155 : decode cX12_readCopy 155 = .ok (.iastore, 1) := by decide +kernel
theorem dX12_readCopy_156 : decode cX12_readCopy 156 = .ok (.aload_n 0, 1) := by decide +kernel
theorem dX12_readCopy_157 : decode cX12_readCopy 157 = .ok (.getfield 16, 3) := by decide +kernel
theorem dX12_readCopy_160 : decode cX12_readCopy 160 = .ok (.iconst 1, 1) := by decide +kernel
theorem dX12_readCopy_161 : decode cX12_readCopy 161 = .ok (.dup2, 1) := by decide +kernel
theorem dX12_readCopy_162 : decode cX12_readCopy 162 = .ok (.iaload, 1) := by decide +kernel
theorem dX12_readCopy_163 : decode cX12_readCopy 163 = .ok (.iconst 1, 1) := by decide +kernel
theorem dX12_readCopy_164 : decode cX12_readCopy 164 = .ok (.iadd, 1) := by decide +kernel
theorem dX12_readCopy_165 : decode cX12_readCopy 165 = .ok (.iastore, 1) := by decide +kernel
theorem dX12_readCopy_166 : decode cX12_readCopy 166 = .ok (.aload_n 0, 1) := by decide +kernel
theorem dX12_readCopy_167 : decode cX12_readCopy 167 = .ok (.invokevirtual 158, 3) := by decide +kernel
theorem dX12_readCopy_170 : decode cX12_readCopy 170 = .ok (.iconst 1, 1) := by decide +kernel
theorem dX12_readCopy_171 : decode cX12_readCopy 171 = .ok (.ireturn, 1) := by decide +kernel
theorem dX12_readDesk_0 : decode cX12_readDesk 0 = .ok (.aload_n 0, 1) := by decide +kernel
theorem dX12_readDesk_1 : decode cX12_readDesk 1 = .ok (.getfield 16, 3) := by decide +kernel
theorem dX12_readDesk_4 : decode cX12_readDesk 4 = .ok (.iconst 2, 1) := by decide +kernel
theorem dX12_readDesk_5 : decode cX12_readDesk 5 = .ok (.iaload, 1) := by decide +kernel
theorem dX12_readDesk_6 : decode cX12_readDesk 6 = .ok (.istore_n 1, 1) := by decide +kernel
theorem dX12_readDesk_7 : decode cX12_readDesk 7 = .ok (.iload_n 1, 1) := by decide +kernel
theorem dX12_readDesk_8 : decode cX12_readDesk 8 = .ok (.bipush 6, 2) := by decide +kernel
theorem dX12_readDesk_10 : decode cX12_readDesk 10 = .ok (.if_icmp .ne 9, 3) := by decide +kernel
theorem dX12_readDesk_13 : decode cX12_readDesk 13 = .ok (.aload_n 0, 1) := by decide +kernel
theorem dX12_readDesk_14 : decode cX12_readDesk 14 = .ok (.iconst 4, 1) := by decide +kernel
theorem dX12_readDesk_15 : decode cX12_readDesk 15 = .ok (.invokevirtual 148, 3) := by decide +kernel
theorem dX12_readDesk_18 : decode cX12_readDesk 18 = .ok (.ireturn, 1) := by decide +kernel
theorem dX12_readDesk_19 : decode cX12_readDesk 19 = .ok (.aload_n 0, 1) := by decide +kernel
theorem dX12_readDesk_20 : decode cX12_readDesk 20 = .ok (.invokevirtual 158, 3) := by decide +kernel
theorem dX12_readDesk_23 : decode cX12_readDesk 23 = .ok (.aload_n 0, 1) := by decide +kernel
theorem dX12_readDesk_24 : decode cX12_readDesk 24 = .ok (.bipush 10, 2) := by decide +kernel
theorem dX12_readDesk_26 : decode cX12_readDesk 26 = .ok (.iload_n 1, 1) := by decide +kernel
theorem dX12_readDesk_27 : decode cX12_readDesk 27 = .ok (.iadd, 1) := by decide +kernel
theorem dX12_readDesk_28 : decode cX12_readDesk 28 = .ok (.invokevirtual 195, 3) := by decide +kernel
theorem dX12_readDesk_31 : decode cX12_readDesk 31 = .ok (.ifCond .ne 5, 3) := by decide +kernel
theorem dX12_readDesk_34 : decode cX12_readDesk 34 = .ok (.iconst 0, 1) := by decide +kernel
theorem dX12_readDesk_35 : decode cX12_readDesk 35 = .ok (.ireturn, 1) := by decide +kernel
theorem dX12_readDesk_36 : decode cX12_readDesk 36 = .ok (.aload_n 0, 1) := by decide +kernel
theorem dX12_readDesk_37 : decode cX12_readDesk 37 = .ok (.bipush 6, 2) := by decide +kernel
theorem dX12_readDesk_39 : decode cX12_readDesk 39 = .ok (.invokevirtual 202, 3) := by decide +kernel
theorem dX12_readDesk_42 : decode cX12_readDesk 42 = .ok (.ifCond .eq 7, 3) := by decide +kernel
theorem dX12_readDesk_45 : decode cX12_readDesk 45 = .ok (.iconst 0, 1) := by decide +kernel
theorem dX12_readDesk_46 : decode cX12_readDesk 46 = .ok (.goto 30, 3) := by decide +kernel
theorem dX12_readDesk_49 : decode cX12_readDesk 49 = .ok (.aload_n 0, 1) := by decide +kernel
theorem dX12_readDesk_50 : decode cX12_readDesk 50 = .ok (.bipush 7, 2) := by decide +kernel
theorem dX12_readDesk_52 : decode cX12_readDesk 52 = .ok (.invokevirtual 202, 3) := by decide +kernel
theorem dX12_readDesk_55 : decode cX12_readDesk 55 = .ok (.ifCond .eq 7, 3) := by decide +kernel
theorem dX12_readDesk_58 : decode cX12_readDesk 58 = .ok (.iconst 1, 1) := by decide +kernel
theorem dX12_readDesk_59 : decode cX12_readDesk 59 = .ok (.goto 17, 3) := by decide +kernel
theorem dX12_readDesk_62 : decode cX12_readDesk 62 = .ok (.aload_n 0, 1) := by decide +kernel
theorem dX12_readDesk_63 : decode cX12_readDesk 63 = .ok (.bipush 8, 2) := by decide +kernel
theorem dX12_readDesk_65 : decode cX12_readDesk 65 = .ok (.invokevirtual 202, 3) := by decide +kernel
theorem dX12_readDesk_68 : decode cX12_readDesk 68 = .ok (.ifCond .eq 7, 3) := by decide +kernel
theorem dX12_readDesk_71 : decode cX12_readDesk 71 = .ok (.iconst 2, 1) := by decide +kernel
theorem dX12_readDesk_72 : decode cX12_readDesk 72 = .ok (.goto 4, 3) := by decide +kernel
theorem dX12_readDesk_75 : decode cX12_readDesk 75 = .ok (.iconst (-1), 1) := by decide +kernel
theorem dX12_readDesk_76 : decode cX12_readDesk 76 = .ok (.istore_n 2, 1) := by decide +kernel
theorem dX12_readDesk_77 : decode cX12_readDesk 77 = .ok (.iload_n 2, 1) := by decide +kernel
theorem dX12_readDesk_78 : decode cX12_readDesk 78 = .ok (.iconst (-1), 1) := by decide +kernel
theorem dX12_readDesk_79 : decode cX12_readDesk 79 = .ok (.if_icmp .ne 9, 3) := by decide +kernel
theorem dX12_readDesk_82 : decode cX12_readDesk 82 = .ok (.aload_n 0, 1) := by decide +kernel
theorem dX12_readDesk_83 : decode cX12_readDesk 83 = .ok (.iconst 1, 1) := by decide +kernel
theorem dX12_readDesk_84 : decode cX12_readDesk 84 = .ok (.invokevirtual 148, 3) := by decide +kernel
theorem dX12_readDesk_87 : decode cX12_readDesk 87 = .ok (.ireturn, 1) := by decide +kernel
theorem dX12_readDesk_88 : decode cX12_readDesk 88 = .ok (.aload_n 0, 1) := by decide +kernel
theorem dX12_readDesk_89 : decode cX12_readDesk 89 = .ok (.invokevirtual 158, 3) := by decide +kernel
theorem dX12_readDesk_92 : decode cX12_readDesk 92 = .ok (.aload_n 0, 1) := by decide +kernel
theorem dX12_readDesk_93 : decode cX12_readDesk 93 = .ok (.getfield 16, 3) := by decide +kernel
theorem dX12_readDesk_96 : decode cX12_readDesk 96 = .ok (.bipush 90, 2) := by decide +kernel
theorem dX12_readDesk_98 : decode cX12_readDesk 98 = .ok (.iconst 2, 1) := by decide +kernel
theorem dX12_readDesk_99 : decode cX12_readDesk 99 = .ok (.iload_n 1, 1) := by decide +kernel
theorem dX12_readDesk_100 : decode cX12_readDesk 100 = .ok (.imul, 1) := by decide +kernel
theorem dX12_readDesk_101 : decode cX12_readDesk 101 = .ok (.iadd, 1) := by decide +kernel
theorem dX12_readDesk_102 : decode cX12_readDesk 102 = .ok (.iload_n 2, 1) := by decide +kernel
theorem dX12_readDesk_103 : decode cX12_readDesk 103 = .ok (.iastore, 1) := by decide +kernel
theorem dX12_readDesk_104 : decode cX12_readDesk 104 = .ok (.iload_n 2, 1) := by decide +kernel
theorem dX12_readDesk_105 : decode cX12_readDesk 105 = .ok (.iconst 1, 1) := by decide +kernel
theorem dX12_readDesk_106 : decode cX12_readDesk 106 = .ok (.if_icmp .ne 32, 3) := by decide +kernel
theorem dX12_readDesk_109 : decode cX12_readDesk 109 = .ok (.aload_n 0, 1) := by decide +kernel
theorem dX12_readDesk_110 : decode cX12_readDesk 110 = .ok (.iconst 1, 1) := by decide +kernel
theorem dX12_readDesk_111 : decode cX12_readDesk 111 = .ok (.bipush 9, 2) := by decide +kernel
theorem dX12_readDesk_113 : decode cX12_readDesk 113 = .ok (.invokevirtual 205, 3) := by decide +kernel
theorem dX12_readDesk_116 : decode cX12_readDesk 116 = .ok (.ifCond .ne 5, 3) := by decide +kernel
theorem dX12_readDesk_119 : decode cX12_readDesk 119 = .ok (.iconst 0, 1) := by decide +kernel
theorem dX12_readDesk_120 : decode cX12_readDesk 120 = .ok (.ireturn, 1) := by decide +kernel
theorem dX12_readDesk_121 : decode cX12_readDesk 121 = .ok (.aload_n 0, 1) := by decide +kernel
theorem dX12_readDesk_122 : decode cX12_readDesk 122 = .ok (.getfield 16, 3) := by decide +kernel
theorem dX12_readDesk_125 : decode cX12_readDesk 125 = .ok (.bipush 90, 2) := by decide +kernel
theorem dX12_readDesk_127 : decode cX12_readDesk 127 = .ok (.iconst 2, 1) := by decide +kernel
theorem dX12_readDesk_128 : decode cX12_readDesk 128 = .ok (.iload_n 1, 1) := by decide +kernel
theorem dX12_readDesk_129 : decode cX12_readDesk 129 = .ok (.imul, 1) := by decide +kernel
theorem dX12_readDesk_130 : decode cX12_readDesk 130 = .ok (.iadd, 1) := by decide +kernel
theorem dX12_readDesk_131 : decode cX12_readDesk 131 = .ok (.iconst 1, 1) := by decide +kernel
theorem dX12_readDesk_132 : decode cX12_readDesk 132 = .ok (.iadd, 1) := by decide +kernel
theorem dX12_readDesk_133 : decode cX12_readDesk 133 = .ok (.aload_n 0, 1) := by decide +kernel
theorem dX12_readDesk_134 : decode cX12_readDesk 134 = .ok (.getfield 155, 3) := by decide +kernel
theorem dX12_readDesk_137 : decode cX12_readDesk 137 = .ok (.iastore, 1) := by decide +kernel
theorem dX12_readDesk_138 : decode cX12_readDesk 138 = .ok (.aload_n 0, 1) := by decide +kernel
theorem dX12_readDesk_139 : decode cX12_readDesk 139 = .ok (.getfield 16, 3) := by decide +kernel
theorem dX12_readDesk_142 : decode cX12_readDesk 142 = .ok (.iconst 2, 1) := by decide +kernel
theorem dX12_readDesk_143 : decode cX12_readDesk 143 = .ok (.dup2, 1) := by decide +kernel
theorem dX12_readDesk_144 : decode cX12_readDesk 144 = .ok (.iaload, 1) := by decide +kernel
theorem dX12_readDesk_145 : decode cX12_readDesk 145 = .ok (.iconst 1, 1) := by decide +kernel
theorem dX12_readDesk_146 : decode cX12_readDesk 146 = .ok (.iadd, 1) := by decide +kernel
theorem dX12_readDesk_147 : decode cX12_readDesk 147 = .ok (.iastore, 1) := by decide +kernel
theorem dX12_readDesk_148 : decode cX12_readDesk 148 = .ok (.iconst 1, 1) := by decide +kernel
theorem dX12_readDesk_149 : decode cX12_readDesk 149 = .ok (.ireturn, 1) := by decide +kernel
theorem dX12_readLikely_0 : decode cX12_readLikely 0 = .ok (.aload_n 0, 1) := by decide +kernel
theorem dX12_readLikely_1 : decode cX12_readLikely 1 = .ok (.invokevirtual 158, 3) := by decide +kernel
theorem dX12_readLikely_4 : decode cX12_readLikely 4 = .ok (.aload_n 0, 1) := by decide +kernel
theorem dX12_readLikely_5 : decode cX12_readLikely 5 = .ok (.getfield 104, 3) := by decide +kernel
theorem dX12_readLikely_8 : decode cX12_readLikely 8 = .ok (.iconst 3, 1) := by decide +kernel
theorem dX12_readLikely_9 : decode cX12_readLikely 9 = .ok (.if_icmp .eq 9, 3) := by decide +kernel
theorem dX12_readLikely_12 : decode cX12_readLikely 12 = .ok (.aload_n 0, 1) := by decide +kernel
theorem dX12_readLikely_13 : decode cX12_readLikely 13 = .ok (.iconst 1, 1) := by decide +kernel
theorem dX12_readLikely_14 : decode cX12_readLikely 14 = .ok (.invokevirtual 148, 3) := by decide +kernel
theorem dX12_readLikely_17 : decode cX12_readLikely 17 = .ok (.ireturn, 1) := by decide +kernel
theorem dX12_readLikely_18 : decode cX12_readLikely 18 = .ok (.aload_n 0, 1) := by decide +kernel
theorem dX12_readLikely_19 : decode cX12_readLikely 19 = .ok (.getfield 121, 3) := by decide +kernel
theorem dX12_readLikely_22 : decode cX12_readLikely 22 = .ok (.iconst 1, 1) := by decide +kernel
theorem dX12_readLikely_23 : decode cX12_readLikely 23 = .ok (.aload_n 0, 1) := by decide +kernel
theorem dX12_readLikely_24 : decode cX12_readLikely 24 = .ok (.getfield 16, 3) := by decide +kernel
theorem dX12_readLikely_27 : decode cX12_readLikely 27 = .ok (.iconst 0, 1) := by decide +kernel
theorem dX12_readLikely_28 : decode cX12_readLikely 28 = .ok (.iaload, 1) := by decide +kernel
theorem dX12_readLikely_29 : decode cX12_readLikely 29 = .ok (.iconst 1, 1) := by decide +kernel
theorem dX12_readLikely_30 : decode cX12_readLikely 30 = .ok (.isub, 1) := by decide +kernel
theorem dX12_readLikely_31 : decode cX12_readLikely 31 = .ok (.invokestatic 151, 3) := by decide +kernel
theorem dX12_readLikely_34 : decode cX12_readLikely 34 = .ok (.ifCond .ne 9, 3) := by decide +kernel
theorem dX12_readLikely_37 : decode cX12_readLikely 37 = .ok (.aload_n 0, 1) := by decide +kernel
theorem dX12_readLikely_38 : decode cX12_readLikely 38 = .ok (.iconst 2, 1) := by decide +kernel
theorem dX12_readLikely_39 : decode cX12_readLikely 39 = .ok (.invokevirtual 148, 3) := by decide +kernel
theorem dX12_readLikely_42 : decode cX12_readLikely 42 = .ok (.ireturn, 1) := by decide +kernel
theorem dX12_readLikely_43 : decode cX12_readLikely 43 = .ok (.aload_n 0, 1) := by decide +kernel
theorem dX12_readLikely_44 : decode cX12_readLikely 44 = .ok (.getfield 208, 3) := by decide +kernel
theorem dX12_readLikely_47 : decode cX12_readLikely 47 = .ok (.aload_n 0, 1) := by decide +kernel
theorem dX12_readLikely_48 : decode cX12_readLikely 48 = .ok (.getfield 121, 3) := by decide +kernel
theorem dX12_readLikely_51 : decode cX12_readLikely 51 = .ok (.invokestatic 198, 3) := by decide +kernel
theorem dX12_readLikely_54 : decode cX12_readLikely 54 = .ok (.ifCond .eq 9, 3) := by decide +kernel
theorem dX12_readLikely_57 : decode cX12_readLikely 57 = .ok (.aload_n 0, 1) := by decide +kernel
theorem dX12_readLikely_58 : decode cX12_readLikely 58 = .ok (.iconst 3, 1) := by decide +kernel
theorem dX12_readLikely_59 : decode cX12_readLikely 59 = .ok (.invokevirtual 148, 3) := by decide +kernel
theorem dX12_readLikely_62 : decode cX12_readLikely 62 = .ok (.ireturn, 1) := by decide +kernel
theorem dX12_readLikely_63 : decode cX12_readLikely 63 = .ok (.aload_n 0, 1) := by decide +kernel
theorem dX12_readLikely_64 : decode cX12_readLikely 64 = .ok (.dup, 1) := by decide +kernel
theorem dX12_readLikely_65 : decode cX12_readLikely 65 = .ok (.getfield 208, 3) := by decide +kernel
theorem dX12_readLikely_68 : decode cX12_readLikely 68 = .ok (.iconst 1, 1) := by decide +kernel
theorem dX12_readLikely_69 : decode cX12_readLikely 69 = .ok (.aload_n 0, 1) := by decide +kernel
theorem dX12_readLikely_70 : decode cX12_readLikely 70 = .ok (.getfield 121, 3) := by decide +kernel
theorem dX12_readLikely_73 : decode cX12_readLikely 73 = .ok (.ishl, 1) := by decide +kernel
theorem dX12_readLikely_74 : decode cX12_readLikely 74 = .ok (.ior, 1) := by decide +kernel
theorem dX12_readLikely_75 : decode cX12_readLikely 75 = .ok (.putfield 208, 3) := by decide +kernel
theorem dX12_readLikely_78 : decode cX12_readLikely 78 = .ok (.aload_n 0, 1) := by decide +kernel
theorem dX12_readLikely_79 : decode cX12_readLikely 79 = .ok (.getfield 121, 3) := by decide +kernel
theorem dX12_readLikely_82 : decode cX12_readLikely 82 = .ok (.istore_n 1, 1) := by decide +kernel
theorem dX12_readLikely_83 : decode cX12_readLikely 83 = .ok (.aload_n 0, 1) := by decide +kernel
theorem dX12_readLikely_84 : decode cX12_readLikely 84 = .ok (.invokevirtual 158, 3) := by decide +kernel
theorem dX12_readLikely_87 : decode cX12_readLikely 87 = .ok (.aload_n 0, 1) := by decide +kernel
theorem dX12_readLikely_88 : decode cX12_readLikely 88 = .ok (.iconst 0, 1) := by decide +kernel
theorem dX12_readLikely_89 : decode cX12_readLikely 89 = .ok (.bipush 9, 2) := by decide +kernel
theorem dX12_readLikely_91 : decode cX12_readLikely 91 = .ok (.invokevirtual 205, 3) := by decide +kernel
theorem dX12_readLikely_94 : decode cX12_readLikely 94 = .ok (.ifCond .ne 5, 3) := by decide +kernel
theorem dX12_readLikely_97 : decode cX12_readLikely 97 = .ok (.iconst 0, 1) := by decide +kernel
theorem dX12_readLikely_98 : decode cX12_readLikely 98 = .ok (.ireturn, 1) := by decide +kernel
theorem dX12_readLikely_99 : decode cX12_readLikely 99 = .ok (.aload_n 0, 1) := by decide +kernel
theorem dX12_readLikely_100 : decode cX12_readLikely 100 = .ok (.getfield 16, 3) := by decide +kernel
theorem dX12_readLikely_103 : decode cX12_readLikely 103 = .ok (.bipush 102, 2) := by decide +kernel
theorem dX12_readLikely_105 : decode cX12_readLikely 105 = .ok (.iload_n 1, 1) := by decide +kernel
theorem dX12_readLikely_106 : decode cX12_readLikely 106 = .ok (.iadd, 1) := by decide +kernel
theorem dX12_readLikely_107 : decode cX12_readLikely 107 = .ok (.iconst 1, 1) := by decide +kernel
theorem dX12_readLikely_108 : decode cX12_readLikely 108 = .ok (.isub, 1) := by decide +kernel
theorem dX12_readLikely_109 : decode cX12_readLikely 109 = .ok (.aload_n 0, 1) := by decide +kernel
theorem dX12_readLikely_110 : decode cX12_readLikely 110 = .ok (.getfield 155, 3) := by decide +kernel
theorem dX12_readLikely_113 : decode cX12_readLikely 113 = .ok (.iastore, 1) := by decide +kernel
theorem dX12_readLikely_114 : decode cX12_readLikely 114 = .ok (.iconst 1, 1) := by decide +kernel
theorem dX12_readLikely_115 : decode cX12_readLikely 115 = .ok (.ireturn, 1) := by decide +kernel
theorem dX12_readLetter_0 : decode cX12_readLetter 0 = .ok (.aload_n 0, 1) := by decide +kernel
theorem dX12_readLetter_1 : decode cX12_readLetter 1 = .ok (.getfield 104, 3) := by decide +kernel
theorem dX12_readLetter_4 : decode cX12_readLetter 4 = .ok (.iconst 2, 1) := by decide +kernel
theorem dX12_readLetter_5 : decode cX12_readLetter 5 = .ok (.if_icmp .eq 9, 3) := by decide +kernel
theorem dX12_readLetter_8 : decode cX12_readLetter 8 = .ok (.aload_n 0, 1) := by decide +kernel
theorem dX12_readLetter_9 : decode cX12_readLetter 9 = .ok (.iconst 1, 1) := by decide +kernel
theorem dX12_readLetter_10 : decode cX12_readLetter 10 = .ok (.invokevirtual 148, 3) := by decide +kernel
theorem dX12_readLetter_13 : decode cX12_readLetter 13 = .ok (.ireturn, 1) := by decide +kernel
theorem dX12_readLetter_14 : decode cX12_readLetter 14 = .ok (.aload_n 0, 1) := by decide +kernel
theorem dX12_readLetter_15 : decode cX12_readLetter 15 = .ok (.getfield 95, 3) := by decide +kernel
theorem dX12_readLetter_18 : decode cX12_readLetter 18 = .ok (.aload_n 0, 1) := by decide +kernel
theorem dX12_readLetter_19 : decode cX12_readLetter 19 = .ok (.getfield 98, 3) := by decide +kernel
theorem dX12_readLetter_22 : decode cX12_readLetter 22 = .ok (.isub, 1) := by decide +kernel
theorem dX12_readLetter_23 : decode cX12_readLetter 23 = .ok (.iconst 1, 1) := by decide +kernel
theorem dX12_readLetter_24 : decode cX12_readLetter 24 = .ok (.if_icmp .ne 19, 3) := by decide +kernel
theorem dX12_readLetter_27 : decode cX12_readLetter 27 = .ok (.aload_n 0, 1) := by decide +kernel
theorem dX12_readLetter_28 : decode cX12_readLetter 28 = .ok (.getfield 7, 3) := by decide +kernel
theorem dX12_readLetter_31 : decode cX12_readLetter 31 = .ok (.aload_n 0, 1) := by decide +kernel
theorem dX12_readLetter_32 : decode cX12_readLetter 32 = .ok (.getfield 98, 3) := by decide +kernel
theorem dX12_readLetter_35 : decode cX12_readLetter 35 = .ok (.iaload, 1) := by decide +kernel
theorem dX12_readLetter_36 : decode cX12_readLetter 36 = .ok (.bipush 97, 2) := by decide +kernel
theorem dX12_readLetter_38 : decode cX12_readLetter 38 = .ok (.isub, 1) := by decide +kernel
theorem dX12_readLetter_39 : decode cX12_readLetter 39 = .ok (.iload_n 1, 1) := by decide +kernel
theorem dX12_readLetter_40 : decode cX12_readLetter 40 = .ok (.if_icmp .lt 9, 3) := by decide +kernel
theorem dX12_readLetter_43 : decode cX12_readLetter 43 = .ok (.aload_n 0, 1) := by decide +kernel
theorem dX12_readLetter_44 : decode cX12_readLetter 44 = .ok (.iconst 2, 1) := by decide +kernel
theorem dX12_readLetter_45 : decode cX12_readLetter 45 = .ok (.invokevirtual 148, 3) := by decide +kernel
theorem dX12_readLetter_48 : decode cX12_readLetter 48 = .ok (.ireturn, 1) := by decide +kernel
theorem dX12_readLetter_49 : decode cX12_readLetter 49 = .ok (.aload_n 0, 1) := by decide +kernel
theorem dX12_readLetter_50 : decode cX12_readLetter 50 = .ok (.aload_n 0, 1) := by decide +kernel
theorem dX12_readLetter_51 : decode cX12_readLetter 51 = .ok (.getfield 7, 3) := by decide +kernel
theorem dX12_readLetter_54 : decode cX12_readLetter 54 = .ok (.aload_n 0, 1) := by decide +kernel
theorem dX12_readLetter_55 : decode cX12_readLetter 55 = .ok (.getfield 98, 3) := by decide +kernel
theorem dX12_readLetter_58 : decode cX12_readLetter 58 = .ok (.iaload, 1) := by decide +kernel
theorem dX12_readLetter_59 : decode cX12_readLetter 59 = .ok (.bipush 97, 2) := by decide +kernel
theorem dX12_readLetter_61 : decode cX12_readLetter 61 = .ok (.isub, 1) := by decide +kernel
theorem dX12_readLetter_62 : decode cX12_readLetter 62 = .ok (.putfield 155, 3) := by decide +kernel
theorem dX12_readLetter_65 : decode cX12_readLetter 65 = .ok (.iconst 1, 1) := by decide +kernel
theorem dX12_readLetter_66 : decode cX12_readLetter 66 = .ok (.ireturn, 1) := by decide +kernel
theorem dX12_readPair_0 : decode cX12_readPair 0 = .ok (.aload_n 0, 1) := by decide +kernel
theorem dX12_readPair_1 : decode cX12_readPair 1 = .ok (.getfield 16, 3) := by decide +kernel
theorem dX12_readPair_4 : decode cX12_readPair 4 = .ok (.iload_n 1, 1) := by decide +kernel
theorem dX12_readPair_5 : decode cX12_readPair 5 = .ok (.iaload, 1) := by decide +kernel
theorem dX12_readPair_6 : decode cX12_readPair 6 = .ok (.istore 4, 2) := by decide +kernel
theorem dX12_readPair_8 : decode cX12_readPair 8 = .ok (.iload 4, 2) := by decide +kernel
theorem dX12_readPair_10 : decode cX12_readPair 10 = .ok (.bipush 12, 2) := by decide +kernel
theorem dX12_readPair_12 : decode cX12_readPair 12 = .ok (.if_icmp .ne 9, 3) := by decide +kernel
theorem dX12_readPair_15 : decode cX12_readPair 15 = .ok (.aload_n 0, 1) := by decide +kernel
theorem dX12_readPair_16 : decode cX12_readPair 16 = .ok (.iconst 4, 1) := by decide +kernel
theorem dX12_readPair_17 : decode cX12_readPair 17 = .ok (.invokevirtual 148, 3) := by decide +kernel
theorem dX12_readPair_20 : decode cX12_readPair 20 = .ok (.ireturn, 1) := by decide +kernel
theorem dX12_readPair_21 : decode cX12_readPair 21 = .ok (.aload_n 0, 1) := by decide +kernel
theorem dX12_readPair_22 : decode cX12_readPair 22 = .ok (.invokevirtual 158, 3) := by decide +kernel
theorem dX12_readPair_25 : decode cX12_readPair 25 = .ok (.aload_n 0, 1) := by decide +kernel
theorem dX12_readPair_26 : decode cX12_readPair 26 = .ok (.aload_n 0, 1) := by decide +kernel
theorem dX12_readPair_27 : decode cX12_readPair 27 = .ok (.getfield 16, 3) := by decide +kernel
theorem dX12_readPair_30 : decode cX12_readPair 30 = .ok (.iconst 0, 1) := by decide +kernel
theorem dX12_readPair_31 : decode cX12_readPair 31 = .ok (.iaload, 1) := by decide +kernel
theorem dX12_readPair_32 : decode cX12_readPair 32 = .ok (.invokevirtual 211, 3) := by decide +kernel
theorem dX12_readPair_35 : decode cX12_readPair 35 = .ok (.ifCond .ne 5, 3) := by decide +kernel
theorem dX12_readPair_38 : decode cX12_readPair 38 = .ok (.iconst 0, 1) := by decide +kernel
theorem dX12_readPair_39 : decode cX12_readPair 39 = .ok (.ireturn, 1) := by decide +kernel
theorem dX12_readPair_40 : decode cX12_readPair 40 = .ok (.aload_n 0, 1) := by decide +kernel
theorem dX12_readPair_41 : decode cX12_readPair 41 = .ok (.getfield 155, 3) := by decide +kernel
theorem dX12_readPair_44 : decode cX12_readPair 44 = .ok (.istore 5, 2) := by decide +kernel
theorem dX12_readPair_46 : decode cX12_readPair 46 = .ok (.aload_n 0, 1) := by decide +kernel
theorem dX12_readPair_47 : decode cX12_readPair 47 = .ok (.invokevirtual 158, 3) := by decide +kernel
theorem dX12_readPair_50 : decode cX12_readPair 50 = .ok (.aload_n 0, 1) := by decide +kernel
theorem dX12_readPair_51 : decode cX12_readPair 51 = .ok (.aload_n 0, 1) := by decide +kernel
theorem dX12_readPair_52 : decode cX12_readPair 52 = .ok (.getfield 16, 3) := by decide +kernel
theorem dX12_readPair_55 : decode cX12_readPair 55 = .ok (.iconst 0, 1) := by decide +kernel
theorem dX12_readPair_56 : decode cX12_readPair 56 = .ok (.iaload, 1) := by decide +kernel
theorem dX12_readPair_57 : decode cX12_readPair 57 = .ok (.invokevirtual 211, 3) := by decide +kernel
theorem dX12_readPair_60 : decode cX12_readPair 60 = .ok (.ifCond .ne 5, 3) := by decide +kernel
theorem dX12_readPair_63 : decode cX12_readPair 63 = .ok (.iconst 0, 1) := by decide +kernel
theorem dX12_readPair_64 : decode cX12_readPair 64 = .ok (.ireturn, 1) := by decide +kernel
theorem dX12_readPair_65 : decode cX12_readPair 65 = .ok (.aload_n 0, 1) := by decide +kernel
theorem dX12_readPair_66 : decode cX12_readPair 66 = .ok (.getfield 155, 3) := by decide +kernel
theorem dX12_readPair_69 : decode cX12_readPair 69 = .ok (.istore 6, 2) := by decide +kernel
theorem dX12_readPair_71 : decode cX12_readPair 71 = .ok (.iload 5, 2) := by decide +kernel
theorem dX12_readPair_73 : decode cX12_readPair 73 = .ok (.iload 6, 2) := by decide +kernel
theorem dX12_readPair_75 : decode cX12_readPair 75 = .ok (.if_icmp .ne 9, 3) := by decide +kernel
theorem dX12_readPair_78 : decode cX12_readPair 78 = .ok (.aload_n 0, 1) := by decide +kernel
theorem dX12_readPair_79 : decode cX12_readPair 79 = .ok (.iconst 3, 1) := by decide +kernel
theorem dX12_readPair_80 : decode cX12_readPair 80 = .ok (.invokevirtual 148, 3) := by decide +kernel
theorem dX12_readPair_83 : decode cX12_readPair 83 = .ok (.ireturn, 1) := by decide +kernel
theorem dX12_readPair_84 : decode cX12_readPair 84 = .ok (.iconst 0, 1) := by decide +kernel
theorem dX12_readPair_85 : decode cX12_readPair 85 = .ok (.istore 7, 2) := by decide +kernel
theorem dX12_readPair_87 : decode cX12_readPair 87 = .ok (.iload 7, 2) := by decide +kernel
theorem dX12_readPair_89 : decode cX12_readPair 89 = .ok (.iload 4, 2) := by decide +kernel
theorem dX12_readPair_91 : decode cX12_readPair 91 = .ok (.if_icmp .ge 49, 3) := by decide +kernel
theorem dX12_readPair_94 : decode cX12_readPair 94 = .ok (.aload_n 0, 1) := by decide +kernel
theorem dX12_readPair_95 : decode cX12_readPair 95 = .ok (.getfield 16, 3) := by decide +kernel
theorem dX12_readPair_98 : decode cX12_readPair 98 = .ok (.iload_n 2, 1) := by decide +kernel
theorem dX12_readPair_99 : decode cX12_readPair 99 = .ok (.iload_n 3, 1) := by decide +kernel
theorem dX12_readPair_100 : decode cX12_readPair 100 = .ok (.iload 7, 2) := by decide +kernel
theorem dX12_readPair_102 : decode cX12_readPair 102 = .ok (.imul, 1) := by decide +kernel
theorem dX12_readPair_103 : decode cX12_readPair 103 = .ok (.iadd, 1) := by decide +kernel
theorem dX12_readPair_104 : decode cX12_readPair 104 = .ok (.iaload, 1) := by decide +kernel
theorem dX12_readPair_105 : decode cX12_readPair 105 = .ok (.iload 5, 2) := by decide +kernel
theorem dX12_readPair_107 : decode cX12_readPair 107 = .ok (.if_icmp .ne 27, 3) := by decide +kernel
theorem dX12_readPair_110 : decode cX12_readPair 110 = .ok (.aload_n 0, 1) := by decide +kernel
theorem dX12_readPair_111 : decode cX12_readPair 111 = .ok (.getfield 16, 3) := by decide +kernel
theorem dX12_readPair_114 : decode cX12_readPair 114 = .ok (.iload_n 2, 1) := by decide +kernel
theorem dX12_readPair_115 : decode cX12_readPair 115 = .ok (.iload_n 3, 1) := by decide +kernel
theorem dX12_readPair_116 : decode cX12_readPair 116 = .ok (.iload 7, 2) := by decide +kernel
theorem dX12_readPair_118 : decode cX12_readPair 118 = .ok (.imul, 1) := by decide +kernel
theorem dX12_readPair_119 : decode cX12_readPair 119 = .ok (.iadd, 1) := by decide +kernel
theorem dX12_readPair_120 : decode cX12_readPair 120 = .ok (.iconst 1, 1) := by decide +kernel
theorem dX12_readPair_121 : decode cX12_readPair 121 = .ok (.iadd, 1) := by decide +kernel
theorem dX12_readPair_122 : decode cX12_readPair 122 = .ok (.iaload, 1) := by decide +kernel
theorem dX12_readPair_123 : decode cX12_readPair 123 = .ok (.iload 6, 2) := by decide +kernel
theorem dX12_readPair_125 : decode cX12_readPair 125 = .ok (.if_icmp .ne 9, 3) := by decide +kernel
theorem dX12_readPair_128 : decode cX12_readPair 128 = .ok (.aload_n 0, 1) := by decide +kernel
theorem dX12_readPair_129 : decode cX12_readPair 129 = .ok (.iconst 3, 1) := by decide +kernel
theorem dX12_readPair_130 : decode cX12_readPair 130 = .ok (.invokevirtual 148, 3) := by decide +kernel
theorem dX12_readPair_133 : decode cX12_readPair 133 = .ok (.ireturn, 1) := by decide +kernel
theorem dX12_readPair_134 : decode cX12_readPair 134 = .ok (.iinc 7 1, 3) := by decide +kernel
theorem dX12_readPair_137 : decode cX12_readPair 137 = .ok (.goto (-50), 3) := by decide +kernel
theorem dX12_readPair_140 : decode cX12_readPair 140 = .ok (.aload_n 0, 1) := by decide +kernel
theorem dX12_readPair_141 : decode cX12_readPair 141 = .ok (.invokevirtual 158, 3) := by decide +kernel
theorem dX12_readPair_144 : decode cX12_readPair 144 = .ok (.aload_n 0, 1) := by decide +kernel
theorem dX12_readPair_145 : decode cX12_readPair 145 = .ok (.getfield 16, 3) := by decide +kernel
theorem dX12_readPair_148 : decode cX12_readPair 148 = .ok (.iload_n 2, 1) := by decide +kernel
theorem dX12_readPair_149 : decode cX12_readPair 149 = .ok (.iload_n 3, 1) := by decide +kernel
theorem dX12_readPair_150 : decode cX12_readPair 150 = .ok (.iload 4, 2) := by decide +kernel
theorem dX12_readPair_152 : decode cX12_readPair 152 = .ok (.imul, 1) := by decide +kernel
theorem dX12_readPair_153 : decode cX12_readPair 153 = .ok (.iadd, 1) := by decide +kernel
theorem dX12_readPair_154 : decode cX12_readPair 154 = .ok (.iload 5, 2) := by decide +kernel
theorem dX12_readPair_156 : decode cX12_readPair 156 = .ok (.iastore, 1) := by decide +kernel
theorem dX12_readPair_157 : decode cX12_readPair 157 = .ok (.aload_n 0, 1) := by decide +kernel
theorem dX12_readPair_158 : decode cX12_readPair 158 = .ok (.getfield 16, 3) := by decide +kernel
theorem dX12_readPair_161 : decode cX12_readPair 161 = .ok (.iload_n 2, 1) := by decide +kernel
theorem dX12_readPair_162 : decode cX12_readPair 162 = .ok (.iload_n 3, 1) := by decide +kernel
theorem dX12_readPair_163 : decode cX12_readPair 163 = .ok (.iload 4, 2) := by decide +kernel
theorem dX12_readPair_165 : decode cX12_readPair 165 = .ok (.imul, 1) := by decide +kernel
theorem dX12_readPair_166 : decode cX12_readPair 166 = .ok (.iadd, 1) := by decide +kernel
theorem dX12_readPair_167 : decode cX12_readPair 167 = .ok (.iconst 1, 1) := by decide +kernel
theorem dX12_readPair_168 : decode cX12_readPair 168 = .ok (.iadd, 1) := by decide +kernel
theorem dX12_readPair_169 : decode cX12_readPair 169 = .ok (.iload 6, 2) := by decide +kernel
theorem dX12_readPair_171 : decode cX12_readPair 171 = .ok (.iastore, 1) := by decide +kernel
theorem dX12_readPair_172 : decode cX12_readPair 172 = .ok (.iload_n 3, 1) := by decide +kernel
theorem dX12_readPair_173 : decode cX12_readPair 173 = .ok (.iconst 3, 1) := by decide +kernel
theorem dX12_readPair_174 : decode cX12_readPair 174 = .ok (.if_icmp .ne 32, 3) := by decide +kernel
theorem dX12_readPair_177 : decode cX12_readPair 177 = .ok (.aload_n 0, 1) := by decide +kernel
theorem dX12_readPair_178 : decode cX12_readPair 178 = .ok (.iconst 1, 1) := by decide +kernel
theorem dX12_readPair_179 : decode cX12_readPair 179 = .ok (.bipush 99, 2) := by decide +kernel
theorem dX12_readPair_181 : decode cX12_readPair 181 = .ok (.invokevirtual 205, 3) := by decide +kernel
theorem dX12_readPair_184 : decode cX12_readPair 184 = .ok (.ifCond .ne 5, 3) := by decide +kernel
theorem dX12_readPair_187 : decode cX12_readPair 187 = .ok (.iconst 0, 1) := by decide +kernel
theorem dX12_readPair_188 : decode cX12_readPair 188 = .ok (.ireturn, 1) := by decide +kernel
theorem dX12_readPair_189 : decode cX12_readPair 189 = .ok (.aload_n 0, 1) := by decide +kernel
theorem dX12_readPair_190 : decode cX12_readPair 190 = .ok (.getfield 16, 3) := by decide +kernel
theorem dX12_readPair_193 : decode cX12_readPair 193 = .ok (.iload_n 2, 1) := by decide +kernel
theorem dX12_readPair_194 : decode cX12_readPair 194 = .ok (.iload_n 3, 1) := by decide +kernel
theorem dX12_readPair_195 : decode cX12_readPair 195 = .ok (.iload 4, 2) := by decide +kernel
theorem dX12_readPair_197 : decode cX12_readPair 197 = .ok (.imul, 1) := by decide +kernel
theorem dX12_readPair_198 : decode cX12_readPair 198 = .ok (.iadd, 1) := by decide +kernel
theorem dX12_readPair_199 : decode cX12_readPair 199 = .ok (.iconst 2, 1) := by decide +kernel
theorem dX12_readPair_200 : decode cX12_readPair 200 = .ok (.iadd, 1) := by decide +kernel
theorem dX12_readPair_201 : decode cX12_readPair 201 = .ok (.aload_n 0, 1) := by decide +kernel
theorem dX12_readPair_202 : decode cX12_readPair 202 = .ok (.getfield 155, 3) := by decide +kernel
theorem dX12_readPair_205 : decode cX12_readPair 205 = .ok (.iastore, 1) := by decide +kernel
theorem dX12_readPair_206 : decode cX12_readPair 206 = .ok (.aload_n 0, 1) := by decide +kernel
theorem dX12_readPair_207 : decode cX12_readPair 207 = .ok (.getfield 16, 3) := by decide +kernel
theorem dX12_readPair_210 : decode cX12_readPair 210 = .ok (.iload_n 1, 1) := by decide +kernel
theorem dX12_readPair_211 : decode cX12_readPair 211 = .ok (.dup2, 1) := by decide +kernel
theorem dX12_readPair_212 : decode cX12_readPair 212 = .ok (.iaload, 1) := by decide +kernel
theorem dX12_readPair_213 : decode cX12_readPair 213 = .ok (.iconst 1, 1) := by decide +kernel
theorem dX12_readPair_214 : decode cX12_readPair 214 = .ok (.iadd, 1) := by decide +kernel
theorem dX12_readPair_215 : decode cX12_readPair 215 = .ok (.iastore, 1) := by decide +kernel
theorem dX12_readPair_216 : decode cX12_readPair 216 = .ok (.iconst 1, 1) := by decide +kernel
theorem dX12_readPair_217 : decode cX12_readPair 217 = .ok (.ireturn, 1) := by decide +kernel
theorem dX12_readLines_0 : decode cX12_readLines 0 = .ok (.aload_n 0, 1) := by decide +kernel
theorem dX12_readLines_1 : decode cX12_readLines 1 = .ok (.getfield 214, 3) := by decide +kernel
theorem dX12_readLines_4 : decode cX12_readLines 4 = .ok (.ifCond .eq 9, 3) := by decide +kernel
theorem dX12_readLines_7 : decode cX12_readLines 7 = .ok (.aload_n 0, 1) := by decide +kernel
theorem dX12_readLines_8 : decode cX12_readLines 8 = .ok (.iconst 3, 1) := by decide +kernel
theorem dX12_readLines_9 : decode cX12_readLines 9 = .ok (.invokevirtual 148, 3) := by decide +kernel
theorem dX12_readLines_12 : decode cX12_readLines 12 = .ok (.ireturn, 1) := by decide +kernel
theorem dX12_readLines_13 : decode cX12_readLines 13 = .ok (.aload_n 0, 1) := by decide +kernel
theorem dX12_readLines_14 : decode cX12_readLines 14 = .ok (.invokevirtual 158, 3) := by decide +kernel
theorem dX12_readLines_17 : decode cX12_readLines 17 = .ok (.aload_n 0, 1) := by decide +kernel
theorem dX12_readLines_18 : decode cX12_readLines 18 = .ok (.iconst 2, 1) := by decide +kernel
theorem dX12_readLines_19 : decode cX12_readLines 19 = .ok (.bipush 7, 2) := by decide +kernel
theorem dX12_readLines_21 : decode cX12_readLines 21 = .ok (.invokevirtual 205, 3) := by decide +kernel
theorem dX12_readLines_24 : decode cX12_readLines 24 = .ok (.ifCond .ne 5, 3) := by decide +kernel
theorem dX12_readLines_27 : decode cX12_readLines 27 = .ok (.iconst 0, 1) := by decide +kernel
theorem dX12_readLines_28 : decode cX12_readLines 28 = .ok (.ireturn, 1) := by decide +kernel
theorem dX12_readLines_29 : decode cX12_readLines 29 = .ok (.aload_n 0, 1) := by decide +kernel
theorem dX12_readLines_30 : decode cX12_readLines 30 = .ok (.getfield 16, 3) := by decide +kernel
theorem dX12_readLines_33 : decode cX12_readLines 33 = .ok (.iconst 0, 1) := by decide +kernel
theorem dX12_readLines_34 : decode cX12_readLines 34 = .ok (.aload_n 0, 1) := by decide +kernel
theorem dX12_readLines_35 : decode cX12_readLines 35 = .ok (.getfield 155, 3) := by decide +kernel
theorem dX12_readLines_38 : decode cX12_readLines 38 = .ok (.iastore, 1) := by decide +kernel
theorem dX12_readLines_39 : decode cX12_readLines 39 = .ok (.iconst 1, 1) := by decide +kernel
theorem dX12_readLines_40 : decode cX12_readLines 40 = .ok (.ireturn, 1) := by decide +kernel
theorem dX12_readLine_0 : decode cX12_readLine 0 = .ok (.iconst 0, 1) := by decide +kernel
theorem dX12_readLine_1 : decode cX12_readLine 1 = .ok (.istore_n 1, 1) := by decide +kernel
theorem dX12_readLine_2 : decode cX12_readLine 2 = .ok (.iload_n 1, 1) := by decide +kernel
theorem dX12_readLine_3 : decode cX12_readLine 3 = .ok (.iconst 5, 1) := by decide +kernel
theorem dX12_readLine_4 : decode cX12_readLine 4 = .ok (.if_icmp .gt 17, 3) := by decide +kernel
theorem dX12_readLine_7 : decode cX12_readLine 7 = .ok (.aload_n 0, 1) := by decide +kernel
theorem dX12_readLine_8 : decode cX12_readLine 8 = .ok (.iload_n 1, 1) := by decide +kernel
theorem dX12_readLine_9 : decode cX12_readLine 9 = .ok (.invokevirtual 202, 3) := by decide +kernel
theorem dX12_readLine_12 : decode cX12_readLine 12 = .ok (.ifCond .ne 9, 3) := by decide +kernel
theorem dX12_readLine_15 : decode cX12_readLine 15 = .ok (.iinc 1 1, 3) := by decide +kernel
theorem dX12_readLine_18 : decode cX12_readLine 18 = .ok (.goto (-16), 3) := by decide +kernel
theorem dX12_readLine_21 : decode cX12_readLine 21 = .ok (.iload_n 1, 1) := by decide +kernel
theorem dX12_readLine_22 : decode cX12_readLine 22 = .ok (.iconst 5, 1) := by decide +kernel
theorem dX12_readLine_23 : decode cX12_readLine 23 = .ok (.if_icmp .le 9, 3) := by decide +kernel
theorem dX12_readLine_26 : decode cX12_readLine 26 = .ok (.aload_n 0, 1) := by decide +kernel
theorem dX12_readLine_27 : decode cX12_readLine 27 = .ok (.iconst 1, 1) := by decide +kernel
theorem dX12_readLine_28 : decode cX12_readLine 28 = .ok (.invokevirtual 148, 3) := by decide +kernel
theorem dX12_readLine_31 : decode cX12_readLine 31 = .ok (.ireturn, 1) := by decide +kernel
theorem dX12_readLine_32 : decode cX12_readLine 32 = .ok (.iload_n 1, 1) := by decide +kernel
theorem dX12_readLine_33 : decode cX12_readLine 33 = .ok (.ifCond .ne 10, 3) := by decide +kernel
theorem dX12_readLine_36 : decode cX12_readLine 36 = .ok (.aload_n 0, 1) := by decide +kernel
theorem dX12_readLine_37 : decode cX12_readLine 37 = .ok (.invokevirtual 217, 3) := by decide +kernel
theorem dX12_readLine_40 : decode cX12_readLine 40 = .ok (.goto 64, 3) := by decide +kernel
theorem dX12_readLine_43 : decode cX12_readLine 43 = .ok (.iload_n 1, 1) := by decide +kernel
theorem dX12_readLine_44 : decode cX12_readLine 44 = .ok (.iconst 1, 1) := by decide +kernel
theorem dX12_readLine_45 : decode cX12_readLine 45 = .ok (.if_icmp .ne 10, 3) := by decide +kernel
theorem dX12_readLine_48 : decode cX12_readLine 48 = .ok (.aload_n 0, 1) := by decide +kernel
theorem dX12_readLine_49 : decode cX12_readLine 49 = .ok (.invokevirtual 220, 3) := by decide +kernel
theorem dX12_readLine_52 : decode cX12_readLine 52 = .ok (.goto 52, 3) := by decide +kernel
theorem dX12_readLine_55 : decode cX12_readLine 55 = .ok (.iload_n 1, 1) := by decide +kernel
theorem dX12_readLine_56 : decode cX12_readLine 56 = .ok (.iconst 2, 1) := by decide +kernel
theorem dX12_readLine_57 : decode cX12_readLine 57 = .ok (.if_icmp .ne 10, 3) := by decide +kernel
theorem dX12_readLine_60 : decode cX12_readLine 60 = .ok (.aload_n 0, 1) := by decide +kernel
theorem dX12_readLine_61 : decode cX12_readLine 61 = .ok (.invokevirtual 223, 3) := by decide +kernel
theorem dX12_readLine_64 : decode cX12_readLine 64 = .ok (.goto 40, 3) := by decide +kernel
theorem dX12_readLine_67 : decode cX12_readLine 67 = .ok (.iload_n 1, 1) := by decide +kernel
theorem dX12_readLine_68 : decode cX12_readLine 68 = .ok (.iconst 3, 1) := by decide +kernel
theorem dX12_readLine_69 : decode cX12_readLine 69 = .ok (.if_icmp .ne 10, 3) := by decide +kernel
theorem dX12_readLine_72 : decode cX12_readLine 72 = .ok (.aload_n 0, 1) := by decide +kernel
theorem dX12_readLine_73 : decode cX12_readLine 73 = .ok (.invokevirtual 226, 3) := by decide +kernel
theorem dX12_readLine_76 : decode cX12_readLine 76 = .ok (.goto 28, 3) := by decide +kernel
theorem dX12_readLine_79 : decode cX12_readLine 79 = .ok (.iload_n 1, 1) := by decide +kernel
theorem dX12_readLine_80 : decode cX12_readLine 80 = .ok (.iconst 4, 1) := by decide +kernel
theorem dX12_readLine_81 : decode cX12_readLine 81 = .ok (.if_icmp .ne 14, 3) := by decide +kernel
theorem dX12_readLine_84 : decode cX12_readLine 84 = .ok (.aload_n 0, 1) := by decide +kernel
theorem dX12_readLine_85 : decode cX12_readLine 85 = .ok (.iconst 3, 1) := by decide +kernel
theorem dX12_readLine_86 : decode cX12_readLine 86 = .ok (.bipush 110, 2) := by decide +kernel
theorem dX12_readLine_88 : decode cX12_readLine 88 = .ok (.iconst 2, 1) := by decide +kernel
theorem dX12_readLine_89 : decode cX12_readLine 89 = .ok (.invokevirtual 229, 3) := by decide +kernel
theorem dX12_readLine_92 : decode cX12_readLine 92 = .ok (.goto 12, 3) := by decide +kernel
theorem dX12_readLine_95 : decode cX12_readLine 95 = .ok (.aload_n 0, 1) := by decide +kernel
theorem dX12_readLine_96 : decode cX12_readLine 96 = .ok (.iconst 4, 1) := by decide +kernel
theorem dX12_readLine_97 : decode cX12_readLine 97 = .ok (.sipush 134, 3) := by decide +kernel
theorem dX12_readLine_100 : decode cX12_readLine 100 = .ok (.iconst 3, 1) := by decide +kernel
theorem dX12_readLine_101 : decode cX12_readLine 101 = .ok (.invokevirtual 229, 3) := by decide +kernel
theorem dX12_readLine_104 : decode cX12_readLine 104 = .ok (.istore_n 2, 1) := by decide +kernel
theorem dX12_readLine_105 : decode cX12_readLine 105 = .ok (.iload_n 1, 1) := by decide +kernel
theorem dX12_readLine_106 : decode cX12_readLine 106 = .ok (.iconst 2, 1) := by decide +kernel
theorem dX12_readLine_107 : decode cX12_readLine 107 = .ok (.if_icmp .eq 8, 3) := by decide +kernel
theorem dX12_readLine_110 : decode cX12_readLine 110 = .ok (.aload_n 0, 1) := by decide +kernel
theorem dX12_readLine_111 : decode cX12_readLine 111 = .ok (.iconst 1, 1) := by decide +kernel
theorem dX12_readLine_112 : decode cX12_readLine 112 = .ok (.putfield 214, 3) := by decide +kernel
theorem dX12_readLine_115 : decode cX12_readLine 115 = .ok (.iload_n 2, 1) := by decide +kernel
theorem dX12_readLine_116 : decode cX12_readLine 116 = .ok (.ifCond .eq 14, 3) := by decide +kernel
theorem dX12_readLine_119 : decode cX12_readLine 119 = .ok (.aload_n 0, 1) := by decide +kernel
theorem dX12_readLine_120 : decode cX12_readLine 120 = .ok (.invokevirtual 232, 3) := by decide +kernel
theorem dX12_readLine_123 : decode cX12_readLine 123 = .ok (.ifCond .eq 7, 3) := by decide +kernel
theorem dX12_readLine_126 : decode cX12_readLine 126 = .ok (.iconst 1, 1) := by decide +kernel
theorem dX12_readLine_127 : decode cX12_readLine 127 = .ok (.goto 4, 3) := by decide +kernel
theorem dX12_readLine_130 : decode cX12_readLine 130 = .ok (.iconst 0, 1) := by decide +kernel
theorem dX12_readLine_131 : decode cX12_readLine 131 = .ok (.ireturn, 1) := by decide +kernel
theorem dX12_house_0 : decode cX12_house 0 = .ok (.aload_n 0, 1) := by decide +kernel
theorem dX12_house_1 : decode cX12_house 1 = .ok (.sipush 700, 3) := by decide +kernel
theorem dX12_house_4 : decode cX12_house 4 = .ok (.invokevirtual 235, 3) := by decide +kernel
theorem dX12_house_7 : decode cX12_house 7 = .ok (.aload_n 0, 1) := by decide +kernel
theorem dX12_house_8 : decode cX12_house 8 = .ok (.getfield 16, 3) := by decide +kernel
theorem dX12_house_11 : decode cX12_house 11 = .ok (.invokestatic 175, 3) := by decide +kernel
theorem dX12_house_14 : decode cX12_house 14 = .ok (.aload_n 0, 1) := by decide +kernel
theorem dX12_house_15 : decode cX12_house 15 = .ok (.iconst 0, 1) := by decide +kernel
theorem dX12_house_16 : decode cX12_house 16 = .ok (.putfield 214, 3) := by decide +kernel
theorem dX12_house_19 : decode cX12_house 19 = .ok (.aload_n 0, 1) := by decide +kernel
theorem dX12_house_20 : decode cX12_house 20 = .ok (.iconst 0, 1) := by decide +kernel
theorem dX12_house_21 : decode cX12_house 21 = .ok (.putfield 208, 3) := by decide +kernel
theorem dX12_house_24 : decode cX12_house 24 = .ok (.iconst 0, 1) := by decide +kernel
theorem dX12_house_25 : decode cX12_house 25 = .ok (.istore_n 1, 1) := by decide +kernel
theorem dX12_house_26 : decode cX12_house 26 = .ok (.aload_n 0, 1) := by decide +kernel
theorem dX12_house_27 : decode cX12_house 27 = .ok (.getfield 104, 3) := by decide +kernel
theorem dX12_house_30 : decode cX12_house 30 = .ok (.ifCond .eq 23, 3) := by decide +kernel
theorem dX12_house_33 : decode cX12_house 33 = .ok (.aload_n 0, 1) := by decide +kernel
theorem dX12_house_34 : decode cX12_house 34 = .ok (.invokevirtual 238, 3) := by decide +kernel
theorem dX12_house_37 : decode cX12_house 37 = .ok (.ifCond .ne 10, 3) := by decide +kernel
theorem dX12_house_40 : decode cX12_house 40 = .ok (.iconst (-1), 1) := by decide +kernel
theorem dX12_house_41 : decode cX12_house 41 = .ok (.aload_n 0, 1) := by decide +kernel
theorem dX12_house_42 : decode cX12_house 42 = .ok (.getfield 145, 3) := by decide +kernel
theorem dX12_house_45 : decode cX12_house 45 = .ok (.isub, 1) := by decide +kernel
theorem dX12_house_46 : decode cX12_house 46 = .ok (.ireturn, 1) := by decide +kernel
theorem dX12_house_47 : decode cX12_house 47 = .ok (.iinc 1 1, 3) := by decide +kernel
theorem dX12_house_50 : decode cX12_house 50 = .ok (.goto (-24), 3) := by decide +kernel
theorem dX12_house_53 : decode cX12_house 53 = .ok (.iconst 0, 1) := by decide +kernel
theorem dX12_house_54 : decode cX12_house 54 = .ok (.istore_n 2, 1) := by decide +kernel
theorem dX12_house_55 : decode cX12_house 55 = .ok (.iload_n 2, 1) := by decide +kernel
theorem dX12_house_56 : decode cX12_house 56 = .ok (.sipush 170, 3) := by decide +kernel
theorem dX12_house_59 : decode cX12_house 59 = .ok (.if_icmp .ge 21, 3) := by decide +kernel
theorem dX12_house_62 : decode cX12_house 62 = .ok (.aload_n 0, 1) := by decide +kernel
theorem dX12_house_63 : decode cX12_house 63 = .ok (.getfield 13, 3) := by decide +kernel
theorem dX12_house_66 : decode cX12_house 66 = .ok (.iload_n 2, 1) := by decide +kernel
theorem dX12_house_67 : decode cX12_house 67 = .ok (.aload_n 0, 1) := by decide +kernel
theorem dX12_house_68 : decode cX12_house 68 = .ok (.getfield 16, 3) := by decide +kernel
theorem dX12_house_71 : decode cX12_house 71 = .ok (.iload_n 2, 1) := by decide +kernel
theorem dX12_house_72 : decode cX12_house 72 = .ok (.iaload, 1) := by decide +kernel
theorem dX12_house_73 : decode cX12_house 73 = .ok (.iastore, 1) := by decide +kernel
theorem dX12_house_74 : decode cX12_house 74 = .ok (.iinc 2 1, 3) := by decide +kernel
theorem dX12_house_77 : decode cX12_house 77 = .ok (.goto (-22), 3) := by decide +kernel
theorem dX12_house_80 : decode cX12_house 80 = .ok (.iconst 0, 1) := by decide +kernel
theorem dX12_house_81 : decode cX12_house 81 = .ok (.istore_n 2, 1) := by decide +kernel
theorem dX12_house_82 : decode cX12_house 82 = .ok (.iload_n 2, 1) := by decide +kernel
theorem dX12_house_83 : decode cX12_house 83 = .ok (.bipush 16, 2) := by decide +kernel
theorem dX12_house_85 : decode cX12_house 85 = .ok (.if_icmp .ge 21, 3) := by decide +kernel
theorem dX12_house_88 : decode cX12_house 88 = .ok (.aload_n 0, 1) := by decide +kernel
theorem dX12_house_89 : decode cX12_house 89 = .ok (.getfield 22, 3) := by decide +kernel
theorem dX12_house_92 : decode cX12_house 92 = .ok (.iload_n 2, 1) := by decide +kernel
theorem dX12_house_93 : decode cX12_house 93 = .ok (.aload_n 0, 1) := by decide +kernel
theorem dX12_house_94 : decode cX12_house 94 = .ok (.getfield 26, 3) := by decide +kernel
theorem dX12_house_97 : decode cX12_house 97 = .ok (.iload_n 2, 1) := by decide +kernel
theorem dX12_house_98 : decode cX12_house 98 = .ok (.laload, 1) := by decide +kernel
theorem dX12_house_99 : decode cX12_house 99 = .ok (.lastore, 1) := by decide +kernel
theorem dX12_house_100 : decode cX12_house 100 = .ok (.iinc 2 1, 3) := by decide +kernel
theorem dX12_house_103 : decode cX12_house 103 = .ok (.goto (-21), 3) := by decide +kernel
theorem dX12_house_106 : decode cX12_house 106 = .ok (.aload_n 0, 1) := by decide +kernel
theorem dX12_house_107 : decode cX12_house 107 = .ok (.getfield 13, 3) := by decide +kernel
theorem dX12_house_110 : decode cX12_house 110 = .ok (.sipush 170, 3) := by decide +kernel
theorem dX12_house_113 : decode cX12_house 113 = .ok (.iconst 0, 1) := by decide +kernel
theorem dX12_house_114 : decode cX12_house 114 = .ok (.iastore, 1) := by decide +kernel
theorem dX12_house_115 : decode cX12_house 115 = .ok (.iload_n 1, 1) := by decide +kernel
theorem dX12_house_116 : decode cX12_house 116 = .ok (.ireturn, 1) := by decide +kernel
theorem dX12_fault_0 : decode cX12_fault 0 = .ok (.aload_n 0, 1) := by decide +kernel
theorem dX12_fault_1 : decode cX12_fault 1 = .ok (.iconst 0, 1) := by decide +kernel
theorem dX12_fault_2 : decode cX12_fault 2 = .ok (.putfield 81, 3) := by decide +kernel
theorem dX12_fault_5 : decode cX12_fault 5 = .ok (.aload_n 0, 1) := by decide +kernel
theorem dX12_fault_6 : decode cX12_fault 6 = .ok (.getfield 142, 3) := by decide +kernel
theorem dX12_fault_9 : decode cX12_fault 9 = .ok (.ireturn, 1) := by decide +kernel
theorem dX12_line_0 : decode cX12_line 0 = .ok (.aload_n 0, 1) := by decide +kernel
theorem dX12_line_1 : decode cX12_line 1 = .ok (.invokevirtual 164, 3) := by decide +kernel
theorem dX12_line_4 : decode cX12_line 4 = .ok (.aload_n 0, 1) := by decide +kernel
theorem dX12_line_5 : decode cX12_line 5 = .ok (.iload_n 1, 1) := by decide +kernel
theorem dX12_line_6 : decode cX12_line 6 = .ok (.invokevirtual 241, 3) := by decide +kernel
theorem dX12_line_9 : decode cX12_line 9 = .ok (.ifCond .eq 16, 3) := by decide +kernel
theorem dX12_line_12 : decode cX12_line 12 = .ok (.iload_n 2, 1) := by decide +kernel
theorem dX12_line_13 : decode cX12_line 13 = .ok (.ifCond .lt 12, 3) := by decide +kernel
theorem dX12_line_16 : decode cX12_line 16 = .ok (.iload_n 2, 1) := by decide +kernel
theorem dX12_line_17 : decode cX12_line 17 = .ok (.aload_n 0, 1) := by decide +kernel
theorem dX12_line_18 : decode cX12_line 18 = .ok (.iload_n 1, 1) := by decide +kernel
theorem dX12_line_19 : decode cX12_line 19 = .ok (.invokevirtual 182, 3) := by decide +kernel
theorem dX12_line_22 : decode cX12_line 22 = .ok (.if_icmp .lt 8, 3) := by decide +kernel
theorem dX12_line_25 : decode cX12_line 25 = .ok (.aload_n 0, 1) := by decide +kernel
theorem dX12_line_26 : decode cX12_line 26 = .ok (.invokevirtual 244, 3) := by decide +kernel
theorem dX12_line_29 : decode cX12_line 29 = .ok (.ireturn, 1) := by decide +kernel
theorem dX12_line_30 : decode cX12_line 30 = .ok (.aload_n 0, 1) := by decide +kernel
theorem dX12_line_31 : decode cX12_line 31 = .ok (.iconst 0, 1) := by decide +kernel
theorem dX12_line_32 : decode cX12_line 32 = .ok (.putfield 81, 3) := by decide +kernel
theorem dX12_line_35 : decode cX12_line 35 = .ok (.aload_n 0, 1) := by decide +kernel
theorem dX12_line_36 : decode cX12_line 36 = .ok (.iload_n 1, 1) := by decide +kernel
theorem dX12_line_37 : decode cX12_line 37 = .ok (.iload_n 2, 1) := by decide +kernel
theorem dX12_line_38 : decode cX12_line 38 = .ok (.invokevirtual 247, 3) := by decide +kernel
theorem dX12_line_41 : decode cX12_line 41 = .ok (.ireturn, 1) := by decide +kernel
theorem dX12_size_0 : decode cX12_size 0 = .ok (.aload_n 0, 1) := by decide +kernel
theorem dX12_size_1 : decode cX12_size 1 = .ok (.iconst 0, 1) := by decide +kernel
theorem dX12_size_2 : decode cX12_size 2 = .ok (.putfield 81, 3) := by decide +kernel
theorem dX12_size_5 : decode cX12_size 5 = .ok (.aload_n 0, 1) := by decide +kernel
theorem dX12_size_6 : decode cX12_size 6 = .ok (.invokevirtual 164, 3) := by decide +kernel
theorem dX12_size_9 : decode cX12_size 9 = .ok (.aload_n 0, 1) := by decide +kernel
theorem dX12_size_10 : decode cX12_size 10 = .ok (.iload_n 1, 1) := by decide +kernel
theorem dX12_size_11 : decode cX12_size 11 = .ok (.invokevirtual 241, 3) := by decide +kernel
theorem dX12_size_14 : decode cX12_size 14 = .ok (.ifCond .eq 11, 3) := by decide +kernel
theorem dX12_size_17 : decode cX12_size 17 = .ok (.aload_n 0, 1) := by decide +kernel
theorem dX12_size_18 : decode cX12_size 18 = .ok (.iload_n 1, 1) := by decide +kernel
theorem dX12_size_19 : decode cX12_size 19 = .ok (.invokevirtual 182, 3) := by decide +kernel
theorem dX12_size_22 : decode cX12_size 22 = .ok (.goto 4, 3) := by decide +kernel
theorem dX12_size_25 : decode cX12_size 25 = .ok (.iconst (-1), 1) := by decide +kernel
theorem dX12_size_26 : decode cX12_size 26 = .ok (.ireturn, 1) := by decide +kernel
theorem dX12_add_0 : decode cX12_add 0 = .ok (.aload_n 0, 1) := by decide +kernel
theorem dX12_add_1 : decode cX12_add 1 = .ok (.iconst 0, 1) := by decide +kernel
theorem dX12_add_2 : decode cX12_add 2 = .ok (.putfield 81, 3) := by decide +kernel
theorem dX12_add_5 : decode cX12_add 5 = .ok (.aload_n 0, 1) := by decide +kernel
theorem dX12_add_6 : decode cX12_add 6 = .ok (.invokevirtual 164, 3) := by decide +kernel
theorem dX12_add_9 : decode cX12_add 9 = .ok (.aload_n 0, 1) := by decide +kernel
theorem dX12_add_10 : decode cX12_add 10 = .ok (.invokevirtual 167, 3) := by decide +kernel
theorem dX12_add_13 : decode cX12_add 13 = .ok (.istore_n 1, 1) := by decide +kernel
theorem dX12_add_14 : decode cX12_add 14 = .ok (.iload_n 1, 1) := by decide +kernel
theorem dX12_add_15 : decode cX12_add 15 = .ok (.iconst 1, 1) := by decide +kernel
theorem dX12_add_16 : decode cX12_add 16 = .ok (.aload_n 0, 1) := by decide +kernel
theorem dX12_add_17 : decode cX12_add 17 = .ok (.invokevirtual 185, 3) := by decide +kernel
theorem dX12_add_20 : decode cX12_add 20 = .ok (.invokestatic 151, 3) := by decide +kernel
theorem dX12_add_23 : decode cX12_add 23 = .ok (.ifCond .eq 12, 3) := by decide +kernel
theorem dX12_add_26 : decode cX12_add 26 = .ok (.aload_n 0, 1) := by decide +kernel
theorem dX12_add_27 : decode cX12_add 27 = .ok (.invokevirtual 179, 3) := by decide +kernel
theorem dX12_add_30 : decode cX12_add 30 = .ok (.bipush 10, 2) := by decide +kernel
theorem dX12_add_32 : decode cX12_add 32 = .ok (.if_icmp .ne 5, 3) := by decide +kernel
theorem dX12_add_35 : decode cX12_add 35 = .ok (.iconst (-1), 1) := by decide +kernel
theorem dX12_add_36 : decode cX12_add 36 = .ok (.ireturn, 1) := by decide +kernel
theorem dX12_add_37 : decode cX12_add 37 = .ok (.iconst 0, 1) := by decide +kernel
theorem dX12_add_38 : decode cX12_add 38 = .ok (.istore_n 2, 1) := by decide +kernel
theorem dX12_add_39 : decode cX12_add 39 = .ok (.iconst 0, 1) := by decide +kernel
theorem dX12_add_40 : decode cX12_add 40 = .ok (.istore_n 3, 1) := by decide +kernel
theorem dX12_add_41 : decode cX12_add 41 = .ok (.iload_n 3, 1) := by decide +kernel
theorem dX12_add_42 : decode cX12_add 42 = .ok (.iload_n 1, 1) := by decide +kernel
theorem dX12_add_43 : decode cX12_add 43 = .ok (.if_icmp .ge 48, 3) := by decide +kernel
theorem dX12_add_46 : decode cX12_add 46 = .ok (.aload_n 0, 1) := by decide +kernel
theorem dX12_add_47 : decode cX12_add 47 = .ok (.getfield 7, 3) := by decide +kernel
theorem dX12_add_50 : decode cX12_add 50 = .ok (.iload_n 3, 1) := by decide +kernel
theorem dX12_add_51 : decode cX12_add 51 = .ok (.iaload, 1) := by decide +kernel
theorem dX12_add_52 : decode cX12_add 52 = .ok (.aload_n 0, 1) := by decide +kernel
theorem dX12_add_53 : decode cX12_add 53 = .ok (.invokevirtual 185, 3) := by decide +kernel
theorem dX12_add_56 : decode cX12_add 56 = .ok (.if_icmp .ge 16, 3) := by decide +kernel
theorem dX12_add_59 : decode cX12_add 59 = .ok (.iload_n 2, 1) := by decide +kernel
theorem dX12_add_60 : decode cX12_add 60 = .ok (.aload_n 0, 1) := by decide +kernel
theorem dX12_add_61 : decode cX12_add 61 = .ok (.getfield 7, 3) := by decide +kernel
theorem dX12_add_64 : decode cX12_add 64 = .ok (.iload_n 3, 1) := by decide +kernel
theorem dX12_add_65 : decode cX12_add 65 = .ok (.iaload, 1) := by decide +kernel
theorem dX12_add_66 : decode cX12_add 66 = .ok (.invokestatic 198, 3) := by decide +kernel
theorem dX12_add_69 : decode cX12_add 69 = .ok (.ifCond .eq 5, 3) := by decide +kernel
theorem dX12_add_72 : decode cX12_add 72 = .ok (.iconst (-1), 1) := by decide +kernel
theorem dX12_add_73 : decode cX12_add 73 = .ok (.ireturn, 1) := by decide +kernel
theorem dX12_add_74 : decode cX12_add 74 = .ok (.iload_n 2, 1) := by decide +kernel
theorem dX12_add_75 : decode cX12_add 75 = .ok (.iconst 1, 1) := by decide +kernel
theorem dX12_add_76 : decode cX12_add 76 = .ok (.aload_n 0, 1) := by decide +kernel
theorem dX12_add_77 : decode cX12_add 77 = .ok (.getfield 7, 3) := by decide +kernel
theorem dX12_add_80 : decode cX12_add 80 = .ok (.iload_n 3, 1) := by decide +kernel
theorem dX12_add_81 : decode cX12_add 81 = .ok (.iaload, 1) := by decide +kernel
theorem dX12_add_82 : decode cX12_add 82 = .ok (.ishl, 1) := by decide +kernel
theorem dX12_add_83 : decode cX12_add 83 = .ok (.ior, 1) := by decide +kernel
theorem dX12_add_84 : decode cX12_add 84 = .ok (.istore_n 2, 1) := by decide +kernel
theorem dX12_add_85 : decode cX12_add 85 = .ok (.iinc 3 1, 3) := by decide +kernel
theorem dX12_add_88 : decode cX12_add 88 = .ok (.goto (-47), 3) := by decide +kernel
theorem dX12_add_91 : decode cX12_add 91 = .ok (.bipush 10, 2) := by decide +kernel
theorem dX12_add_93 : decode cX12_add 93 = .ok (.bipush 8, 2) := by decide +kernel
theorem dX12_add_95 : decode cX12_add 95 = .ok (.aload_n 0, 1) := by decide +kernel
theorem dX12_add_96 : decode cX12_add 96 = .ok (.invokevirtual 179, 3) := by decide +kernel
theorem dX12_add_99 : decode cX12_add 99 = .ok (.imul, 1) := by decide +kernel
theorem dX12_add_100 : decode cX12_add 100 = .ok (.iadd, 1) := by decide +kernel
theorem dX12_add_101 : decode cX12_add 101 = .ok (.istore_n 3, 1) := by decide +kernel
theorem dX12_add_102 : decode cX12_add 102 = .ok (.aload_n 0, 1) := by decide +kernel
theorem dX12_add_103 : decode cX12_add 103 = .ok (.getfield 13, 3) := by decide +kernel
theorem dX12_add_106 : decode cX12_add 106 = .ok (.iload_n 3, 1) := by decide +kernel
theorem dX12_add_107 : decode cX12_add 107 = .ok (.iload_n 1, 1) := by decide +kernel
theorem dX12_add_108 : decode cX12_add 108 = .ok (.iastore, 1) := by decide +kernel
theorem dX12_add_109 : decode cX12_add 109 = .ok (.iconst 0, 1) := by decide +kernel
theorem dX12_add_110 : decode cX12_add 110 = .ok (.istore 4, 2) := by decide +kernel
theorem dX12_add_112 : decode cX12_add 112 = .ok (.iload 4, 2) := by decide +kernel
theorem dX12_add_114 : decode cX12_add 114 = .ok (.iload_n 1, 1) := by decide +kernel
theorem dX12_add_115 : decode cX12_add 115 = .ok (.if_icmp .ge 27, 3) := by decide +kernel
theorem dX12_add_118 : decode cX12_add 118 = .ok (.aload_n 0, 1) := by decide +kernel
theorem dX12_add_119 : decode cX12_add 119 = .ok (.getfield 13, 3) := by decide +kernel
theorem dX12_add_122 : decode cX12_add 122 = .ok (.iload_n 3, 1) := by decide +kernel
theorem dX12_add_123 : decode cX12_add 123 = .ok (.iconst 1, 1) := by decide +kernel
theorem dX12_add_124 : decode cX12_add 124 = .ok (.iadd, 1) := by decide +kernel
theorem dX12_add_125 : decode cX12_add 125 = .ok (.iload 4, 2) := by decide +kernel
theorem dX12_add_127 : decode cX12_add 127 = .ok (.iadd, 1) := by decide +kernel
theorem dX12_add_128 : decode cX12_add 128 = .ok (.aload_n 0, 1) := by decide +kernel
theorem dX12_add_129 : decode cX12_add 129 = .ok (.getfield 7, 3) := by decide +kernel
theorem dX12_add_132 : decode cX12_add 132 = .ok (.iload 4, 2) := by decide +kernel
theorem dX12_add_134 : decode cX12_add 134 = .ok (.iaload, 1) := by decide +kernel
theorem dX12_add_135 : decode cX12_add 135 = .ok (.iastore, 1) := by decide +kernel
theorem dX12_add_136 : decode cX12_add 136 = .ok (.iinc 4 1, 3) := by decide +kernel
theorem dX12_add_139 : decode cX12_add 139 = .ok (.goto (-27), 3) := by decide +kernel
theorem dX12_add_142 : decode cX12_add 142 = .ok (.aload_n 0, 1) := by decide +kernel
theorem dX12_add_143 : decode cX12_add 143 = .ok (.getfield 22, 3) := by decide +kernel
theorem dX12_add_146 : decode cX12_add 146 = .ok (.aload_n 0, 1) := by decide +kernel
theorem dX12_add_147 : decode cX12_add 147 = .ok (.invokevirtual 179, 3) := by decide +kernel
theorem dX12_add_150 : decode cX12_add 150 = .ok (.lconst 0, 1) := by decide +kernel
theorem dX12_add_151 : decode cX12_add 151 = .ok (.lastore, 1) := by decide +kernel
theorem dX12_add_152 : decode cX12_add 152 = .ok (.aload_n 0, 1) := by decide +kernel
theorem dX12_add_153 : decode cX12_add 153 = .ok (.getfield 13, 3) := by decide +kernel
theorem dX12_add_156 : decode cX12_add 156 = .ok (.iconst 1, 1) := by decide +kernel
theorem dX12_add_157 : decode cX12_add 157 = .ok (.dup2, 1) := by decide +kernel
theorem dX12_add_158 : decode cX12_add 158 = .ok (.iaload, 1) := by decide +kernel
theorem dX12_add_159 : decode cX12_add 159 = .ok (.iconst 1, 1) := by decide +kernel
theorem dX12_add_160 : decode cX12_add 160 = .ok (.iadd, 1) := by decide +kernel
theorem dX12_add_161 : decode cX12_add 161 = .ok (.iastore, 1) := by decide +kernel
theorem dX12_add_162 : decode cX12_add 162 = .ok (.aload_n 0, 1) := by decide +kernel
theorem dX12_add_163 : decode cX12_add 163 = .ok (.invokevirtual 179, 3) := by decide +kernel
theorem dX12_add_166 : decode cX12_add 166 = .ok (.iconst 1, 1) := by decide +kernel
theorem dX12_add_167 : decode cX12_add 167 = .ok (.isub, 1) := by decide +kernel
theorem dX12_add_168 : decode cX12_add 168 = .ok (.ireturn, 1) := by decide +kernel
theorem dX12_orders_0 : decode cX12_orders 0 = .ok (.iconst 1, 1) := by decide +kernel
theorem dX12_orders_1 : decode cX12_orders 1 = .ok (.istore_n 1, 1) := by decide +kernel
theorem dX12_orders_2 : decode cX12_orders 2 = .ok (.iconst 2, 1) := by decide +kernel
theorem dX12_orders_3 : decode cX12_orders 3 = .ok (.istore_n 2, 1) := by decide +kernel
theorem dX12_orders_4 : decode cX12_orders 4 = .ok (.iload_n 2, 1) := by decide +kernel
theorem dX12_orders_5 : decode cX12_orders 5 = .ok (.aload_n 0, 1) := by decide +kernel
theorem dX12_orders_6 : decode cX12_orders 6 = .ok (.invokevirtual 185, 3) := by decide +kernel
theorem dX12_orders_9 : decode cX12_orders 9 = .ok (.if_icmp .gt 13, 3) := by decide +kernel
theorem dX12_orders_12 : decode cX12_orders 12 = .ok (.iload_n 1, 1) := by decide +kernel
theorem dX12_orders_13 : decode cX12_orders 13 = .ok (.iload_n 2, 1) := by decide +kernel
theorem dX12_orders_14 : decode cX12_orders 14 = .ok (.imul, 1) := by decide +kernel
theorem dX12_orders_15 : decode cX12_orders 15 = .ok (.istore_n 1, 1) := by decide +kernel
theorem dX12_orders_16 : decode cX12_orders 16 = .ok (.iinc 2 1, 3) := by decide +kernel
theorem dX12_orders_19 : decode cX12_orders 19 = .ok (.goto (-15), 3) := by decide +kernel
theorem dX12_orders_22 : decode cX12_orders 22 = .ok (.iload_n 1, 1) := by decide +kernel
theorem dX12_orders_23 : decode cX12_orders 23 = .ok (.ireturn, 1) := by decide +kernel
theorem dX12_isOrder_0 : decode cX12_isOrder 0 = .ok (.iload_n 1, 1) := by decide +kernel
theorem dX12_isOrder_1 : decode cX12_isOrder 1 = .ok (.ifCond .lt 15, 3) := by decide +kernel
theorem dX12_isOrder_4 : decode cX12_isOrder 4 = .ok (.iload_n 1, 1) := by decide +kernel
theorem dX12_isOrder_5 : decode cX12_isOrder 5 = .ok (.aload_n 0, 1) := by decide +kernel
theorem dX12_isOrder_6 : decode cX12_isOrder 6 = .ok (.invokevirtual 251, 3) := by decide +kernel
theorem dX12_isOrder_9 : decode cX12_isOrder 9 = .ok (.if_icmp .ge 7, 3) := by decide +kernel
theorem dX12_isOrder_12 : decode cX12_isOrder 12 = .ok (.iconst 1, 1) := by decide +kernel
theorem dX12_isOrder_13 : decode cX12_isOrder 13 = .ok (.goto 4, 3) := by decide +kernel
theorem dX12_isOrder_16 : decode cX12_isOrder 16 = .ok (.iconst 0, 1) := by decide +kernel
theorem dX12_isOrder_17 : decode cX12_isOrder 17 = .ok (.ireturn, 1) := by decide +kernel
theorem dX12_lay__0 : decode cX12_lay_ 0 = .ok (.iconst 1, 1) := by decide +kernel
theorem dX12_lay__1 : decode cX12_lay_ 1 = .ok (.aload_n 0, 1) := by decide +kernel
theorem dX12_lay__2 : decode cX12_lay_ 2 = .ok (.invokevirtual 185, 3) := by decide +kernel
theorem dX12_lay__5 : decode cX12_lay_ 5 = .ok (.ishl, 1) := by decide +kernel
theorem dX12_lay__6 : decode cX12_lay_ 6 = .ok (.iconst 1, 1) := by decide +kernel
theorem dX12_lay__7 : decode cX12_lay_ 7 = .ok (.isub, 1) := by decide +kernel
theorem dX12_lay__8 : decode cX12_lay_ 8 = .ok (.istore_n 2, 1) := by decide +kernel
theorem dX12_lay__9 : decode cX12_lay_ 9 = .ok (.iload_n 1, 1) := by decide +kernel
theorem dX12_lay__10 : decode cX12_lay_ 10 = .ok (.istore_n 3, 1) := by decide +kernel
theorem dX12_lay__11 : decode cX12_lay_ 11 = .ok (.aload_n 0, 1) := by decide +kernel
theorem dX12_lay__12 : decode cX12_lay_ 12 = .ok (.invokevirtual 251, 3) := by decide +kernel
theorem dX12_lay__15 : decode cX12_lay_ 15 = .ok (.istore 4, 2) := by decide +kernel
theorem dX12_lay__17 : decode cX12_lay_ 17 = .ok (.iconst 0, 1) := by decide +kernel
theorem dX12_lay__18 : decode cX12_lay_ 18 = .ok (.istore 5, 2) := by decide +kernel
theorem dX12_lay__20 : decode cX12_lay_ 20 = .ok (.iload 5, 2) := by decide +kernel
theorem dX12_lay__22 : decode cX12_lay_ 22 = .ok (.aload_n 0, 1) := by decide +kernel
theorem dX12_lay__23 : decode cX12_lay_ 23 = .ok (.invokevirtual 185, 3) := by decide +kernel
theorem dX12_lay__26 : decode cX12_lay_ 26 = .ok (.if_icmp .ge 94, 3) := by decide +kernel
theorem dX12_lay__29 : decode cX12_lay_ 29 = .ok (.iload 4, 2) := by decide +kernel
theorem dX12_lay__31 : decode cX12_lay_ 31 = .ok (.aload_n 0, 1) := by decide +kernel
theorem dX12_lay__32 : decode cX12_lay_ 32 = .ok (.invokevirtual 185, 3) := by decide +kernel
theorem dX12_lay__35 : decode cX12_lay_ 35 = .ok (.iload 5, 2) := by decide +kernel
theorem dX12_lay__37 : decode cX12_lay_ 37 = .ok (.isub, 1) := by decide +kernel
theorem dX12_lay__38 : decode cX12_lay_ 38 = .ok (.idiv, 1) := by decide +kernel
theorem dX12_lay__39 : decode cX12_lay_ 39 = .ok (.istore 4, 2) := by decide +kernel
theorem dX12_lay__41 : decode cX12_lay_ 41 = .ok (.iload_n 3, 1) := by decide +kernel
theorem dX12_lay__42 : decode cX12_lay_ 42 = .ok (.iload 4, 2) := by decide +kernel
theorem dX12_lay__44 : decode cX12_lay_ 44 = .ok (.idiv, 1) := by decide +kernel
theorem dX12_lay__45 : decode cX12_lay_ 45 = .ok (.istore 6, 2) := by decide +kernel
theorem dX12_lay__47 : decode cX12_lay_ 47 = .ok (.iload_n 3, 1) := by decide +kernel
theorem dX12_lay__48 : decode cX12_lay_ 48 = .ok (.iload 4, 2) := by decide +kernel
theorem dX12_lay__50 : decode cX12_lay_ 50 = .ok (.irem, 1) := by decide +kernel
theorem dX12_lay__51 : decode cX12_lay_ 51 = .ok (.istore_n 3, 1) := by decide +kernel
theorem dX12_lay__52 : decode cX12_lay_ 52 = .ok (.iconst 0, 1) := by decide +kernel
theorem dX12_lay__53 : decode cX12_lay_ 53 = .ok (.istore 7, 2) := by decide +kernel
theorem dX12_lay__55 : decode cX12_lay_ 55 = .ok (.iload 6, 2) := by decide +kernel
theorem dX12_lay__57 : decode cX12_lay_ 57 = .ok (.ifCond .gt 12, 3) := by decide +kernel
theorem dX12_lay__60 : decode cX12_lay_ 60 = .ok (.iload_n 2, 1) := by decide +kernel
theorem dX12_lay__61 : decode cX12_lay_ 61 = .ok (.iload 7, 2) := by decide +kernel
theorem dX12_lay__63 : decode cX12_lay_ 63 = .ok (.invokestatic 198, 3) := by decide +kernel
theorem dX12_lay__66 : decode cX12_lay_ 66 = .ok (.ifCond .ne 21, 3) := by decide +kernel
theorem dX12_lay__69 : decode cX12_lay_ 69 = .ok (.iload_n 2, 1) := by decide +kernel
theorem dX12_lay__70 : decode cX12_lay_ 70 = .ok (.iload 7, 2) := by decide +kernel
theorem dX12_lay__72 : decode cX12_lay_ 72 = .ok (.invokestatic 198, 3) := by decide +kernel
theorem dX12_lay__75 : decode cX12_lay_ 75 = .ok (.ifCond .eq 6, 3) := by decide +kernel
theorem dX12_lay__78 : decode cX12_lay_ 78 = .ok (.iinc 6 (-1), 3) := by decide +kernel
theorem dX12_lay__81 : decode cX12_lay_ 81 = .ok (.iinc 7 1, 3) := by decide +kernel
theorem dX12_lay__84 : decode cX12_lay_ 84 = .ok (.goto (-29), 3) := by decide +kernel
theorem dX12_lay__87 : decode cX12_lay_ 87 = .ok (.iload_n 2, 1) := by decide +kernel
theorem dX12_lay__88 : decode cX12_lay_ 88 = .ok (.iconst 1, 1) := by decide +kernel
theorem dX12_lay__89 : decode cX12_lay_ 89 = .ok (.iload 7, 2) := by decide +kernel
theorem dX12_lay__91 : decode cX12_lay_ 91 = .ok (.ishl, 1) := by decide +kernel
theorem dX12_lay__92 : decode cX12_lay_ 92 = .ok (.iconst (-1), 1) := by decide +kernel
theorem dX12_lay__93 : decode cX12_lay_ 93 = .ok (.ixor, 1) := by decide +kernel
theorem dX12_lay__94 : decode cX12_lay_ 94 = .ok (.iand, 1) := by decide +kernel
theorem dX12_lay__95 : decode cX12_lay_ 95 = .ok (.istore_n 2, 1) := by decide +kernel
theorem dX12_lay__96 : decode cX12_lay_ 96 = .ok (.aload_n 0, 1) := by decide +kernel
theorem dX12_lay__97 : decode cX12_lay_ 97 = .ok (.getfield 36, 3) := by decide +kernel
theorem dX12_lay__100 : decode cX12_lay_ 100 = .ok (.iload 5, 2) := by decide +kernel
theorem dX12_lay__102 : decode cX12_lay_ 102 = .ok (.iload 7, 2) := by decide +kernel
theorem dX12_lay__104 : decode cX12_lay_ 104 = .ok (.iastore, 1) := by decide +kernel
theorem dX12_lay__105 : decode cX12_lay_ 105 = .ok (.aload_n 0, 1) := by decide +kernel
theorem dX12_lay__106 : decode cX12_lay_ 106 = .ok (.getfield 39, 3) := by decide +kernel
theorem dX12_lay__109 : decode cX12_lay_ 109 = .ok (.iload 7, 2) := by decide +kernel
theorem dX12_lay__111 : decode cX12_lay_ 111 = .ok (.iload 5, 2) := by decide +kernel
theorem dX12_lay__113 : decode cX12_lay_ 113 = .ok (.iastore, 1) := by decide +kernel
theorem dX12_lay__114 : decode cX12_lay_ 114 = .ok (.iinc 5 1, 3) := by decide +kernel
theorem dX12_lay__117 : decode cX12_lay_ 117 = .ok (.goto (-97), 3) := by decide +kernel
theorem dX12_lay__120 : decode cX12_lay_ 120 = .ok (.return_, 1) := by decide +kernel
theorem dX12_numberOf_0 : decode cX12_numberOf 0 = .ok (.iconst 0, 1) := by decide +kernel
theorem dX12_numberOf_1 : decode cX12_numberOf 1 = .ok (.istore_n 1, 1) := by decide +kernel
theorem dX12_numberOf_2 : decode cX12_numberOf 2 = .ok (.iconst 0, 1) := by decide +kernel
theorem dX12_numberOf_3 : decode cX12_numberOf 3 = .ok (.istore_n 2, 1) := by decide +kernel
theorem dX12_numberOf_4 : decode cX12_numberOf 4 = .ok (.iload_n 2, 1) := by decide +kernel
theorem dX12_numberOf_5 : decode cX12_numberOf 5 = .ok (.aload_n 0, 1) := by decide +kernel
theorem dX12_numberOf_6 : decode cX12_numberOf 6 = .ok (.invokevirtual 185, 3) := by decide +kernel
theorem dX12_numberOf_9 : decode cX12_numberOf 9 = .ok (.if_icmp .ge 61, 3) := by decide +kernel
theorem dX12_numberOf_12 : decode cX12_numberOf 12 = .ok (.iconst 0, 1) := by decide +kernel
theorem dX12_numberOf_13 : decode cX12_numberOf 13 = .ok (.istore_n 3, 1) := by decide +kernel
theorem dX12_numberOf_14 : decode cX12_numberOf 14 = .ok (.iload_n 2, 1) := by decide +kernel
theorem dX12_numberOf_15 : decode cX12_numberOf 15 = .ok (.iconst 1, 1) := by decide +kernel
theorem dX12_numberOf_16 : decode cX12_numberOf 16 = .ok (.iadd, 1) := by decide +kernel
theorem dX12_numberOf_17 : decode cX12_numberOf 17 = .ok (.istore 4, 2) := by decide +kernel
theorem dX12_numberOf_19 : decode cX12_numberOf 19 = .ok (.iload 4, 2) := by decide +kernel
theorem dX12_numberOf_21 : decode cX12_numberOf 21 = .ok (.aload_n 0, 1) := by decide +kernel
theorem dX12_numberOf_22 : decode cX12_numberOf 22 = .ok (.invokevirtual 185, 3) := by decide +kernel
theorem dX12_numberOf_25 : decode cX12_numberOf 25 = .ok (.if_icmp .ge 28, 3) := by decide +kernel
theorem dX12_numberOf_28 : decode cX12_numberOf 28 = .ok (.aload_n 0, 1) := by decide +kernel
theorem dX12_numberOf_29 : decode cX12_numberOf 29 = .ok (.getfield 36, 3) := by decide +kernel
theorem dX12_numberOf_32 : decode cX12_numberOf 32 = .ok (.iload 4, 2) := by decide +kernel
theorem dX12_numberOf_34 : decode cX12_numberOf 34 = .ok (.iaload, 1) := by decide +kernel
theorem dX12_numberOf_35 : decode cX12_numberOf 35 = .ok (.aload_n 0, 1) := by decide +kernel
theorem dX12_numberOf_36 : decode cX12_numberOf 36 = .ok (.getfield 36, 3) := by decide +kernel
theorem dX12_numberOf_39 : decode cX12_numberOf 39 = .ok (.iload_n 2, 1) := by decide +kernel
theorem dX12_numberOf_40 : decode cX12_numberOf 40 = .ok (.iaload, 1) := by decide +kernel
theorem dX12_numberOf_41 : decode cX12_numberOf 41 = .ok (.if_icmp .ge 6, 3) := by decide +kernel
theorem dX12_numberOf_44 : decode cX12_numberOf 44 = .ok (.iinc 3 1, 3) := by decide +kernel
theorem dX12_numberOf_47 : decode cX12_numberOf 47 = .ok (.iinc 4 1, 3) := by decide +kernel
theorem dX12_numberOf_50 : decode cX12_numberOf 50 = .ok (.goto (-31), 3) := by decide +kernel
theorem dX12_numberOf_53 : decode cX12_numberOf 53 = .ok (.iload_n 1, 1) := by decide +kernel
theorem dX12_numberOf_54 : decode cX12_numberOf 54 = .ok (.aload_n 0, 1) := by decide +kernel
theorem dX12_numberOf_55 : decode cX12_numberOf 55 = .ok (.invokevirtual 185, 3) := by decide +kernel
theorem dX12_numberOf_58 : decode cX12_numberOf 58 = .ok (.iload_n 2, 1) := by decide +kernel
theorem dX12_numberOf_59 : decode cX12_numberOf 59 = .ok (.isub, 1) := by decide +kernel
theorem dX12_numberOf_60 : decode cX12_numberOf 60 = .ok (.imul, 1) := by decide +kernel
theorem dX12_numberOf_61 : decode cX12_numberOf 61 = .ok (.iload_n 3, 1) := by decide +kernel
theorem dX12_numberOf_62 : decode cX12_numberOf 62 = .ok (.iadd, 1) := by decide +kernel
theorem dX12_numberOf_63 : decode cX12_numberOf 63 = .ok (.istore_n 1, 1) := by decide +kernel
theorem dX12_numberOf_64 : decode cX12_numberOf 64 = .ok (.iinc 2 1, 3) := by decide +kernel
theorem dX12_numberOf_67 : decode cX12_numberOf 67 = .ok (.goto (-63), 3) := by decide +kernel
theorem dX12_numberOf_70 : decode cX12_numberOf 70 = .ok (.iload_n 1, 1) := by decide +kernel
theorem dX12_numberOf_71 : decode cX12_numberOf 71 = .ok (.ireturn, 1) := by decide +kernel
theorem dX12_order_0 : decode cX12_order 0 = .ok (.aload_n 0, 1) := by decide +kernel
theorem dX12_order_1 : decode cX12_order 1 = .ok (.iconst 0, 1) := by decide +kernel
theorem dX12_order_2 : decode cX12_order 2 = .ok (.putfield 81, 3) := by decide +kernel
theorem dX12_order_5 : decode cX12_order 5 = .ok (.aload_n 0, 1) := by decide +kernel
theorem dX12_order_6 : decode cX12_order 6 = .ok (.invokevirtual 164, 3) := by decide +kernel
theorem dX12_order_9 : decode cX12_order 9 = .ok (.aload_n 0, 1) := by decide +kernel
theorem dX12_order_10 : decode cX12_order 10 = .ok (.iload_n 1, 1) := by decide +kernel
theorem dX12_order_11 : decode cX12_order 11 = .ok (.invokevirtual 254, 3) := by decide +kernel
theorem dX12_order_14 : decode cX12_order 14 = .ok (.ifCond .eq 15, 3) := by decide +kernel
theorem dX12_order_17 : decode cX12_order 17 = .ok (.iload_n 2, 1) := by decide +kernel
theorem dX12_order_18 : decode cX12_order 18 = .ok (.ifCond .lt 11, 3) := by decide +kernel
theorem dX12_order_21 : decode cX12_order 21 = .ok (.iload_n 2, 1) := by decide +kernel
theorem dX12_order_22 : decode cX12_order 22 = .ok (.aload_n 0, 1) := by decide +kernel
theorem dX12_order_23 : decode cX12_order 23 = .ok (.invokevirtual 185, 3) := by decide +kernel
theorem dX12_order_26 : decode cX12_order 26 = .ok (.if_icmp .lt 5, 3) := by decide +kernel
theorem dX12_order_29 : decode cX12_order 29 = .ok (.iconst (-1), 1) := by decide +kernel
theorem dX12_order_30 : decode cX12_order 30 = .ok (.ireturn, 1) := by decide +kernel
theorem dX12_order_31 : decode cX12_order 31 = .ok (.aload_n 0, 1) := by decide +kernel
theorem dX12_order_32 : decode cX12_order 32 = .ok (.iload_n 1, 1) := by decide +kernel
theorem dX12_order_33 : decode cX12_order 33 = .ok (.invokevirtual 257, 3) := by decide +kernel
theorem dX12_order_36 : decode cX12_order 36 = .ok (.aload_n 0, 1) := by decide +kernel
theorem dX12_order_37 : decode cX12_order 37 = .ok (.getfield 36, 3) := by decide +kernel
theorem dX12_order_40 : decode cX12_order 40 = .ok (.iload_n 2, 1) := by decide +kernel
theorem dX12_order_41 : decode cX12_order 41 = .ok (.iaload, 1) := by decide +kernel
theorem dX12_order_42 : decode cX12_order 42 = .ok (.ireturn, 1) := by decide +kernel
theorem dX12_layCopy_0 : decode cX12_layCopy 0 = .ok (.iconst 0, 1) := by decide +kernel
theorem dX12_layCopy_1 : decode cX12_layCopy 1 = .ok (.istore_n 3, 1) := by decide +kernel
theorem dX12_layCopy_2 : decode cX12_layCopy 2 = .ok (.iload_n 3, 1) := by decide +kernel
theorem dX12_layCopy_3 : decode cX12_layCopy 3 = .ok (.bipush 7, 2) := by decide +kernel
theorem dX12_layCopy_5 : decode cX12_layCopy 5 = .ok (.if_icmp .ge 13, 3) := by decide +kernel
theorem dX12_layCopy_8 : decode cX12_layCopy 8 = .ok (.aload_n 2, 1) := by decide +kernel
theorem dX12_layCopy_9 : decode cX12_layCopy 9 = .ok (.iload_n 3, 1) := by decide +kernel
theorem dX12_layCopy_10 : decode cX12_layCopy 10 = .ok (.iconst (-1), 1) := by decide +kernel
theorem dX12_layCopy_11 : decode cX12_layCopy 11 = .ok (.iastore, 1) := by decide +kernel
theorem dX12_layCopy_12 : decode cX12_layCopy 12 = .ok (.iinc 3 1, 3) := by decide +kernel
theorem dX12_layCopy_15 : decode cX12_layCopy 15 = .ok (.goto (-13), 3) := by decide +kernel
theorem dX12_layCopy_18 : decode cX12_layCopy 18 = .ok (.iconst 0, 1) := by decide +kernel
theorem dX12_layCopy_19 : decode cX12_layCopy 19 = .ok (.istore_n 3, 1) := by decide +kernel
theorem dX12_layCopy_20 : decode cX12_layCopy 20 = .ok (.iload_n 3, 1) := by decide +kernel
theorem dX12_layCopy_21 : decode cX12_layCopy 21 = .ok (.aload_n 0, 1) := by decide +kernel
theorem dX12_layCopy_22 : decode cX12_layCopy 22 = .ok (.iload_n 1, 1) := by decide +kernel
theorem dX12_layCopy_23 : decode cX12_layCopy 23 = .ok (.invokevirtual 182, 3) := by decide +kernel
theorem dX12_layCopy_26 : decode cX12_layCopy 26 = .ok (.if_icmp .ge 18, 3) := by decide +kernel
theorem dX12_layCopy_29 : decode cX12_layCopy 29 = .ok (.aload_n 2, 1) := by decide +kernel
theorem dX12_layCopy_30 : decode cX12_layCopy 30 = .ok (.aload_n 0, 1) := by decide +kernel
theorem dX12_layCopy_31 : decode cX12_layCopy 31 = .ok (.iload_n 1, 1) := by decide +kernel
theorem dX12_layCopy_32 : decode cX12_layCopy 32 = .ok (.iload_n 3, 1) := by decide +kernel
theorem dX12_layCopy_33 : decode cX12_layCopy 33 = .ok (.invokevirtual 247, 3) := by decide +kernel
theorem dX12_layCopy_36 : decode cX12_layCopy 36 = .ok (.iload_n 3, 1) := by decide +kernel
theorem dX12_layCopy_37 : decode cX12_layCopy 37 = .ok (.iastore, 1) := by decide +kernel
theorem dX12_layCopy_38 : decode cX12_layCopy 38 = .ok (.iinc 3 1, 3) := by decide +kernel
theorem dX12_layCopy_41 : decode cX12_layCopy 41 = .ok (.goto (-21), 3) := by decide +kernel
theorem dX12_layCopy_44 : decode cX12_layCopy 44 = .ok (.return_, 1) := by decide +kernel
theorem dX12_layOrder_0 : decode cX12_layOrder 0 = .ok (.aload_n 0, 1) := by decide +kernel
theorem dX12_layOrder_1 : decode cX12_layOrder 1 = .ok (.iload_n 1, 1) := by decide +kernel
theorem dX12_layOrder_2 : decode cX12_layOrder 2 = .ok (.invokevirtual 257, 3) := by decide +kernel
theorem dX12_layOrder_5 : decode cX12_layOrder 5 = .ok (.iconst 0, 1) := by decide +kernel
theorem dX12_layOrder_6 : decode cX12_layOrder 6 = .ok (.istore_n 3, 1) := by decide +kernel
theorem dX12_layOrder_7 : decode cX12_layOrder 7 = .ok (.iload_n 3, 1) := by decide +kernel
theorem dX12_layOrder_8 : decode cX12_layOrder 8 = .ok (.bipush 7, 2) := by decide +kernel
theorem dX12_layOrder_10 : decode cX12_layOrder 10 = .ok (.if_icmp .ge 30, 3) := by decide +kernel
theorem dX12_layOrder_13 : decode cX12_layOrder 13 = .ok (.aload_n 2, 1) := by decide +kernel
theorem dX12_layOrder_14 : decode cX12_layOrder 14 = .ok (.iload_n 3, 1) := by decide +kernel
theorem dX12_layOrder_15 : decode cX12_layOrder 15 = .ok (.iload_n 3, 1) := by decide +kernel
theorem dX12_layOrder_16 : decode cX12_layOrder 16 = .ok (.aload_n 0, 1) := by decide +kernel
theorem dX12_layOrder_17 : decode cX12_layOrder 17 = .ok (.invokevirtual 185, 3) := by decide +kernel
theorem dX12_layOrder_20 : decode cX12_layOrder 20 = .ok (.if_icmp .ge 12, 3) := by decide +kernel
theorem dX12_layOrder_23 : decode cX12_layOrder 23 = .ok (.aload_n 0, 1) := by decide +kernel
theorem dX12_layOrder_24 : decode cX12_layOrder 24 = .ok (.getfield 39, 3) := by decide +kernel
theorem dX12_layOrder_27 : decode cX12_layOrder 27 = .ok (.iload_n 3, 1) := by decide +kernel
theorem dX12_layOrder_28 : decode cX12_layOrder 28 = .ok (.iaload, 1) := by decide +kernel
theorem dX12_layOrder_29 : decode cX12_layOrder 29 = .ok (.goto 4, 3) := by decide +kernel
theorem dX12_layOrder_32 : decode cX12_layOrder 32 = .ok (.iconst (-1), 1) := by decide +kernel
theorem dX12_layOrder_33 : decode cX12_layOrder 33 = .ok (.iastore, 1) := by decide +kernel
theorem dX12_layOrder_34 : decode cX12_layOrder 34 = .ok (.iinc 3 1, 3) := by decide +kernel
theorem dX12_layOrder_37 : decode cX12_layOrder 37 = .ok (.goto (-30), 3) := by decide +kernel
theorem dX12_layOrder_40 : decode cX12_layOrder 40 = .ok (.return_, 1) := by decide +kernel
theorem dX12_steps_0 : decode cX12_steps 0 = .ok (.iconst 0, 1) := by decide +kernel
theorem dX12_steps_1 : decode cX12_steps 1 = .ok (.istore_n 1, 1) := by decide +kernel
theorem dX12_steps_2 : decode cX12_steps 2 = .ok (.iconst 0, 1) := by decide +kernel
theorem dX12_steps_3 : decode cX12_steps 3 = .ok (.istore_n 2, 1) := by decide +kernel
theorem dX12_steps_4 : decode cX12_steps 4 = .ok (.iload_n 2, 1) := by decide +kernel
theorem dX12_steps_5 : decode cX12_steps 5 = .ok (.aload_n 0, 1) := by decide +kernel
theorem dX12_steps_6 : decode cX12_steps 6 = .ok (.invokevirtual 185, 3) := by decide +kernel
theorem dX12_steps_9 : decode cX12_steps 9 = .ok (.if_icmp .ge 111, 3) := by decide +kernel
theorem dX12_steps_12 : decode cX12_steps 12 = .ok (.aload_n 0, 1) := by decide +kernel
theorem dX12_steps_13 : decode cX12_steps 13 = .ok (.getfield 42, 3) := by decide +kernel
theorem dX12_steps_16 : decode cX12_steps 16 = .ok (.iload_n 2, 1) := by decide +kernel
theorem dX12_steps_17 : decode cX12_steps 17 = .ok (.iaload, 1) := by decide +kernel
theorem dX12_steps_18 : decode cX12_steps 18 = .ok (.iconst (-1), 1) := by decide +kernel
theorem dX12_steps_19 : decode cX12_steps 19 = .ok (.if_icmp .eq 95, 3) := by decide +kernel
theorem dX12_steps_22 : decode cX12_steps 22 = .ok (.aload_n 0, 1) := by decide +kernel
theorem dX12_steps_23 : decode cX12_steps 23 = .ok (.getfield 45, 3) := by decide +kernel
theorem dX12_steps_26 : decode cX12_steps 26 = .ok (.iload_n 2, 1) := by decide +kernel
theorem dX12_steps_27 : decode cX12_steps 27 = .ok (.iaload, 1) := by decide +kernel
theorem dX12_steps_28 : decode cX12_steps 28 = .ok (.iconst (-1), 1) := by decide +kernel
theorem dX12_steps_29 : decode cX12_steps 29 = .ok (.if_icmp .ne 6, 3) := by decide +kernel
theorem dX12_steps_32 : decode cX12_steps 32 = .ok (.goto 82, 3) := by decide +kernel
theorem dX12_steps_35 : decode cX12_steps 35 = .ok (.iconst 0, 1) := by decide +kernel
theorem dX12_steps_36 : decode cX12_steps 36 = .ok (.istore_n 3, 1) := by decide +kernel
theorem dX12_steps_37 : decode cX12_steps 37 = .ok (.iload_n 3, 1) := by decide +kernel
theorem dX12_steps_38 : decode cX12_steps 38 = .ok (.iload_n 2, 1) := by decide +kernel
theorem dX12_steps_39 : decode cX12_steps 39 = .ok (.if_icmp .ge 75, 3) := by decide +kernel
theorem dX12_steps_42 : decode cX12_steps 42 = .ok (.aload_n 0, 1) := by decide +kernel
theorem dX12_steps_43 : decode cX12_steps 43 = .ok (.getfield 42, 3) := by decide +kernel
theorem dX12_steps_46 : decode cX12_steps 46 = .ok (.iload_n 3, 1) := by decide +kernel
theorem dX12_steps_47 : decode cX12_steps 47 = .ok (.iaload, 1) := by decide +kernel
theorem dX12_steps_48 : decode cX12_steps 48 = .ok (.iconst (-1), 1) := by decide +kernel
theorem dX12_steps_49 : decode cX12_steps 49 = .ok (.if_icmp .eq 59, 3) := by decide +kernel
theorem dX12_steps_52 : decode cX12_steps 52 = .ok (.aload_n 0, 1) := by decide +kernel
theorem dX12_steps_53 : decode cX12_steps 53 = .ok (.getfield 45, 3) := by decide +kernel
theorem dX12_steps_56 : decode cX12_steps 56 = .ok (.iload_n 3, 1) := by decide +kernel
theorem dX12_steps_57 : decode cX12_steps 57 = .ok (.iaload, 1) := by decide +kernel
theorem dX12_steps_58 : decode cX12_steps 58 = .ok (.iconst (-1), 1) := by decide +kernel
theorem dX12_steps_59 : decode cX12_steps 59 = .ok (.if_icmp .eq 49, 3) := by decide +kernel
theorem dX12_steps_62 : decode cX12_steps 62 = .ok (.aload_n 0, 1) := by decide +kernel
theorem dX12_steps_63 : decode cX12_steps 63 = .ok (.getfield 42, 3) := by decide +kernel
theorem dX12_steps_66 : decode cX12_steps 66 = .ok (.iload_n 2, 1) := by decide +kernel
theorem dX12_steps_67 : decode cX12_steps 67 = .ok (.iaload, 1) := by decide +kernel
theorem dX12_steps_68 : decode cX12_steps 68 = .ok (.aload_n 0, 1) := by decide +kernel
theorem dX12_steps_69 : decode cX12_steps 69 = .ok (.getfield 42, 3) := by decide +kernel
theorem dX12_steps_72 : decode cX12_steps 72 = .ok (.iload_n 3, 1) := by decide +kernel
theorem dX12_steps_73 : decode cX12_steps 73 = .ok (.iaload, 1) := by decide +kernel
theorem dX12_steps_74 : decode cX12_steps 74 = .ok (.if_icmp .ge 7, 3) := by decide +kernel
theorem dX12_steps_77 : decode cX12_steps 77 = .ok (.iconst 1, 1) := by decide +kernel
theorem dX12_steps_78 : decode cX12_steps 78 = .ok (.goto 4, 3) := by decide +kernel
theorem dX12_steps_81 : decode cX12_steps 81 = .ok (.iconst 0, 1) := by decide +kernel
theorem dX12_steps_82 : decode cX12_steps 82 = .ok (.aload_n 0, 1) := by decide +kernel
theorem dX12_steps_83 : decode cX12_steps 83 = .ok (.getfield 45, 3) := by decide +kernel
theorem dX12_steps_86 : decode cX12_steps 86 = .ok (.iload_n 2, 1) := by decide +kernel
theorem dX12_steps_87 : decode cX12_steps 87 = .ok (.iaload, 1) := by decide +kernel
theorem dX12_steps_88 : decode cX12_steps 88 = .ok (.aload_n 0, 1) := by decide +kernel
theorem dX12_steps_89 : decode cX12_steps 89 = .ok (.getfield 45, 3) := by decide +kernel
theorem dX12_steps_92 : decode cX12_steps 92 = .ok (.iload_n 3, 1) := by decide +kernel
theorem dX12_steps_93 : decode cX12_steps 93 = .ok (.iaload, 1) := by decide +kernel
theorem dX12_steps_94 : decode cX12_steps 94 = .ok (.if_icmp .ge 7, 3) := by decide +kernel
theorem dX12_steps_97 : decode cX12_steps 97 = .ok (.iconst 1, 1) := by decide +kernel
theorem dX12_steps_98 : decode cX12_steps 98 = .ok (.goto 4, 3) := by decide +kernel
theorem dX12_steps_101 : decode cX12_steps 101 = .ok (.iconst 0, 1) := by decide +kernel
theorem dX12_steps_102 : decode cX12_steps 102 = .ok (.if_icmp .eq 6, 3) := by decide +kernel
theorem dX12_steps_105 : decode cX12_steps 105 = .ok (.iinc 1 1, 3) := by decide +kernel
theorem dX12_steps_108 : decode cX12_steps 108 = .ok (.iinc 3 1, 3) := by decide +kernel
theorem dX12_steps_111 : decode cX12_steps 111 = .ok (.goto (-74), 3) := by decide +kernel
theorem dX12_steps_114 : decode cX12_steps 114 = .ok (.iinc 2 1, 3) := by decide +kernel
theorem dX12_steps_117 : decode cX12_steps 117 = .ok (.goto (-113), 3) := by decide +kernel
theorem dX12_steps_120 : decode cX12_steps 120 = .ok (.iload_n 1, 1) := by decide +kernel
theorem dX12_steps_121 : decode cX12_steps 121 = .ok (.ireturn, 1) := by decide +kernel
theorem dX12_fallen_0 : decode cX12_fallen 0 = .ok (.iconst 0, 1) := by decide +kernel
theorem dX12_fallen_1 : decode cX12_fallen 1 = .ok (.istore_n 1, 1) := by decide +kernel
theorem dX12_fallen_2 : decode cX12_fallen 2 = .ok (.iconst 0, 1) := by decide +kernel
theorem dX12_fallen_3 : decode cX12_fallen 3 = .ok (.istore_n 2, 1) := by decide +kernel
theorem dX12_fallen_4 : decode cX12_fallen 4 = .ok (.iload_n 2, 1) := by decide +kernel
theorem dX12_fallen_5 : decode cX12_fallen 5 = .ok (.aload_n 0, 1) := by decide +kernel
theorem dX12_fallen_6 : decode cX12_fallen 6 = .ok (.invokevirtual 185, 3) := by decide +kernel
theorem dX12_fallen_9 : decode cX12_fallen 9 = .ok (.if_icmp .ge 45, 3) := by decide +kernel
theorem dX12_fallen_12 : decode cX12_fallen 12 = .ok (.aload_n 0, 1) := by decide +kernel
theorem dX12_fallen_13 : decode cX12_fallen 13 = .ok (.getfield 42, 3) := by decide +kernel
theorem dX12_fallen_16 : decode cX12_fallen 16 = .ok (.iload_n 2, 1) := by decide +kernel
theorem dX12_fallen_17 : decode cX12_fallen 17 = .ok (.iaload, 1) := by decide +kernel
theorem dX12_fallen_18 : decode cX12_fallen 18 = .ok (.iconst (-1), 1) := by decide +kernel
theorem dX12_fallen_19 : decode cX12_fallen 19 = .ok (.if_icmp .ne 7, 3) := by decide +kernel
theorem dX12_fallen_22 : decode cX12_fallen 22 = .ok (.iconst 1, 1) := by decide +kernel
theorem dX12_fallen_23 : decode cX12_fallen 23 = .ok (.goto 4, 3) := by decide +kernel
theorem dX12_fallen_26 : decode cX12_fallen 26 = .ok (.iconst 0, 1) := by decide +kernel
theorem dX12_fallen_27 : decode cX12_fallen 27 = .ok (.aload_n 0, 1) := by decide +kernel
theorem dX12_fallen_28 : decode cX12_fallen 28 = .ok (.getfield 45, 3) := by decide +kernel
theorem dX12_fallen_31 : decode cX12_fallen 31 = .ok (.iload_n 2, 1) := by decide +kernel
theorem dX12_fallen_32 : decode cX12_fallen 32 = .ok (.iaload, 1) := by decide +kernel
theorem dX12_fallen_33 : decode cX12_fallen 33 = .ok (.iconst (-1), 1) := by decide +kernel
theorem dX12_fallen_34 : decode cX12_fallen 34 = .ok (.if_icmp .ne 7, 3) := by decide +kernel
theorem dX12_fallen_37 : decode cX12_fallen 37 = .ok (.iconst 1, 1) := by decide +kernel
theorem dX12_fallen_38 : decode cX12_fallen 38 = .ok (.goto 4, 3) := by decide +kernel
theorem dX12_fallen_41 : decode cX12_fallen 41 = .ok (.iconst 0, 1) := by decide +kernel
theorem dX12_fallen_42 : decode cX12_fallen 42 = .ok (.if_icmp .eq 6, 3) := by decide +kernel
theorem dX12_fallen_45 : decode cX12_fallen 45 = .ok (.iinc 1 1, 3) := by decide +kernel
theorem dX12_fallen_48 : decode cX12_fallen 48 = .ok (.iinc 2 1, 3) := by decide +kernel
theorem dX12_fallen_51 : decode cX12_fallen 51 = .ok (.goto (-47), 3) := by decide +kernel
theorem dX12_fallen_54 : decode cX12_fallen 54 = .ok (.iload_n 1, 1) := by decide +kernel
theorem dX12_fallen_55 : decode cX12_fallen 55 = .ok (.ireturn, 1) := by decide +kernel
theorem dX12_far_0 : decode cX12_far 0 = .ok (.aload_n 0, 1) := by decide +kernel
theorem dX12_far_1 : decode cX12_far 1 = .ok (.invokevirtual 259, 3) := by decide +kernel
theorem dX12_far_4 : decode cX12_far 4 = .ok (.iconst 3, 1) := by decide +kernel
theorem dX12_far_5 : decode cX12_far 5 = .ok (.aload_n 0, 1) := by decide +kernel
theorem dX12_far_6 : decode cX12_far 6 = .ok (.invokevirtual 262, 3) := by decide +kernel
theorem dX12_far_9 : decode cX12_far 9 = .ok (.imul, 1) := by decide +kernel
theorem dX12_far_10 : decode cX12_far 10 = .ok (.iadd, 1) := by decide +kernel
theorem dX12_far_11 : decode cX12_far 11 = .ok (.ireturn, 1) := by decide +kernel
theorem dX12_layCopies_0 : decode cX12_layCopies 0 = .ok (.aload_n 0, 1) := by decide +kernel
theorem dX12_layCopies_1 : decode cX12_layCopies 1 = .ok (.iload_n 1, 1) := by decide +kernel
theorem dX12_layCopies_2 : decode cX12_layCopies 2 = .ok (.aload_n 0, 1) := by decide +kernel
theorem dX12_layCopies_3 : decode cX12_layCopies 3 = .ok (.getfield 42, 3) := by decide +kernel
theorem dX12_layCopies_6 : decode cX12_layCopies 6 = .ok (.invokevirtual 265, 3) := by decide +kernel
theorem dX12_layCopies_9 : decode cX12_layCopies 9 = .ok (.aload_n 0, 1) := by decide +kernel
theorem dX12_layCopies_10 : decode cX12_layCopies 10 = .ok (.iload_n 2, 1) := by decide +kernel
theorem dX12_layCopies_11 : decode cX12_layCopies 11 = .ok (.aload_n 0, 1) := by decide +kernel
theorem dX12_layCopies_12 : decode cX12_layCopies 12 = .ok (.getfield 45, 3) := by decide +kernel
theorem dX12_layCopies_15 : decode cX12_layCopies 15 = .ok (.invokevirtual 265, 3) := by decide +kernel
theorem dX12_layCopies_18 : decode cX12_layCopies 18 = .ok (.return_, 1) := by decide +kernel
theorem dX12_between_0 : decode cX12_between 0 = .ok (.aload_n 0, 1) := by decide +kernel
theorem dX12_between_1 : decode cX12_between 1 = .ok (.iconst 0, 1) := by decide +kernel
theorem dX12_between_2 : decode cX12_between 2 = .ok (.putfield 81, 3) := by decide +kernel
theorem dX12_between_5 : decode cX12_between 5 = .ok (.aload_n 0, 1) := by decide +kernel
theorem dX12_between_6 : decode cX12_between 6 = .ok (.invokevirtual 164, 3) := by decide +kernel
theorem dX12_between_9 : decode cX12_between 9 = .ok (.aload_n 0, 1) := by decide +kernel
theorem dX12_between_10 : decode cX12_between 10 = .ok (.iload_n 1, 1) := by decide +kernel
theorem dX12_between_11 : decode cX12_between 11 = .ok (.invokevirtual 241, 3) := by decide +kernel
theorem dX12_between_14 : decode cX12_between 14 = .ok (.ifCond .eq 20, 3) := by decide +kernel
theorem dX12_between_17 : decode cX12_between 17 = .ok (.aload_n 0, 1) := by decide +kernel
theorem dX12_between_18 : decode cX12_between 18 = .ok (.iload_n 2, 1) := by decide +kernel
theorem dX12_between_19 : decode cX12_between 19 = .ok (.invokevirtual 241, 3) := by decide +kernel
theorem dX12_between_22 : decode cX12_between 22 = .ok (.ifCond .eq 12, 3) := by decide +kernel
theorem dX12_between_25 : decode cX12_between 25 = .ok (.iload_n 3, 1) := by decide +kernel
theorem dX12_between_26 : decode cX12_between 26 = .ok (.iconst 0, 1) := by decide +kernel
theorem dX12_between_27 : decode cX12_between 27 = .ok (.iconst 2, 1) := by decide +kernel
theorem dX12_between_28 : decode cX12_between 28 = .ok (.invokestatic 151, 3) := by decide +kernel
theorem dX12_between_31 : decode cX12_between 31 = .ok (.ifCond .ne 5, 3) := by decide +kernel
theorem dX12_between_34 : decode cX12_between 34 = .ok (.iconst (-1), 1) := by decide +kernel
theorem dX12_between_35 : decode cX12_between 35 = .ok (.ireturn, 1) := by decide +kernel
theorem dX12_between_36 : decode cX12_between 36 = .ok (.aload_n 0, 1) := by decide +kernel
theorem dX12_between_37 : decode cX12_between 37 = .ok (.iload_n 1, 1) := by decide +kernel
theorem dX12_between_38 : decode cX12_between 38 = .ok (.iload_n 2, 1) := by decide +kernel
theorem dX12_between_39 : decode cX12_between 39 = .ok (.invokevirtual 269, 3) := by decide +kernel
theorem dX12_between_42 : decode cX12_between 42 = .ok (.iload_n 3, 1) := by decide +kernel
theorem dX12_between_43 : decode cX12_between 43 = .ok (.ifCond .ne 10, 3) := by decide +kernel
theorem dX12_between_46 : decode cX12_between 46 = .ok (.aload_n 0, 1) := by decide +kernel
theorem dX12_between_47 : decode cX12_between 47 = .ok (.invokevirtual 259, 3) := by decide +kernel
theorem dX12_between_50 : decode cX12_between 50 = .ok (.goto 19, 3) := by decide +kernel
theorem dX12_between_53 : decode cX12_between 53 = .ok (.iload_n 3, 1) := by decide +kernel
theorem dX12_between_54 : decode cX12_between 54 = .ok (.iconst 1, 1) := by decide +kernel
theorem dX12_between_55 : decode cX12_between 55 = .ok (.if_icmp .ne 10, 3) := by decide +kernel
theorem dX12_between_58 : decode cX12_between 58 = .ok (.aload_n 0, 1) := by decide +kernel
theorem dX12_between_59 : decode cX12_between 59 = .ok (.invokevirtual 262, 3) := by decide +kernel
theorem dX12_between_62 : decode cX12_between 62 = .ok (.goto 7, 3) := by decide +kernel
theorem dX12_between_65 : decode cX12_between 65 = .ok (.aload_n 0, 1) := by decide +kernel
theorem dX12_between_66 : decode cX12_between 66 = .ok (.invokevirtual 273, 3) := by decide +kernel
theorem dX12_between_69 : decode cX12_between 69 = .ok (.ireturn, 1) := by decide +kernel
theorem dX12_mayMake_0 : decode cX12_mayMake 0 = .ok (.aload_n 0, 1) := by decide +kernel
theorem dX12_mayMake_1 : decode cX12_mayMake 1 = .ok (.iload_n 1, 1) := by decide +kernel
theorem dX12_mayMake_2 : decode cX12_mayMake 2 = .ok (.iload_n 2, 1) := by decide +kernel
theorem dX12_mayMake_3 : decode cX12_mayMake 3 = .ok (.invokevirtual 269, 3) := by decide +kernel
theorem dX12_mayMake_6 : decode cX12_mayMake 6 = .ok (.aload_n 0, 1) := by decide +kernel
theorem dX12_mayMake_7 : decode cX12_mayMake 7 = .ok (.getfield 13, 3) := by decide +kernel
theorem dX12_mayMake_10 : decode cX12_mayMake 10 = .ok (.bipush 90, 2) := by decide +kernel
theorem dX12_mayMake_12 : decode cX12_mayMake 12 = .ok (.iconst 2, 1) := by decide +kernel
theorem dX12_mayMake_13 : decode cX12_mayMake 13 = .ok (.iload_n 3, 1) := by decide +kernel
theorem dX12_mayMake_14 : decode cX12_mayMake 14 = .ok (.imul, 1) := by decide +kernel
theorem dX12_mayMake_15 : decode cX12_mayMake 15 = .ok (.iadd, 1) := by decide +kernel
theorem dX12_mayMake_16 : decode cX12_mayMake 16 = .ok (.iaload, 1) := by decide +kernel
theorem dX12_mayMake_17 : decode cX12_mayMake 17 = .ok (.istore 4, 2) := by decide +kernel
theorem dX12_mayMake_19 : decode cX12_mayMake 19 = .ok (.iload 4, 2) := by decide +kernel
theorem dX12_mayMake_21 : decode cX12_mayMake 21 = .ok (.iconst 2, 1) := by decide +kernel
theorem dX12_mayMake_22 : decode cX12_mayMake 22 = .ok (.if_icmp .eq 52, 3) := by decide +kernel
theorem dX12_mayMake_25 : decode cX12_mayMake 25 = .ok (.aload_n 0, 1) := by decide +kernel
theorem dX12_mayMake_26 : decode cX12_mayMake 26 = .ok (.invokevirtual 262, 3) := by decide +kernel
theorem dX12_mayMake_29 : decode cX12_mayMake 29 = .ok (.ifCond .ne 43, 3) := by decide +kernel
theorem dX12_mayMake_32 : decode cX12_mayMake 32 = .ok (.iload 4, 2) := by decide +kernel
theorem dX12_mayMake_34 : decode cX12_mayMake 34 = .ok (.ifCond .ne 14, 3) := by decide +kernel
theorem dX12_mayMake_37 : decode cX12_mayMake 37 = .ok (.aload_n 0, 1) := by decide +kernel
theorem dX12_mayMake_38 : decode cX12_mayMake 38 = .ok (.invokevirtual 259, 3) := by decide +kernel
theorem dX12_mayMake_41 : decode cX12_mayMake 41 = .ok (.iconst 1, 1) := by decide +kernel
theorem dX12_mayMake_42 : decode cX12_mayMake 42 = .ok (.if_icmp .ne 30, 3) := by decide +kernel
theorem dX12_mayMake_45 : decode cX12_mayMake 45 = .ok (.goto 23, 3) := by decide +kernel
theorem dX12_mayMake_48 : decode cX12_mayMake 48 = .ok (.aload_n 0, 1) := by decide +kernel
theorem dX12_mayMake_49 : decode cX12_mayMake 49 = .ok (.invokevirtual 259, 3) := by decide +kernel
theorem dX12_mayMake_52 : decode cX12_mayMake 52 = .ok (.aload_n 0, 1) := by decide +kernel
theorem dX12_mayMake_53 : decode cX12_mayMake 53 = .ok (.getfield 13, 3) := by decide +kernel
theorem dX12_mayMake_56 : decode cX12_mayMake 56 = .ok (.bipush 90, 2) := by decide +kernel
theorem dX12_mayMake_58 : decode cX12_mayMake 58 = .ok (.iconst 2, 1) := by decide +kernel
theorem dX12_mayMake_59 : decode cX12_mayMake 59 = .ok (.iload_n 3, 1) := by decide +kernel
theorem dX12_mayMake_60 : decode cX12_mayMake 60 = .ok (.imul, 1) := by decide +kernel
theorem dX12_mayMake_61 : decode cX12_mayMake 61 = .ok (.iadd, 1) := by decide +kernel
theorem dX12_mayMake_62 : decode cX12_mayMake 62 = .ok (.iconst 1, 1) := by decide +kernel
theorem dX12_mayMake_63 : decode cX12_mayMake 63 = .ok (.iadd, 1) := by decide +kernel
theorem dX12_mayMake_64 : decode cX12_mayMake 64 = .ok (.iaload, 1) := by decide +kernel
theorem dX12_mayMake_65 : decode cX12_mayMake 65 = .ok (.if_icmp .gt 7, 3) := by decide +kernel
theorem dX12_mayMake_68 : decode cX12_mayMake 68 = .ok (.iconst 1, 1) := by decide +kernel
theorem dX12_mayMake_69 : decode cX12_mayMake 69 = .ok (.goto 4, 3) := by decide +kernel
theorem dX12_mayMake_72 : decode cX12_mayMake 72 = .ok (.iconst 0, 1) := by decide +kernel
theorem dX12_mayMake_73 : decode cX12_mayMake 73 = .ok (.ireturn, 1) := by decide +kernel
theorem dX12_mayMake_74 : decode cX12_mayMake 74 = .ok (.aload_n 0, 1) := by decide +kernel
theorem dX12_mayMake_75 : decode cX12_mayMake 75 = .ok (.iload_n 2, 1) := by decide +kernel
theorem dX12_mayMake_76 : decode cX12_mayMake 76 = .ok (.invokevirtual 182, 3) := by decide +kernel
theorem dX12_mayMake_79 : decode cX12_mayMake 79 = .ok (.aload_n 0, 1) := by decide +kernel
theorem dX12_mayMake_80 : decode cX12_mayMake 80 = .ok (.iload_n 1, 1) := by decide +kernel
theorem dX12_mayMake_81 : decode cX12_mayMake 81 = .ok (.invokevirtual 182, 3) := by decide +kernel
theorem dX12_mayMake_84 : decode cX12_mayMake 84 = .ok (.iconst 1, 1) := by decide +kernel
theorem dX12_mayMake_85 : decode cX12_mayMake 85 = .ok (.isub, 1) := by decide +kernel
theorem dX12_mayMake_86 : decode cX12_mayMake 86 = .ok (.if_icmp .ne 22, 3) := by decide +kernel
theorem dX12_mayMake_89 : decode cX12_mayMake 89 = .ok (.aload_n 0, 1) := by decide +kernel
theorem dX12_mayMake_90 : decode cX12_mayMake 90 = .ok (.invokevirtual 262, 3) := by decide +kernel
theorem dX12_mayMake_93 : decode cX12_mayMake 93 = .ok (.iconst 1, 1) := by decide +kernel
theorem dX12_mayMake_94 : decode cX12_mayMake 94 = .ok (.if_icmp .ne 14, 3) := by decide +kernel
theorem dX12_mayMake_97 : decode cX12_mayMake 97 = .ok (.aload_n 0, 1) := by decide +kernel
theorem dX12_mayMake_98 : decode cX12_mayMake 98 = .ok (.invokevirtual 259, 3) := by decide +kernel
theorem dX12_mayMake_101 : decode cX12_mayMake 101 = .ok (.ifCond .ne 7, 3) := by decide +kernel
theorem dX12_mayMake_104 : decode cX12_mayMake 104 = .ok (.iconst 1, 1) := by decide +kernel
theorem dX12_mayMake_105 : decode cX12_mayMake 105 = .ok (.goto 4, 3) := by decide +kernel
theorem dX12_mayMake_108 : decode cX12_mayMake 108 = .ok (.iconst 0, 1) := by decide +kernel
theorem dX12_mayMake_109 : decode cX12_mayMake 109 = .ok (.ireturn, 1) := by decide +kernel
theorem dX12_isDesk_0 : decode cX12_isDesk 0 = .ok (.iload_n 1, 1) := by decide +kernel
theorem dX12_isDesk_1 : decode cX12_isDesk 1 = .ok (.ifCond .lt 17, 3) := by decide +kernel
theorem dX12_isDesk_4 : decode cX12_isDesk 4 = .ok (.iload_n 1, 1) := by decide +kernel
theorem dX12_isDesk_5 : decode cX12_isDesk 5 = .ok (.aload_n 0, 1) := by decide +kernel
theorem dX12_isDesk_6 : decode cX12_isDesk 6 = .ok (.getfield 13, 3) := by decide +kernel
theorem dX12_isDesk_9 : decode cX12_isDesk 9 = .ok (.iconst 2, 1) := by decide +kernel
theorem dX12_isDesk_10 : decode cX12_isDesk 10 = .ok (.iaload, 1) := by decide +kernel
theorem dX12_isDesk_11 : decode cX12_isDesk 11 = .ok (.if_icmp .ge 7, 3) := by decide +kernel
theorem dX12_isDesk_14 : decode cX12_isDesk 14 = .ok (.iconst 1, 1) := by decide +kernel
theorem dX12_isDesk_15 : decode cX12_isDesk 15 = .ok (.goto 4, 3) := by decide +kernel
theorem dX12_isDesk_18 : decode cX12_isDesk 18 = .ok (.iconst 0, 1) := by decide +kernel
theorem dX12_isDesk_19 : decode cX12_isDesk 19 = .ok (.ireturn, 1) := by decide +kernel
theorem dX12_made_0 : decode cX12_made 0 = .ok (.aload_n 0, 1) := by decide +kernel
theorem dX12_made_1 : decode cX12_made 1 = .ok (.iconst 0, 1) := by decide +kernel
theorem dX12_made_2 : decode cX12_made 2 = .ok (.putfield 81, 3) := by decide +kernel
theorem dX12_made_5 : decode cX12_made 5 = .ok (.aload_n 0, 1) := by decide +kernel
theorem dX12_made_6 : decode cX12_made 6 = .ok (.invokevirtual 164, 3) := by decide +kernel
theorem dX12_made_9 : decode cX12_made 9 = .ok (.aload_n 0, 1) := by decide +kernel
theorem dX12_made_10 : decode cX12_made 10 = .ok (.iload_n 1, 1) := by decide +kernel
theorem dX12_made_11 : decode cX12_made 11 = .ok (.invokevirtual 241, 3) := by decide +kernel
theorem dX12_made_14 : decode cX12_made 14 = .ok (.ifCond .eq 11, 3) := by decide +kernel
theorem dX12_made_17 : decode cX12_made 17 = .ok (.aload_n 0, 1) := by decide +kernel
theorem dX12_made_18 : decode cX12_made 18 = .ok (.iload_n 2, 1) := by decide +kernel
theorem dX12_made_19 : decode cX12_made 19 = .ok (.invokevirtual 241, 3) := by decide +kernel
theorem dX12_made_22 : decode cX12_made 22 = .ok (.ifCond .ne 5, 3) := by decide +kernel
theorem dX12_made_25 : decode cX12_made 25 = .ok (.iconst (-1), 1) := by decide +kernel
theorem dX12_made_26 : decode cX12_made 26 = .ok (.ireturn, 1) := by decide +kernel
theorem dX12_made_27 : decode cX12_made 27 = .ok (.iconst 0, 1) := by decide +kernel
theorem dX12_made_28 : decode cX12_made 28 = .ok (.istore_n 3, 1) := by decide +kernel
theorem dX12_made_29 : decode cX12_made 29 = .ok (.iconst 0, 1) := by decide +kernel
theorem dX12_made_30 : decode cX12_made 30 = .ok (.istore 4, 2) := by decide +kernel
theorem dX12_made_32 : decode cX12_made 32 = .ok (.iload 4, 2) := by decide +kernel
theorem dX12_made_34 : decode cX12_made 34 = .ok (.aload_n 0, 1) := by decide +kernel
theorem dX12_made_35 : decode cX12_made 35 = .ok (.getfield 13, 3) := by decide +kernel
theorem dX12_made_38 : decode cX12_made 38 = .ok (.iconst 2, 1) := by decide +kernel
theorem dX12_made_39 : decode cX12_made 39 = .ok (.iaload, 1) := by decide +kernel
theorem dX12_made_40 : decode cX12_made 40 = .ok (.if_icmp .ge 27, 3) := by decide +kernel
theorem dX12_made_43 : decode cX12_made 43 = .ok (.aload_n 0, 1) := by decide +kernel
theorem dX12_made_44 : decode cX12_made 44 = .ok (.iload_n 1, 1) := by decide +kernel
theorem dX12_made_45 : decode cX12_made 45 = .ok (.iload_n 2, 1) := by decide +kernel
theorem dX12_made_46 : decode cX12_made 46 = .ok (.iload 4, 2) := by decide +kernel
theorem dX12_made_48 : decode cX12_made 48 = .ok (.invokevirtual 276, 3) := by decide +kernel
theorem dX12_made_51 : decode cX12_made 51 = .ok (.ifCond .eq 10, 3) := by decide +kernel
theorem dX12_made_54 : decode cX12_made 54 = .ok (.iload_n 3, 1) := by decide +kernel
theorem dX12_made_55 : decode cX12_made 55 = .ok (.iconst 1, 1) := by decide +kernel
theorem dX12_made_56 : decode cX12_made 56 = .ok (.iload 4, 2) := by decide +kernel
theorem dX12_made_58 : decode cX12_made 58 = .ok (.ishl, 1) := by decide +kernel
theorem dX12_made_59 : decode cX12_made 59 = .ok (.ior, 1) := by decide +kernel
theorem dX12_made_60 : decode cX12_made 60 = .ok (.istore_n 3, 1) := by decide +kernel
theorem dX12_made_61 : decode cX12_made 61 = .ok (.iinc 4 1, 3) := by decide +kernel
theorem dX12_made_64 : decode cX12_made 64 = .ok (.goto (-32), 3) := by decide +kernel
theorem dX12_made_67 : decode cX12_made 67 = .ok (.iload_n 3, 1) := by decide +kernel
theorem dX12_made_68 : decode cX12_made 68 = .ok (.ireturn, 1) := by decide +kernel
theorem dX12_areWhole_0 : decode cX12_areWhole 0 = .ok (.aload_n 0, 1) := by decide +kernel
theorem dX12_areWhole_1 : decode cX12_areWhole 1 = .ok (.iload_n 1, 1) := by decide +kernel
theorem dX12_areWhole_2 : decode cX12_areWhole 2 = .ok (.invokevirtual 241, 3) := by decide +kernel
theorem dX12_areWhole_5 : decode cX12_areWhole 5 = .ok (.ifCond .eq 31, 3) := by decide +kernel
theorem dX12_areWhole_8 : decode cX12_areWhole 8 = .ok (.aload_n 0, 1) := by decide +kernel
theorem dX12_areWhole_9 : decode cX12_areWhole 9 = .ok (.iload_n 2, 1) := by decide +kernel
theorem dX12_areWhole_10 : decode cX12_areWhole 10 = .ok (.invokevirtual 241, 3) := by decide +kernel
theorem dX12_areWhole_13 : decode cX12_areWhole 13 = .ok (.ifCond .eq 23, 3) := by decide +kernel
theorem dX12_areWhole_16 : decode cX12_areWhole 16 = .ok (.aload_n 0, 1) := by decide +kernel
theorem dX12_areWhole_17 : decode cX12_areWhole 17 = .ok (.iload_n 1, 1) := by decide +kernel
theorem dX12_areWhole_18 : decode cX12_areWhole 18 = .ok (.invokevirtual 279, 3) := by decide +kernel
theorem dX12_areWhole_21 : decode cX12_areWhole 21 = .ok (.ifCond .eq 15, 3) := by decide +kernel
theorem dX12_areWhole_24 : decode cX12_areWhole 24 = .ok (.aload_n 0, 1) := by decide +kernel
theorem dX12_areWhole_25 : decode cX12_areWhole 25 = .ok (.iload_n 2, 1) := by decide +kernel
theorem dX12_areWhole_26 : decode cX12_areWhole 26 = .ok (.invokevirtual 279, 3) := by decide +kernel
theorem dX12_areWhole_29 : decode cX12_areWhole 29 = .ok (.ifCond .eq 7, 3) := by decide +kernel
theorem dX12_areWhole_32 : decode cX12_areWhole 32 = .ok (.iconst 1, 1) := by decide +kernel
theorem dX12_areWhole_33 : decode cX12_areWhole 33 = .ok (.goto 4, 3) := by decide +kernel
theorem dX12_areWhole_36 : decode cX12_areWhole 36 = .ok (.iconst 0, 1) := by decide +kernel
theorem dX12_areWhole_37 : decode cX12_areWhole 37 = .ok (.ireturn, 1) := by decide +kernel
theorem dX12_fewestOf_0 : decode cX12_fewestOf 0 = .ok (.aload_n 0, 1) := by decide +kernel
theorem dX12_fewestOf_1 : decode cX12_fewestOf 1 = .ok (.iload_n 1, 1) := by decide +kernel
theorem dX12_fewestOf_2 : decode cX12_fewestOf 2 = .ok (.iload_n 2, 1) := by decide +kernel
theorem dX12_fewestOf_3 : decode cX12_fewestOf 3 = .ok (.invokevirtual 269, 3) := by decide +kernel
theorem dX12_fewestOf_6 : decode cX12_fewestOf 6 = .ok (.aload_n 0, 1) := by decide +kernel
theorem dX12_fewestOf_7 : decode cX12_fewestOf 7 = .ok (.invokevirtual 259, 3) := by decide +kernel
theorem dX12_fewestOf_10 : decode cX12_fewestOf 10 = .ok (.istore 4, 2) := by decide +kernel
theorem dX12_fewestOf_12 : decode cX12_fewestOf 12 = .ok (.aload_n 0, 1) := by decide +kernel
theorem dX12_fewestOf_13 : decode cX12_fewestOf 13 = .ok (.getfield 13, 3) := by decide +kernel
theorem dX12_fewestOf_16 : decode cX12_fewestOf 16 = .ok (.bipush 90, 2) := by decide +kernel
theorem dX12_fewestOf_18 : decode cX12_fewestOf 18 = .ok (.iconst 2, 1) := by decide +kernel
theorem dX12_fewestOf_19 : decode cX12_fewestOf 19 = .ok (.iload_n 3, 1) := by decide +kernel
theorem dX12_fewestOf_20 : decode cX12_fewestOf 20 = .ok (.imul, 1) := by decide +kernel
theorem dX12_fewestOf_21 : decode cX12_fewestOf 21 = .ok (.iadd, 1) := by decide +kernel
theorem dX12_fewestOf_22 : decode cX12_fewestOf 22 = .ok (.iaload, 1) := by decide +kernel
theorem dX12_fewestOf_23 : decode cX12_fewestOf 23 = .ok (.istore 5, 2) := by decide +kernel
theorem dX12_fewestOf_25 : decode cX12_fewestOf 25 = .ok (.aload_n 0, 1) := by decide +kernel
theorem dX12_fewestOf_26 : decode cX12_fewestOf 26 = .ok (.getfield 13, 3) := by decide +kernel
theorem dX12_fewestOf_29 : decode cX12_fewestOf 29 = .ok (.bipush 90, 2) := by decide +kernel
theorem dX12_fewestOf_31 : decode cX12_fewestOf 31 = .ok (.iconst 2, 1) := by decide +kernel
theorem dX12_fewestOf_32 : decode cX12_fewestOf 32 = .ok (.iload_n 3, 1) := by decide +kernel
theorem dX12_fewestOf_33 : decode cX12_fewestOf 33 = .ok (.imul, 1) := by decide +kernel
theorem dX12_fewestOf_34 : decode cX12_fewestOf 34 = .ok (.iadd, 1) := by decide +kernel
theorem dX12_fewestOf_35 : decode cX12_fewestOf 35 = .ok (.iconst 1, 1) := by decide +kernel
theorem dX12_fewestOf_36 : decode cX12_fewestOf 36 = .ok (.iadd, 1) := by decide +kernel
theorem dX12_fewestOf_37 : decode cX12_fewestOf 37 = .ok (.iaload, 1) := by decide +kernel
theorem dX12_fewestOf_38 : decode cX12_fewestOf 38 = .ok (.istore 6, 2) := by decide +kernel
theorem dX12_fewestOf_40 : decode cX12_fewestOf 40 = .ok (.iload 5, 2) := by decide +kernel
theorem dX12_fewestOf_42 : decode cX12_fewestOf 42 = .ok (.ifCond .ne 8, 3) := by decide +kernel
theorem dX12_fewestOf_45 : decode cX12_fewestOf 45 = .ok (.iload 4, 2) := by decide +kernel
theorem dX12_fewestOf_47 : decode cX12_fewestOf 47 = .ok (.goto 32, 3) := by decide +kernel
theorem dX12_fewestOf_50 : decode cX12_fewestOf 50 = .ok (.iload 5, 2) := by decide +kernel
theorem dX12_fewestOf_52 : decode cX12_fewestOf 52 = .ok (.iconst 1, 1) := by decide +kernel
theorem dX12_fewestOf_53 : decode cX12_fewestOf 53 = .ok (.if_icmp .ne 16, 3) := by decide +kernel
theorem dX12_fewestOf_56 : decode cX12_fewestOf 56 = .ok (.iload 4, 2) := by decide +kernel
theorem dX12_fewestOf_58 : decode cX12_fewestOf 58 = .ok (.iload 6, 2) := by decide +kernel
theorem dX12_fewestOf_60 : decode cX12_fewestOf 60 = .ok (.iadd, 1) := by decide +kernel
theorem dX12_fewestOf_61 : decode cX12_fewestOf 61 = .ok (.iconst 1, 1) := by decide +kernel
theorem dX12_fewestOf_62 : decode cX12_fewestOf 62 = .ok (.isub, 1) := by decide +kernel
theorem dX12_fewestOf_63 : decode cX12_fewestOf 63 = .ok (.iload 6, 2) := by decide +kernel
theorem dX12_fewestOf_65 : decode cX12_fewestOf 65 = .ok (.idiv, 1) := by decide +kernel
theorem dX12_fewestOf_66 : decode cX12_fewestOf 66 = .ok (.goto 13, 3) := by decide +kernel
theorem dX12_fewestOf_69 : decode cX12_fewestOf 69 = .ok (.iload 4, 2) := by decide +kernel
theorem dX12_fewestOf_71 : decode cX12_fewestOf 71 = .ok (.ifCond .ne 7, 3) := by decide +kernel
theorem dX12_fewestOf_74 : decode cX12_fewestOf 74 = .ok (.iconst 0, 1) := by decide +kernel
theorem dX12_fewestOf_75 : decode cX12_fewestOf 75 = .ok (.goto 4, 3) := by decide +kernel
theorem dX12_fewestOf_78 : decode cX12_fewestOf 78 = .ok (.iconst (-1), 1) := by decide +kernel
theorem dX12_fewestOf_79 : decode cX12_fewestOf 79 = .ok (.ireturn, 1) := by decide +kernel
theorem dX12_fewest_0 : decode cX12_fewest 0 = .ok (.aload_n 0, 1) := by decide +kernel
theorem dX12_fewest_1 : decode cX12_fewest 1 = .ok (.iconst 0, 1) := by decide +kernel
theorem dX12_fewest_2 : decode cX12_fewest 2 = .ok (.putfield 81, 3) := by decide +kernel
theorem dX12_fewest_5 : decode cX12_fewest 5 = .ok (.aload_n 0, 1) := by decide +kernel
theorem dX12_fewest_6 : decode cX12_fewest 6 = .ok (.invokevirtual 164, 3) := by decide +kernel
theorem dX12_fewest_9 : decode cX12_fewest 9 = .ok (.aload_n 0, 1) := by decide +kernel
theorem dX12_fewest_10 : decode cX12_fewest 10 = .ok (.iload_n 1, 1) := by decide +kernel
theorem dX12_fewest_11 : decode cX12_fewest 11 = .ok (.iload_n 2, 1) := by decide +kernel
theorem dX12_fewest_12 : decode cX12_fewest 12 = .ok (.invokevirtual 282, 3) := by decide +kernel
theorem dX12_fewest_15 : decode cX12_fewest 15 = .ok (.ifCond .eq 21, 3) := by decide +kernel
theorem dX12_fewest_18 : decode cX12_fewest 18 = .ok (.aload_n 0, 1) := by decide +kernel
theorem dX12_fewest_19 : decode cX12_fewest 19 = .ok (.iload_n 3, 1) := by decide +kernel
theorem dX12_fewest_20 : decode cX12_fewest 20 = .ok (.invokevirtual 285, 3) := by decide +kernel
theorem dX12_fewest_23 : decode cX12_fewest 23 = .ok (.ifCond .eq 13, 3) := by decide +kernel
theorem dX12_fewest_26 : decode cX12_fewest 26 = .ok (.aload_n 0, 1) := by decide +kernel
theorem dX12_fewest_27 : decode cX12_fewest 27 = .ok (.iload_n 1, 1) := by decide +kernel
theorem dX12_fewest_28 : decode cX12_fewest 28 = .ok (.iload_n 2, 1) := by decide +kernel
theorem dX12_fewest_29 : decode cX12_fewest 29 = .ok (.iload_n 3, 1) := by decide +kernel
theorem dX12_fewest_30 : decode cX12_fewest 30 = .ok (.invokevirtual 288, 3) := by decide +kernel
theorem dX12_fewest_33 : decode cX12_fewest 33 = .ok (.goto 4, 3) := by decide +kernel
theorem dX12_fewest_36 : decode cX12_fewest 36 = .ok (.iconst (-1), 1) := by decide +kernel
theorem dX12_fewest_37 : decode cX12_fewest 37 = .ok (.ireturn, 1) := by decide +kernel
theorem dX12_just_0 : decode cX12_just 0 = .ok (.aload_n 0, 1) := by decide +kernel
theorem dX12_just_1 : decode cX12_just 1 = .ok (.iconst 0, 1) := by decide +kernel
theorem dX12_just_2 : decode cX12_just 2 = .ok (.putfield 81, 3) := by decide +kernel
theorem dX12_just_5 : decode cX12_just 5 = .ok (.aload_n 0, 1) := by decide +kernel
theorem dX12_just_6 : decode cX12_just 6 = .ok (.invokevirtual 164, 3) := by decide +kernel
theorem dX12_just_9 : decode cX12_just 9 = .ok (.aload_n 0, 1) := by decide +kernel
theorem dX12_just_10 : decode cX12_just 10 = .ok (.iload_n 1, 1) := by decide +kernel
theorem dX12_just_11 : decode cX12_just 11 = .ok (.iload_n 2, 1) := by decide +kernel
theorem dX12_just_12 : decode cX12_just 12 = .ok (.invokevirtual 282, 3) := by decide +kernel
theorem dX12_just_15 : decode cX12_just 15 = .ok (.ifCond .eq 16, 3) := by decide +kernel
theorem dX12_just_18 : decode cX12_just 18 = .ok (.aload_n 0, 1) := by decide +kernel
theorem dX12_just_19 : decode cX12_just 19 = .ok (.iload_n 3, 1) := by decide +kernel
theorem dX12_just_20 : decode cX12_just 20 = .ok (.invokevirtual 285, 3) := by decide +kernel
theorem dX12_just_23 : decode cX12_just 23 = .ok (.ifCond .eq 8, 3) := by decide +kernel
theorem dX12_just_26 : decode cX12_just 26 = .ok (.iload 4, 2) := by decide +kernel
theorem dX12_just_28 : decode cX12_just 28 = .ok (.ifCond .ge 5, 3) := by decide +kernel
theorem dX12_just_31 : decode cX12_just 31 = .ok (.iconst (-1), 1) := by decide +kernel
theorem dX12_just_32 : decode cX12_just 32 = .ok (.ireturn, 1) := by decide +kernel
theorem dX12_just_33 : decode cX12_just 33 = .ok (.aload_n 0, 1) := by decide +kernel
theorem dX12_just_34 : decode cX12_just 34 = .ok (.iload_n 1, 1) := by decide +kernel
theorem dX12_just_35 : decode cX12_just 35 = .ok (.iload_n 2, 1) := by decide +kernel
theorem dX12_just_36 : decode cX12_just 36 = .ok (.iload_n 3, 1) := by decide +kernel
theorem dX12_just_37 : decode cX12_just 37 = .ok (.invokevirtual 288, 3) := by decide +kernel
theorem dX12_just_40 : decode cX12_just 40 = .ok (.istore 5, 2) := by decide +kernel
theorem dX12_just_42 : decode cX12_just 42 = .ok (.aload_n 0, 1) := by decide +kernel
theorem dX12_just_43 : decode cX12_just 43 = .ok (.getfield 13, 3) := by decide +kernel
theorem dX12_just_46 : decode cX12_just 46 = .ok (.bipush 90, 2) := by decide +kernel
theorem dX12_just_48 : decode cX12_just 48 = .ok (.iconst 2, 1) := by decide +kernel
theorem dX12_just_49 : decode cX12_just 49 = .ok (.iload_n 3, 1) := by decide +kernel
theorem dX12_just_50 : decode cX12_just 50 = .ok (.imul, 1) := by decide +kernel
theorem dX12_just_51 : decode cX12_just 51 = .ok (.iadd, 1) := by decide +kernel
theorem dX12_just_52 : decode cX12_just 52 = .ok (.iaload, 1) := by decide +kernel
theorem dX12_just_53 : decode cX12_just 53 = .ok (.istore 6, 2) := by decide +kernel
theorem dX12_just_55 : decode cX12_just 55 = .ok (.iload 6, 2) := by decide +kernel
theorem dX12_just_57 : decode cX12_just 57 = .ok (.ifCond .ne 28, 3) := by decide +kernel
theorem dX12_just_60 : decode cX12_just 60 = .ok (.iload 4, 2) := by decide +kernel
theorem dX12_just_62 : decode cX12_just 62 = .ok (.iload 5, 2) := by decide +kernel
theorem dX12_just_64 : decode cX12_just 64 = .ok (.if_icmp .lt 17, 3) := by decide +kernel
theorem dX12_just_67 : decode cX12_just 67 = .ok (.iload 4, 2) := by decide +kernel
theorem dX12_just_69 : decode cX12_just 69 = .ok (.iload 5, 2) := by decide +kernel
theorem dX12_just_71 : decode cX12_just 71 = .ok (.isub, 1) := by decide +kernel
theorem dX12_just_72 : decode cX12_just 72 = .ok (.iconst 2, 1) := by decide +kernel
theorem dX12_just_73 : decode cX12_just 73 = .ok (.irem, 1) := by decide +kernel
theorem dX12_just_74 : decode cX12_just 74 = .ok (.ifCond .ne 7, 3) := by decide +kernel
theorem dX12_just_77 : decode cX12_just 77 = .ok (.iconst 1, 1) := by decide +kernel
theorem dX12_just_78 : decode cX12_just 78 = .ok (.goto 43, 3) := by decide +kernel
theorem dX12_just_81 : decode cX12_just 81 = .ok (.iconst 0, 1) := by decide +kernel
theorem dX12_just_82 : decode cX12_just 82 = .ok (.goto 39, 3) := by decide +kernel
theorem dX12_just_85 : decode cX12_just 85 = .ok (.iload 6, 2) := by decide +kernel
theorem dX12_just_87 : decode cX12_just 87 = .ok (.iconst 1, 1) := by decide +kernel
theorem dX12_just_88 : decode cX12_just 88 = .ok (.if_icmp .ne 18, 3) := by decide +kernel
theorem dX12_just_91 : decode cX12_just 91 = .ok (.iload 4, 2) := by decide +kernel
theorem dX12_just_93 : decode cX12_just 93 = .ok (.iload 5, 2) := by decide +kernel
theorem dX12_just_95 : decode cX12_just 95 = .ok (.if_icmp .lt 7, 3) := by decide +kernel
theorem dX12_just_98 : decode cX12_just 98 = .ok (.iconst 1, 1) := by decide +kernel
theorem dX12_just_99 : decode cX12_just 99 = .ok (.goto 22, 3) := by decide +kernel
theorem dX12_just_102 : decode cX12_just 102 = .ok (.iconst 0, 1) := by decide +kernel
theorem dX12_just_103 : decode cX12_just 103 = .ok (.goto 18, 3) := by decide +kernel
theorem dX12_just_106 : decode cX12_just 106 = .ok (.iload 4, 2) := by decide +kernel
theorem dX12_just_108 : decode cX12_just 108 = .ok (.ifCond .ne 12, 3) := by decide +kernel
theorem dX12_just_111 : decode cX12_just 111 = .ok (.iload 5, 2) := by decide +kernel
theorem dX12_just_113 : decode cX12_just 113 = .ok (.ifCond .ne 7, 3) := by decide +kernel
theorem dX12_just_116 : decode cX12_just 116 = .ok (.iconst 1, 1) := by decide +kernel
theorem dX12_just_117 : decode cX12_just 117 = .ok (.goto 4, 3) := by decide +kernel
theorem dX12_just_120 : decode cX12_just 120 = .ok (.iconst 0, 1) := by decide +kernel
theorem dX12_just_121 : decode cX12_just 121 = .ok (.istore 7, 2) := by decide +kernel
theorem dX12_just_123 : decode cX12_just 123 = .ok (.iload 7, 2) := by decide +kernel
theorem dX12_just_125 : decode cX12_just 125 = .ok (.ifCond .eq 7, 3) := by decide +kernel
theorem dX12_just_128 : decode cX12_just 128 = .ok (.iconst 1, 1) := by decide +kernel
theorem dX12_just_129 : decode cX12_just 129 = .ok (.goto 4, 3) := by decide +kernel
theorem dX12_just_132 : decode cX12_just 132 = .ok (.iconst 0, 1) := by decide +kernel
theorem dX12_just_133 : decode cX12_just 133 = .ok (.ireturn, 1) := by decide +kernel
theorem dX12_judge_0 : decode cX12_judge 0 = .ok (.aload_n 0, 1) := by decide +kernel
theorem dX12_judge_1 : decode cX12_judge 1 = .ok (.iconst 0, 1) := by decide +kernel
theorem dX12_judge_2 : decode cX12_judge 2 = .ok (.putfield 81, 3) := by decide +kernel
theorem dX12_judge_5 : decode cX12_judge 5 = .ok (.aload_n 0, 1) := by decide +kernel
theorem dX12_judge_6 : decode cX12_judge 6 = .ok (.invokevirtual 164, 3) := by decide +kernel
theorem dX12_judge_9 : decode cX12_judge 9 = .ok (.aload_n 0, 1) := by decide +kernel
theorem dX12_judge_10 : decode cX12_judge 10 = .ok (.invokevirtual 167, 3) := by decide +kernel
theorem dX12_judge_13 : decode cX12_judge 13 = .ok (.istore_n 2, 1) := by decide +kernel
theorem dX12_judge_14 : decode cX12_judge 14 = .ok (.iload_n 2, 1) := by decide +kernel
theorem dX12_judge_15 : decode cX12_judge 15 = .ok (.iconst 2, 1) := by decide +kernel
theorem dX12_judge_16 : decode cX12_judge 16 = .ok (.if_icmp .lt 11, 3) := by decide +kernel
theorem dX12_judge_19 : decode cX12_judge 19 = .ok (.aload_n 0, 1) := by decide +kernel
theorem dX12_judge_20 : decode cX12_judge 20 = .ok (.iload_n 1, 1) := by decide +kernel
theorem dX12_judge_21 : decode cX12_judge 21 = .ok (.invokevirtual 285, 3) := by decide +kernel
theorem dX12_judge_24 : decode cX12_judge 24 = .ok (.ifCond .ne 5, 3) := by decide +kernel
theorem dX12_judge_27 : decode cX12_judge 27 = .ok (.iconst (-1), 1) := by decide +kernel
theorem dX12_judge_28 : decode cX12_judge 28 = .ok (.ireturn, 1) := by decide +kernel
theorem dX12_judge_29 : decode cX12_judge 29 = .ok (.iconst 0, 1) := by decide +kernel
theorem dX12_judge_30 : decode cX12_judge 30 = .ok (.istore_n 3, 1) := by decide +kernel
theorem dX12_judge_31 : decode cX12_judge 31 = .ok (.iload_n 3, 1) := by decide +kernel
theorem dX12_judge_32 : decode cX12_judge 32 = .ok (.iload_n 2, 1) := by decide +kernel
theorem dX12_judge_33 : decode cX12_judge 33 = .ok (.if_icmp .ge 24, 3) := by decide +kernel
theorem dX12_judge_36 : decode cX12_judge 36 = .ok (.aload_n 0, 1) := by decide +kernel
theorem dX12_judge_37 : decode cX12_judge 37 = .ok (.aload_n 0, 1) := by decide +kernel
theorem dX12_judge_38 : decode cX12_judge 38 = .ok (.getfield 7, 3) := by decide +kernel
theorem dX12_judge_41 : decode cX12_judge 41 = .ok (.iload_n 3, 1) := by decide +kernel
theorem dX12_judge_42 : decode cX12_judge 42 = .ok (.iaload, 1) := by decide +kernel
theorem dX12_judge_43 : decode cX12_judge 43 = .ok (.invokevirtual 241, 3) := by decide +kernel
theorem dX12_judge_46 : decode cX12_judge 46 = .ok (.ifCond .ne 5, 3) := by decide +kernel
theorem dX12_judge_49 : decode cX12_judge 49 = .ok (.iconst (-1), 1) := by decide +kernel
theorem dX12_judge_50 : decode cX12_judge 50 = .ok (.ireturn, 1) := by decide +kernel
theorem dX12_judge_51 : decode cX12_judge 51 = .ok (.iinc 3 1, 3) := by decide +kernel
theorem dX12_judge_54 : decode cX12_judge 54 = .ok (.goto (-23), 3) := by decide +kernel
theorem dX12_judge_57 : decode cX12_judge 57 = .ok (.iconst 1, 1) := by decide +kernel
theorem dX12_judge_58 : decode cX12_judge 58 = .ok (.istore_n 3, 1) := by decide +kernel
theorem dX12_judge_59 : decode cX12_judge 59 = .ok (.iload_n 3, 1) := by decide +kernel
theorem dX12_judge_60 : decode cX12_judge 60 = .ok (.iload_n 2, 1) := by decide +kernel
theorem dX12_judge_61 : decode cX12_judge 61 = .ok (.if_icmp .ge 33, 3) := by decide +kernel
theorem dX12_judge_64 : decode cX12_judge 64 = .ok (.aload_n 0, 1) := by decide +kernel
theorem dX12_judge_65 : decode cX12_judge 65 = .ok (.aload_n 0, 1) := by decide +kernel
theorem dX12_judge_66 : decode cX12_judge 66 = .ok (.getfield 7, 3) := by decide +kernel
theorem dX12_judge_69 : decode cX12_judge 69 = .ok (.iload_n 3, 1) := by decide +kernel
theorem dX12_judge_70 : decode cX12_judge 70 = .ok (.iconst 1, 1) := by decide +kernel
theorem dX12_judge_71 : decode cX12_judge 71 = .ok (.isub, 1) := by decide +kernel
theorem dX12_judge_72 : decode cX12_judge 72 = .ok (.iaload, 1) := by decide +kernel
theorem dX12_judge_73 : decode cX12_judge 73 = .ok (.aload_n 0, 1) := by decide +kernel
theorem dX12_judge_74 : decode cX12_judge 74 = .ok (.getfield 7, 3) := by decide +kernel
theorem dX12_judge_77 : decode cX12_judge 77 = .ok (.iload_n 3, 1) := by decide +kernel
theorem dX12_judge_78 : decode cX12_judge 78 = .ok (.iaload, 1) := by decide +kernel
theorem dX12_judge_79 : decode cX12_judge 79 = .ok (.iload_n 1, 1) := by decide +kernel
theorem dX12_judge_80 : decode cX12_judge 80 = .ok (.invokevirtual 276, 3) := by decide +kernel
theorem dX12_judge_83 : decode cX12_judge 83 = .ok (.ifCond .ne 5, 3) := by decide +kernel
theorem dX12_judge_86 : decode cX12_judge 86 = .ok (.iload_n 3, 1) := by decide +kernel
theorem dX12_judge_87 : decode cX12_judge 87 = .ok (.ireturn, 1) := by decide +kernel
theorem dX12_judge_88 : decode cX12_judge 88 = .ok (.iinc 3 1, 3) := by decide +kernel
theorem dX12_judge_91 : decode cX12_judge 91 = .ok (.goto (-32), 3) := by decide +kernel
theorem dX12_judge_94 : decode cX12_judge 94 = .ok (.iconst 0, 1) := by decide +kernel
theorem dX12_judge_95 : decode cX12_judge 95 = .ok (.ireturn, 1) := by decide +kernel
theorem dX12_farOf_0 : decode cX12_farOf 0 = .ok (.aload_n 0, 1) := by decide +kernel
theorem dX12_farOf_1 : decode cX12_farOf 1 = .ok (.iload_n 1, 1) := by decide +kernel
theorem dX12_farOf_2 : decode cX12_farOf 2 = .ok (.aload_n 0, 1) := by decide +kernel
theorem dX12_farOf_3 : decode cX12_farOf 3 = .ok (.getfield 42, 3) := by decide +kernel
theorem dX12_farOf_6 : decode cX12_farOf 6 = .ok (.invokevirtual 292, 3) := by decide +kernel
theorem dX12_farOf_9 : decode cX12_farOf 9 = .ok (.iconst 0, 1) := by decide +kernel
theorem dX12_farOf_10 : decode cX12_farOf 10 = .ok (.istore_n 3, 1) := by decide +kernel
theorem dX12_farOf_11 : decode cX12_farOf 11 = .ok (.iconst 0, 1) := by decide +kernel
theorem dX12_farOf_12 : decode cX12_farOf 12 = .ok (.istore 4, 2) := by decide +kernel
theorem dX12_farOf_14 : decode cX12_farOf 14 = .ok (.iconst 0, 1) := by decide +kernel
theorem dX12_farOf_15 : decode cX12_farOf 15 = .ok (.istore 5, 2) := by decide +kernel
theorem dX12_farOf_17 : decode cX12_farOf 17 = .ok (.iload 5, 2) := by decide +kernel
theorem dX12_farOf_19 : decode cX12_farOf 19 = .ok (.aload_n 0, 1) := by decide +kernel
theorem dX12_farOf_20 : decode cX12_farOf 20 = .ok (.invokevirtual 179, 3) := by decide +kernel
theorem dX12_farOf_23 : decode cX12_farOf 23 = .ok (.if_icmp .ge 41, 3) := by decide +kernel
theorem dX12_farOf_26 : decode cX12_farOf 26 = .ok (.aload_n 0, 1) := by decide +kernel
theorem dX12_farOf_27 : decode cX12_farOf 27 = .ok (.iload 5, 2) := by decide +kernel
theorem dX12_farOf_29 : decode cX12_farOf 29 = .ok (.aload_n 0, 1) := by decide +kernel
theorem dX12_farOf_30 : decode cX12_farOf 30 = .ok (.getfield 45, 3) := by decide +kernel
theorem dX12_farOf_33 : decode cX12_farOf 33 = .ok (.invokevirtual 265, 3) := by decide +kernel
theorem dX12_farOf_36 : decode cX12_farOf 36 = .ok (.aload_n 0, 1) := by decide +kernel
theorem dX12_farOf_37 : decode cX12_farOf 37 = .ok (.invokevirtual 273, 3) := by decide +kernel
theorem dX12_farOf_40 : decode cX12_farOf 40 = .ok (.istore 6, 2) := by decide +kernel
theorem dX12_farOf_42 : decode cX12_farOf 42 = .ok (.iload_n 3, 1) := by decide +kernel
theorem dX12_farOf_43 : decode cX12_farOf 43 = .ok (.iload 6, 2) := by decide +kernel
theorem dX12_farOf_45 : decode cX12_farOf 45 = .ok (.iadd, 1) := by decide +kernel
theorem dX12_farOf_46 : decode cX12_farOf 46 = .ok (.istore_n 3, 1) := by decide +kernel
theorem dX12_farOf_47 : decode cX12_farOf 47 = .ok (.iload 6, 2) := by decide +kernel
theorem dX12_farOf_49 : decode cX12_farOf 49 = .ok (.iload 4, 2) := by decide +kernel
theorem dX12_farOf_51 : decode cX12_farOf 51 = .ok (.if_icmp .le 7, 3) := by decide +kernel
theorem dX12_farOf_54 : decode cX12_farOf 54 = .ok (.iload 6, 2) := by decide +kernel
theorem dX12_farOf_56 : decode cX12_farOf 56 = .ok (.istore 4, 2) := by decide +kernel
theorem dX12_farOf_58 : decode cX12_farOf 58 = .ok (.iinc 5 1, 3) := by decide +kernel
theorem dX12_farOf_61 : decode cX12_farOf 61 = .ok (.goto (-44), 3) := by decide +kernel
theorem dX12_farOf_64 : decode cX12_farOf 64 = .ok (.iload_n 2, 1) := by decide +kernel
theorem dX12_farOf_65 : decode cX12_farOf 65 = .ok (.ifCond .ne 7, 3) := by decide +kernel
theorem dX12_farOf_68 : decode cX12_farOf 68 = .ok (.iload_n 3, 1) := by decide +kernel
theorem dX12_farOf_69 : decode cX12_farOf 69 = .ok (.goto 5, 3) := by decide +kernel
theorem dX12_farOf_72 : decode cX12_farOf 72 = .ok (.iload 4, 2) := by decide +kernel
theorem dX12_farOf_74 : decode cX12_farOf 74 = .ok (.ireturn, 1) := by decide +kernel
theorem dX12_nearest_0 : decode cX12_nearest 0 = .ok (.aload_n 0, 1) := by decide +kernel
theorem dX12_nearest_1 : decode cX12_nearest 1 = .ok (.iconst 0, 1) := by decide +kernel
theorem dX12_nearest_2 : decode cX12_nearest 2 = .ok (.putfield 81, 3) := by decide +kernel
theorem dX12_nearest_5 : decode cX12_nearest 5 = .ok (.aload_n 0, 1) := by decide +kernel
theorem dX12_nearest_6 : decode cX12_nearest 6 = .ok (.invokevirtual 164, 3) := by decide +kernel
theorem dX12_nearest_9 : decode cX12_nearest 9 = .ok (.iload_n 1, 1) := by decide +kernel
theorem dX12_nearest_10 : decode cX12_nearest 10 = .ok (.iconst 0, 1) := by decide +kernel
theorem dX12_nearest_11 : decode cX12_nearest 11 = .ok (.iconst 1, 1) := by decide +kernel
theorem dX12_nearest_12 : decode cX12_nearest 12 = .ok (.invokestatic 151, 3) := by decide +kernel
theorem dX12_nearest_15 : decode cX12_nearest 15 = .ok (.ifCond .eq 16, 3) := by decide +kernel
theorem dX12_nearest_18 : decode cX12_nearest 18 = .ok (.aload_n 0, 1) := by decide +kernel
theorem dX12_nearest_19 : decode cX12_nearest 19 = .ok (.invokevirtual 179, 3) := by decide +kernel
theorem dX12_nearest_22 : decode cX12_nearest 22 = .ok (.ifCond .eq 9, 3) := by decide +kernel
theorem dX12_nearest_25 : decode cX12_nearest 25 = .ok (.iload_n 2, 1) := by decide +kernel
theorem dX12_nearest_26 : decode cX12_nearest 26 = .ok (.bipush (-2), 2) := by decide +kernel
theorem dX12_nearest_28 : decode cX12_nearest 28 = .ok (.if_icmp .ge 5, 3) := by decide +kernel
theorem dX12_nearest_31 : decode cX12_nearest 31 = .ok (.iconst (-1), 1) := by decide +kernel
theorem dX12_nearest_32 : decode cX12_nearest 32 = .ok (.ireturn, 1) := by decide +kernel
theorem dX12_nearest_33 : decode cX12_nearest 33 = .ok (.iconst (-1), 1) := by decide +kernel
theorem dX12_nearest_34 : decode cX12_nearest 34 = .ok (.istore_n 3, 1) := by decide +kernel
theorem dX12_nearest_35 : decode cX12_nearest 35 = .ok (.iconst 0, 1) := by decide +kernel
theorem dX12_nearest_36 : decode cX12_nearest 36 = .ok (.istore 4, 2) := by decide +kernel
theorem dX12_nearest_38 : decode cX12_nearest 38 = .ok (.iconst 0, 1) := by decide +kernel
theorem dX12_nearest_39 : decode cX12_nearest 39 = .ok (.istore 5, 2) := by decide +kernel
theorem dX12_nearest_41 : decode cX12_nearest 41 = .ok (.iload 5, 2) := by decide +kernel
theorem dX12_nearest_43 : decode cX12_nearest 43 = .ok (.aload_n 0, 1) := by decide +kernel
theorem dX12_nearest_44 : decode cX12_nearest 44 = .ok (.invokevirtual 251, 3) := by decide +kernel
theorem dX12_nearest_47 : decode cX12_nearest 47 = .ok (.if_icmp .ge 47, 3) := by decide +kernel
theorem dX12_nearest_50 : decode cX12_nearest 50 = .ok (.aload_n 0, 1) := by decide +kernel
theorem dX12_nearest_51 : decode cX12_nearest 51 = .ok (.iload 5, 2) := by decide +kernel
theorem dX12_nearest_53 : decode cX12_nearest 53 = .ok (.iload_n 1, 1) := by decide +kernel
theorem dX12_nearest_54 : decode cX12_nearest 54 = .ok (.invokevirtual 295, 3) := by decide +kernel
theorem dX12_nearest_57 : decode cX12_nearest 57 = .ok (.istore 6, 2) := by decide +kernel
theorem dX12_nearest_59 : decode cX12_nearest 59 = .ok (.iload_n 3, 1) := by decide +kernel
theorem dX12_nearest_60 : decode cX12_nearest 60 = .ok (.iconst (-1), 1) := by decide +kernel
theorem dX12_nearest_61 : decode cX12_nearest 61 = .ok (.if_icmp .eq 12, 3) := by decide +kernel
theorem dX12_nearest_64 : decode cX12_nearest 64 = .ok (.iload 6, 2) := by decide +kernel
theorem dX12_nearest_66 : decode cX12_nearest 66 = .ok (.iload_n 3, 1) := by decide +kernel
theorem dX12_nearest_67 : decode cX12_nearest 67 = .ok (.if_icmp .le 6, 3) := by decide +kernel
theorem dX12_nearest_70 : decode cX12_nearest 70 = .ok (.goto 18, 3) := by decide +kernel
theorem dX12_nearest_73 : decode cX12_nearest 73 = .ok (.iload 6, 2) := by decide +kernel
theorem dX12_nearest_75 : decode cX12_nearest 75 = .ok (.iload_n 3, 1) := by decide +kernel
theorem dX12_nearest_76 : decode cX12_nearest 76 = .ok (.if_icmp .eq 6, 3) := by decide +kernel
theorem dX12_nearest_79 : decode cX12_nearest 79 = .ok (.iconst 0, 1) := by decide +kernel
theorem dX12_nearest_80 : decode cX12_nearest 80 = .ok (.istore 4, 2) := by decide +kernel
theorem dX12_nearest_82 : decode cX12_nearest 82 = .ok (.iload 6, 2) := by decide +kernel
theorem dX12_nearest_84 : decode cX12_nearest 84 = .ok (.istore_n 3, 1) := by decide +kernel
theorem dX12_nearest_85 : decode cX12_nearest 85 = .ok (.iinc 4 1, 3) := by decide +kernel
theorem dX12_nearest_88 : decode cX12_nearest 88 = .ok (.iinc 5 1, 3) := by decide +kernel
theorem dX12_nearest_91 : decode cX12_nearest 91 = .ok (.goto (-50), 3) := by decide +kernel
theorem dX12_nearest_94 : decode cX12_nearest 94 = .ok (.iload_n 2, 1) := by decide +kernel
theorem dX12_nearest_95 : decode cX12_nearest 95 = .ok (.bipush (-2), 2) := by decide +kernel
theorem dX12_nearest_97 : decode cX12_nearest 97 = .ok (.if_icmp .ne 5, 3) := by decide +kernel
theorem dX12_nearest_100 : decode cX12_nearest 100 = .ok (.iload_n 3, 1) := by decide +kernel
theorem dX12_nearest_101 : decode cX12_nearest 101 = .ok (.ireturn, 1) := by decide +kernel
theorem dX12_nearest_102 : decode cX12_nearest 102 = .ok (.iload_n 2, 1) := by decide +kernel
theorem dX12_nearest_103 : decode cX12_nearest 103 = .ok (.iconst (-1), 1) := by decide +kernel
theorem dX12_nearest_104 : decode cX12_nearest 104 = .ok (.if_icmp .ne 6, 3) := by decide +kernel
theorem dX12_nearest_107 : decode cX12_nearest 107 = .ok (.iload 4, 2) := by decide +kernel
theorem dX12_nearest_109 : decode cX12_nearest 109 = .ok (.ireturn, 1) := by decide +kernel
theorem dX12_nearest_110 : decode cX12_nearest 110 = .ok (.iconst 0, 1) := by decide +kernel
theorem dX12_nearest_111 : decode cX12_nearest 111 = .ok (.istore 5, 2) := by decide +kernel
theorem dX12_nearest_113 : decode cX12_nearest 113 = .ok (.iconst 0, 1) := by decide +kernel
theorem dX12_nearest_114 : decode cX12_nearest 114 = .ok (.istore 6, 2) := by decide +kernel
theorem dX12_nearest_116 : decode cX12_nearest 116 = .ok (.iload 6, 2) := by decide +kernel
theorem dX12_nearest_118 : decode cX12_nearest 118 = .ok (.aload_n 0, 1) := by decide +kernel
theorem dX12_nearest_119 : decode cX12_nearest 119 = .ok (.invokevirtual 251, 3) := by decide +kernel
theorem dX12_nearest_122 : decode cX12_nearest 122 = .ok (.if_icmp .ge 35, 3) := by decide +kernel
theorem dX12_nearest_125 : decode cX12_nearest 125 = .ok (.aload_n 0, 1) := by decide +kernel
theorem dX12_nearest_126 : decode cX12_nearest 126 = .ok (.iload 6, 2) := by decide +kernel
theorem dX12_nearest_128 : decode cX12_nearest 128 = .ok (.iload_n 1, 1) := by decide +kernel
theorem dX12_nearest_129 : decode cX12_nearest 129 = .ok (.invokevirtual 295, 3) := by decide +kernel
theorem dX12_nearest_132 : decode cX12_nearest 132 = .ok (.iload_n 3, 1) := by decide +kernel
theorem dX12_nearest_133 : decode cX12_nearest 133 = .ok (.if_icmp .eq 6, 3) := by decide +kernel
theorem dX12_nearest_136 : decode cX12_nearest 136 = .ok (.goto 15, 3) := by decide +kernel
theorem dX12_nearest_139 : decode cX12_nearest 139 = .ok (.iload 5, 2) := by decide +kernel
theorem dX12_nearest_141 : decode cX12_nearest 141 = .ok (.iload_n 2, 1) := by decide +kernel
theorem dX12_nearest_142 : decode cX12_nearest 142 = .ok (.if_icmp .ne 6, 3) := by decide +kernel
theorem dX12_nearest_145 : decode cX12_nearest 145 = .ok (.iload 6, 2) := by decide +kernel
theorem dX12_nearest_147 : decode cX12_nearest 147 = .ok (.ireturn, 1) := by decide +kernel
theorem dX12_nearest_148 : decode cX12_nearest 148 = .ok (.iinc 5 1, 3) := by decide +kernel
theorem dX12_nearest_151 : decode cX12_nearest 151 = .ok (.iinc 6 1, 3) := by decide +kernel
theorem dX12_nearest_154 : decode cX12_nearest 154 = .ok (.goto (-38), 3) := by decide +kernel
theorem dX12_nearest_157 : decode cX12_nearest 157 = .ok (.iconst (-1), 1) := by decide +kernel
theorem dX12_nearest_158 : decode cX12_nearest 158 = .ok (.ireturn, 1) := by decide +kernel
theorem dX12_joins_0 : decode cX12_joins 0 = .ok (.iconst 1, 1) := by decide +kernel
theorem dX12_joins_1 : decode cX12_joins 1 = .ok (.istore_n 2, 1) := by decide +kernel
theorem dX12_joins_2 : decode cX12_joins 2 = .ok (.iconst 0, 1) := by decide +kernel
theorem dX12_joins_3 : decode cX12_joins 3 = .ok (.istore_n 3, 1) := by decide +kernel
theorem dX12_joins_4 : decode cX12_joins 4 = .ok (.aload_n 0, 1) := by decide +kernel
theorem dX12_joins_5 : decode cX12_joins 5 = .ok (.getfield 57, 3) := by decide +kernel
theorem dX12_joins_8 : decode cX12_joins 8 = .ok (.iconst 0, 1) := by decide +kernel
theorem dX12_joins_9 : decode cX12_joins 9 = .ok (.iconst 0, 1) := by decide +kernel
theorem dX12_joins_10 : decode cX12_joins 10 = .ok (.iastore, 1) := by decide +kernel
theorem dX12_joins_11 : decode cX12_joins 11 = .ok (.aload_n 0, 1) := by decide +kernel
theorem dX12_joins_12 : decode cX12_joins 12 = .ok (.getfield 51, 3) := by decide +kernel
theorem dX12_joins_15 : decode cX12_joins 15 = .ok (.iconst 0, 1) := by decide +kernel
theorem dX12_joins_16 : decode cX12_joins 16 = .ok (.iconst (-1), 1) := by decide +kernel
theorem dX12_joins_17 : decode cX12_joins 17 = .ok (.iastore, 1) := by decide +kernel
theorem dX12_joins_18 : decode cX12_joins 18 = .ok (.iconst 1, 1) := by decide +kernel
theorem dX12_joins_19 : decode cX12_joins 19 = .ok (.istore 4, 2) := by decide +kernel
theorem dX12_joins_21 : decode cX12_joins 21 = .ok (.iload 4, 2) := by decide +kernel
theorem dX12_joins_23 : decode cX12_joins 23 = .ok (.iload_n 1, 1) := by decide +kernel
theorem dX12_joins_24 : decode cX12_joins 24 = .ok (.if_icmp .ge 155, 3) := by decide +kernel
theorem dX12_joins_27 : decode cX12_joins 27 = .ok (.iconst (-1), 1) := by decide +kernel
theorem dX12_joins_28 : decode cX12_joins 28 = .ok (.istore 5, 2) := by decide +kernel
theorem dX12_joins_30 : decode cX12_joins 30 = .ok (.iconst (-1), 1) := by decide +kernel
theorem dX12_joins_31 : decode cX12_joins 31 = .ok (.istore 6, 2) := by decide +kernel
theorem dX12_joins_33 : decode cX12_joins 33 = .ok (.iconst 1, 1) := by decide +kernel
theorem dX12_joins_34 : decode cX12_joins 34 = .ok (.istore 7, 2) := by decide +kernel
theorem dX12_joins_36 : decode cX12_joins 36 = .ok (.iload 7, 2) := by decide +kernel
theorem dX12_joins_38 : decode cX12_joins 38 = .ok (.iload_n 1, 1) := by decide +kernel
theorem dX12_joins_39 : decode cX12_joins 39 = .ok (.if_icmp .ge 93, 3) := by decide +kernel
theorem dX12_joins_42 : decode cX12_joins 42 = .ok (.iload_n 2, 1) := by decide +kernel
theorem dX12_joins_43 : decode cX12_joins 43 = .ok (.iload 7, 2) := by decide +kernel
theorem dX12_joins_45 : decode cX12_joins 45 = .ok (.invokestatic 198, 3) := by decide +kernel
theorem dX12_joins_48 : decode cX12_joins 48 = .ok (.ifCond .eq 6, 3) := by decide +kernel
theorem dX12_joins_51 : decode cX12_joins 51 = .ok (.goto 75, 3) := by decide +kernel
theorem dX12_joins_54 : decode cX12_joins 54 = .ok (.iconst 0, 1) := by decide +kernel
theorem dX12_joins_55 : decode cX12_joins 55 = .ok (.istore 8, 2) := by decide +kernel
theorem dX12_joins_57 : decode cX12_joins 57 = .ok (.iload 8, 2) := by decide +kernel
theorem dX12_joins_59 : decode cX12_joins 59 = .ok (.iload 4, 2) := by decide +kernel
theorem dX12_joins_61 : decode cX12_joins 61 = .ok (.if_icmp .ge 65, 3) := by decide +kernel
theorem dX12_joins_64 : decode cX12_joins 64 = .ok (.iload 5, 2) := by decide +kernel
theorem dX12_joins_66 : decode cX12_joins 66 = .ok (.iconst (-1), 1) := by decide +kernel
theorem dX12_joins_67 : decode cX12_joins 67 = .ok (.if_icmp .eq 40, 3) := by decide +kernel
theorem dX12_joins_70 : decode cX12_joins 70 = .ok (.aload_n 0, 1) := by decide +kernel
theorem dX12_joins_71 : decode cX12_joins 71 = .ok (.getfield 54, 3) := by decide +kernel
theorem dX12_joins_74 : decode cX12_joins 74 = .ok (.bipush 10, 2) := by decide +kernel
theorem dX12_joins_76 : decode cX12_joins 76 = .ok (.iload 7, 2) := by decide +kernel
theorem dX12_joins_78 : decode cX12_joins 78 = .ok (.imul, 1) := by decide +kernel
theorem dX12_joins_79 : decode cX12_joins 79 = .ok (.aload_n 0, 1) := by decide +kernel
theorem dX12_joins_80 : decode cX12_joins 80 = .ok (.getfield 57, 3) := by decide +kernel
theorem dX12_joins_83 : decode cX12_joins 83 = .ok (.iload 8, 2) := by decide +kernel
theorem dX12_joins_85 : decode cX12_joins 85 = .ok (.iaload, 1) := by decide +kernel
theorem dX12_joins_86 : decode cX12_joins 86 = .ok (.iadd, 1) := by decide +kernel
theorem dX12_joins_87 : decode cX12_joins 87 = .ok (.iaload, 1) := by decide +kernel
theorem dX12_joins_88 : decode cX12_joins 88 = .ok (.aload_n 0, 1) := by decide +kernel
theorem dX12_joins_89 : decode cX12_joins 89 = .ok (.getfield 54, 3) := by decide +kernel
theorem dX12_joins_92 : decode cX12_joins 92 = .ok (.bipush 10, 2) := by decide +kernel
theorem dX12_joins_94 : decode cX12_joins 94 = .ok (.iload 5, 2) := by decide +kernel
theorem dX12_joins_96 : decode cX12_joins 96 = .ok (.imul, 1) := by decide +kernel
theorem dX12_joins_97 : decode cX12_joins 97 = .ok (.iload 6, 2) := by decide +kernel
theorem dX12_joins_99 : decode cX12_joins 99 = .ok (.iadd, 1) := by decide +kernel
theorem dX12_joins_100 : decode cX12_joins 100 = .ok (.iaload, 1) := by decide +kernel
theorem dX12_joins_101 : decode cX12_joins 101 = .ok (.if_icmp .lt 6, 3) := by decide +kernel
theorem dX12_joins_104 : decode cX12_joins 104 = .ok (.goto 16, 3) := by decide +kernel
theorem dX12_joins_107 : decode cX12_joins 107 = .ok (.iload 7, 2) := by decide +kernel
theorem dX12_joins_109 : decode cX12_joins 109 = .ok (.istore 5, 2) := by decide +kernel
theorem dX12_joins_111 : decode cX12_joins 111 = .ok (.aload_n 0, 1) := by decide +kernel
theorem dX12_joins_112 : decode cX12_joins 112 = .ok (.getfield 57, 3) := by decide +kernel
theorem dX12_joins_115 : decode cX12_joins 115 = .ok (.iload 8, 2) := by decide +kernel
theorem dX12_joins_117 : decode cX12_joins 117 = .ok (.iaload, 1) := by decide +kernel
theorem dX12_joins_118 : decode cX12_joins 118 = .ok (.istore 6, 2) := by decide +kernel
theorem dX12_joins_120 : decode cX12_joins 120 = .ok (.iinc 8 1, 3) := by decide +kernel
theorem dX12_joins_123 : decode cX12_joins 123 = .ok (.goto (-66), 3) := by decide +kernel
theorem dX12_joins_126 : decode cX12_joins 126 = .ok (.iinc 7 1, 3) := by decide +kernel
theorem dX12_joins_129 : decode cX12_joins 129 = .ok (.goto (-93), 3) := by decide +kernel
theorem dX12_joins_132 : decode cX12_joins 132 = .ok (.iload_n 3, 1) := by decide +kernel
theorem dX12_joins_133 : decode cX12_joins 133 = .ok (.aload_n 0, 1) := by decide +kernel
theorem dX12_joins_134 : decode cX12_joins 134 = .ok (.getfield 54, 3) := by decide +kernel
theorem dX12_joins_137 : decode cX12_joins 137 = .ok (.bipush 10, 2) := by decide +kernel
theorem dX12_joins_139 : decode cX12_joins 139 = .ok (.iload 5, 2) := by decide +kernel
theorem dX12_joins_141 : decode cX12_joins 141 = .ok (.imul, 1) := by decide +kernel
theorem dX12_joins_142 : decode cX12_joins 142 = .ok (.iload 6, 2) := by decide +kernel
theorem dX12_joins_144 : decode cX12_joins 144 = .ok (.iadd, 1) := by decide +kernel
theorem dX12_joins_145 : decode cX12_joins 145 = .ok (.iaload, 1) := by decide +kernel
theorem dX12_joins_146 : decode cX12_joins 146 = .ok (.iadd, 1) := by decide +kernel
theorem dX12_joins_147 : decode cX12_joins 147 = .ok (.istore_n 3, 1) := by decide +kernel
theorem dX12_joins_148 : decode cX12_joins 148 = .ok (.aload_n 0, 1) := by decide +kernel
theorem dX12_joins_149 : decode cX12_joins 149 = .ok (.getfield 51, 3) := by decide +kernel
theorem dX12_joins_152 : decode cX12_joins 152 = .ok (.iload 5, 2) := by decide +kernel
theorem dX12_joins_154 : decode cX12_joins 154 = .ok (.iload 6, 2) := by decide +kernel
theorem dX12_joins_156 : decode cX12_joins 156 = .ok (.iastore, 1) := by decide +kernel
theorem dX12_joins_157 : decode cX12_joins 157 = .ok (.aload_n 0, 1) := by decide +kernel
theorem dX12_joins_158 : decode cX12_joins 158 = .ok (.getfield 57, 3) := by decide +kernel
theorem dX12_joins_161 : decode cX12_joins 161 = .ok (.iload 4, 2) := by decide +kernel
theorem dX12_joins_163 : decode cX12_joins 163 = .ok (.iload 5, 2) := by decide +kernel
theorem dX12_joins_165 : decode cX12_joins 165 = .ok (.iastore, 1) := by decide +kernel
theorem dX12_joins_166 : decode cX12_joins 166 = .ok (.iload_n 2, 1) := by decide +kernel
theorem dX12_joins_167 : decode cX12_joins 167 = .ok (.iconst 1, 1) := by decide +kernel
theorem dX12_joins_168 : decode cX12_joins 168 = .ok (.iload 5, 2) := by decide +kernel
theorem dX12_joins_170 : decode cX12_joins 170 = .ok (.ishl, 1) := by decide +kernel
theorem dX12_joins_171 : decode cX12_joins 171 = .ok (.ior, 1) := by decide +kernel
theorem dX12_joins_172 : decode cX12_joins 172 = .ok (.istore_n 2, 1) := by decide +kernel
theorem dX12_joins_173 : decode cX12_joins 173 = .ok (.iinc 4 1, 3) := by decide +kernel
theorem dX12_joins_176 : decode cX12_joins 176 = .ok (.goto (-155), 3) := by decide +kernel
theorem dX12_joins_179 : decode cX12_joins 179 = .ok (.iload_n 3, 1) := by decide +kernel
theorem dX12_joins_180 : decode cX12_joins 180 = .ok (.ireturn, 1) := by decide +kernel
theorem dX12_layApart_0 : decode cX12_layApart 0 = .ok (.iconst 0, 1) := by decide +kernel
theorem dX12_layApart_1 : decode cX12_layApart 1 = .ok (.istore_n 1, 1) := by decide +kernel
