theorem dX7_isTrueOf_102 : decode cX7_isTrueOf 102 = .ok (.iload_n 3, 1) := by decide +kernel
theorem dX7_isTrueOf_103 : decode cX7_isTrueOf 103 = .ok (.iconst 1, 1) := by decide +kernel
theorem dX7_isTrueOf_104 : decode cX7_isTrueOf 104 = .ok (.ishl, 1) := by decide +kernel
theorem dX7_isTrueOf_105 : decode cX7_isTrueOf 105 = .ok (.aload_n 0, 1) := by decide +kernel
theorem dX7_isTrueOf_106 : decode cX7_isTrueOf 106 = .ok (.iload 4, 2) := by decide +kernel
theorem dX7_isTrueOf_108 : decode cX7_isTrueOf 108 = .ok (.aload_n 1, 1) := by decide +kernel
theorem dX7_isTrueOf_109 : decode cX7_isTrueOf 109 = .ok (.aload_n 2, 1) := by decide +kernel
theorem dX7_isTrueOf_110 : decode cX7_isTrueOf 110 = .ok (.invokevirtual 51, 3) := by decide +kernel
theorem dX7_isTrueOf_113 : decode cX7_isTrueOf 113 = .ok (.ifCond .eq 7, 3) := by decide +kernel
theorem dX7_isTrueOf_116 : decode cX7_isTrueOf 116 = .ok (.iconst 1, 1) := by decide +kernel
theorem dX7_isTrueOf_117 : decode cX7_isTrueOf 117 = .ok (.goto 4, 3) := by decide +kernel
theorem dX7_isTrueOf_120 : decode cX7_isTrueOf 120 = .ok (.iconst 0, 1) := by decide +kernel
theorem dX7_isTrueOf_121 : decode cX7_isTrueOf 121 = .ok (.ior, 1) := by decide +kernel
theorem dX7_isTrueOf_122 : decode cX7_isTrueOf 122 = .ok (.istore_n 3, 1) := by decide +kernel
theorem dX7_isTrueOf_123 : decode cX7_isTrueOf 123 = .ok (.iinc 4 1, 3) := by decide +kernel
theorem dX7_isTrueOf_126 : decode cX7_isTrueOf 126 = .ok (.goto (-121), 3) := by decide +kernel
theorem dX7_isTrueOf_129 : decode cX7_isTrueOf 129 = .ok (.iload_n 3, 1) := by decide +kernel
theorem dX7_isTrueOf_130 : decode cX7_isTrueOf 130 = .ok (.iconst 1, 1) := by decide +kernel
theorem dX7_isTrueOf_131 : decode cX7_isTrueOf 131 = .ok (.iand, 1) := by decide +kernel
theorem dX7_isTrueOf_132 : decode cX7_isTrueOf 132 = .ok (.ifCond .eq 7, 3) := by decide +kernel
theorem dX7_isTrueOf_135 : decode cX7_isTrueOf 135 = .ok (.iconst 1, 1) := by decide +kernel
theorem dX7_isTrueOf_136 : decode cX7_isTrueOf 136 = .ok (.goto 4, 3) := by decide +kernel
theorem dX7_isTrueOf_139 : decode cX7_isTrueOf 139 = .ok (.iconst 0, 1) := by decide +kernel
theorem dX7_isTrueOf_140 : decode cX7_isTrueOf 140 = .ok (.ireturn, 1) := by decide +kernel
theorem dX7_isTest_0 : decode cX7_isTest 0 = .ok (.getstatic 42, 3) := by decide +kernel
theorem dX7_isTest_3 : decode cX7_isTest 3 = .ok (.aload_n 0, 1) := by decide +kernel
theorem dX7_isTest_4 : decode cX7_isTest 4 = .ok (.getfield 13, 3) := by decide +kernel
theorem dX7_isTest_7 : decode cX7_isTest 7 = .ok (.iload_n 1, 1) := by decide +kernel
theorem dX7_isTest_8 : decode cX7_isTest 8 = .ok (.aaload, 1) := by decide +kernel
theorem dX7_isTest_9 : decode cX7_isTest 9 = .ok (.invokevirtual 47, 3) := by decide +kernel
theorem dX7_isTest_12 : decode cX7_isTest 12 = .ok (.iaload, 1) := by decide +kernel
theorem dX7_isTest_13 : decode cX7_isTest 13 = .ok (.tableswitch 89 13 16 #[31, 48, 61, 72], 31) := by decide +kernel
theorem dX7_isTest_44 : decode cX7_isTest 44 = .ok (.aload_n 2, 1) := by decide +kernel
theorem dX7_isTest_45 : decode cX7_isTest 45 = .ok (.getfield 55, 3) := by decide +kernel
theorem dX7_isTest_48 : decode cX7_isTest 48 = .ok (.aload_n 3, 1) := by decide +kernel
theorem dX7_isTest_49 : decode cX7_isTest 49 = .ok (.getfield 58, 3) := by decide +kernel
theorem dX7_isTest_52 : decode cX7_isTest 52 = .ok (.if_icmp .ne 7, 3) := by decide +kernel
theorem dX7_isTest_55 : decode cX7_isTest 55 = .ok (.iconst 1, 1) := by decide +kernel
theorem dX7_isTest_56 : decode cX7_isTest 56 = .ok (.goto 4, 3) := by decide +kernel
theorem dX7_isTest_59 : decode cX7_isTest 59 = .ok (.iconst 0, 1) := by decide +kernel
theorem dX7_isTest_60 : decode cX7_isTest 60 = .ok (.ireturn, 1) := by decide +kernel
theorem dX7_isTest_61 : decode cX7_isTest 61 = .ok (.aload_n 3, 1) := by decide +kernel
theorem dX7_isTest_62 : decode cX7_isTest 62 = .ok (.aload_n 2, 1) := by decide +kernel
theorem dX7_isTest_63 : decode cX7_isTest 63 = .ok (.getfield 63, 3) := by decide +kernel
theorem dX7_isTest_66 : decode cX7_isTest 66 = .ok (.aload_n 2, 1) := by decide +kernel
theorem dX7_isTest_67 : decode cX7_isTest 67 = .ok (.getfield 66, 3) := by decide +kernel
theorem dX7_isTest_70 : decode cX7_isTest 70 = .ok (.invokevirtual 69, 3) := by decide +kernel
theorem dX7_isTest_73 : decode cX7_isTest 73 = .ok (.ireturn, 1) := by decide +kernel
theorem dX7_isTest_74 : decode cX7_isTest 74 = .ok (.aload_n 2, 1) := by decide +kernel
theorem dX7_isTest_75 : decode cX7_isTest 75 = .ok (.aload_n 0, 1) := by decide +kernel
theorem dX7_isTest_76 : decode cX7_isTest 76 = .ok (.getfield 17, 3) := by decide +kernel
theorem dX7_isTest_79 : decode cX7_isTest 79 = .ok (.iload_n 1, 1) := by decide +kernel
theorem dX7_isTest_80 : decode cX7_isTest 80 = .ok (.iaload, 1) := by decide +kernel
theorem dX7_isTest_81 : decode cX7_isTest 81 = .ok (.invokevirtual 73, 3) := by decide +kernel
theorem dX7_isTest_84 : decode cX7_isTest 84 = .ok (.ireturn, 1) := by decide +kernel
theorem dX7_isTest_85 : decode cX7_isTest 85 = .ok (.aload_n 2, 1) := by decide +kernel
theorem dX7_isTest_86 : decode cX7_isTest 86 = .ok (.aload_n 0, 1) := by decide +kernel
theorem dX7_isTest_87 : decode cX7_isTest 87 = .ok (.getfield 17, 3) := by decide +kernel
theorem dX7_isTest_90 : decode cX7_isTest 90 = .ok (.iload_n 1, 1) := by decide +kernel
theorem dX7_isTest_91 : decode cX7_isTest 91 = .ok (.iaload, 1) := by decide +kernel
theorem dX7_isTest_92 : decode cX7_isTest 92 = .ok (.aload_n 0, 1) := by decide +kernel
theorem dX7_isTest_93 : decode cX7_isTest 93 = .ok (.getfield 21, 3) := by decide +kernel
theorem dX7_isTest_96 : decode cX7_isTest 96 = .ok (.iload_n 1, 1) := by decide +kernel
theorem dX7_isTest_97 : decode cX7_isTest 97 = .ok (.iaload, 1) := by decide +kernel
theorem dX7_isTest_98 : decode cX7_isTest 98 = .ok (.invokevirtual 77, 3) := by decide +kernel
theorem dX7_isTest_101 : decode cX7_isTest 101 = .ok (.ireturn, 1) := by decide +kernel
theorem dX7_isTest_102 : decode cX7_isTest 102 = .ok (.aload_n 0, 1) := by decide +kernel
theorem dX7_isTest_103 : decode cX7_isTest 103 = .ok (.iload_n 1, 1) := by decide +kernel
theorem dX7_isTest_104 : decode cX7_isTest 104 = .ok (.aload_n 0, 1) := by decide +kernel
theorem dX7_isTest_105 : decode cX7_isTest 105 = .ok (.iload_n 1, 1) := by decide +kernel
theorem dX7_isTest_106 : decode cX7_isTest 106 = .ok (.aload_n 2, 1) := by decide +kernel
theorem dX7_isTest_107 : decode cX7_isTest 107 = .ok (.aload_n 3, 1) := by decide +kernel
theorem dX7_isTest_108 : decode cX7_isTest 108 = .ok (.invokevirtual 80, 3) := by decide +kernel
theorem dX7_isTest_111 : decode cX7_isTest 111 = .ok (.invokevirtual 84, 3) := by decide +kernel
theorem dX7_isTest_114 : decode cX7_isTest 114 = .ok (.ireturn, 1) := by decide +kernel
theorem dX7_measureOf_0 : decode cX7_measureOf 0 = .ok (.aload_n 3, 1) := by decide +kernel
theorem dX7_measureOf_1 : decode cX7_measureOf 1 = .ok (.aload_n 0, 1) := by decide +kernel
theorem dX7_measureOf_2 : decode cX7_measureOf 2 = .ok (.getfield 17, 3) := by decide +kernel
theorem dX7_measureOf_5 : decode cX7_measureOf 5 = .ok (.iload_n 1, 1) := by decide +kernel
theorem dX7_measureOf_6 : decode cX7_measureOf 6 = .ok (.iaload, 1) := by decide +kernel
theorem dX7_measureOf_7 : decode cX7_measureOf 7 = .ok (.invokevirtual 87, 3) := by decide +kernel
theorem dX7_measureOf_10 : decode cX7_measureOf 10 = .ok (.astore 4, 2) := by decide +kernel
theorem dX7_measureOf_12 : decode cX7_measureOf 12 = .ok (.getstatic 42, 3) := by decide +kernel
theorem dX7_measureOf_15 : decode cX7_measureOf 15 = .ok (.aload_n 0, 1) := by decide +kernel
theorem dX7_measureOf_16 : decode cX7_measureOf 16 = .ok (.getfield 13, 3) := by decide +kernel
theorem dX7_measureOf_19 : decode cX7_measureOf 19 = .ok (.iload_n 1, 1) := by decide +kernel
theorem dX7_measureOf_20 : decode cX7_measureOf 20 = .ok (.aaload, 1) := by decide +kernel
theorem dX7_measureOf_21 : decode cX7_measureOf 21 = .ok (.invokevirtual 47, 3) := by decide +kernel
theorem dX7_measureOf_24 : decode cX7_measureOf 24 = .ok (.iaload, 1) := by decide +kernel
theorem dX7_measureOf_25 : decode cX7_measureOf 25 = .ok (.tableswitch 72 17 19 #[27, 43, 59], 27) := by decide +kernel
theorem dX7_measureOf_52 : decode cX7_measureOf 52 = .ok (.aload 4, 2) := by decide +kernel
theorem dX7_measureOf_54 : decode cX7_measureOf 54 = .ok (.ifnonnull 7, 3) := by decide +kernel
theorem dX7_measureOf_57 : decode cX7_measureOf 57 = .ok (.iconst 0, 1) := by decide +kernel
theorem dX7_measureOf_58 : decode cX7_measureOf 58 = .ok (.goto 9, 3) := by decide +kernel
theorem dX7_measureOf_61 : decode cX7_measureOf 61 = .ok (.aload_n 2, 1) := by decide +kernel
theorem dX7_measureOf_62 : decode cX7_measureOf 62 = .ok (.aload 4, 2) := by decide +kernel
theorem dX7_measureOf_64 : decode cX7_measureOf 64 = .ok (.invokevirtual 91, 3) := by decide +kernel
theorem dX7_measureOf_67 : decode cX7_measureOf 67 = .ok (.ireturn, 1) := by decide +kernel
theorem dX7_measureOf_68 : decode cX7_measureOf 68 = .ok (.aload 4, 2) := by decide +kernel
theorem dX7_measureOf_70 : decode cX7_measureOf 70 = .ok (.ifnonnull 7, 3) := by decide +kernel
theorem dX7_measureOf_73 : decode cX7_measureOf 73 = .ok (.iconst 0, 1) := by decide +kernel
theorem dX7_measureOf_74 : decode cX7_measureOf 74 = .ok (.goto 9, 3) := by decide +kernel
theorem dX7_measureOf_77 : decode cX7_measureOf 77 = .ok (.aload_n 2, 1) := by decide +kernel
theorem dX7_measureOf_78 : decode cX7_measureOf 78 = .ok (.aload 4, 2) := by decide +kernel
theorem dX7_measureOf_80 : decode cX7_measureOf 80 = .ok (.invokevirtual 95, 3) := by decide +kernel
theorem dX7_measureOf_83 : decode cX7_measureOf 83 = .ok (.ireturn, 1) := by decide +kernel
theorem dX7_measureOf_84 : decode cX7_measureOf 84 = .ok (.aload_n 3, 1) := by decide +kernel
theorem dX7_measureOf_85 : decode cX7_measureOf 85 = .ok (.aload_n 2, 1) := by decide +kernel
theorem dX7_measureOf_86 : decode cX7_measureOf 86 = .ok (.getfield 98, 3) := by decide +kernel
theorem dX7_measureOf_89 : decode cX7_measureOf 89 = .ok (.aload_n 2, 1) := by decide +kernel
theorem dX7_measureOf_90 : decode cX7_measureOf 90 = .ok (.getfield 55, 3) := by decide +kernel
theorem dX7_measureOf_93 : decode cX7_measureOf 93 = .ok (.invokevirtual 101, 3) := by decide +kernel
theorem dX7_measureOf_96 : decode cX7_measureOf 96 = .ok (.ireturn, 1) := by decide +kernel
theorem dX7_measureOf_97 : decode cX7_measureOf 97 = .ok (.aload_n 2, 1) := by decide +kernel
theorem dX7_measureOf_98 : decode cX7_measureOf 98 = .ok (.getfield 55, 3) := by decide +kernel
theorem dX7_measureOf_101 : decode cX7_measureOf 101 = .ok (.ireturn, 1) := by decide +kernel
theorem dX7_isMeasure_0 : decode cX7_isMeasure 0 = .ok (.aload_n 0, 1) := by decide +kernel
theorem dX7_isMeasure_1 : decode cX7_isMeasure 1 = .ok (.getfield 24, 3) := by decide +kernel
theorem dX7_isMeasure_4 : decode cX7_isMeasure 4 = .ok (.iload_n 1, 1) := by decide +kernel
theorem dX7_isMeasure_5 : decode cX7_isMeasure 5 = .ok (.iaload, 1) := by decide +kernel
theorem dX7_isMeasure_6 : decode cX7_isMeasure 6 = .ok (.lookupswitch 58 #[(60, 26), (61, 42)], 26) := by decide +kernel
theorem dX7_isMeasure_32 : decode cX7_isMeasure 32 = .ok (.iload_n 2, 1) := by decide +kernel
theorem dX7_isMeasure_33 : decode cX7_isMeasure 33 = .ok (.aload_n 0, 1) := by decide +kernel
theorem dX7_isMeasure_34 : decode cX7_isMeasure 34 = .ok (.getfield 27, 3) := by decide +kernel
theorem dX7_isMeasure_37 : decode cX7_isMeasure 37 = .ok (.iload_n 1, 1) := by decide +kernel
theorem dX7_isMeasure_38 : decode cX7_isMeasure 38 = .ok (.iaload, 1) := by decide +kernel
theorem dX7_isMeasure_39 : decode cX7_isMeasure 39 = .ok (.if_icmp .ge 7, 3) := by decide +kernel
theorem dX7_isMeasure_42 : decode cX7_isMeasure 42 = .ok (.iconst 1, 1) := by decide +kernel
theorem dX7_isMeasure_43 : decode cX7_isMeasure 43 = .ok (.goto 4, 3) := by decide +kernel
theorem dX7_isMeasure_46 : decode cX7_isMeasure 46 = .ok (.iconst 0, 1) := by decide +kernel
theorem dX7_isMeasure_47 : decode cX7_isMeasure 47 = .ok (.ireturn, 1) := by decide +kernel
theorem dX7_isMeasure_48 : decode cX7_isMeasure 48 = .ok (.iload_n 2, 1) := by decide +kernel
theorem dX7_isMeasure_49 : decode cX7_isMeasure 49 = .ok (.aload_n 0, 1) := by decide +kernel
theorem dX7_isMeasure_50 : decode cX7_isMeasure 50 = .ok (.getfield 27, 3) := by decide +kernel
theorem dX7_isMeasure_53 : decode cX7_isMeasure 53 = .ok (.iload_n 1, 1) := by decide +kernel
theorem dX7_isMeasure_54 : decode cX7_isMeasure 54 = .ok (.iaload, 1) := by decide +kernel
theorem dX7_isMeasure_55 : decode cX7_isMeasure 55 = .ok (.if_icmp .ne 7, 3) := by decide +kernel
theorem dX7_isMeasure_58 : decode cX7_isMeasure 58 = .ok (.iconst 1, 1) := by decide +kernel
theorem dX7_isMeasure_59 : decode cX7_isMeasure 59 = .ok (.goto 4, 3) := by decide +kernel
theorem dX7_isMeasure_62 : decode cX7_isMeasure 62 = .ok (.iconst 0, 1) := by decide +kernel
theorem dX7_isMeasure_63 : decode cX7_isMeasure 63 = .ok (.ireturn, 1) := by decide +kernel
theorem dX7_isMeasure_64 : decode cX7_isMeasure 64 = .ok (.iload_n 2, 1) := by decide +kernel
theorem dX7_isMeasure_65 : decode cX7_isMeasure 65 = .ok (.aload_n 0, 1) := by decide +kernel
theorem dX7_isMeasure_66 : decode cX7_isMeasure 66 = .ok (.getfield 27, 3) := by decide +kernel
theorem dX7_isMeasure_69 : decode cX7_isMeasure 69 = .ok (.iload_n 1, 1) := by decide +kernel
theorem dX7_isMeasure_70 : decode cX7_isMeasure 70 = .ok (.iaload, 1) := by decide +kernel
theorem dX7_isMeasure_71 : decode cX7_isMeasure 71 = .ok (.if_icmp .le 7, 3) := by decide +kernel
theorem dX7_isMeasure_74 : decode cX7_isMeasure 74 = .ok (.iconst 1, 1) := by decide +kernel
theorem dX7_isMeasure_75 : decode cX7_isMeasure 75 = .ok (.goto 4, 3) := by decide +kernel
theorem dX7_isMeasure_78 : decode cX7_isMeasure 78 = .ok (.iconst 0, 1) := by decide +kernel
theorem dX7_isMeasure_79 : decode cX7_isMeasure 79 = .ok (.ireturn, 1) := by decide +kernel
theorem dX8_init_0 : decode cX8_init 0 = .ok (.aload_n 0, 1) := by decide +kernel
theorem dX8_init_1 : decode cX8_init 1 = .ok (.invokespecial 3, 3) := by decide +kernel
theorem dX8_init_4 : decode cX8_init 4 = .ok (.aload_n 0, 1) := by decide +kernel
theorem dX8_init_5 : decode cX8_init 5 = .ok (.aload_n 1, 1) := by decide +kernel
theorem dX8_init_6 : decode cX8_init 6 = .ok (.putfield 9, 3) := by decide +kernel
theorem dX8_init_9 : decode cX8_init 9 = .ok (.return_, 1) := by decide +kernel
theorem dX8_read_0 : decode cX8_read 0 = .ok (.aload_n 0, 1) := by decide +kernel
theorem dX8_read_1 : decode cX8_read 1 = .ok (.aload_n 1, 1) := by decide +kernel
theorem dX8_read_2 : decode cX8_read 2 = .ok (.putfield 15, 3) := by decide +kernel
theorem dX8_read_5 : decode cX8_read 5 = .ok (.aload_n 0, 1) := by decide +kernel
theorem dX8_read_6 : decode cX8_read 6 = .ok (.getfield 15, 3) := by decide +kernel
theorem dX8_read_9 : decode cX8_read 9 = .ok (.invokevirtual 19, 3) := by decide +kernel
theorem dX8_read_12 : decode cX8_read 12 = .ok (.aload_n 0, 1) := by decide +kernel
theorem dX8_read_13 : decode cX8_read 13 = .ok (.aload_n 2, 1) := by decide +kernel
theorem dX8_read_14 : decode cX8_read 14 = .ok (.putfield 24, 3) := by decide +kernel
theorem dX8_read_17 : decode cX8_read 17 = .ok (.aload_n 0, 1) := by decide +kernel
theorem dX8_read_18 : decode cX8_read 18 = .ok (.iconst 0, 1) := by decide +kernel
theorem dX8_read_19 : decode cX8_read 19 = .ok (.putfield 28, 3) := by decide +kernel
theorem dX8_read_22 : decode cX8_read 22 = .ok (.aload_n 0, 1) := by decide +kernel
theorem dX8_read_23 : decode cX8_read 23 = .ok (.iconst 1, 1) := by decide +kernel
theorem dX8_read_24 : decode cX8_read 24 = .ok (.invokevirtual 32, 3) := by decide +kernel
theorem dX8_read_27 : decode cX8_read 27 = .ok (.ifCond .ne 5, 3) := by decide +kernel
theorem dX8_read_30 : decode cX8_read 30 = .ok (.iconst (-1), 1) := by decide +kernel
theorem dX8_read_31 : decode cX8_read 31 = .ok (.ireturn, 1) := by decide +kernel
theorem dX8_read_32 : decode cX8_read 32 = .ok (.aload_n 0, 1) := by decide +kernel
theorem dX8_read_33 : decode cX8_read 33 = .ok (.getfield 9, 3) := by decide +kernel
theorem dX8_read_36 : decode cX8_read 36 = .ok (.getfield 36, 3) := by decide +kernel
theorem dX8_read_39 : decode cX8_read 39 = .ok (.ifCond .eq 14, 3) := by decide +kernel
theorem dX8_read_42 : decode cX8_read 42 = .ok (.aload_n 0, 1) := by decide +kernel
theorem dX8_read_43 : decode cX8_read 43 = .ok (.getfield 9, 3) := by decide +kernel
theorem dX8_read_46 : decode cX8_read 46 = .ok (.iconst 1, 1) := by decide +kernel
theorem dX8_read_47 : decode cX8_read 47 = .ok (.invokevirtual 41, 3) := by decide +kernel
theorem dX8_read_50 : decode cX8_read 50 = .ok (.pop, 1) := by decide +kernel
theorem dX8_read_51 : decode cX8_read 51 = .ok (.iconst (-1), 1) := by decide +kernel
theorem dX8_read_52 : decode cX8_read 52 = .ok (.ireturn, 1) := by decide +kernel
theorem dX8_read_53 : decode cX8_read 53 = .ok (.aload_n 0, 1) := by decide +kernel
theorem dX8_read_54 : decode cX8_read 54 = .ok (.getfield 28, 3) := by decide +kernel
theorem dX8_read_57 : decode cX8_read 57 = .ok (.ireturn, 1) := by decide +kernel
theorem dX8_readCondition_0 : decode cX8_readCondition 0 = .ok (.aload_n 0, 1) := by decide +kernel
theorem dX8_readCondition_1 : decode cX8_readCondition 1 = .ok (.iload_n 1, 1) := by decide +kernel
theorem dX8_readCondition_2 : decode cX8_readCondition 2 = .ok (.invokevirtual 44, 3) := by decide +kernel
theorem dX8_readCondition_5 : decode cX8_readCondition 5 = .ok (.ifCond .ne 5, 3) := by decide +kernel
theorem dX8_readCondition_8 : decode cX8_readCondition 8 = .ok (.iconst 0, 1) := by decide +kernel
theorem dX8_readCondition_9 : decode cX8_readCondition 9 = .ok (.ireturn, 1) := by decide +kernel
theorem dX8_readCondition_10 : decode cX8_readCondition 10 = .ok (.iconst 0, 1) := by decide +kernel
theorem dX8_readCondition_11 : decode cX8_readCondition 11 = .ok (.istore_n 2, 1) := by decide +kernel
theorem dX8_readCondition_12 : decode cX8_readCondition 12 = .ok (.iload_n 2, 1) := by decide +kernel
theorem dX8_readCondition_13 : decode cX8_readCondition 13 = .ok (.bipush 20, 2) := by decide +kernel
theorem dX8_readCondition_15 : decode cX8_readCondition 15 = .ok (.if_icmp .ge 51, 3) := by decide +kernel
theorem dX8_readCondition_18 : decode cX8_readCondition 18 = .ok (.aload_n 0, 1) := by decide +kernel
theorem dX8_readCondition_19 : decode cX8_readCondition 19 = .ok (.getfield 9, 3) := by decide +kernel
theorem dX8_readCondition_22 : decode cX8_readCondition 22 = .ok (.getfield 47, 3) := by decide +kernel
theorem dX8_readCondition_25 : decode cX8_readCondition 25 = .ok (.getstatic 51, 3) := by decide +kernel
theorem dX8_readCondition_28 : decode cX8_readCondition 28 = .ok (.if_acmp .ne 38, 3) := by decide +kernel
theorem dX8_readCondition_31 : decode cX8_readCondition 31 = .ok (.aload_n 0, 1) := by decide +kernel
theorem dX8_readCondition_32 : decode cX8_readCondition 32 = .ok (.getfield 9, 3) := by decide +kernel
theorem dX8_readCondition_35 : decode cX8_readCondition 35 = .ok (.invokevirtual 56, 3) := by decide +kernel
theorem dX8_readCondition_38 : decode cX8_readCondition 38 = .ok (.aload_n 0, 1) := by decide +kernel
theorem dX8_readCondition_39 : decode cX8_readCondition 39 = .ok (.iload_n 1, 1) := by decide +kernel
theorem dX8_readCondition_40 : decode cX8_readCondition 40 = .ok (.invokevirtual 44, 3) := by decide +kernel
theorem dX8_readCondition_43 : decode cX8_readCondition 43 = .ok (.ifCond .ne 5, 3) := by decide +kernel
theorem dX8_readCondition_46 : decode cX8_readCondition 46 = .ok (.iconst 0, 1) := by decide +kernel
theorem dX8_readCondition_47 : decode cX8_readCondition 47 = .ok (.ireturn, 1) := by decide +kernel
theorem dX8_readCondition_48 : decode cX8_readCondition 48 = .ok (.aload_n 0, 1) := by decide +kernel
theorem dX8_readCondition_49 : decode cX8_readCondition 49 = .ok (.getfield 15, 3) := by decide +kernel
theorem dX8_readCondition_52 : decode cX8_readCondition 52 = .ok (.getstatic 51, 3) := by decide +kernel
theorem dX8_readCondition_55 : decode cX8_readCondition 55 = .ok (.iconst 0, 1) := by decide +kernel
theorem dX8_readCondition_56 : decode cX8_readCondition 56 = .ok (.iconst 0, 1) := by decide +kernel
theorem dX8_readCondition_57 : decode cX8_readCondition 57 = .ok (.invokevirtual 59, 3) := by decide +kernel
theorem dX8_readCondition_60 : decode cX8_readCondition 60 = .ok (.iinc 2 1, 3) := by decide +kernel
theorem dX8_readCondition_63 : decode cX8_readCondition 63 = .ok (.goto (-51), 3) := by decide +kernel
theorem dX8_readCondition_66 : decode cX8_readCondition 66 = .ok (.iconst 1, 1) := by decide +kernel
theorem dX8_readCondition_67 : decode cX8_readCondition 67 = .ok (.ireturn, 1) := by decide +kernel
theorem dX8_readAll_0 : decode cX8_readAll 0 = .ok (.aload_n 0, 1) := by decide +kernel
theorem dX8_readAll_1 : decode cX8_readAll 1 = .ok (.iload_n 1, 1) := by decide +kernel
theorem dX8_readAll_2 : decode cX8_readAll 2 = .ok (.invokevirtual 63, 3) := by decide +kernel
theorem dX8_readAll_5 : decode cX8_readAll 5 = .ok (.ifCond .ne 5, 3) := by decide +kernel
theorem dX8_readAll_8 : decode cX8_readAll 8 = .ok (.iconst 0, 1) := by decide +kernel
theorem dX8_readAll_9 : decode cX8_readAll 9 = .ok (.ireturn, 1) := by decide +kernel
theorem dX8_readAll_10 : decode cX8_readAll 10 = .ok (.iconst 0, 1) := by decide +kernel
theorem dX8_readAll_11 : decode cX8_readAll 11 = .ok (.istore_n 2, 1) := by decide +kernel
theorem dX8_readAll_12 : decode cX8_readAll 12 = .ok (.iload_n 2, 1) := by decide +kernel
theorem dX8_readAll_13 : decode cX8_readAll 13 = .ok (.bipush 20, 2) := by decide +kernel
theorem dX8_readAll_15 : decode cX8_readAll 15 = .ok (.if_icmp .ge 51, 3) := by decide +kernel
theorem dX8_readAll_18 : decode cX8_readAll 18 = .ok (.aload_n 0, 1) := by decide +kernel
theorem dX8_readAll_19 : decode cX8_readAll 19 = .ok (.getfield 9, 3) := by decide +kernel
theorem dX8_readAll_22 : decode cX8_readAll 22 = .ok (.getfield 47, 3) := by decide +kernel
theorem dX8_readAll_25 : decode cX8_readAll 25 = .ok (.getstatic 66, 3) := by decide +kernel
theorem dX8_readAll_28 : decode cX8_readAll 28 = .ok (.if_acmp .ne 38, 3) := by decide +kernel
theorem dX8_readAll_31 : decode cX8_readAll 31 = .ok (.aload_n 0, 1) := by decide +kernel
theorem dX8_readAll_32 : decode cX8_readAll 32 = .ok (.getfield 9, 3) := by decide +kernel
theorem dX8_readAll_35 : decode cX8_readAll 35 = .ok (.invokevirtual 56, 3) := by decide +kernel
theorem dX8_readAll_38 : decode cX8_readAll 38 = .ok (.aload_n 0, 1) := by decide +kernel
theorem dX8_readAll_39 : decode cX8_readAll 39 = .ok (.iload_n 1, 1) := by decide +kernel
theorem dX8_readAll_40 : decode cX8_readAll 40 = .ok (.invokevirtual 63, 3) := by decide +kernel
theorem dX8_readAll_43 : decode cX8_readAll 43 = .ok (.ifCond .ne 5, 3) := by decide +kernel
theorem dX8_readAll_46 : decode cX8_readAll 46 = .ok (.iconst 0, 1) := by decide +kernel
theorem dX8_readAll_47 : decode cX8_readAll 47 = .ok (.ireturn, 1) := by decide +kernel
theorem dX8_readAll_48 : decode cX8_readAll 48 = .ok (.aload_n 0, 1) := by decide +kernel
theorem dX8_readAll_49 : decode cX8_readAll 49 = .ok (.getfield 15, 3) := by decide +kernel
theorem dX8_readAll_52 : decode cX8_readAll 52 = .ok (.getstatic 66, 3) := by decide +kernel
theorem dX8_readAll_55 : decode cX8_readAll 55 = .ok (.iconst 0, 1) := by decide +kernel
theorem dX8_readAll_56 : decode cX8_readAll 56 = .ok (.iconst 0, 1) := by decide +kernel
theorem dX8_readAll_57 : decode cX8_readAll 57 = .ok (.invokevirtual 59, 3) := by decide +kernel
theorem dX8_readAll_60 : decode cX8_readAll 60 = .ok (.iinc 2 1, 3) := by decide +kernel
theorem dX8_readAll_63 : decode cX8_readAll 63 = .ok (.goto (-51), 3) := by decide +kernel
theorem dX8_readAll_66 : decode cX8_readAll 66 = .ok (.iconst 1, 1) := by decide +kernel
theorem dX8_readAll_67 : decode cX8_readAll 67 = .ok (.ireturn, 1) := by decide +kernel
theorem dX8_readOne_0 : decode cX8_readOne 0 = .ok (.aload_n 0, 1) := by decide +kernel
theorem dX8_readOne_1 : decode cX8_readOne 1 = .ok (.getfield 9, 3) := by decide +kernel
theorem dX8_readOne_4 : decode cX8_readOne 4 = .ok (.getfield 47, 3) := by decide +kernel
theorem dX8_readOne_7 : decode cX8_readOne 7 = .ok (.getfield 69, 3) := by decide +kernel
theorem dX8_readOne_10 : decode cX8_readOne 10 = .ok (.ifCond .ne 24, 3) := by decide +kernel
theorem dX8_readOne_13 : decode cX8_readOne 13 = .ok (.aload_n 0, 1) := by decide +kernel
theorem dX8_readOne_14 : decode cX8_readOne 14 = .ok (.getfield 9, 3) := by decide +kernel
theorem dX8_readOne_17 : decode cX8_readOne 17 = .ok (.getfield 73, 3) := by decide +kernel
theorem dX8_readOne_20 : decode cX8_readOne 20 = .ok (.bipush 40, 2) := by decide +kernel
theorem dX8_readOne_22 : decode cX8_readOne 22 = .ok (.if_icmp .eq 12, 3) := by decide +kernel
theorem dX8_readOne_25 : decode cX8_readOne 25 = .ok (.aload_n 0, 1) := by decide +kernel
theorem dX8_readOne_26 : decode cX8_readOne 26 = .ok (.getfield 9, 3) := by decide +kernel
theorem dX8_readOne_29 : decode cX8_readOne 29 = .ok (.iconst 1, 1) := by decide +kernel
theorem dX8_readOne_30 : decode cX8_readOne 30 = .ok (.invokevirtual 41, 3) := by decide +kernel
theorem dX8_readOne_33 : decode cX8_readOne 33 = .ok (.ireturn, 1) := by decide +kernel
theorem dX8_readOne_34 : decode cX8_readOne 34 = .ok (.aload_n 0, 1) := by decide +kernel
theorem dX8_readOne_35 : decode cX8_readOne 35 = .ok (.getfield 28, 3) := by decide +kernel
theorem dX8_readOne_38 : decode cX8_readOne 38 = .ok (.bipush 20, 2) := by decide +kernel
theorem dX8_readOne_40 : decode cX8_readOne 40 = .ok (.if_icmp .ge 9, 3) := by decide +kernel
theorem dX8_readOne_43 : decode cX8_readOne 43 = .ok (.iload_n 1, 1) := by decide +kernel
theorem dX8_readOne_44 : decode cX8_readOne 44 = .ok (.bipush 8, 2) := by decide +kernel
theorem dX8_readOne_46 : decode cX8_readOne 46 = .ok (.if_icmp .le 12, 3) := by decide +kernel
theorem dX8_readOne_49 : decode cX8_readOne 49 = .ok (.aload_n 0, 1) := by decide +kernel
theorem dX8_readOne_50 : decode cX8_readOne 50 = .ok (.getfield 9, 3) := by decide +kernel
theorem dX8_readOne_53 : decode cX8_readOne 53 = .ok (.iconst 4, 1) := by decide +kernel
theorem dX8_readOne_54 : decode cX8_readOne 54 = .ok (.invokevirtual 41, 3) := by decide +kernel
theorem dX8_readOne_57 : decode cX8_readOne 57 = .ok (.ireturn, 1) := by decide +kernel
theorem dX8_readOne_58 : decode cX8_readOne 58 = .ok (.aload_n 0, 1) := by decide +kernel
theorem dX8_readOne_59 : decode cX8_readOne 59 = .ok (.dup, 1) := by decide +kernel
theorem dX8_readOne_60 : decode cX8_readOne 60 = .ok (.getfield 28, 3) := by decide +kernel
theorem dX8_readOne_63 : decode cX8_readOne 63 = .ok (.iconst 1, 1) := by decide +kernel
theorem dX8_readOne_64 : decode cX8_readOne 64 = .ok (.iadd, 1) := by decide +kernel
theorem dX8_readOne_65 : decode cX8_readOne 65 = .ok (.putfield 28, 3) := by decide +kernel
theorem dX8_readOne_68 : decode cX8_readOne 68 = .ok (.aload_n 0, 1) := by decide +kernel
theorem dX8_readOne_69 : decode cX8_readOne 69 = .ok (.getfield 9, 3) := by decide +kernel
theorem dX8_readOne_72 : decode cX8_readOne 72 = .ok (.getfield 47, 3) := by decide +kernel
theorem dX8_readOne_75 : decode cX8_readOne 75 = .ok (.astore_n 2, 1) := by decide +kernel
theorem dX8_readOne_76 : decode cX8_readOne 76 = .ok (.aload_n 0, 1) := by decide +kernel
theorem dX8_readOne_77 : decode cX8_readOne 77 = .ok (.getfield 9, 3) := by decide +kernel
theorem dX8_readOne_80 : decode cX8_readOne 80 = .ok (.invokevirtual 56, 3) := by decide +kernel
theorem dX8_readOne_83 : decode cX8_readOne 83 = .ok (.getstatic 76, 3) := by decide +kernel
theorem dX8_readOne_86 : decode cX8_readOne 86 = .ok (.aload_n 2, 1) := by decide +kernel
theorem dX8_readOne_87 : decode cX8_readOne 87 = .ok (.invokevirtual 82, 3) := by decide +kernel
theorem dX8_readOne_90 : decode cX8_readOne 90 = .ok (.iaload, 1) := by decide +kernel
theorem dX8_readOne_91 : decode cX8_readOne 91 = .ok (.tableswitch 137 10 20 #[57, 137, 137, 83, 83, 95, 100, 105, 105, 130, 130], 57) := by decide +kernel
theorem dX8_readOne_148 : decode cX8_readOne 148 = .ok (.aload_n 0, 1) := by decide +kernel
theorem dX8_readOne_149 : decode cX8_readOne 149 = .ok (.iload_n 1, 1) := by decide +kernel
theorem dX8_readOne_150 : decode cX8_readOne 150 = .ok (.iconst 1, 1) := by decide +kernel
theorem dX8_readOne_151 : decode cX8_readOne 151 = .ok (.iadd, 1) := by decide +kernel
theorem dX8_readOne_152 : decode cX8_readOne 152 = .ok (.invokevirtual 63, 3) := by decide +kernel
theorem dX8_readOne_155 : decode cX8_readOne 155 = .ok (.ifCond .ne 5, 3) := by decide +kernel
theorem dX8_readOne_158 : decode cX8_readOne 158 = .ok (.iconst 0, 1) := by decide +kernel
theorem dX8_readOne_159 : decode cX8_readOne 159 = .ok (.ireturn, 1) := by decide +kernel
theorem dX8_readOne_160 : decode cX8_readOne 160 = .ok (.aload_n 0, 1) := by decide +kernel
theorem dX8_readOne_161 : decode cX8_readOne 161 = .ok (.getfield 15, 3) := by decide +kernel
theorem dX8_readOne_164 : decode cX8_readOne 164 = .ok (.getstatic 86, 3) := by decide +kernel
theorem dX8_readOne_167 : decode cX8_readOne 167 = .ok (.iconst 0, 1) := by decide +kernel
theorem dX8_readOne_168 : decode cX8_readOne 168 = .ok (.iconst 0, 1) := by decide +kernel
theorem dX8_readOne_169 : decode cX8_readOne 169 = .ok (.invokevirtual 59, 3) := by decide +kernel
theorem dX8_readOne_172 : decode cX8_readOne 172 = .ok (.iconst 1, 1) := by decide +kernel
theorem dX8_readOne_173 : decode cX8_readOne 173 = .ok (.ireturn, 1) := by decide +kernel
theorem dX8_readOne_174 : decode cX8_readOne 174 = .ok (.aload_n 0, 1) := by decide +kernel
theorem dX8_readOne_175 : decode cX8_readOne 175 = .ok (.getfield 15, 3) := by decide +kernel
theorem dX8_readOne_178 : decode cX8_readOne 178 = .ok (.aload_n 2, 1) := by decide +kernel
theorem dX8_readOne_179 : decode cX8_readOne 179 = .ok (.iconst 0, 1) := by decide +kernel
theorem dX8_readOne_180 : decode cX8_readOne 180 = .ok (.iconst 0, 1) := by decide +kernel
theorem dX8_readOne_181 : decode cX8_readOne 181 = .ok (.invokevirtual 59, 3) := by decide +kernel
theorem dX8_readOne_184 : decode cX8_readOne 184 = .ok (.iconst 1, 1) := by decide +kernel
theorem dX8_readOne_185 : decode cX8_readOne 185 = .ok (.ireturn, 1) := by decide +kernel
theorem dX8_readOne_186 : decode cX8_readOne 186 = .ok (.aload_n 0, 1) := by decide +kernel
theorem dX8_readOne_187 : decode cX8_readOne 187 = .ok (.invokevirtual 89, 3) := by decide +kernel
theorem dX8_readOne_190 : decode cX8_readOne 190 = .ok (.ireturn, 1) := by decide +kernel
theorem dX8_readOne_191 : decode cX8_readOne 191 = .ok (.aload_n 0, 1) := by decide +kernel
theorem dX8_readOne_192 : decode cX8_readOne 192 = .ok (.invokevirtual 93, 3) := by decide +kernel
theorem dX8_readOne_195 : decode cX8_readOne 195 = .ok (.ireturn, 1) := by decide +kernel
theorem dX8_readOne_196 : decode cX8_readOne 196 = .ok (.aload_n 0, 1) := by decide +kernel
theorem dX8_readOne_197 : decode cX8_readOne 197 = .ok (.invokevirtual 96, 3) := by decide +kernel
theorem dX8_readOne_200 : decode cX8_readOne 200 = .ok (.istore_n 3, 1) := by decide +kernel
theorem dX8_readOne_201 : decode cX8_readOne 201 = .ok (.iload_n 3, 1) := by decide +kernel
theorem dX8_readOne_202 : decode cX8_readOne 202 = .ok (.iconst (-1), 1) := by decide +kernel
theorem dX8_readOne_203 : decode cX8_readOne 203 = .ok (.if_icmp .eq 16, 3) := by decide +kernel
theorem dX8_readOne_206 : decode cX8_readOne 206 = .ok (.aload_n 0, 1) := by decide +kernel
theorem dX8_readOne_207 : decode cX8_readOne 207 = .ok (.aload_n 2, 1) := by decide +kernel
theorem dX8_readOne_208 : decode cX8_readOne 208 = .ok (.iload_n 3, 1) := by decide +kernel
theorem dX8_readOne_209 : decode cX8_readOne 209 = .ok (.invokevirtual 99, 3) := by decide +kernel
theorem dX8_readOne_212 : decode cX8_readOne 212 = .ok (.ifCond .eq 7, 3) := by decide +kernel
theorem dX8_readOne_215 : decode cX8_readOne 215 = .ok (.iconst 1, 1) := by decide +kernel
theorem dX8_readOne_216 : decode cX8_readOne 216 = .ok (.goto 4, 3) := by decide +kernel
theorem dX8_readOne_219 : decode cX8_readOne 219 = .ok (.iconst 0, 1) := by decide +kernel
theorem dX8_readOne_220 : decode cX8_readOne 220 = .ok (.ireturn, 1) := by decide +kernel
theorem dX8_readOne_221 : decode cX8_readOne 221 = .ok (.aload_n 0, 1) := by decide +kernel
theorem dX8_readOne_222 : decode cX8_readOne 222 = .ok (.aload_n 2, 1) := by decide +kernel
theorem dX8_readOne_223 : decode cX8_readOne 223 = .ok (.iconst (-1), 1) := by decide +kernel
theorem dX8_readOne_224 : decode cX8_readOne 224 = .ok (.invokevirtual 99, 3) := by decide +kernel
theorem dX8_readOne_227 : decode cX8_readOne 227 = .ok (.ireturn, 1) := by decide +kernel
theorem dX8_readOne_228 : decode cX8_readOne 228 = .ok (.aload_n 0, 1) := by decide +kernel
theorem dX8_readOne_229 : decode cX8_readOne 229 = .ok (.iload_n 1, 1) := by decide +kernel
theorem dX8_readOne_230 : decode cX8_readOne 230 = .ok (.iconst 1, 1) := by decide +kernel
theorem dX8_readOne_231 : decode cX8_readOne 231 = .ok (.iadd, 1) := by decide +kernel
theorem dX8_readOne_232 : decode cX8_readOne 232 = .ok (.invokevirtual 32, 3) := by decide +kernel
theorem dX8_readOne_235 : decode cX8_readOne 235 = .ok (.ifCond .eq 19, 3) := by decide +kernel
theorem dX8_readOne_238 : decode cX8_readOne 238 = .ok (.aload_n 0, 1) := by decide +kernel
theorem dX8_readOne_239 : decode cX8_readOne 239 = .ok (.getfield 9, 3) := by decide +kernel
theorem dX8_readOne_242 : decode cX8_readOne 242 = .ok (.bipush 41, 2) := by decide +kernel
theorem dX8_readOne_244 : decode cX8_readOne 244 = .ok (.invokevirtual 103, 3) := by decide +kernel
theorem dX8_readOne_247 : decode cX8_readOne 247 = .ok (.ifCond .eq 7, 3) := by decide +kernel
theorem dX8_readOne_250 : decode cX8_readOne 250 = .ok (.iconst 1, 1) := by decide +kernel
theorem dX8_readOne_251 : decode cX8_readOne 251 = .ok (.goto 4, 3) := by decide +kernel
theorem dX8_readOne_254 : decode cX8_readOne 254 = .ok (.iconst 0, 1) := by decide +kernel
theorem dX8_readOne_255 : decode cX8_readOne 255 = .ok (.ireturn, 1) := by decide +kernel
theorem dX8_readHas_0 : decode cX8_readHas 0 = .ok (.aload_n 0, 1) := by decide +kernel
theorem dX8_readHas_1 : decode cX8_readHas 1 = .ok (.getfield 9, 3) := by decide +kernel
theorem dX8_readHas_4 : decode cX8_readHas 4 = .ok (.aload_n 0, 1) := by decide +kernel
theorem dX8_readHas_5 : decode cX8_readHas 5 = .ok (.getfield 24, 3) := by decide +kernel
theorem dX8_readHas_8 : decode cX8_readHas 8 = .ok (.getfield 106, 3) := by decide +kernel
theorem dX8_readHas_11 : decode cX8_readHas 11 = .ok (.invokevirtual 111, 3) := by decide +kernel
theorem dX8_readHas_14 : decode cX8_readHas 14 = .ok (.istore_n 1, 1) := by decide +kernel
theorem dX8_readHas_15 : decode cX8_readHas 15 = .ok (.iload_n 1, 1) := by decide +kernel
theorem dX8_readHas_16 : decode cX8_readHas 16 = .ok (.iconst (-1), 1) := by decide +kernel
theorem dX8_readHas_17 : decode cX8_readHas 17 = .ok (.if_icmp .ne 5, 3) := by decide +kernel
theorem dX8_readHas_20 : decode cX8_readHas 20 = .ok (.iconst 0, 1) := by decide +kernel
theorem dX8_readHas_21 : decode cX8_readHas 21 = .ok (.ireturn, 1) := by decide +kernel
theorem dX8_readHas_22 : decode cX8_readHas 22 = .ok (.aload_n 0, 1) := by decide +kernel
theorem dX8_readHas_23 : decode cX8_readHas 23 = .ok (.getfield 15, 3) := by decide +kernel
theorem dX8_readHas_26 : decode cX8_readHas 26 = .ok (.getstatic 115, 3) := by decide +kernel
theorem dX8_readHas_29 : decode cX8_readHas 29 = .ok (.iload_n 1, 1) := by decide +kernel
theorem dX8_readHas_30 : decode cX8_readHas 30 = .ok (.iconst 0, 1) := by decide +kernel
theorem dX8_readHas_31 : decode cX8_readHas 31 = .ok (.invokevirtual 59, 3) := by decide +kernel
theorem dX8_readHas_34 : decode cX8_readHas 34 = .ok (.aload_n 0, 1) := by decide +kernel
theorem dX8_readHas_35 : decode cX8_readHas 35 = .ok (.getfield 9, 3) := by decide +kernel
theorem dX8_readHas_38 : decode cX8_readHas 38 = .ok (.invokevirtual 56, 3) := by decide +kernel
theorem dX8_readHas_41 : decode cX8_readHas 41 = .ok (.iconst 1, 1) := by decide +kernel
theorem dX8_readHas_42 : decode cX8_readHas 42 = .ok (.ireturn, 1) := by decide +kernel
theorem dX8_readAhead_0 : decode cX8_readAhead 0 = .ok (.aload_n 0, 1) := by decide +kernel
theorem dX8_readAhead_1 : decode cX8_readAhead 1 = .ok (.getfield 9, 3) := by decide +kernel
theorem dX8_readAhead_4 : decode cX8_readAhead 4 = .ok (.aload_n 0, 1) := by decide +kernel
theorem dX8_readAhead_5 : decode cX8_readAhead 5 = .ok (.getfield 24, 3) := by decide +kernel
theorem dX8_readAhead_8 : decode cX8_readAhead 8 = .ok (.getfield 106, 3) := by decide +kernel
theorem dX8_readAhead_11 : decode cX8_readAhead 11 = .ok (.invokevirtual 111, 3) := by decide +kernel
theorem dX8_readAhead_14 : decode cX8_readAhead 14 = .ok (.istore_n 1, 1) := by decide +kernel
theorem dX8_readAhead_15 : decode cX8_readAhead 15 = .ok (.iload_n 1, 1) := by decide +kernel
theorem dX8_readAhead_16 : decode cX8_readAhead 16 = .ok (.iconst (-1), 1) := by decide +kernel
theorem dX8_readAhead_17 : decode cX8_readAhead 17 = .ok (.if_icmp .ne 5, 3) := by decide +kernel
theorem dX8_readAhead_20 : decode cX8_readAhead 20 = .ok (.iconst 0, 1) := by decide +kernel
theorem dX8_readAhead_21 : decode cX8_readAhead 21 = .ok (.ireturn, 1) := by decide +kernel
theorem dX8_readAhead_22 : decode cX8_readAhead 22 = .ok (.aload_n 0, 1) := by decide +kernel
theorem dX8_readAhead_23 : decode cX8_readAhead 23 = .ok (.getfield 9, 3) := by decide +kernel
theorem dX8_readAhead_26 : decode cX8_readAhead 26 = .ok (.invokevirtual 56, 3) := by decide +kernel
theorem dX8_readAhead_29 : decode cX8_readAhead 29 = .ok (.aload_n 0, 1) := by decide +kernel
theorem dX8_readAhead_30 : decode cX8_readAhead 30 = .ok (.getfield 9, 3) := by decide +kernel
theorem dX8_readAhead_33 : decode cX8_readAhead 33 = .ok (.aload_n 0, 1) := by decide +kernel
theorem dX8_readAhead_34 : decode cX8_readAhead 34 = .ok (.getfield 24, 3) := by decide +kernel
theorem dX8_readAhead_37 : decode cX8_readAhead 37 = .ok (.getfield 106, 3) := by decide +kernel
theorem dX8_readAhead_40 : decode cX8_readAhead 40 = .ok (.invokevirtual 111, 3) := by decide +kernel
theorem dX8_readAhead_43 : decode cX8_readAhead 43 = .ok (.istore_n 2, 1) := by decide +kernel
theorem dX8_readAhead_44 : decode cX8_readAhead 44 = .ok (.iload_n 2, 1) := by decide +kernel
theorem dX8_readAhead_45 : decode cX8_readAhead 45 = .ok (.iconst (-1), 1) := by decide +kernel
theorem dX8_readAhead_46 : decode cX8_readAhead 46 = .ok (.if_icmp .ne 5, 3) := by decide +kernel
theorem dX8_readAhead_49 : decode cX8_readAhead 49 = .ok (.iconst 0, 1) := by decide +kernel
theorem dX8_readAhead_50 : decode cX8_readAhead 50 = .ok (.ireturn, 1) := by decide +kernel
theorem dX8_readAhead_51 : decode cX8_readAhead 51 = .ok (.aload_n 0, 1) := by decide +kernel
theorem dX8_readAhead_52 : decode cX8_readAhead 52 = .ok (.getfield 15, 3) := by decide +kernel
theorem dX8_readAhead_55 : decode cX8_readAhead 55 = .ok (.getstatic 118, 3) := by decide +kernel
theorem dX8_readAhead_58 : decode cX8_readAhead 58 = .ok (.iload_n 1, 1) := by decide +kernel
theorem dX8_readAhead_59 : decode cX8_readAhead 59 = .ok (.iload_n 2, 1) := by decide +kernel
theorem dX8_readAhead_60 : decode cX8_readAhead 60 = .ok (.invokevirtual 59, 3) := by decide +kernel
theorem dX8_readAhead_63 : decode cX8_readAhead 63 = .ok (.aload_n 0, 1) := by decide +kernel
theorem dX8_readAhead_64 : decode cX8_readAhead 64 = .ok (.getfield 9, 3) := by decide +kernel
theorem dX8_readAhead_67 : decode cX8_readAhead 67 = .ok (.invokevirtual 56, 3) := by decide +kernel
theorem dX8_readAhead_70 : decode cX8_readAhead 70 = .ok (.iconst 1, 1) := by decide +kernel
theorem dX8_readAhead_71 : decode cX8_readAhead 71 = .ok (.ireturn, 1) := by decide +kernel
theorem dX8_takeCopy_0 : decode cX8_takeCopy 0 = .ok (.aload_n 0, 1) := by decide +kernel
theorem dX8_takeCopy_1 : decode cX8_takeCopy 1 = .ok (.getfield 9, 3) := by decide +kernel
theorem dX8_takeCopy_4 : decode cX8_takeCopy 4 = .ok (.invokevirtual 121, 3) := by decide +kernel
theorem dX8_takeCopy_7 : decode cX8_takeCopy 7 = .ok (.ifCond .ne 14, 3) := by decide +kernel
theorem dX8_takeCopy_10 : decode cX8_takeCopy 10 = .ok (.aload_n 0, 1) := by decide +kernel
theorem dX8_takeCopy_11 : decode cX8_takeCopy 11 = .ok (.getfield 9, 3) := by decide +kernel
theorem dX8_takeCopy_14 : decode cX8_takeCopy 14 = .ok (.iconst 1, 1) := by decide +kernel
theorem dX8_takeCopy_15 : decode cX8_takeCopy 15 = .ok (.invokevirtual 41, 3) := by decide +kernel
theorem dX8_takeCopy_18 : decode cX8_takeCopy 18 = .ok (.pop, 1) := by decide +kernel
theorem dX8_takeCopy_19 : decode cX8_takeCopy 19 = .ok (.iconst (-1), 1) := by decide +kernel
theorem dX8_takeCopy_20 : decode cX8_takeCopy 20 = .ok (.ireturn, 1) := by decide +kernel
theorem dX8_takeCopy_21 : decode cX8_takeCopy 21 = .ok (.aload_n 0, 1) := by decide +kernel
theorem dX8_takeCopy_22 : decode cX8_takeCopy 22 = .ok (.getfield 24, 3) := by decide +kernel
theorem dX8_takeCopy_25 : decode cX8_takeCopy 25 = .ok (.aload_n 0, 1) := by decide +kernel
theorem dX8_takeCopy_26 : decode cX8_takeCopy 26 = .ok (.getfield 9, 3) := by decide +kernel
theorem dX8_takeCopy_29 : decode cX8_takeCopy 29 = .ok (.getfield 124, 3) := by decide +kernel
theorem dX8_takeCopy_32 : decode cX8_takeCopy 32 = .ok (.invokevirtual 128, 3) := by decide +kernel
theorem dX8_takeCopy_35 : decode cX8_takeCopy 35 = .ok (.istore_n 1, 1) := by decide +kernel
theorem dX8_takeCopy_36 : decode cX8_takeCopy 36 = .ok (.iload_n 1, 1) := by decide +kernel
theorem dX8_takeCopy_37 : decode cX8_takeCopy 37 = .ok (.iconst (-1), 1) := by decide +kernel
theorem dX8_takeCopy_38 : decode cX8_takeCopy 38 = .ok (.if_icmp .ne 14, 3) := by decide +kernel
theorem dX8_takeCopy_41 : decode cX8_takeCopy 41 = .ok (.aload_n 0, 1) := by decide +kernel
theorem dX8_takeCopy_42 : decode cX8_takeCopy 42 = .ok (.getfield 9, 3) := by decide +kernel
theorem dX8_takeCopy_45 : decode cX8_takeCopy 45 = .ok (.iconst 3, 1) := by decide +kernel
theorem dX8_takeCopy_46 : decode cX8_takeCopy 46 = .ok (.invokevirtual 41, 3) := by decide +kernel
theorem dX8_takeCopy_49 : decode cX8_takeCopy 49 = .ok (.pop, 1) := by decide +kernel
theorem dX8_takeCopy_50 : decode cX8_takeCopy 50 = .ok (.iconst (-1), 1) := by decide +kernel
theorem dX8_takeCopy_51 : decode cX8_takeCopy 51 = .ok (.ireturn, 1) := by decide +kernel
theorem dX8_takeCopy_52 : decode cX8_takeCopy 52 = .ok (.aload_n 0, 1) := by decide +kernel
theorem dX8_takeCopy_53 : decode cX8_takeCopy 53 = .ok (.getfield 9, 3) := by decide +kernel
theorem dX8_takeCopy_56 : decode cX8_takeCopy 56 = .ok (.invokevirtual 56, 3) := by decide +kernel
theorem dX8_takeCopy_59 : decode cX8_takeCopy 59 = .ok (.iload_n 1, 1) := by decide +kernel
theorem dX8_takeCopy_60 : decode cX8_takeCopy 60 = .ok (.ireturn, 1) := by decide +kernel
theorem dX8_readMeasure_0 : decode cX8_readMeasure 0 = .ok (.aload_n 0, 1) := by decide +kernel
theorem dX8_readMeasure_1 : decode cX8_readMeasure 1 = .ok (.getfield 9, 3) := by decide +kernel
theorem dX8_readMeasure_4 : decode cX8_readMeasure 4 = .ok (.getfield 73, 3) := by decide +kernel
theorem dX8_readMeasure_7 : decode cX8_readMeasure 7 = .ok (.istore_n 3, 1) := by decide +kernel
theorem dX8_readMeasure_8 : decode cX8_readMeasure 8 = .ok (.iload_n 3, 1) := by decide +kernel
theorem dX8_readMeasure_9 : decode cX8_readMeasure 9 = .ok (.bipush 60, 2) := by decide +kernel
theorem dX8_readMeasure_11 : decode cX8_readMeasure 11 = .ok (.if_icmp .eq 24, 3) := by decide +kernel
theorem dX8_readMeasure_14 : decode cX8_readMeasure 14 = .ok (.iload_n 3, 1) := by decide +kernel
theorem dX8_readMeasure_15 : decode cX8_readMeasure 15 = .ok (.bipush 61, 2) := by decide +kernel
theorem dX8_readMeasure_17 : decode cX8_readMeasure 17 = .ok (.if_icmp .eq 18, 3) := by decide +kernel
theorem dX8_readMeasure_20 : decode cX8_readMeasure 20 = .ok (.iload_n 3, 1) := by decide +kernel
theorem dX8_readMeasure_21 : decode cX8_readMeasure 21 = .ok (.bipush 62, 2) := by decide +kernel
theorem dX8_readMeasure_23 : decode cX8_readMeasure 23 = .ok (.if_icmp .eq 12, 3) := by decide +kernel
theorem dX8_readMeasure_26 : decode cX8_readMeasure 26 = .ok (.aload_n 0, 1) := by decide +kernel
theorem dX8_readMeasure_27 : decode cX8_readMeasure 27 = .ok (.getfield 9, 3) := by decide +kernel
theorem dX8_readMeasure_30 : decode cX8_readMeasure 30 = .ok (.iconst 1, 1) := by decide +kernel
theorem dX8_readMeasure_31 : decode cX8_readMeasure 31 = .ok (.invokevirtual 41, 3) := by decide +kernel
theorem dX8_readMeasure_34 : decode cX8_readMeasure 34 = .ok (.ireturn, 1) := by decide +kernel
theorem dX8_readMeasure_35 : decode cX8_readMeasure 35 = .ok (.aload_n 0, 1) := by decide +kernel
theorem dX8_readMeasure_36 : decode cX8_readMeasure 36 = .ok (.getfield 9, 3) := by decide +kernel
theorem dX8_readMeasure_39 : decode cX8_readMeasure 39 = .ok (.invokevirtual 56, 3) := by decide +kernel
theorem dX8_readMeasure_42 : decode cX8_readMeasure 42 = .ok (.aload_n 0, 1) := by decide +kernel
theorem dX8_readMeasure_43 : decode cX8_readMeasure 43 = .ok (.getfield 9, 3) := by decide +kernel
theorem dX8_readMeasure_46 : decode cX8_readMeasure 46 = .ok (.iconst 0, 1) := by decide +kernel
theorem dX8_readMeasure_47 : decode cX8_readMeasure 47 = .ok (.bipush 99, 2) := by decide +kernel
theorem dX8_readMeasure_49 : decode cX8_readMeasure 49 = .ok (.invokevirtual 132, 3) := by decide +kernel
theorem dX8_readMeasure_52 : decode cX8_readMeasure 52 = .ok (.istore 4, 2) := by decide +kernel
theorem dX8_readMeasure_54 : decode cX8_readMeasure 54 = .ok (.iload 4, 2) := by decide +kernel
theorem dX8_readMeasure_56 : decode cX8_readMeasure 56 = .ok (.iconst (-1), 1) := by decide +kernel
theorem dX8_readMeasure_57 : decode cX8_readMeasure 57 = .ok (.if_icmp .ne 5, 3) := by decide +kernel
theorem dX8_readMeasure_60 : decode cX8_readMeasure 60 = .ok (.iconst 0, 1) := by decide +kernel
theorem dX8_readMeasure_61 : decode cX8_readMeasure 61 = .ok (.ireturn, 1) := by decide +kernel
theorem dX8_readMeasure_62 : decode cX8_readMeasure 62 = .ok (.aload_n 0, 1) := by decide +kernel
theorem dX8_readMeasure_63 : decode cX8_readMeasure 63 = .ok (.getfield 15, 3) := by decide +kernel
theorem dX8_readMeasure_66 : decode cX8_readMeasure 66 = .ok (.aload_n 1, 1) := by decide +kernel
theorem dX8_readMeasure_67 : decode cX8_readMeasure 67 = .ok (.iload_n 2, 1) := by decide +kernel
theorem dX8_readMeasure_68 : decode cX8_readMeasure 68 = .ok (.iconst 0, 1) := by decide +kernel
theorem dX8_readMeasure_69 : decode cX8_readMeasure 69 = .ok (.iload_n 3, 1) := by decide +kernel
theorem dX8_readMeasure_70 : decode cX8_readMeasure 70 = .ok (.iload 4, 2) := by decide +kernel
theorem dX8_readMeasure_72 : decode cX8_readMeasure 72 = .ok (.invokevirtual 136, 3) := by decide +kernel
theorem dX8_readMeasure_75 : decode cX8_readMeasure 75 = .ok (.aload_n 0, 1) := by decide +kernel
theorem dX8_readMeasure_76 : decode cX8_readMeasure 76 = .ok (.getfield 9, 3) := by decide +kernel
theorem dX8_readMeasure_79 : decode cX8_readMeasure 79 = .ok (.invokevirtual 56, 3) := by decide +kernel
theorem dX8_readMeasure_82 : decode cX8_readMeasure 82 = .ok (.iconst 1, 1) := by decide +kernel
theorem dX8_readMeasure_83 : decode cX8_readMeasure 83 = .ok (.ireturn, 1) := by decide +kernel
theorem dX9_init_0 : decode cX9_init 0 = .ok (.aload_n 0, 1) := by decide +kernel
theorem dX9_init_1 : decode cX9_init 1 = .ok (.invokespecial 3, 3) := by decide +kernel
theorem dX9_init_4 : decode cX9_init 4 = .ok (.aload_n 0, 1) := by decide +kernel
theorem dX9_init_5 : decode cX9_init 5 = .ok (.getstatic 9, 3) := by decide +kernel
theorem dX9_init_8 : decode cX9_init 8 = .ok (.putfield 15, 3) := by decide +kernel
theorem dX9_init_11 : decode cX9_init 11 = .ok (.aload_n 0, 1) := by decide +kernel
theorem dX9_init_12 : decode cX9_init 12 = .ok (.aload_n 1, 1) := by decide +kernel
theorem dX9_init_13 : decode cX9_init 13 = .ok (.putfield 20, 3) := by decide +kernel
theorem dX9_init_16 : decode cX9_init 16 = .ok (.return_, 1) := by decide +kernel
theorem dX9_open_0 : decode cX9_open 0 = .ok (.aload_n 0, 1) := by decide +kernel
theorem dX9_open_1 : decode cX9_open 1 = .ok (.iload_n 1, 1) := by decide +kernel
theorem dX9_open_2 : decode cX9_open 2 = .ok (.aload_n 0, 1) := by decide +kernel
theorem dX9_open_3 : decode cX9_open 3 = .ok (.getfield 20, 3) := by decide +kernel
theorem dX9_open_6 : decode cX9_open 6 = .ok (.arraylength, 1) := by decide +kernel
theorem dX9_open_7 : decode cX9_open 7 = .ok (.invokestatic 24, 3) := by decide +kernel
theorem dX9_open_10 : decode cX9_open 10 = .ok (.putfield 30, 3) := by decide +kernel
theorem dX9_open_13 : decode cX9_open 13 = .ok (.aload_n 0, 1) := by decide +kernel
theorem dX9_open_14 : decode cX9_open 14 = .ok (.iload_n 2, 1) := by decide +kernel
theorem dX9_open_15 : decode cX9_open 15 = .ok (.putfield 34, 3) := by decide +kernel
theorem dX9_open_18 : decode cX9_open 18 = .ok (.aload_n 0, 1) := by decide +kernel
theorem dX9_open_19 : decode cX9_open 19 = .ok (.iconst 0, 1) := by decide +kernel
theorem dX9_open_20 : decode cX9_open 20 = .ok (.putfield 37, 3) := by decide +kernel
theorem dX9_open_23 : decode cX9_open 23 = .ok (.aload_n 0, 1) := by decide +kernel
theorem dX9_open_24 : decode cX9_open 24 = .ok (.iconst 0, 1) := by decide +kernel
theorem dX9_open_25 : decode cX9_open 25 = .ok (.putfield 40, 3) := by decide +kernel
theorem dX9_open_28 : decode cX9_open 28 = .ok (.aload_n 0, 1) := by decide +kernel
theorem dX9_open_29 : decode cX9_open 29 = .ok (.iconst 0, 1) := by decide +kernel
theorem dX9_open_30 : decode cX9_open 30 = .ok (.putfield 43, 3) := by decide +kernel
theorem dX9_open_33 : decode cX9_open 33 = .ok (.aload_n 0, 1) := by decide +kernel
theorem dX9_open_34 : decode cX9_open 34 = .ok (.invokevirtual 46, 3) := by decide +kernel
theorem dX9_open_37 : decode cX9_open 37 = .ok (.return_, 1) := by decide +kernel
theorem dX9_advance_0 : decode cX9_advance 0 = .ok (.aload_n 0, 1) := by decide +kernel
theorem dX9_advance_1 : decode cX9_advance 1 = .ok (.getfield 30, 3) := by decide +kernel
theorem dX9_advance_4 : decode cX9_advance 4 = .ok (.aload_n 0, 1) := by decide +kernel
theorem dX9_advance_5 : decode cX9_advance 5 = .ok (.getfield 34, 3) := by decide +kernel
theorem dX9_advance_8 : decode cX9_advance 8 = .ok (.invokestatic 24, 3) := by decide +kernel
theorem dX9_advance_11 : decode cX9_advance 11 = .ok (.istore_n 1, 1) := by decide +kernel
theorem dX9_advance_12 : decode cX9_advance 12 = .ok (.aload_n 0, 1) := by decide +kernel
theorem dX9_advance_13 : decode cX9_advance 13 = .ok (.getfield 37, 3) := by decide +kernel
theorem dX9_advance_16 : decode cX9_advance 16 = .ok (.istore_n 2, 1) := by decide +kernel
theorem dX9_advance_17 : decode cX9_advance 17 = .ok (.iload_n 2, 1) := by decide +kernel
theorem dX9_advance_18 : decode cX9_advance 18 = .ok (.iload_n 1, 1) := by decide +kernel
theorem dX9_advance_19 : decode cX9_advance 19 = .ok (.if_icmp .ge 21, 3) := by decide +kernel
theorem dX9_advance_22 : decode cX9_advance 22 = .ok (.aload_n 0, 1) := by decide +kernel
theorem dX9_advance_23 : decode cX9_advance 23 = .ok (.getfield 20, 3) := by decide +kernel
theorem dX9_advance_26 : decode cX9_advance 26 = .ok (.iload_n 2, 1) := by decide +kernel
theorem dX9_advance_27 : decode cX9_advance 27 = .ok (.baload, 1) := by decide +kernel
theorem dX9_advance_28 : decode cX9_advance 28 = .ok (.invokestatic 49, 3) := by decide +kernel
theorem dX9_advance_31 : decode cX9_advance 31 = .ok (.ifCond .eq 9, 3) := by decide +kernel
theorem dX9_advance_34 : decode cX9_advance 34 = .ok (.iinc 2 1, 3) := by decide +kernel
theorem dX9_advance_37 : decode cX9_advance 37 = .ok (.goto (-20), 3) := by decide +kernel
theorem dX9_advance_40 : decode cX9_advance 40 = .ok (.aload_n 0, 1) := by decide +kernel
theorem dX9_advance_41 : decode cX9_advance 41 = .ok (.getstatic 9, 3) := by decide +kernel
theorem dX9_advance_44 : decode cX9_advance 44 = .ok (.putfield 15, 3) := by decide +kernel
theorem dX9_advance_47 : decode cX9_advance 47 = .ok (.aload_n 0, 1) := by decide +kernel
theorem dX9_advance_48 : decode cX9_advance 48 = .ok (.iconst 0, 1) := by decide +kernel
theorem dX9_advance_49 : decode cX9_advance 49 = .ok (.putfield 53, 3) := by decide +kernel
theorem dX9_advance_52 : decode cX9_advance 52 = .ok (.aload_n 0, 1) := by decide +kernel
theorem dX9_advance_53 : decode cX9_advance 53 = .ok (.lconst 0, 1) := by decide +kernel
theorem dX9_advance_54 : decode cX9_advance 54 = .ok (.putfield 56, 3) := by decide +kernel
theorem dX9_advance_57 : decode cX9_advance 57 = .ok (.aload_n 0, 1) := by decide +kernel
theorem dX9_advance_58 : decode cX9_advance 58 = .ok (.iconst 0, 1) := by decide +kernel
theorem dX9_advance_59 : decode cX9_advance 59 = .ok (.putfield 60, 3) := by decide +kernel
theorem dX9_advance_62 : decode cX9_advance 62 = .ok (.iload_n 2, 1) := by decide +kernel
theorem dX9_advance_63 : decode cX9_advance 63 = .ok (.iload_n 1, 1) := by decide +kernel
theorem dX9_advance_64 : decode cX9_advance 64 = .ok (.if_icmp .lt 34, 3) := by decide +kernel
theorem dX9_advance_67 : decode cX9_advance 67 = .ok (.aload_n 0, 1) := by decide +kernel
theorem dX9_advance_68 : decode cX9_advance 68 = .ok (.iload_n 1, 1) := by decide +kernel
theorem dX9_advance_69 : decode cX9_advance 69 = .ok (.putfield 63, 3) := by decide +kernel
theorem dX9_advance_72 : decode cX9_advance 72 = .ok (.aload_n 0, 1) := by decide +kernel
theorem dX9_advance_73 : decode cX9_advance 73 = .ok (.iload_n 1, 1) := by decide +kernel
theorem dX9_advance_74 : decode cX9_advance 74 = .ok (.putfield 37, 3) := by decide +kernel
theorem dX9_advance_77 : decode cX9_advance 77 = .ok (.aload_n 0, 1) := by decide +kernel
theorem dX9_advance_78 : decode cX9_advance 78 = .ok (.aload_n 0, 1) := by decide +kernel
theorem dX9_advance_79 : decode cX9_advance 79 = .ok (.getfield 30, 3) := by decide +kernel
theorem dX9_advance_82 : decode cX9_advance 82 = .ok (.aload_n 0, 1) := by decide +kernel
theorem dX9_advance_83 : decode cX9_advance 83 = .ok (.getfield 34, 3) := by decide +kernel
theorem dX9_advance_86 : decode cX9_advance 86 = .ok (.if_icmp .le 7, 3) := by decide +kernel
theorem dX9_advance_89 : decode cX9_advance 89 = .ok (.iconst 1, 1) := by decide +kernel
theorem dX9_advance_90 : decode cX9_advance 90 = .ok (.goto 4, 3) := by decide +kernel
theorem dX9_advance_93 : decode cX9_advance 93 = .ok (.iconst 0, 1) := by decide +kernel
theorem dX9_advance_94 : decode cX9_advance 94 = .ok (.putfield 66, 3) := by decide +kernel
theorem dX9_advance_97 : decode cX9_advance 97 = .ok (.return_, 1) := by decide +kernel
theorem dX9_advance_98 : decode cX9_advance 98 = .ok (.aload_n 0, 1) := by decide +kernel
theorem dX9_advance_99 : decode cX9_advance 99 = .ok (.iload_n 2, 1) := by decide +kernel
theorem dX9_advance_100 : decode cX9_advance 100 = .ok (.putfield 63, 3) := by decide +kernel
theorem dX9_advance_103 : decode cX9_advance 103 = .ok (.aload_n 0, 1) := by decide +kernel
theorem dX9_advance_104 : decode cX9_advance 104 = .ok (.getfield 20, 3) := by decide +kernel
theorem dX9_advance_107 : decode cX9_advance 107 = .ok (.iload_n 2, 1) := by decide +kernel
theorem dX9_advance_108 : decode cX9_advance 108 = .ok (.baload, 1) := by decide +kernel
theorem dX9_advance_109 : decode cX9_advance 109 = .ok (.invokestatic 69, 3) := by decide +kernel
theorem dX9_advance_112 : decode cX9_advance 112 = .ok (.ifCond .ne 15, 3) := by decide +kernel
theorem dX9_advance_115 : decode cX9_advance 115 = .ok (.aload_n 0, 1) := by decide +kernel
theorem dX9_advance_116 : decode cX9_advance 116 = .ok (.getfield 20, 3) := by decide +kernel
theorem dX9_advance_119 : decode cX9_advance 119 = .ok (.iload_n 2, 1) := by decide +kernel
theorem dX9_advance_120 : decode cX9_advance 120 = .ok (.baload, 1) := by decide +kernel
theorem dX9_advance_121 : decode cX9_advance 121 = .ok (.invokestatic 72, 3) := by decide +kernel
theorem dX9_advance_124 : decode cX9_advance 124 = .ok (.ifCond .eq 10, 3) := by decide +kernel
theorem dX9_advance_127 : decode cX9_advance 127 = .ok (.aload_n 0, 1) := by decide +kernel
theorem dX9_advance_128 : decode cX9_advance 128 = .ok (.invokevirtual 75, 3) := by decide +kernel
theorem dX9_advance_131 : decode cX9_advance 131 = .ok (.goto 7, 3) := by decide +kernel
theorem dX9_advance_134 : decode cX9_advance 134 = .ok (.aload_n 0, 1) := by decide +kernel
theorem dX9_advance_135 : decode cX9_advance 135 = .ok (.invokevirtual 78, 3) := by decide +kernel
theorem dX9_advance_138 : decode cX9_advance 138 = .ok (.return_, 1) := by decide +kernel
theorem dX9_fail_0 : decode cX9_fail 0 = .ok (.aload_n 0, 1) := by decide +kernel
theorem dX9_fail_1 : decode cX9_fail 1 = .ok (.getfield 40, 3) := by decide +kernel
theorem dX9_fail_4 : decode cX9_fail 4 = .ok (.ifCond .ne 16, 3) := by decide +kernel
theorem dX9_fail_7 : decode cX9_fail 7 = .ok (.aload_n 0, 1) := by decide +kernel
theorem dX9_fail_8 : decode cX9_fail 8 = .ok (.iload_n 1, 1) := by decide +kernel
theorem dX9_fail_9 : decode cX9_fail 9 = .ok (.putfield 40, 3) := by decide +kernel
theorem dX9_fail_12 : decode cX9_fail 12 = .ok (.aload_n 0, 1) := by decide +kernel
theorem dX9_fail_13 : decode cX9_fail 13 = .ok (.aload_n 0, 1) := by decide +kernel
theorem dX9_fail_14 : decode cX9_fail 14 = .ok (.getfield 63, 3) := by decide +kernel
theorem dX9_fail_17 : decode cX9_fail 17 = .ok (.putfield 43, 3) := by decide +kernel
theorem dX9_fail_20 : decode cX9_fail 20 = .ok (.iconst 0, 1) := by decide +kernel
theorem dX9_fail_21 : decode cX9_fail 21 = .ok (.ireturn, 1) := by decide +kernel
theorem dX9_numberHere_0 : decode cX9_numberHere 0 = .ok (.aload_n 0, 1) := by decide +kernel
theorem dX9_numberHere_1 : decode cX9_numberHere 1 = .ok (.getfield 66, 3) := by decide +kernel
theorem dX9_numberHere_4 : decode cX9_numberHere 4 = .ok (.iconst 3, 1) := by decide +kernel
theorem dX9_numberHere_5 : decode cX9_numberHere 5 = .ok (.if_icmp .eq 11, 3) := by decide +kernel
theorem dX9_numberHere_8 : decode cX9_numberHere 8 = .ok (.aload_n 0, 1) := by decide +kernel
theorem dX9_numberHere_9 : decode cX9_numberHere 9 = .ok (.iconst 1, 1) := by decide +kernel
theorem dX9_numberHere_10 : decode cX9_numberHere 10 = .ok (.invokevirtual 81, 3) := by decide +kernel
theorem dX9_numberHere_13 : decode cX9_numberHere 13 = .ok (.pop, 1) := by decide +kernel
theorem dX9_numberHere_14 : decode cX9_numberHere 14 = .ok (.iconst (-1), 1) := by decide +kernel
theorem dX9_numberHere_15 : decode cX9_numberHere 15 = .ok (.ireturn, 1) := by decide +kernel
theorem dX9_numberHere_16 : decode cX9_numberHere 16 = .ok (.aload_n 0, 1) := by decide +kernel
theorem dX9_numberHere_17 : decode cX9_numberHere 17 = .ok (.getfield 60, 3) := by decide +kernel
theorem dX9_numberHere_20 : decode cX9_numberHere 20 = .ok (.iload_n 1, 1) := by decide +kernel
theorem dX9_numberHere_21 : decode cX9_numberHere 21 = .ok (.if_icmp .lt 11, 3) := by decide +kernel
theorem dX9_numberHere_24 : decode cX9_numberHere 24 = .ok (.aload_n 0, 1) := by decide +kernel
theorem dX9_numberHere_25 : decode cX9_numberHere 25 = .ok (.getfield 60, 3) := by decide +kernel
theorem dX9_numberHere_28 : decode cX9_numberHere 28 = .ok (.iload_n 2, 1) := by decide +kernel
theorem dX9_numberHere_29 : decode cX9_numberHere 29 = .ok (.if_icmp .le 11, 3) := by decide +kernel
theorem dX9_numberHere_32 : decode cX9_numberHere 32 = .ok (.aload_n 0, 1) := by decide +kernel
theorem dX9_numberHere_33 : decode cX9_numberHere 33 = .ok (.iconst 2, 1) := by decide +kernel
theorem dX9_numberHere_34 : decode cX9_numberHere 34 = .ok (.invokevirtual 81, 3) := by decide +kernel
theorem dX9_numberHere_37 : decode cX9_numberHere 37 = .ok (.pop, 1) := by decide +kernel
theorem dX9_numberHere_38 : decode cX9_numberHere 38 = .ok (.iconst (-1), 1) := by decide +kernel
theorem dX9_numberHere_39 : decode cX9_numberHere 39 = .ok (.ireturn, 1) := by decide +kernel
theorem dX9_numberHere_40 : decode cX9_numberHere 40 = .ok (.aload_n 0, 1) := by decide +kernel
theorem dX9_numberHere_41 : decode cX9_numberHere 41 = .ok (.getfield 60, 3) := by decide +kernel
theorem dX9_numberHere_44 : decode cX9_numberHere 44 = .ok (.ireturn, 1) := by decide +kernel
theorem dX9_letterHere_0 : decode cX9_letterHere 0 = .ok (.aload_n 0, 1) := by decide +kernel
theorem dX9_letterHere_1 : decode cX9_letterHere 1 = .ok (.getfield 66, 3) := by decide +kernel
theorem dX9_letterHere_4 : decode cX9_letterHere 4 = .ok (.iconst 2, 1) := by decide +kernel
theorem dX9_letterHere_5 : decode cX9_letterHere 5 = .ok (.if_icmp .eq 11, 3) := by decide +kernel
theorem dX9_letterHere_8 : decode cX9_letterHere 8 = .ok (.aload_n 0, 1) := by decide +kernel
theorem dX9_letterHere_9 : decode cX9_letterHere 9 = .ok (.iconst 1, 1) := by decide +kernel
theorem dX9_letterHere_10 : decode cX9_letterHere 10 = .ok (.invokevirtual 81, 3) := by decide +kernel
theorem dX9_letterHere_13 : decode cX9_letterHere 13 = .ok (.pop, 1) := by decide +kernel
theorem dX9_letterHere_14 : decode cX9_letterHere 14 = .ok (.iconst (-1), 1) := by decide +kernel
theorem dX9_letterHere_15 : decode cX9_letterHere 15 = .ok (.ireturn, 1) := by decide +kernel
theorem dX9_letterHere_16 : decode cX9_letterHere 16 = .ok (.aload_n 0, 1) := by decide +kernel
theorem dX9_letterHere_17 : decode cX9_letterHere 17 = .ok (.getfield 56, 3) := by decide +kernel
theorem dX9_letterHere_20 : decode cX9_letterHere 20 = .ok (.iload_n 1, 1) := by decide +kernel
theorem dX9_letterHere_21 : decode cX9_letterHere 21 = .ok (.i2l, 1) := by decide +kernel
theorem dX9_letterHere_22 : decode cX9_letterHere 22 = .ok (.lcmp, 1) := by decide +kernel
theorem dX9_letterHere_23 : decode cX9_letterHere 23 = .ok (.ifCond .le 11, 3) := by decide +kernel
theorem dX9_letterHere_26 : decode cX9_letterHere 26 = .ok (.aload_n 0, 1) := by decide +kernel
theorem dX9_letterHere_27 : decode cX9_letterHere 27 = .ok (.iconst 2, 1) := by decide +kernel
theorem dX9_letterHere_28 : decode cX9_letterHere 28 = .ok (.invokevirtual 81, 3) := by decide +kernel
theorem dX9_letterHere_31 : decode cX9_letterHere 31 = .ok (.pop, 1) := by decide +kernel
theorem dX9_letterHere_32 : decode cX9_letterHere 32 = .ok (.iconst (-1), 1) := by decide +kernel
theorem dX9_letterHere_33 : decode cX9_letterHere 33 = .ok (.ireturn, 1) := by decide +kernel
theorem dX9_letterHere_34 : decode cX9_letterHere 34 = .ok (.aload_n 0, 1) := by decide +kernel
theorem dX9_letterHere_35 : decode cX9_letterHere 35 = .ok (.getfield 56, 3) := by decide +kernel
theorem dX9_letterHere_38 : decode cX9_letterHere 38 = .ok (.l2i, 1) := by decide +kernel
theorem dX9_letterHere_39 : decode cX9_letterHere 39 = .ok (.iconst 1, 1) := by decide +kernel
theorem dX9_letterHere_40 : decode cX9_letterHere 40 = .ok (.isub, 1) := by decide +kernel
theorem dX9_letterHere_41 : decode cX9_letterHere 41 = .ok (.ireturn, 1) := by decide +kernel
theorem dX9_isName_0 : decode cX9_isName 0 = .ok (.aload_n 0, 1) := by decide +kernel
theorem dX9_isName_1 : decode cX9_isName 1 = .ok (.getfield 66, 3) := by decide +kernel
theorem dX9_isName_4 : decode cX9_isName 4 = .ok (.iconst 2, 1) := by decide +kernel
theorem dX9_isName_5 : decode cX9_isName 5 = .ok (.if_icmp .ne 17, 3) := by decide +kernel
theorem dX9_isName_8 : decode cX9_isName 8 = .ok (.aload_n 0, 1) := by decide +kernel
theorem dX9_isName_9 : decode cX9_isName 9 = .ok (.getfield 15, 3) := by decide +kernel
theorem dX9_isName_12 : decode cX9_isName 12 = .ok (.getstatic 9, 3) := by decide +kernel
theorem dX9_isName_15 : decode cX9_isName 15 = .ok (.if_acmp .ne 7, 3) := by decide +kernel
theorem dX9_isName_18 : decode cX9_isName 18 = .ok (.iconst 1, 1) := by decide +kernel
theorem dX9_isName_19 : decode cX9_isName 19 = .ok (.goto 4, 3) := by decide +kernel
theorem dX9_isName_22 : decode cX9_isName 22 = .ok (.iconst 0, 1) := by decide +kernel
theorem dX9_isName_23 : decode cX9_isName 23 = .ok (.ireturn, 1) := by decide +kernel
theorem dX9_passSign_0 : decode cX9_passSign 0 = .ok (.aload_n 0, 1) := by decide +kernel
theorem dX9_passSign_1 : decode cX9_passSign 1 = .ok (.getfield 53, 3) := by decide +kernel
theorem dX9_passSign_4 : decode cX9_passSign 4 = .ok (.iload_n 1, 1) := by decide +kernel
theorem dX9_passSign_5 : decode cX9_passSign 5 = .ok (.if_icmp .eq 9, 3) := by decide +kernel
theorem dX9_passSign_8 : decode cX9_passSign 8 = .ok (.aload_n 0, 1) := by decide +kernel
theorem dX9_passSign_9 : decode cX9_passSign 9 = .ok (.iconst 1, 1) := by decide +kernel
theorem dX9_passSign_10 : decode cX9_passSign 10 = .ok (.invokevirtual 81, 3) := by decide +kernel
theorem dX9_passSign_13 : decode cX9_passSign 13 = .ok (.ireturn, 1) := by decide +kernel
theorem dX9_passSign_14 : decode cX9_passSign 14 = .ok (.aload_n 0, 1) := by decide +kernel
theorem dX9_passSign_15 : decode cX9_passSign 15 = .ok (.invokevirtual 46, 3) := by decide +kernel
theorem dX9_passSign_18 : decode cX9_passSign 18 = .ok (.iconst 1, 1) := by decide +kernel
theorem dX9_passSign_19 : decode cX9_passSign 19 = .ok (.ireturn, 1) := by decide +kernel
theorem dX9_readRun_0 : decode cX9_readRun 0 = .ok (.iconst 0, 1) := by decide +kernel
theorem dX9_readRun_1 : decode cX9_readRun 1 = .ok (.istore_n 1, 1) := by decide +kernel
theorem dX9_readRun_2 : decode cX9_readRun 2 = .ok (.iconst 0, 1) := by decide +kernel
theorem dX9_readRun_3 : decode cX9_readRun 3 = .ok (.istore_n 2, 1) := by decide +kernel
theorem dX9_readRun_4 : decode cX9_readRun 4 = .ok (.aload_n 0, 1) := by decide +kernel
theorem dX9_readRun_5 : decode cX9_readRun 5 = .ok (.getfield 63, 3) := by decide +kernel
theorem dX9_readRun_8 : decode cX9_readRun 8 = .ok (.istore_n 3, 1) := by decide +kernel
theorem dX9_readRun_9 : decode cX9_readRun 9 = .ok (.iload_n 3, 1) := by decide +kernel
theorem dX9_readRun_10 : decode cX9_readRun 10 = .ok (.aload_n 0, 1) := by decide +kernel
theorem dX9_readRun_11 : decode cX9_readRun 11 = .ok (.getfield 30, 3) := by decide +kernel
theorem dX9_readRun_14 : decode cX9_readRun 14 = .ok (.if_icmp .ge 100, 3) := by decide +kernel
theorem dX9_readRun_17 : decode cX9_readRun 17 = .ok (.aload_n 0, 1) := by decide +kernel
theorem dX9_readRun_18 : decode cX9_readRun 18 = .ok (.getfield 20, 3) := by decide +kernel
theorem dX9_readRun_21 : decode cX9_readRun 21 = .ok (.iload_n 3, 1) := by decide +kernel
theorem dX9_readRun_22 : decode cX9_readRun 22 = .ok (.baload, 1) := by decide +kernel
theorem dX9_readRun_23 : decode cX9_readRun 23 = .ok (.invokestatic 69, 3) := by decide +kernel
theorem dX9_readRun_26 : decode cX9_readRun 26 = .ok (.ifCond .ne 15, 3) := by decide +kernel
theorem dX9_readRun_29 : decode cX9_readRun 29 = .ok (.aload_n 0, 1) := by decide +kernel
theorem dX9_readRun_30 : decode cX9_readRun 30 = .ok (.getfield 20, 3) := by decide +kernel
theorem dX9_readRun_33 : decode cX9_readRun 33 = .ok (.iload_n 3, 1) := by decide +kernel
theorem dX9_readRun_34 : decode cX9_readRun 34 = .ok (.baload, 1) := by decide +kernel
theorem dX9_readRun_35 : decode cX9_readRun 35 = .ok (.invokestatic 72, 3) := by decide +kernel
theorem dX9_readRun_38 : decode cX9_readRun 38 = .ok (.ifCond .eq 76, 3) := by decide +kernel
theorem dX9_readRun_41 : decode cX9_readRun 41 = .ok (.aload_n 0, 1) := by decide +kernel
theorem dX9_readRun_42 : decode cX9_readRun 42 = .ok (.getfield 20, 3) := by decide +kernel
theorem dX9_readRun_45 : decode cX9_readRun 45 = .ok (.iload_n 3, 1) := by decide +kernel
theorem dX9_readRun_46 : decode cX9_readRun 46 = .ok (.baload, 1) := by decide +kernel
theorem dX9_readRun_47 : decode cX9_readRun 47 = .ok (.invokestatic 69, 3) := by decide +kernel
theorem dX9_readRun_50 : decode cX9_readRun 50 = .ok (.ifCond .eq 34, 3) := by decide +kernel
theorem dX9_readRun_53 : decode cX9_readRun 53 = .ok (.iinc 1 1, 3) := by decide +kernel
theorem dX9_readRun_56 : decode cX9_readRun 56 = .ok (.aload_n 0, 1) := by decide +kernel
theorem dX9_readRun_57 : decode cX9_readRun 57 = .ok (.aload_n 0, 1) := by decide +kernel
theorem dX9_readRun_58 : decode cX9_readRun 58 = .ok (.getfield 56, 3) := by decide +kernel
theorem dX9_readRun_61 : decode cX9_readRun 61 = .ok (.ldc2_w 84, 3) := by decide +kernel
theorem dX9_readRun_64 : decode cX9_readRun 64 = .ok (.lmul, 1) := by decide +kernel
theorem dX9_readRun_65 : decode cX9_readRun 65 = .ok (.aload_n 0, 1) := by decide +kernel
theorem dX9_readRun_66 : decode cX9_readRun 66 = .ok (.getfield 20, 3) := by decide +kernel
theorem dX9_readRun_69 : decode cX9_readRun 69 = .ok (.iload_n 3, 1) := by decide +kernel
theorem dX9_readRun_70 : decode cX9_readRun 70 = .ok (.baload, 1) := by decide +kernel
theorem dX9_readRun_71 : decode cX9_readRun 71 = .ok (.bipush 97, 2) := by decide +kernel
theorem dX9_readRun_73 : decode cX9_readRun 73 = .ok (.isub, 1) := by decide +kernel
theorem dX9_readRun_74 : decode cX9_readRun 74 = .ok (.iconst 1, 1) := by decide +kernel
theorem dX9_readRun_75 : decode cX9_readRun 75 = .ok (.iadd, 1) := by decide +kernel
theorem dX9_readRun_76 : decode cX9_readRun 76 = .ok (.i2l, 1) := by decide +kernel
theorem dX9_readRun_77 : decode cX9_readRun 77 = .ok (.ladd, 1) := by decide +kernel
theorem dX9_readRun_78 : decode cX9_readRun 78 = .ok (.putfield 56, 3) := by decide +kernel
theorem dX9_readRun_81 : decode cX9_readRun 81 = .ok (.goto 27, 3) := by decide +kernel
theorem dX9_readRun_84 : decode cX9_readRun 84 = .ok (.iinc 2 1, 3) := by decide +kernel
theorem dX9_readRun_87 : decode cX9_readRun 87 = .ok (.aload_n 0, 1) := by decide +kernel
theorem dX9_readRun_88 : decode cX9_readRun 88 = .ok (.aload_n 0, 1) := by decide +kernel
theorem dX9_readRun_89 : decode cX9_readRun 89 = .ok (.getfield 60, 3) := by decide +kernel
theorem dX9_readRun_92 : decode cX9_readRun 92 = .ok (.bipush 10, 2) := by decide +kernel
theorem dX9_readRun_94 : decode cX9_readRun 94 = .ok (.imul, 1) := by decide +kernel
theorem dX9_readRun_95 : decode cX9_readRun 95 = .ok (.aload_n 0, 1) := by decide +kernel
theorem dX9_readRun_96 : decode cX9_readRun 96 = .ok (.getfield 20, 3) := by decide +kernel
theorem dX9_readRun_99 : decode cX9_readRun 99 = .ok (.iload_n 3, 1) := by decide +kernel
theorem dX9_readRun_100 : decode cX9_readRun 100 = .ok (.baload, 1) := by decide +kernel
theorem dX9_readRun_101 : decode cX9_readRun 101 = .ok (.bipush 48, 2) := by decide +kernel
theorem dX9_readRun_103 : decode cX9_readRun 103 = .ok (.isub, 1) := by decide +kernel
theorem dX9_readRun_104 : decode cX9_readRun 104 = .ok (.iadd, 1) := by decide +kernel
theorem dX9_readRun_105 : decode cX9_readRun 105 = .ok (.putfield 60, 3) := by decide +kernel
theorem dX9_readRun_108 : decode cX9_readRun 108 = .ok (.iinc 3 1, 3) := by decide +kernel
theorem dX9_readRun_111 : decode cX9_readRun 111 = .ok (.goto (-102), 3) := by decide +kernel
theorem dX9_readRun_114 : decode cX9_readRun 114 = .ok (.aload_n 0, 1) := by decide +kernel
theorem dX9_readRun_115 : decode cX9_readRun 115 = .ok (.iload_n 3, 1) := by decide +kernel
theorem dX9_readRun_116 : decode cX9_readRun 116 = .ok (.putfield 37, 3) := by decide +kernel
theorem dX9_readRun_119 : decode cX9_readRun 119 = .ok (.aload_n 0, 1) := by decide +kernel
theorem dX9_readRun_120 : decode cX9_readRun 120 = .ok (.iconst 1, 1) := by decide +kernel
theorem dX9_readRun_121 : decode cX9_readRun 121 = .ok (.putfield 66, 3) := by decide +kernel
theorem dX9_readRun_124 : decode cX9_readRun 124 = .ok (.iload_n 2, 1) := by decide +kernel
theorem dX9_readRun_125 : decode cX9_readRun 125 = .ok (.ifCond .ne 28, 3) := by decide +kernel
theorem dX9_readRun_128 : decode cX9_readRun 128 = .ok (.iload_n 1, 1) := by decide +kernel
theorem dX9_readRun_129 : decode cX9_readRun 129 = .ok (.bipush 7, 2) := by decide +kernel
theorem dX9_readRun_131 : decode cX9_readRun 131 = .ok (.if_icmp .gt 22, 3) := by decide +kernel
theorem dX9_readRun_134 : decode cX9_readRun 134 = .ok (.aload_n 0, 1) := by decide +kernel
theorem dX9_readRun_135 : decode cX9_readRun 135 = .ok (.iconst 2, 1) := by decide +kernel
theorem dX9_readRun_136 : decode cX9_readRun 136 = .ok (.putfield 66, 3) := by decide +kernel
theorem dX9_readRun_139 : decode cX9_readRun 139 = .ok (.aload_n 0, 1) := by decide +kernel
theorem dX9_readRun_140 : decode cX9_readRun 140 = .ok (.aload_n 0, 1) := by decide +kernel
theorem dX9_readRun_141 : decode cX9_readRun 141 = .ok (.getfield 56, 3) := by decide +kernel
theorem dX9_readRun_144 : decode cX9_readRun 144 = .ok (.invokestatic 86, 3) := by decide +kernel
theorem dX9_readRun_147 : decode cX9_readRun 147 = .ok (.putfield 15, 3) := by decide +kernel
theorem dX9_readRun_150 : decode cX9_readRun 150 = .ok (.goto 17, 3) := by decide +kernel
theorem dX9_readRun_153 : decode cX9_readRun 153 = .ok (.iload_n 1, 1) := by decide +kernel
theorem dX9_readRun_154 : decode cX9_readRun 154 = .ok (.ifCond .ne 13, 3) := by decide +kernel
theorem dX9_readRun_157 : decode cX9_readRun 157 = .ok (.iload_n 2, 1) := by decide +kernel
theorem dX9_readRun_158 : decode cX9_readRun 158 = .ok (.iconst 2, 1) := by decide +kernel
theorem dX9_readRun_159 : decode cX9_readRun 159 = .ok (.if_icmp .gt 8, 3) := by decide +kernel
theorem dX9_readRun_162 : decode cX9_readRun 162 = .ok (.aload_n 0, 1) := by decide +kernel
theorem dX9_readRun_163 : decode cX9_readRun 163 = .ok (.iconst 3, 1) := by decide +kernel
theorem dX9_readRun_164 : decode cX9_readRun 164 = .ok (.putfield 66, 3) := by decide +kernel
theorem dX9_readRun_167 : decode cX9_readRun 167 = .ok (.return_, 1) := by decide +kernel
theorem dX9_readSign_0 : decode cX9_readSign 0 = .ok (.aload_n 0, 1) := by decide +kernel
theorem dX9_readSign_1 : decode cX9_readSign 1 = .ok (.getfield 20, 3) := by decide +kernel
theorem dX9_readSign_4 : decode cX9_readSign 4 = .ok (.aload_n 0, 1) := by decide +kernel
theorem dX9_readSign_5 : decode cX9_readSign 5 = .ok (.getfield 63, 3) := by decide +kernel
theorem dX9_readSign_8 : decode cX9_readSign 8 = .ok (.baload, 1) := by decide +kernel
theorem dX9_readSign_9 : decode cX9_readSign 9 = .ok (.istore_n 1, 1) := by decide +kernel
theorem dX9_readSign_10 : decode cX9_readSign 10 = .ok (.iload_n 1, 1) := by decide +kernel
theorem dX9_readSign_11 : decode cX9_readSign 11 = .ok (.bipush 59, 2) := by decide +kernel
theorem dX9_readSign_13 : decode cX9_readSign 13 = .ok (.if_icmp .eq 33, 3) := by decide +kernel
theorem dX9_readSign_16 : decode cX9_readSign 16 = .ok (.iload_n 1, 1) := by decide +kernel
theorem dX9_readSign_17 : decode cX9_readSign 17 = .ok (.bipush 60, 2) := by decide +kernel
theorem dX9_readSign_19 : decode cX9_readSign 19 = .ok (.if_icmp .eq 27, 3) := by decide +kernel
theorem dX9_readSign_22 : decode cX9_readSign 22 = .ok (.iload_n 1, 1) := by decide +kernel
theorem dX9_readSign_23 : decode cX9_readSign 23 = .ok (.bipush 61, 2) := by decide +kernel
theorem dX9_readSign_25 : decode cX9_readSign 25 = .ok (.if_icmp .eq 21, 3) := by decide +kernel
theorem dX9_readSign_28 : decode cX9_readSign 28 = .ok (.iload_n 1, 1) := by decide +kernel
theorem dX9_readSign_29 : decode cX9_readSign 29 = .ok (.bipush 62, 2) := by decide +kernel
theorem dX9_readSign_31 : decode cX9_readSign 31 = .ok (.if_icmp .eq 15, 3) := by decide +kernel
theorem dX9_readSign_34 : decode cX9_readSign 34 = .ok (.iload_n 1, 1) := by decide +kernel
theorem dX9_readSign_35 : decode cX9_readSign 35 = .ok (.bipush 40, 2) := by decide +kernel
theorem dX9_readSign_37 : decode cX9_readSign 37 = .ok (.if_icmp .eq 9, 3) := by decide +kernel
theorem dX9_readSign_40 : decode cX9_readSign 40 = .ok (.iload_n 1, 1) := by decide +kernel
theorem dX9_readSign_41 : decode cX9_readSign 41 = .ok (.bipush 41, 2) := by decide +kernel
theorem dX9_readSign_43 : decode cX9_readSign 43 = .ok (.if_icmp .ne 7, 3) := by decide +kernel
theorem dX9_readSign_46 : decode cX9_readSign 46 = .ok (.iconst 1, 1) := by decide +kernel
theorem dX9_readSign_47 : decode cX9_readSign 47 = .ok (.goto 4, 3) := by decide +kernel
theorem dX9_readSign_50 : decode cX9_readSign 50 = .ok (.iconst 0, 1) := by decide +kernel
theorem dX9_readSign_51 : decode cX9_readSign 51 = .ok (.istore_n 2, 1) := by decide +kernel
theorem dX9_readSign_52 : decode cX9_readSign 52 = .ok (.aload_n 0, 1) := by decide +kernel
theorem dX9_readSign_53 : decode cX9_readSign 53 = .ok (.iload_n 2, 1) := by decide +kernel
theorem dX9_readSign_54 : decode cX9_readSign 54 = .ok (.ifCond .eq 7, 3) := by decide +kernel
theorem dX9_readSign_57 : decode cX9_readSign 57 = .ok (.iconst 4, 1) := by decide +kernel
theorem dX9_readSign_58 : decode cX9_readSign 58 = .ok (.goto 4, 3) := by decide +kernel
theorem dX9_readSign_61 : decode cX9_readSign 61 = .ok (.iconst 1, 1) := by decide +kernel
theorem dX9_readSign_62 : decode cX9_readSign 62 = .ok (.putfield 66, 3) := by decide +kernel
theorem dX9_readSign_65 : decode cX9_readSign 65 = .ok (.aload_n 0, 1) := by decide +kernel
theorem dX9_readSign_66 : decode cX9_readSign 66 = .ok (.iload_n 2, 1) := by decide +kernel
theorem dX9_readSign_67 : decode cX9_readSign 67 = .ok (.ifCond .eq 7, 3) := by decide +kernel
theorem dX9_readSign_70 : decode cX9_readSign 70 = .ok (.iload_n 1, 1) := by decide +kernel
theorem dX9_readSign_71 : decode cX9_readSign 71 = .ok (.goto 4, 3) := by decide +kernel
theorem dX9_readSign_74 : decode cX9_readSign 74 = .ok (.iconst 0, 1) := by decide +kernel
theorem dX9_readSign_75 : decode cX9_readSign 75 = .ok (.putfield 53, 3) := by decide +kernel
theorem dX9_readSign_78 : decode cX9_readSign 78 = .ok (.aload_n 0, 1) := by decide +kernel
theorem dX9_readSign_79 : decode cX9_readSign 79 = .ok (.aload_n 0, 1) := by decide +kernel
theorem dX9_readSign_80 : decode cX9_readSign 80 = .ok (.getfield 63, 3) := by decide +kernel
theorem dX9_readSign_83 : decode cX9_readSign 83 = .ok (.iconst 1, 1) := by decide +kernel
theorem dX9_readSign_84 : decode cX9_readSign 84 = .ok (.iadd, 1) := by decide +kernel
theorem dX9_readSign_85 : decode cX9_readSign 85 = .ok (.putfield 37, 3) := by decide +kernel
theorem dX9_readSign_88 : decode cX9_readSign 88 = .ok (.return_, 1) := by decide +kernel
theorem dX9_wordOf_0 : decode cX9_wordOf 0 = .ok (.getstatic 90, 3) := by decide +kernel
theorem dX9_wordOf_3 : decode cX9_wordOf 3 = .ok (.astore_n 2, 1) := by decide +kernel
theorem dX9_wordOf_4 : decode cX9_wordOf 4 = .ok (.aload_n 2, 1) := by decide +kernel
theorem dX9_wordOf_5 : decode cX9_wordOf 5 = .ok (.arraylength, 1) := by decide +kernel
theorem dX9_wordOf_6 : decode cX9_wordOf 6 = .ok (.istore_n 3, 1) := by decide +kernel
theorem dX9_wordOf_7 : decode cX9_wordOf 7 = .ok (.iconst 0, 1) := by decide +kernel
theorem dX9_wordOf_8 : decode cX9_wordOf 8 = .ok (.istore 4, 2) := by decide +kernel
theorem dX9_wordOf_10 : decode cX9_wordOf 10 = .ok (.iload 4, 2) := by decide +kernel
theorem dX9_wordOf_12 : decode cX9_wordOf 12 = .ok (.iload_n 3, 1) := by decide +kernel
theorem dX9_wordOf_13 : decode cX9_wordOf 13 = .ok (.if_icmp .ge 28, 3) := by decide +kernel
theorem dX9_wordOf_16 : decode cX9_wordOf 16 = .ok (.aload_n 2, 1) := by decide +kernel
theorem dX9_wordOf_17 : decode cX9_wordOf 17 = .ok (.iload 4, 2) := by decide +kernel
theorem dX9_wordOf_19 : decode cX9_wordOf 19 = .ok (.aaload, 1) := by decide +kernel
theorem dX9_wordOf_20 : decode cX9_wordOf 20 = .ok (.astore 5, 2) := by decide +kernel
theorem dX9_wordOf_22 : decode cX9_wordOf 22 = .ok (.aload 5, 2) := by decide +kernel
theorem dX9_wordOf_24 : decode cX9_wordOf 24 = .ok (.getfield 94, 3) := by decide +kernel
theorem dX9_wordOf_27 : decode cX9_wordOf 27 = .ok (.lload_n 0, 1) := by decide +kernel
theorem dX9_wordOf_28 : decode cX9_wordOf 28 = .ok (.lcmp, 1) := by decide +kernel
theorem dX9_wordOf_29 : decode cX9_wordOf 29 = .ok (.ifCond .ne 6, 3) := by decide +kernel
theorem dX9_wordOf_32 : decode cX9_wordOf 32 = .ok (.aload 5, 2) := by decide +kernel
theorem dX9_wordOf_34 : decode cX9_wordOf 34 = .ok (.areturn, 1) := by decide +kernel
theorem dX9_wordOf_35 : decode cX9_wordOf 35 = .ok (.iinc 4 1, 3) := by decide +kernel
theorem dX9_wordOf_38 : decode cX9_wordOf 38 = .ok (.goto (-28), 3) := by decide +kernel
theorem dX9_wordOf_41 : decode cX9_wordOf 41 = .ok (.getstatic 9, 3) := by decide +kernel
theorem dX9_wordOf_44 : decode cX9_wordOf 44 = .ok (.areturn, 1) := by decide +kernel
theorem dX9_isBlank_0 : decode cX9_isBlank 0 = .ok (.iload_n 0, 1) := by decide +kernel
theorem dX9_isBlank_1 : decode cX9_isBlank 1 = .ok (.bipush 32, 2) := by decide +kernel
theorem dX9_isBlank_3 : decode cX9_isBlank 3 = .ok (.if_icmp .eq 9, 3) := by decide +kernel
theorem dX9_isBlank_6 : decode cX9_isBlank 6 = .ok (.iload_n 0, 1) := by decide +kernel
theorem dX9_isBlank_7 : decode cX9_isBlank 7 = .ok (.bipush 10, 2) := by decide +kernel
theorem dX9_isBlank_9 : decode cX9_isBlank 9 = .ok (.if_icmp .ne 7, 3) := by decide +kernel
theorem dX9_isBlank_12 : decode cX9_isBlank 12 = .ok (.iconst 1, 1) := by decide +kernel
theorem dX9_isBlank_13 : decode cX9_isBlank 13 = .ok (.goto 4, 3) := by decide +kernel
theorem dX9_isBlank_16 : decode cX9_isBlank 16 = .ok (.iconst 0, 1) := by decide +kernel
theorem dX9_isBlank_17 : decode cX9_isBlank 17 = .ok (.ireturn, 1) := by decide +kernel
theorem dX9_isLetter_0 : decode cX9_isLetter 0 = .ok (.iload_n 0, 1) := by decide +kernel
theorem dX9_isLetter_1 : decode cX9_isLetter 1 = .ok (.bipush 97, 2) := by decide +kernel
theorem dX9_isLetter_3 : decode cX9_isLetter 3 = .ok (.if_icmp .lt 13, 3) := by decide +kernel
theorem dX9_isLetter_6 : decode cX9_isLetter 6 = .ok (.iload_n 0, 1) := by decide +kernel
theorem dX9_isLetter_7 : decode cX9_isLetter 7 = .ok (.bipush 122, 2) := by decide +kernel
theorem dX9_isLetter_9 : decode cX9_isLetter 9 = .ok (.if_icmp .gt 7, 3) := by decide +kernel
theorem dX9_isLetter_12 : decode cX9_isLetter 12 = .ok (.iconst 1, 1) := by decide +kernel
theorem dX9_isLetter_13 : decode cX9_isLetter 13 = .ok (.goto 4, 3) := by decide +kernel
theorem dX9_isLetter_16 : decode cX9_isLetter 16 = .ok (.iconst 0, 1) := by decide +kernel
theorem dX9_isLetter_17 : decode cX9_isLetter 17 = .ok (.ireturn, 1) := by decide +kernel
theorem dX9_isDigit_0 : decode cX9_isDigit 0 = .ok (.iload_n 0, 1) := by decide +kernel
theorem dX9_isDigit_1 : decode cX9_isDigit 1 = .ok (.bipush 48, 2) := by decide +kernel
theorem dX9_isDigit_3 : decode cX9_isDigit 3 = .ok (.if_icmp .lt 13, 3) := by decide +kernel
theorem dX9_isDigit_6 : decode cX9_isDigit 6 = .ok (.iload_n 0, 1) := by decide +kernel
theorem dX9_isDigit_7 : decode cX9_isDigit 7 = .ok (.bipush 57, 2) := by decide +kernel
theorem dX9_isDigit_9 : decode cX9_isDigit 9 = .ok (.if_icmp .gt 7, 3) := by decide +kernel
theorem dX9_isDigit_12 : decode cX9_isDigit 12 = .ok (.iconst 1, 1) := by decide +kernel
theorem dX9_isDigit_13 : decode cX9_isDigit 13 = .ok (.goto 4, 3) := by decide +kernel
theorem dX9_isDigit_16 : decode cX9_isDigit 16 = .ok (.iconst 0, 1) := by decide +kernel
theorem dX9_isDigit_17 : decode cX9_isDigit 17 = .ok (.ireturn, 1) := by decide +kernel
theorem dX11_init_0 : decode cX11_init 0 = .ok (.aload_n 0, 1) := by decide +kernel
theorem dX11_init_1 : decode cX11_init 1 = .ok (.invokespecial 1, 3) := by decide +kernel
theorem dX11_init_4 : decode cX11_init 4 = .ok (.aload_n 0, 1) := by decide +kernel
theorem dX11_init_5 : decode cX11_init 5 = .ok (.sipush 740, 3) := by decide +kernel
theorem dX11_init_8 : decode cX11_init 8 = .ok (.newarray .byte, 2) := by decide +kernel
theorem dX11_init_10 : decode cX11_init 10 = .ok (.putfield 9, 3) := by decide +kernel
theorem dX11_init_13 : decode cX11_init 13 = .ok (.aload_n 0, 1) := by decide +kernel
theorem dX11_init_14 : decode cX11_init 14 = .ok (.new 13, 3) := by decide +kernel
theorem dX11_init_17 : decode cX11_init 17 = .ok (.dup, 1) := by decide +kernel
theorem dX11_init_18 : decode cX11_init 18 = .ok (.invokespecial 15, 3) := by decide +kernel
theorem dX11_init_21 : decode cX11_init 21 = .ok (.putfield 16, 3) := by decide +kernel
theorem dX11_init_24 : decode cX11_init 24 = .ok (.aload_n 0, 1) := by decide +kernel
theorem dX11_init_25 : decode cX11_init 25 = .ok (.new 13, 3) := by decide +kernel
theorem dX11_init_28 : decode cX11_init 28 = .ok (.dup, 1) := by decide +kernel
theorem dX11_init_29 : decode cX11_init 29 = .ok (.invokespecial 15, 3) := by decide +kernel
theorem dX11_init_32 : decode cX11_init 32 = .ok (.putfield 20, 3) := by decide +kernel
theorem dX11_init_35 : decode cX11_init 35 = .ok (.aload_n 0, 1) := by decide +kernel
theorem dX11_init_36 : decode cX11_init 36 = .ok (.new 23, 3) := by decide +kernel
theorem dX11_init_39 : decode cX11_init 39 = .ok (.dup, 1) := by decide +kernel
theorem dX11_init_40 : decode cX11_init 40 = .ok (.invokespecial 25, 3) := by decide +kernel
theorem dX11_init_43 : decode cX11_init 43 = .ok (.putfield 26, 3) := by decide +kernel
theorem dX11_init_46 : decode cX11_init 46 = .ok (.aload_n 0, 1) := by decide +kernel
theorem dX11_init_47 : decode cX11_init 47 = .ok (.iconst 2, 1) := by decide +kernel
theorem dX11_init_48 : decode cX11_init 48 = .ok (.anewarray 13, 3) := by decide +kernel
theorem dX11_init_51 : decode cX11_init 51 = .ok (.putfield 30, 3) := by decide +kernel
theorem dX11_init_54 : decode cX11_init 54 = .ok (.aload_n 0, 1) := by decide +kernel
theorem dX11_init_55 : decode cX11_init 55 = .ok (.bipush 8, 2) := by decide +kernel
theorem dX11_init_57 : decode cX11_init 57 = .ok (.anewarray 34, 3) := by decide +kernel
theorem dX11_init_60 : decode cX11_init 60 = .ok (.putfield 36, 3) := by decide +kernel
theorem dX11_init_63 : decode cX11_init 63 = .ok (.aload_n 0, 1) := by decide +kernel
theorem dX11_init_64 : decode cX11_init 64 = .ok (.new 40, 3) := by decide +kernel
theorem dX11_init_67 : decode cX11_init 67 = .ok (.dup, 1) := by decide +kernel
theorem dX11_init_68 : decode cX11_init 68 = .ok (.aload_n 0, 1) := by decide +kernel
theorem dX11_init_69 : decode cX11_init 69 = .ok (.getfield 9, 3) := by decide +kernel
theorem dX11_init_72 : decode cX11_init 72 = .ok (.invokespecial 42, 3) := by decide +kernel
theorem dX11_init_75 : decode cX11_init 75 = .ok (.putfield 45, 3) := by decide +kernel
theorem dX11_init_78 : decode cX11_init 78 = .ok (.aload_n 0, 1) := by decide +kernel
theorem dX11_init_79 : decode cX11_init 79 = .ok (.new 49, 3) := by decide +kernel
theorem dX11_init_82 : decode cX11_init 82 = .ok (.dup, 1) := by decide +kernel
theorem dX11_init_83 : decode cX11_init 83 = .ok (.aload_n 0, 1) := by decide +kernel
theorem dX11_init_84 : decode cX11_init 84 = .ok (.getfield 45, 3) := by decide +kernel
theorem dX11_init_87 : decode cX11_init 87 = .ok (.invokespecial 51, 3) := by decide +kernel
theorem dX11_init_90 : decode cX11_init 90 = .ok (.putfield 54, 3) := by decide +kernel
theorem dX11_init_93 : decode cX11_init 93 = .ok (.aload_n 0, 1) := by decide +kernel
theorem dX11_init_94 : decode cX11_init 94 = .ok (.new 58, 3) := by decide +kernel
theorem dX11_init_97 : decode cX11_init 97 = .ok (.dup, 1) := by decide +kernel
theorem dX11_init_98 : decode cX11_init 98 = .ok (.aload_n 0, 1) := by decide +kernel
theorem dX11_init_99 : decode cX11_init 99 = .ok (.getfield 45, 3) := by decide +kernel
theorem dX11_init_102 : decode cX11_init 102 = .ok (.invokespecial 60, 3) := by decide +kernel
theorem dX11_init_105 : decode cX11_init 105 = .ok (.putfield 61, 3) := by decide +kernel
theorem dX11_init_108 : decode cX11_init 108 = .ok (.aload_n 0, 1) := by decide +kernel
theorem dX11_init_109 : decode cX11_init 109 = .ok (.new 65, 3) := by decide +kernel
theorem dX11_init_112 : decode cX11_init 112 = .ok (.dup, 1) := by decide +kernel
theorem dX11_init_113 : decode cX11_init 113 = .ok (.invokespecial 67, 3) := by decide +kernel
theorem dX11_init_116 : decode cX11_init 116 = .ok (.putfield 68, 3) := by decide +kernel
theorem dX11_init_119 : decode cX11_init 119 = .ok (.aload_n 0, 1) := by decide +kernel
theorem dX11_init_120 : decode cX11_init 120 = .ok (.bipush 7, 2) := by decide +kernel
theorem dX11_init_122 : decode cX11_init 122 = .ok (.newarray .int, 2) := by decide +kernel
theorem dX11_init_124 : decode cX11_init 124 = .ok (.putfield 72, 3) := by decide +kernel
theorem dX11_init_127 : decode cX11_init 127 = .ok (.return_, 1) := by decide +kernel
theorem dX11_feed_0 : decode cX11_feed 0 = .ok (.aload_n 0, 1) := by decide +kernel
theorem dX11_feed_1 : decode cX11_feed 1 = .ok (.getfield 76, 3) := by decide +kernel
theorem dX11_feed_4 : decode cX11_feed 4 = .ok (.bipush 20, 2) := by decide +kernel
theorem dX11_feed_6 : decode cX11_feed 6 = .ok (.iadd, 1) := by decide +kernel
theorem dX11_feed_7 : decode cX11_feed 7 = .ok (.sipush 740, 3) := by decide +kernel
theorem dX11_feed_10 : decode cX11_feed 10 = .ok (.if_icmp .le 5, 3) := by decide +kernel
theorem dX11_feed_13 : decode cX11_feed 13 = .ok (.iconst (-1), 1) := by decide +kernel
theorem dX11_feed_14 : decode cX11_feed 14 = .ok (.ireturn, 1) := by decide +kernel
theorem dX11_feed_15 : decode cX11_feed 15 = .ok (.aload_n 0, 1) := by decide +kernel
theorem dX11_feed_16 : decode cX11_feed 16 = .ok (.iload_n 1, 1) := by decide +kernel
theorem dX11_feed_17 : decode cX11_feed 17 = .ok (.invokevirtual 80, 3) := by decide +kernel
theorem dX11_feed_20 : decode cX11_feed 20 = .ok (.aload_n 0, 1) := by decide +kernel
theorem dX11_feed_21 : decode cX11_feed 21 = .ok (.iload_n 2, 1) := by decide +kernel
theorem dX11_feed_22 : decode cX11_feed 22 = .ok (.invokevirtual 80, 3) := by decide +kernel
theorem dX11_feed_25 : decode cX11_feed 25 = .ok (.aload_n 0, 1) := by decide +kernel
theorem dX11_feed_26 : decode cX11_feed 26 = .ok (.iload_n 3, 1) := by decide +kernel
theorem dX11_feed_27 : decode cX11_feed 27 = .ok (.invokevirtual 80, 3) := by decide +kernel
theorem dX11_feed_30 : decode cX11_feed 30 = .ok (.aload_n 0, 1) := by decide +kernel
theorem dX11_feed_31 : decode cX11_feed 31 = .ok (.iload 4, 2) := by decide +kernel
theorem dX11_feed_33 : decode cX11_feed 33 = .ok (.invokevirtual 80, 3) := by decide +kernel
theorem dX11_feed_36 : decode cX11_feed 36 = .ok (.aload_n 0, 1) := by decide +kernel
theorem dX11_feed_37 : decode cX11_feed 37 = .ok (.iload 5, 2) := by decide +kernel
theorem dX11_feed_39 : decode cX11_feed 39 = .ok (.invokevirtual 80, 3) := by decide +kernel
theorem dX11_feed_42 : decode cX11_feed 42 = .ok (.aload_n 0, 1) := by decide +kernel
theorem dX11_feed_43 : decode cX11_feed 43 = .ok (.getfield 76, 3) := by decide +kernel
theorem dX11_feed_46 : decode cX11_feed 46 = .ok (.ireturn, 1) := by decide +kernel
theorem dX11_end_0 : decode cX11_end 0 = .ok (.iload_n 1, 1) := by decide +kernel
theorem dX11_end_1 : decode cX11_end 1 = .ok (.ifCond .lt 11, 3) := by decide +kernel
theorem dX11_end_4 : decode cX11_end 4 = .ok (.iload_n 1, 1) := by decide +kernel
theorem dX11_end_5 : decode cX11_end 5 = .ok (.aload_n 0, 1) := by decide +kernel
theorem dX11_end_6 : decode cX11_end 6 = .ok (.getfield 76, 3) := by decide +kernel
theorem dX11_end_9 : decode cX11_end 9 = .ok (.if_icmp .le 5, 3) := by decide +kernel
theorem dX11_end_12 : decode cX11_end 12 = .ok (.iconst 0, 1) := by decide +kernel
theorem dX11_end_13 : decode cX11_end 13 = .ok (.ireturn, 1) := by decide +kernel
theorem dX11_end_14 : decode cX11_end 14 = .ok (.aload_n 0, 1) := by decide +kernel
theorem dX11_end_15 : decode cX11_end 15 = .ok (.iload_n 1, 1) := by decide +kernel
theorem dX11_end_16 : decode cX11_end 16 = .ok (.putfield 76, 3) := by decide +kernel
theorem dX11_end_19 : decode cX11_end 19 = .ok (.iconst 1, 1) := by decide +kernel
theorem dX11_end_20 : decode cX11_end 20 = .ok (.ireturn, 1) := by decide +kernel
theorem dX11_house_0 : decode cX11_house 0 = .ok (.aload_n 0, 1) := by decide +kernel
theorem dX11_house_1 : decode cX11_house 1 = .ok (.getfield 45, 3) := by decide +kernel
theorem dX11_house_4 : decode cX11_house 4 = .ok (.aload_n 0, 1) := by decide +kernel
theorem dX11_house_5 : decode cX11_house 5 = .ok (.invokevirtual 84, 3) := by decide +kernel
theorem dX11_house_8 : decode cX11_house 8 = .ok (.sipush 700, 3) := by decide +kernel
theorem dX11_house_11 : decode cX11_house 11 = .ok (.invokevirtual 88, 3) := by decide +kernel
theorem dX11_house_14 : decode cX11_house 14 = .ok (.aload_n 0, 1) := by decide +kernel
theorem dX11_house_15 : decode cX11_house 15 = .ok (.getfield 54, 3) := by decide +kernel
theorem dX11_house_18 : decode cX11_house 18 = .ok (.aload_n 0, 1) := by decide +kernel
theorem dX11_house_19 : decode cX11_house 19 = .ok (.getfield 20, 3) := by decide +kernel
theorem dX11_house_22 : decode cX11_house 22 = .ok (.invokevirtual 92, 3) := by decide +kernel
theorem dX11_house_25 : decode cX11_house 25 = .ok (.istore_n 1, 1) := by decide +kernel
theorem dX11_house_26 : decode cX11_house 26 = .ok (.aload_n 0, 1) := by decide +kernel
theorem dX11_house_27 : decode cX11_house 27 = .ok (.aload_n 0, 1) := by decide +kernel
theorem dX11_house_28 : decode cX11_house 28 = .ok (.getfield 45, 3) := by decide +kernel
theorem dX11_house_31 : decode cX11_house 31 = .ok (.getfield 96, 3) := by decide +kernel
theorem dX11_house_34 : decode cX11_house 34 = .ok (.putfield 99, 3) := by decide +kernel
theorem dX11_house_37 : decode cX11_house 37 = .ok (.aload_n 0, 1) := by decide +kernel
theorem dX11_house_38 : decode cX11_house 38 = .ok (.getfield 99, 3) := by decide +kernel
theorem dX11_house_41 : decode cX11_house 41 = .ok (.ifCond .eq 13, 3) := by decide +kernel
theorem dX11_house_44 : decode cX11_house 44 = .ok (.iconst (-1), 1) := by decide +kernel
theorem dX11_house_45 : decode cX11_house 45 = .ok (.aload_n 0, 1) := by decide +kernel
theorem dX11_house_46 : decode cX11_house 46 = .ok (.getfield 45, 3) := by decide +kernel
theorem dX11_house_49 : decode cX11_house 49 = .ok (.getfield 102, 3) := by decide +kernel
theorem dX11_house_52 : decode cX11_house 52 = .ok (.isub, 1) := by decide +kernel
theorem dX11_house_53 : decode cX11_house 53 = .ok (.ireturn, 1) := by decide +kernel
theorem dX11_house_54 : decode cX11_house 54 = .ok (.aload_n 0, 1) := by decide +kernel
theorem dX11_house_55 : decode cX11_house 55 = .ok (.getfield 16, 3) := by decide +kernel
theorem dX11_house_58 : decode cX11_house 58 = .ok (.astore_n 2, 1) := by decide +kernel
theorem dX11_house_59 : decode cX11_house 59 = .ok (.aload_n 0, 1) := by decide +kernel
theorem dX11_house_60 : decode cX11_house 60 = .ok (.aload_n 0, 1) := by decide +kernel
theorem dX11_house_61 : decode cX11_house 61 = .ok (.getfield 20, 3) := by decide +kernel
theorem dX11_house_64 : decode cX11_house 64 = .ok (.putfield 16, 3) := by decide +kernel
theorem dX11_house_67 : decode cX11_house 67 = .ok (.aload_n 0, 1) := by decide +kernel
theorem dX11_house_68 : decode cX11_house 68 = .ok (.aload_n 2, 1) := by decide +kernel
theorem dX11_house_69 : decode cX11_house 69 = .ok (.putfield 20, 3) := by decide +kernel
theorem dX11_house_72 : decode cX11_house 72 = .ok (.iload_n 1, 1) := by decide +kernel
theorem dX11_house_73 : decode cX11_house 73 = .ok (.ireturn, 1) := by decide +kernel
theorem dX11_fault_0 : decode cX11_fault 0 = .ok (.aload_n 0, 1) := by decide +kernel
theorem dX11_fault_1 : decode cX11_fault 1 = .ok (.getfield 99, 3) := by decide +kernel
theorem dX11_fault_4 : decode cX11_fault 4 = .ok (.ireturn, 1) := by decide +kernel
theorem dX11_line_0 : decode cX11_line 0 = .ok (.aload_n 0, 1) := by decide +kernel
theorem dX11_line_1 : decode cX11_line 1 = .ok (.getfield 16, 3) := by decide +kernel
theorem dX11_line_4 : decode cX11_line 4 = .ok (.iload_n 1, 1) := by decide +kernel
theorem dX11_line_5 : decode cX11_line 5 = .ok (.invokevirtual 105, 3) := by decide +kernel
theorem dX11_line_8 : decode cX11_line 8 = .ok (.astore_n 3, 1) := by decide +kernel
theorem dX11_line_9 : decode cX11_line 9 = .ok (.aload_n 3, 1) := by decide +kernel
theorem dX11_line_10 : decode cX11_line 10 = .ok (.ifnull 15, 3) := by decide +kernel
theorem dX11_line_13 : decode cX11_line 13 = .ok (.iload_n 2, 1) := by decide +kernel
theorem dX11_line_14 : decode cX11_line 14 = .ok (.ifCond .lt 11, 3) := by decide +kernel
theorem dX11_line_17 : decode cX11_line 17 = .ok (.iload_n 2, 1) := by decide +kernel
theorem dX11_line_18 : decode cX11_line 18 = .ok (.aload_n 3, 1) := by decide +kernel
theorem dX11_line_19 : decode cX11_line 19 = .ok (.getfield 109, 3) := by decide +kernel
theorem dX11_line_22 : decode cX11_line 22 = .ok (.if_icmp .lt 11, 3) := by decide +kernel
theorem dX11_line_25 : decode cX11_line 25 = .ok (.new 114, 3) := by decide +kernel
theorem dX11_line_28 : decode cX11_line 28 = .ok (.dup, 1) := by decide +kernel
theorem dX11_line_29 : decode cX11_line 29 = .ok (.invokespecial 116, 3) := by decide +kernel
theorem dX11_line_32 : decode cX11_line 32 = .ok (.athrow, 1) := by decide +kernel
theorem dX11_line_33 : decode cX11_line 33 = .ok (.aload_n 3, 1) := by decide +kernel
theorem dX11_line_34 : decode cX11_line 34 = .ok (.getfield 117, 3) := by decide +kernel
theorem dX11_line_37 : decode cX11_line 37 = .ok (.iload_n 2, 1) := by decide +kernel
theorem dX11_line_38 : decode cX11_line 38 = .ok (.invokestatic 120, 3) := by decide +kernel
theorem dX11_line_41 : decode cX11_line 41 = .ok (.ireturn, 1) := by decide +kernel
theorem dX11_size_0 : decode cX11_size 0 = .ok (.aload_n 0, 1) := by decide +kernel
theorem dX11_size_1 : decode cX11_size 1 = .ok (.getfield 16, 3) := by decide +kernel
theorem dX11_size_4 : decode cX11_size 4 = .ok (.iload_n 1, 1) := by decide +kernel
theorem dX11_size_5 : decode cX11_size 5 = .ok (.invokevirtual 105, 3) := by decide +kernel
theorem dX11_size_8 : decode cX11_size 8 = .ok (.astore_n 2, 1) := by decide +kernel
theorem dX11_size_9 : decode cX11_size 9 = .ok (.aload_n 2, 1) := by decide +kernel
theorem dX11_size_10 : decode cX11_size 10 = .ok (.ifnonnull 7, 3) := by decide +kernel
theorem dX11_size_13 : decode cX11_size 13 = .ok (.iconst (-1), 1) := by decide +kernel
theorem dX11_size_14 : decode cX11_size 14 = .ok (.goto 7, 3) := by decide +kernel
theorem dX11_size_17 : decode cX11_size 17 = .ok (.aload_n 2, 1) := by decide +kernel
theorem dX11_size_18 : decode cX11_size 18 = .ok (.getfield 109, 3) := by decide +kernel
theorem dX11_size_21 : decode cX11_size 21 = .ok (.ireturn, 1) := by decide +kernel
theorem dX11_add_0 : decode cX11_add 0 = .ok (.aload_n 0, 1) := by decide +kernel
theorem dX11_add_1 : decode cX11_add 1 = .ok (.invokevirtual 84, 3) := by decide +kernel
theorem dX11_add_4 : decode cX11_add 4 = .ok (.istore_n 1, 1) := by decide +kernel
theorem dX11_add_5 : decode cX11_add 5 = .ok (.aload_n 0, 1) := by decide +kernel
theorem dX11_add_6 : decode cX11_add 6 = .ok (.getfield 16, 3) := by decide +kernel
theorem dX11_add_9 : decode cX11_add 9 = .ok (.invokevirtual 124, 3) := by decide +kernel
theorem dX11_add_12 : decode cX11_add 12 = .ok (.astore_n 2, 1) := by decide +kernel
theorem dX11_add_13 : decode cX11_add 13 = .ok (.aload_n 2, 1) := by decide +kernel
theorem dX11_add_14 : decode cX11_add 14 = .ok (.ifnull 8, 3) := by decide +kernel
theorem dX11_add_17 : decode cX11_add 17 = .ok (.iload_n 1, 1) := by decide +kernel
theorem dX11_add_18 : decode cX11_add 18 = .ok (.iconst 1, 1) := by decide +kernel
theorem dX11_add_19 : decode cX11_add 19 = .ok (.if_icmp .ge 5, 3) := by decide +kernel
theorem dX11_add_22 : decode cX11_add 22 = .ok (.iconst (-1), 1) := by decide +kernel
theorem dX11_add_23 : decode cX11_add 23 = .ok (.ireturn, 1) := by decide +kernel
theorem dX11_add_24 : decode cX11_add 24 = .ok (.iconst 0, 1) := by decide +kernel
theorem dX11_add_25 : decode cX11_add 25 = .ok (.istore_n 3, 1) := by decide +kernel
theorem dX11_add_26 : decode cX11_add 26 = .ok (.iload_n 3, 1) := by decide +kernel
theorem dX11_add_27 : decode cX11_add 27 = .ok (.iload_n 1, 1) := by decide +kernel
theorem dX11_add_28 : decode cX11_add 28 = .ok (.if_icmp .ge 45, 3) := by decide +kernel
theorem dX11_add_31 : decode cX11_add 31 = .ok (.aload_n 0, 1) := by decide +kernel
theorem dX11_add_32 : decode cX11_add 32 = .ok (.iload_n 3, 1) := by decide +kernel
theorem dX11_add_33 : decode cX11_add 33 = .ok (.invokevirtual 128, 3) := by decide +kernel
theorem dX11_add_36 : decode cX11_add 36 = .ok (.istore 4, 2) := by decide +kernel
theorem dX11_add_38 : decode cX11_add 38 = .ok (.iload 4, 2) := by decide +kernel
theorem dX11_add_40 : decode cX11_add 40 = .ok (.aload_n 0, 1) := by decide +kernel
theorem dX11_add_41 : decode cX11_add 41 = .ok (.getfield 16, 3) := by decide +kernel
theorem dX11_add_44 : decode cX11_add 44 = .ok (.getfield 132, 3) := by decide +kernel
theorem dX11_add_47 : decode cX11_add 47 = .ok (.if_icmp .ge 12, 3) := by decide +kernel
theorem dX11_add_50 : decode cX11_add 50 = .ok (.aload_n 2, 1) := by decide +kernel
theorem dX11_add_51 : decode cX11_add 51 = .ok (.iload 4, 2) := by decide +kernel
theorem dX11_add_53 : decode cX11_add 53 = .ok (.invokevirtual 135, 3) := by decide +kernel
theorem dX11_add_56 : decode cX11_add 56 = .ok (.ifCond .eq 5, 3) := by decide +kernel
theorem dX11_add_59 : decode cX11_add 59 = .ok (.iconst (-1), 1) := by decide +kernel
theorem dX11_add_60 : decode cX11_add 60 = .ok (.ireturn, 1) := by decide +kernel
theorem dX11_add_61 : decode cX11_add 61 = .ok (.aload_n 2, 1) := by decide +kernel
theorem dX11_add_62 : decode cX11_add 62 = .ok (.iload 4, 2) := by decide +kernel
theorem dX11_add_64 : decode cX11_add 64 = .ok (.invokevirtual 139, 3) := by decide +kernel
theorem dX11_add_67 : decode cX11_add 67 = .ok (.iinc 3 1, 3) := by decide +kernel
theorem dX11_add_70 : decode cX11_add 70 = .ok (.goto (-44), 3) := by decide +kernel
theorem dX11_add_73 : decode cX11_add 73 = .ok (.aload_n 0, 1) := by decide +kernel
theorem dX11_add_74 : decode cX11_add 74 = .ok (.getfield 16, 3) := by decide +kernel
theorem dX11_add_77 : decode cX11_add 77 = .ok (.dup, 1) := by decide +kernel
theorem dX11_add_78 : decode cX11_add 78 = .ok (.getfield 142, 3) := by decide +kernel
theorem dX11_add_81 : decode cX11_add 81 = .ok (.iconst 1, 1) := by decide +kernel
theorem dX11_add_82 : decode cX11_add 82 = .ok (.iadd, 1) := by decide +kernel
theorem dX11_add_83 : decode cX11_add 83 = .ok (.putfield 142, 3) := by decide +kernel
theorem dX11_add_86 : decode cX11_add 86 = .ok (.aload_n 0, 1) := by decide +kernel
theorem dX11_add_87 : decode cX11_add 87 = .ok (.getfield 16, 3) := by decide +kernel
theorem dX11_add_90 : decode cX11_add 90 = .ok (.getfield 142, 3) := by decide +kernel
theorem dX11_add_93 : decode cX11_add 93 = .ok (.iconst 1, 1) := by decide +kernel
theorem dX11_add_94 : decode cX11_add 94 = .ok (.isub, 1) := by decide +kernel
theorem dX11_add_95 : decode cX11_add 95 = .ok (.ireturn, 1) := by decide +kernel
theorem dX11_order_0 : decode cX11_order 0 = .ok (.aload_n 0, 1) := by decide +kernel
theorem dX11_order_1 : decode cX11_order 1 = .ok (.invokevirtual 145, 3) := by decide +kernel
theorem dX11_order_4 : decode cX11_order 4 = .ok (.astore_n 3, 1) := by decide +kernel
theorem dX11_order_5 : decode cX11_order 5 = .ok (.aload_n 3, 1) := by decide +kernel
theorem dX11_order_6 : decode cX11_order 6 = .ok (.iload_n 1, 1) := by decide +kernel
theorem dX11_order_7 : decode cX11_order 7 = .ok (.invokevirtual 149, 3) := by decide +kernel
theorem dX11_order_10 : decode cX11_order 10 = .ok (.ifCond .eq 15, 3) := by decide +kernel
theorem dX11_order_13 : decode cX11_order 13 = .ok (.iload_n 2, 1) := by decide +kernel
theorem dX11_order_14 : decode cX11_order 14 = .ok (.ifCond .lt 11, 3) := by decide +kernel
theorem dX11_order_17 : decode cX11_order 17 = .ok (.iload_n 2, 1) := by decide +kernel
theorem dX11_order_18 : decode cX11_order 18 = .ok (.aload_n 3, 1) := by decide +kernel
theorem dX11_order_19 : decode cX11_order 19 = .ok (.getfield 152, 3) := by decide +kernel
theorem dX11_order_22 : decode cX11_order 22 = .ok (.if_icmp .lt 5, 3) := by decide +kernel
theorem dX11_order_25 : decode cX11_order 25 = .ok (.iconst (-1), 1) := by decide +kernel
theorem dX11_order_26 : decode cX11_order 26 = .ok (.ireturn, 1) := by decide +kernel
theorem dX11_order_27 : decode cX11_order 27 = .ok (.aload_n 3, 1) := by decide +kernel
theorem dX11_order_28 : decode cX11_order 28 = .ok (.getfield 153, 3) := by decide +kernel
theorem dX11_order_31 : decode cX11_order 31 = .ok (.iload_n 1, 1) := by decide +kernel
theorem dX11_order_32 : decode cX11_order 32 = .ok (.iaload, 1) := by decide +kernel
theorem dX11_order_33 : decode cX11_order 33 = .ok (.iload_n 2, 1) := by decide +kernel
theorem dX11_order_34 : decode cX11_order 34 = .ok (.invokestatic 120, 3) := by decide +kernel
theorem dX11_order_37 : decode cX11_order 37 = .ok (.ireturn, 1) := by decide +kernel
theorem dX11_between_0 : decode cX11_between 0 = .ok (.aload_n 0, 1) := by decide +kernel
theorem dX11_between_1 : decode cX11_between 1 = .ok (.getfield 16, 3) := by decide +kernel
theorem dX11_between_4 : decode cX11_between 4 = .ok (.iload_n 1, 1) := by decide +kernel
theorem dX11_between_5 : decode cX11_between 5 = .ok (.invokevirtual 105, 3) := by decide +kernel
theorem dX11_between_8 : decode cX11_between 8 = .ok (.astore 4, 2) := by decide +kernel
theorem dX11_between_10 : decode cX11_between 10 = .ok (.aload_n 0, 1) := by decide +kernel
theorem dX11_between_11 : decode cX11_between 11 = .ok (.getfield 16, 3) := by decide +kernel
theorem dX11_between_14 : decode cX11_between 14 = .ok (.iload_n 2, 1) := by decide +kernel
theorem dX11_between_15 : decode cX11_between 15 = .ok (.invokevirtual 105, 3) := by decide +kernel
theorem dX11_between_18 : decode cX11_between 18 = .ok (.astore 5, 2) := by decide +kernel
theorem dX11_between_20 : decode cX11_between 20 = .ok (.aload 4, 2) := by decide +kernel
theorem dX11_between_22 : decode cX11_between 22 = .ok (.ifnull 8, 3) := by decide +kernel
theorem dX11_between_25 : decode cX11_between 25 = .ok (.aload 5, 2) := by decide +kernel
theorem dX11_between_27 : decode cX11_between 27 = .ok (.ifnonnull 5, 3) := by decide +kernel
theorem dX11_between_30 : decode cX11_between 30 = .ok (.iconst (-1), 1) := by decide +kernel
theorem dX11_between_31 : decode cX11_between 31 = .ok (.ireturn, 1) := by decide +kernel
theorem dX11_between_32 : decode cX11_between 32 = .ok (.iload_n 3, 1) := by decide +kernel
theorem dX11_between_33 : decode cX11_between 33 = .ok (.tableswitch 51 0 2 #[27, 35, 43], 27) := by decide +kernel
theorem dX11_between_60 : decode cX11_between 60 = .ok (.aload 4, 2) := by decide +kernel
theorem dX11_between_62 : decode cX11_between 62 = .ok (.aload 5, 2) := by decide +kernel
theorem dX11_between_64 : decode cX11_between 64 = .ok (.invokevirtual 155, 3) := by decide +kernel
theorem dX11_between_67 : decode cX11_between 67 = .ok (.ireturn, 1) := by decide +kernel
theorem dX11_between_68 : decode cX11_between 68 = .ok (.aload 4, 2) := by decide +kernel
theorem dX11_between_70 : decode cX11_between 70 = .ok (.aload 5, 2) := by decide +kernel
theorem dX11_between_72 : decode cX11_between 72 = .ok (.invokevirtual 159, 3) := by decide +kernel
theorem dX11_between_75 : decode cX11_between 75 = .ok (.ireturn, 1) := by decide +kernel
theorem dX11_between_76 : decode cX11_between 76 = .ok (.aload 4, 2) := by decide +kernel
theorem dX11_between_78 : decode cX11_between 78 = .ok (.aload 5, 2) := by decide +kernel
theorem dX11_between_80 : decode cX11_between 80 = .ok (.invokevirtual 162, 3) := by decide +kernel
theorem dX11_between_83 : decode cX11_between 83 = .ok (.ireturn, 1) := by decide +kernel
theorem dX11_between_84 : decode cX11_between 84 = .ok (.iconst (-1), 1) := by decide +kernel
theorem dX11_between_85 : decode cX11_between 85 = .ok (.ireturn, 1) := by decide +kernel
theorem dX11_made_0 : decode cX11_made 0 = .ok (.aload_n 0, 1) := by decide +kernel
theorem dX11_made_1 : decode cX11_made 1 = .ok (.getfield 16, 3) := by decide +kernel
theorem dX11_made_4 : decode cX11_made 4 = .ok (.iload_n 1, 1) := by decide +kernel
theorem dX11_made_5 : decode cX11_made 5 = .ok (.invokevirtual 105, 3) := by decide +kernel
theorem dX11_made_8 : decode cX11_made 8 = .ok (.astore_n 3, 1) := by decide +kernel
theorem dX11_made_9 : decode cX11_made 9 = .ok (.aload_n 0, 1) := by decide +kernel
theorem dX11_made_10 : decode cX11_made 10 = .ok (.getfield 16, 3) := by decide +kernel
theorem dX11_made_13 : decode cX11_made 13 = .ok (.iload_n 2, 1) := by decide +kernel
theorem dX11_made_14 : decode cX11_made 14 = .ok (.invokevirtual 105, 3) := by decide +kernel
theorem dX11_made_17 : decode cX11_made 17 = .ok (.astore 4, 2) := by decide +kernel
theorem dX11_made_19 : decode cX11_made 19 = .ok (.aload_n 3, 1) := by decide +kernel
theorem dX11_made_20 : decode cX11_made 20 = .ok (.ifnull 8, 3) := by decide +kernel
theorem dX11_made_23 : decode cX11_made 23 = .ok (.aload 4, 2) := by decide +kernel
theorem dX11_made_25 : decode cX11_made 25 = .ok (.ifnonnull 5, 3) := by decide +kernel
theorem dX11_made_28 : decode cX11_made 28 = .ok (.iconst (-1), 1) := by decide +kernel
theorem dX11_made_29 : decode cX11_made 29 = .ok (.ireturn, 1) := by decide +kernel
theorem dX11_made_30 : decode cX11_made 30 = .ok (.iconst 0, 1) := by decide +kernel
theorem dX11_made_31 : decode cX11_made 31 = .ok (.istore 5, 2) := by decide +kernel
theorem dX11_made_33 : decode cX11_made 33 = .ok (.iconst 0, 1) := by decide +kernel
theorem dX11_made_34 : decode cX11_made 34 = .ok (.istore 6, 2) := by decide +kernel
theorem dX11_made_36 : decode cX11_made 36 = .ok (.iload 6, 2) := by decide +kernel
theorem dX11_made_38 : decode cX11_made 38 = .ok (.aload_n 0, 1) := by decide +kernel
theorem dX11_made_39 : decode cX11_made 39 = .ok (.getfield 16, 3) := by decide +kernel
theorem dX11_made_42 : decode cX11_made 42 = .ok (.getfield 165, 3) := by decide +kernel
theorem dX11_made_45 : decode cX11_made 45 = .ok (.if_icmp .ge 44, 3) := by decide +kernel
theorem dX11_made_48 : decode cX11_made 48 = .ok (.iload 6, 2) := by decide +kernel
theorem dX11_made_50 : decode cX11_made 50 = .ok (.bipush 6, 2) := by decide +kernel
theorem dX11_made_52 : decode cX11_made 52 = .ok (.if_icmp .ge 37, 3) := by decide +kernel
theorem dX11_made_55 : decode cX11_made 55 = .ok (.aload_n 0, 1) := by decide +kernel
theorem dX11_made_56 : decode cX11_made 56 = .ok (.getfield 16, 3) := by decide +kernel
theorem dX11_made_59 : decode cX11_made 59 = .ok (.getfield 168, 3) := by decide +kernel
theorem dX11_made_62 : decode cX11_made 62 = .ok (.iload 6, 2) := by decide +kernel
theorem dX11_made_64 : decode cX11_made 64 = .ok (.aaload, 1) := by decide +kernel
theorem dX11_made_65 : decode cX11_made 65 = .ok (.aload_n 3, 1) := by decide +kernel
theorem dX11_made_66 : decode cX11_made 66 = .ok (.aload 4, 2) := by decide +kernel
theorem dX11_made_68 : decode cX11_made 68 = .ok (.invokevirtual 172, 3) := by decide +kernel
theorem dX11_made_71 : decode cX11_made 71 = .ok (.ifCond .eq 12, 3) := by decide +kernel
theorem dX11_made_74 : decode cX11_made 74 = .ok (.iload 5, 2) := by decide +kernel
theorem dX11_made_76 : decode cX11_made 76 = .ok (.iconst 1, 1) := by decide +kernel
theorem dX11_made_77 : decode cX11_made 77 = .ok (.iload 6, 2) := by decide +kernel
theorem dX11_made_79 : decode cX11_made 79 = .ok (.ishl, 1) := by decide +kernel
theorem dX11_made_80 : decode cX11_made 80 = .ok (.ior, 1) := by decide +kernel
theorem dX11_made_81 : decode cX11_made 81 = .ok (.istore 5, 2) := by decide +kernel
theorem dX11_made_83 : decode cX11_made 83 = .ok (.iinc 6 1, 3) := by decide +kernel
theorem dX11_made_86 : decode cX11_made 86 = .ok (.goto (-50), 3) := by decide +kernel
theorem dX11_made_89 : decode cX11_made 89 = .ok (.iload 5, 2) := by decide +kernel
theorem dX11_made_91 : decode cX11_made 91 = .ok (.ireturn, 1) := by decide +kernel
theorem dX11_fewest_0 : decode cX11_fewest 0 = .ok (.aload_n 0, 1) := by decide +kernel
theorem dX11_fewest_1 : decode cX11_fewest 1 = .ok (.getfield 16, 3) := by decide +kernel
theorem dX11_fewest_4 : decode cX11_fewest 4 = .ok (.iload_n 1, 1) := by decide +kernel
theorem dX11_fewest_5 : decode cX11_fewest 5 = .ok (.invokevirtual 178, 3) := by decide +kernel
theorem dX11_fewest_8 : decode cX11_fewest 8 = .ok (.astore 4, 2) := by decide +kernel
theorem dX11_fewest_10 : decode cX11_fewest 10 = .ok (.aload_n 0, 1) := by decide +kernel
theorem dX11_fewest_11 : decode cX11_fewest 11 = .ok (.getfield 16, 3) := by decide +kernel
theorem dX11_fewest_14 : decode cX11_fewest 14 = .ok (.iload_n 2, 1) := by decide +kernel
theorem dX11_fewest_15 : decode cX11_fewest 15 = .ok (.invokevirtual 178, 3) := by decide +kernel
theorem dX11_fewest_18 : decode cX11_fewest 18 = .ok (.astore 5, 2) := by decide +kernel
theorem dX11_fewest_20 : decode cX11_fewest 20 = .ok (.aload_n 0, 1) := by decide +kernel
theorem dX11_fewest_21 : decode cX11_fewest 21 = .ok (.getfield 16, 3) := by decide +kernel
theorem dX11_fewest_24 : decode cX11_fewest 24 = .ok (.iload_n 3, 1) := by decide +kernel
theorem dX11_fewest_25 : decode cX11_fewest 25 = .ok (.invokevirtual 181, 3) := by decide +kernel
theorem dX11_fewest_28 : decode cX11_fewest 28 = .ok (.astore 6, 2) := by decide +kernel
theorem dX11_fewest_30 : decode cX11_fewest 30 = .ok (.aload 4, 2) := by decide +kernel
theorem dX11_fewest_32 : decode cX11_fewest 32 = .ok (.ifnull 13, 3) := by decide +kernel
theorem dX11_fewest_35 : decode cX11_fewest 35 = .ok (.aload 5, 2) := by decide +kernel
theorem dX11_fewest_37 : decode cX11_fewest 37 = .ok (.ifnull 8, 3) := by decide +kernel
theorem dX11_fewest_40 : decode cX11_fewest 40 = .ok (.aload 6, 2) := by decide +kernel
theorem dX11_fewest_42 : decode cX11_fewest 42 = .ok (.ifnonnull 5, 3) := by decide +kernel
theorem dX11_fewest_45 : decode cX11_fewest 45 = .ok (.iconst (-1), 1) := by decide +kernel
theorem dX11_fewest_46 : decode cX11_fewest 46 = .ok (.ireturn, 1) := by decide +kernel
theorem dX11_fewest_47 : decode cX11_fewest 47 = .ok (.aload 6, 2) := by decide +kernel
theorem dX11_fewest_49 : decode cX11_fewest 49 = .ok (.aload 4, 2) := by decide +kernel
theorem dX11_fewest_51 : decode cX11_fewest 51 = .ok (.aload 5, 2) := by decide +kernel
theorem dX11_fewest_53 : decode cX11_fewest 53 = .ok (.invokevirtual 155, 3) := by decide +kernel
theorem dX11_fewest_56 : decode cX11_fewest 56 = .ok (.invokevirtual 185, 3) := by decide +kernel
theorem dX11_fewest_59 : decode cX11_fewest 59 = .ok (.ireturn, 1) := by decide +kernel
theorem dX11_just_0 : decode cX11_just 0 = .ok (.aload_n 0, 1) := by decide +kernel
theorem dX11_just_1 : decode cX11_just 1 = .ok (.getfield 16, 3) := by decide +kernel
theorem dX11_just_4 : decode cX11_just 4 = .ok (.iload_n 1, 1) := by decide +kernel
theorem dX11_just_5 : decode cX11_just 5 = .ok (.invokevirtual 178, 3) := by decide +kernel
theorem dX11_just_8 : decode cX11_just 8 = .ok (.astore 5, 2) := by decide +kernel
theorem dX11_just_10 : decode cX11_just 10 = .ok (.aload_n 0, 1) := by decide +kernel
theorem dX11_just_11 : decode cX11_just 11 = .ok (.getfield 16, 3) := by decide +kernel
theorem dX11_just_14 : decode cX11_just 14 = .ok (.iload_n 2, 1) := by decide +kernel
theorem dX11_just_15 : decode cX11_just 15 = .ok (.invokevirtual 178, 3) := by decide +kernel
theorem dX11_just_18 : decode cX11_just 18 = .ok (.astore 6, 2) := by decide +kernel
theorem dX11_just_20 : decode cX11_just 20 = .ok (.aload_n 0, 1) := by decide +kernel
theorem dX11_just_21 : decode cX11_just 21 = .ok (.getfield 16, 3) := by decide +kernel
theorem dX11_just_24 : decode cX11_just 24 = .ok (.iload_n 3, 1) := by decide +kernel
theorem dX11_just_25 : decode cX11_just 25 = .ok (.invokevirtual 181, 3) := by decide +kernel
theorem dX11_just_28 : decode cX11_just 28 = .ok (.astore 7, 2) := by decide +kernel
theorem dX11_just_30 : decode cX11_just 30 = .ok (.aload 5, 2) := by decide +kernel
theorem dX11_just_32 : decode cX11_just 32 = .ok (.ifnull 18, 3) := by decide +kernel
theorem dX11_just_35 : decode cX11_just 35 = .ok (.aload 6, 2) := by decide +kernel
theorem dX11_just_37 : decode cX11_just 37 = .ok (.ifnull 13, 3) := by decide +kernel
theorem dX11_just_40 : decode cX11_just 40 = .ok (.aload 7, 2) := by decide +kernel
theorem dX11_just_42 : decode cX11_just 42 = .ok (.ifnull 8, 3) := by decide +kernel
theorem dX11_just_45 : decode cX11_just 45 = .ok (.iload 4, 2) := by decide +kernel
theorem dX11_just_47 : decode cX11_just 47 = .ok (.ifCond .ge 5, 3) := by decide +kernel
theorem dX11_just_50 : decode cX11_just 50 = .ok (.iconst (-1), 1) := by decide +kernel
theorem dX11_just_51 : decode cX11_just 51 = .ok (.ireturn, 1) := by decide +kernel
theorem dX11_just_52 : decode cX11_just 52 = .ok (.aload 7, 2) := by decide +kernel
theorem dX11_just_54 : decode cX11_just 54 = .ok (.aload 5, 2) := by decide +kernel
theorem dX11_just_56 : decode cX11_just 56 = .ok (.aload 6, 2) := by decide +kernel
theorem dX11_just_58 : decode cX11_just 58 = .ok (.invokevirtual 155, 3) := by decide +kernel
theorem dX11_just_61 : decode cX11_just 61 = .ok (.iload 4, 2) := by decide +kernel
theorem dX11_just_63 : decode cX11_just 63 = .ok (.invokevirtual 188, 3) := by decide +kernel
theorem dX11_just_66 : decode cX11_just 66 = .ok (.ifCond .eq 7, 3) := by decide +kernel
theorem dX11_just_69 : decode cX11_just 69 = .ok (.iconst 1, 1) := by decide +kernel
theorem dX11_just_70 : decode cX11_just 70 = .ok (.goto 4, 3) := by decide +kernel
theorem dX11_just_73 : decode cX11_just 73 = .ok (.iconst 0, 1) := by decide +kernel
theorem dX11_just_74 : decode cX11_just 74 = .ok (.ireturn, 1) := by decide +kernel
theorem dX11_judge_0 : decode cX11_judge 0 = .ok (.aload_n 0, 1) := by decide +kernel
theorem dX11_judge_1 : decode cX11_judge 1 = .ok (.invokevirtual 84, 3) := by decide +kernel
theorem dX11_judge_4 : decode cX11_judge 4 = .ok (.istore_n 2, 1) := by decide +kernel
theorem dX11_judge_5 : decode cX11_judge 5 = .ok (.aload_n 0, 1) := by decide +kernel
theorem dX11_judge_6 : decode cX11_judge 6 = .ok (.getfield 16, 3) := by decide +kernel
theorem dX11_judge_9 : decode cX11_judge 9 = .ok (.iload_n 1, 1) := by decide +kernel
theorem dX11_judge_10 : decode cX11_judge 10 = .ok (.invokevirtual 181, 3) := by decide +kernel
theorem dX11_judge_13 : decode cX11_judge 13 = .ok (.astore_n 3, 1) := by decide +kernel
theorem dX11_judge_14 : decode cX11_judge 14 = .ok (.aload_n 3, 1) := by decide +kernel
theorem dX11_judge_15 : decode cX11_judge 15 = .ok (.ifnull 16, 3) := by decide +kernel
theorem dX11_judge_18 : decode cX11_judge 18 = .ok (.iload_n 2, 1) := by decide +kernel
theorem dX11_judge_19 : decode cX11_judge 19 = .ok (.iconst 2, 1) := by decide +kernel
theorem dX11_judge_20 : decode cX11_judge 20 = .ok (.if_icmp .lt 11, 3) := by decide +kernel
theorem dX11_judge_23 : decode cX11_judge 23 = .ok (.aload_n 0, 1) := by decide +kernel
theorem dX11_judge_24 : decode cX11_judge 24 = .ok (.iload_n 2, 1) := by decide +kernel
theorem dX11_judge_25 : decode cX11_judge 25 = .ok (.invokevirtual 192, 3) := by decide +kernel
theorem dX11_judge_28 : decode cX11_judge 28 = .ok (.ifCond .ne 5, 3) := by decide +kernel
theorem dX11_judge_31 : decode cX11_judge 31 = .ok (.iconst (-1), 1) := by decide +kernel
theorem dX11_judge_32 : decode cX11_judge 32 = .ok (.ireturn, 1) := by decide +kernel
theorem dX11_judge_33 : decode cX11_judge 33 = .ok (.iconst 1, 1) := by decide +kernel
theorem dX11_judge_34 : decode cX11_judge 34 = .ok (.istore 4, 2) := by decide +kernel
theorem dX11_judge_36 : decode cX11_judge 36 = .ok (.iload 4, 2) := by decide +kernel
theorem dX11_judge_38 : decode cX11_judge 38 = .ok (.iload_n 2, 1) := by decide +kernel
theorem dX11_judge_39 : decode cX11_judge 39 = .ok (.if_icmp .ge 65, 3) := by decide +kernel
theorem dX11_judge_42 : decode cX11_judge 42 = .ok (.aload_n 0, 1) := by decide +kernel
theorem dX11_judge_43 : decode cX11_judge 43 = .ok (.getfield 16, 3) := by decide +kernel
theorem dX11_judge_46 : decode cX11_judge 46 = .ok (.aload_n 0, 1) := by decide +kernel
theorem dX11_judge_47 : decode cX11_judge 47 = .ok (.iload 4, 2) := by decide +kernel
theorem dX11_judge_49 : decode cX11_judge 49 = .ok (.iconst 1, 1) := by decide +kernel
theorem dX11_judge_50 : decode cX11_judge 50 = .ok (.isub, 1) := by decide +kernel
theorem dX11_judge_51 : decode cX11_judge 51 = .ok (.invokevirtual 128, 3) := by decide +kernel
theorem dX11_judge_54 : decode cX11_judge 54 = .ok (.invokevirtual 105, 3) := by decide +kernel
theorem dX11_judge_57 : decode cX11_judge 57 = .ok (.astore 5, 2) := by decide +kernel
theorem dX11_judge_59 : decode cX11_judge 59 = .ok (.aload_n 0, 1) := by decide +kernel
theorem dX11_judge_60 : decode cX11_judge 60 = .ok (.getfield 16, 3) := by decide +kernel
theorem dX11_judge_63 : decode cX11_judge 63 = .ok (.aload_n 0, 1) := by decide +kernel
theorem dX11_judge_64 : decode cX11_judge 64 = .ok (.iload 4, 2) := by decide +kernel
theorem dX11_judge_66 : decode cX11_judge 66 = .ok (.invokevirtual 128, 3) := by decide +kernel
theorem dX11_judge_69 : decode cX11_judge 69 = .ok (.invokevirtual 105, 3) := by decide +kernel
theorem dX11_judge_72 : decode cX11_judge 72 = .ok (.astore 6, 2) := by decide +kernel
theorem dX11_judge_74 : decode cX11_judge 74 = .ok (.aload 5, 2) := by decide +kernel
theorem dX11_judge_76 : decode cX11_judge 76 = .ok (.ifnull 19, 3) := by decide +kernel
theorem dX11_judge_79 : decode cX11_judge 79 = .ok (.aload 6, 2) := by decide +kernel
theorem dX11_judge_81 : decode cX11_judge 81 = .ok (.ifnull 14, 3) := by decide +kernel
theorem dX11_judge_84 : decode cX11_judge 84 = .ok (.aload_n 3, 1) := by decide +kernel
theorem dX11_judge_85 : decode cX11_judge 85 = .ok (.aload 5, 2) := by decide +kernel
theorem dX11_judge_87 : decode cX11_judge 87 = .ok (.aload 6, 2) := by decide +kernel
theorem dX11_judge_89 : decode cX11_judge 89 = .ok (.invokevirtual 172, 3) := by decide +kernel
theorem dX11_judge_92 : decode cX11_judge 92 = .ok (.ifCond .ne 6, 3) := by decide +kernel
theorem dX11_judge_95 : decode cX11_judge 95 = .ok (.iload 4, 2) := by decide +kernel
theorem dX11_judge_97 : decode cX11_judge 97 = .ok (.ireturn, 1) := by decide +kernel
theorem dX11_judge_98 : decode cX11_judge 98 = .ok (.iinc 4 1, 3) := by decide +kernel
theorem dX11_judge_101 : decode cX11_judge 101 = .ok (.goto (-65), 3) := by decide +kernel
theorem dX11_judge_104 : decode cX11_judge 104 = .ok (.iconst 0, 1) := by decide +kernel
theorem dX11_judge_105 : decode cX11_judge 105 = .ok (.ireturn, 1) := by decide +kernel
theorem dX11_nearest_0 : decode cX11_nearest 0 = .ok (.iload_n 1, 1) := by decide +kernel
theorem dX11_nearest_1 : decode cX11_nearest 1 = .ok (.ifCond .lt 18, 3) := by decide +kernel
theorem dX11_nearest_4 : decode cX11_nearest 4 = .ok (.iload_n 1, 1) := by decide +kernel
theorem dX11_nearest_5 : decode cX11_nearest 5 = .ok (.iconst 1, 1) := by decide +kernel
theorem dX11_nearest_6 : decode cX11_nearest 6 = .ok (.if_icmp .gt 13, 3) := by decide +kernel
theorem dX11_nearest_9 : decode cX11_nearest 9 = .ok (.aload_n 0, 1) := by decide +kernel
theorem dX11_nearest_10 : decode cX11_nearest 10 = .ok (.getfield 16, 3) := by decide +kernel
theorem dX11_nearest_13 : decode cX11_nearest 13 = .ok (.getfield 142, 3) := by decide +kernel
theorem dX11_nearest_16 : decode cX11_nearest 16 = .ok (.ifCond .ne 5, 3) := by decide +kernel
theorem dX11_nearest_19 : decode cX11_nearest 19 = .ok (.iconst (-1), 1) := by decide +kernel
theorem dX11_nearest_20 : decode cX11_nearest 20 = .ok (.ireturn, 1) := by decide +kernel
theorem dX11_nearest_21 : decode cX11_nearest 21 = .ok (.aload_n 0, 1) := by decide +kernel
theorem dX11_nearest_22 : decode cX11_nearest 22 = .ok (.invokevirtual 145, 3) := by decide +kernel
theorem dX11_nearest_25 : decode cX11_nearest 25 = .ok (.astore_n 3, 1) := by decide +kernel
theorem dX11_nearest_26 : decode cX11_nearest 26 = .ok (.aload_n 0, 1) := by decide +kernel
theorem dX11_nearest_27 : decode cX11_nearest 27 = .ok (.aload_n 3, 1) := by decide +kernel
theorem dX11_nearest_28 : decode cX11_nearest 28 = .ok (.iconst 0, 1) := by decide +kernel
theorem dX11_nearest_29 : decode cX11_nearest 29 = .ok (.iload_n 1, 1) := by decide +kernel
theorem dX11_nearest_30 : decode cX11_nearest 30 = .ok (.invokevirtual 195, 3) := by decide +kernel
theorem dX11_nearest_33 : decode cX11_nearest 33 = .ok (.istore 4, 2) := by decide +kernel
theorem dX11_nearest_35 : decode cX11_nearest 35 = .ok (.iconst 1, 1) := by decide +kernel
theorem dX11_nearest_36 : decode cX11_nearest 36 = .ok (.istore 5, 2) := by decide +kernel
theorem dX11_nearest_38 : decode cX11_nearest 38 = .ok (.iload 5, 2) := by decide +kernel
theorem dX11_nearest_40 : decode cX11_nearest 40 = .ok (.aload_n 3, 1) := by decide +kernel
theorem dX11_nearest_41 : decode cX11_nearest 41 = .ok (.getfield 199, 3) := by decide +kernel
theorem dX11_nearest_44 : decode cX11_nearest 44 = .ok (.if_icmp .ge 24, 3) := by decide +kernel
theorem dX11_nearest_47 : decode cX11_nearest 47 = .ok (.iload 4, 2) := by decide +kernel
theorem dX11_nearest_49 : decode cX11_nearest 49 = .ok (.aload_n 0, 1) := by decide +kernel
theorem dX11_nearest_50 : decode cX11_nearest 50 = .ok (.aload_n 3, 1) := by decide +kernel
theorem dX11_nearest_51 : decode cX11_nearest 51 = .ok (.iload 5, 2) := by decide +kernel
theorem dX11_nearest_53 : decode cX11_nearest 53 = .ok (.iload_n 1, 1) := by decide +kernel
theorem dX11_nearest_54 : decode cX11_nearest 54 = .ok (.invokevirtual 195, 3) := by decide +kernel
theorem dX11_nearest_57 : decode cX11_nearest 57 = .ok (.invokestatic 202, 3) := by decide +kernel
theorem dX11_nearest_60 : decode cX11_nearest 60 = .ok (.istore 4, 2) := by decide +kernel
theorem dX11_nearest_62 : decode cX11_nearest 62 = .ok (.iinc 5 1, 3) := by decide +kernel
theorem dX11_nearest_65 : decode cX11_nearest 65 = .ok (.goto (-27), 3) := by decide +kernel
theorem dX11_nearest_68 : decode cX11_nearest 68 = .ok (.iload_n 2, 1) := by decide +kernel
theorem dX11_nearest_69 : decode cX11_nearest 69 = .ok (.bipush (-2), 2) := by decide +kernel
theorem dX11_nearest_71 : decode cX11_nearest 71 = .ok (.if_icmp .ne 6, 3) := by decide +kernel
theorem dX11_nearest_74 : decode cX11_nearest 74 = .ok (.iload 4, 2) := by decide +kernel
theorem dX11_nearest_76 : decode cX11_nearest 76 = .ok (.ireturn, 1) := by decide +kernel
theorem dX11_nearest_77 : decode cX11_nearest 77 = .ok (.iconst 0, 1) := by decide +kernel
theorem dX11_nearest_78 : decode cX11_nearest 78 = .ok (.istore 5, 2) := by decide +kernel
theorem dX11_nearest_80 : decode cX11_nearest 80 = .ok (.iconst 0, 1) := by decide +kernel
theorem dX11_nearest_81 : decode cX11_nearest 81 = .ok (.istore 6, 2) := by decide +kernel
theorem dX11_nearest_83 : decode cX11_nearest 83 = .ok (.iload 6, 2) := by decide +kernel
theorem dX11_nearest_85 : decode cX11_nearest 85 = .ok (.aload_n 3, 1) := by decide +kernel
theorem dX11_nearest_86 : decode cX11_nearest 86 = .ok (.getfield 199, 3) := by decide +kernel
theorem dX11_nearest_89 : decode cX11_nearest 89 = .ok (.if_icmp .ge 34, 3) := by decide +kernel
theorem dX11_nearest_92 : decode cX11_nearest 92 = .ok (.aload_n 0, 1) := by decide +kernel
theorem dX11_nearest_93 : decode cX11_nearest 93 = .ok (.aload_n 3, 1) := by decide +kernel
theorem dX11_nearest_94 : decode cX11_nearest 94 = .ok (.iload 6, 2) := by decide +kernel
theorem dX11_nearest_96 : decode cX11_nearest 96 = .ok (.iload_n 1, 1) := by decide +kernel
theorem dX11_nearest_97 : decode cX11_nearest 97 = .ok (.invokevirtual 195, 3) := by decide +kernel
theorem dX11_nearest_100 : decode cX11_nearest 100 = .ok (.iload 4, 2) := by decide +kernel
theorem dX11_nearest_102 : decode cX11_nearest 102 = .ok (.if_icmp .ne 15, 3) := by decide +kernel
theorem dX11_nearest_105 : decode cX11_nearest 105 = .ok (.iload 5, 2) := by decide +kernel
theorem dX11_nearest_107 : decode cX11_nearest 107 = .ok (.iload_n 2, 1) := by decide +kernel
theorem dX11_nearest_108 : decode cX11_nearest 108 = .ok (.if_icmp .ne 6, 3) := by decide +kernel
theorem dX11_nearest_111 : decode cX11_nearest 111 = .ok (.iload 6, 2) := by decide +kernel
theorem dX11_nearest_113 : decode cX11_nearest 113 = .ok (.ireturn, 1) := by decide +kernel
theorem dX11_nearest_114 : decode cX11_nearest 114 = .ok (.iinc 5 1, 3) := by decide +kernel
theorem dX11_nearest_117 : decode cX11_nearest 117 = .ok (.iinc 6 1, 3) := by decide +kernel
theorem dX11_nearest_120 : decode cX11_nearest 120 = .ok (.goto (-37), 3) := by decide +kernel
theorem dX11_nearest_123 : decode cX11_nearest 123 = .ok (.iload_n 2, 1) := by decide +kernel
theorem dX11_nearest_124 : decode cX11_nearest 124 = .ok (.iconst (-1), 1) := by decide +kernel
theorem dX11_nearest_125 : decode cX11_nearest 125 = .ok (.if_icmp .ne 8, 3) := by decide +kernel
theorem dX11_nearest_128 : decode cX11_nearest 128 = .ok (.iload 5, 2) := by decide +kernel
theorem dX11_nearest_130 : decode cX11_nearest 130 = .ok (.goto 4, 3) := by decide +kernel
theorem dX11_nearest_133 : decode cX11_nearest 133 = .ok (.iconst (-1), 1) := by decide +kernel
theorem dX11_nearest_134 : decode cX11_nearest 134 = .ok (.ireturn, 1) := by decide +kernel
theorem dX11_tree_0 : decode cX11_tree 0 = .ok (.aload_n 0, 1) := by decide +kernel
theorem dX11_tree_1 : decode cX11_tree 1 = .ok (.invokevirtual 84, 3) := by decide +kernel
theorem dX11_tree_4 : decode cX11_tree 4 = .ok (.istore_n 1, 1) := by decide +kernel
theorem dX11_tree_5 : decode cX11_tree 5 = .ok (.iload_n 1, 1) := by decide +kernel
theorem dX11_tree_6 : decode cX11_tree 6 = .ok (.iconst 1, 1) := by decide +kernel
theorem dX11_tree_7 : decode cX11_tree 7 = .ok (.if_icmp .lt 25, 3) := by decide +kernel
theorem dX11_tree_10 : decode cX11_tree 10 = .ok (.iload_n 1, 1) := by decide +kernel
theorem dX11_tree_11 : decode cX11_tree 11 = .ok (.bipush 9, 2) := by decide +kernel
theorem dX11_tree_13 : decode cX11_tree 13 = .ok (.if_icmp .gt 19, 3) := by decide +kernel
theorem dX11_tree_16 : decode cX11_tree 16 = .ok (.aload_n 0, 1) := by decide +kernel
theorem dX11_tree_17 : decode cX11_tree 17 = .ok (.iload_n 1, 1) := by decide +kernel
theorem dX11_tree_18 : decode cX11_tree 18 = .ok (.invokevirtual 192, 3) := by decide +kernel
theorem dX11_tree_21 : decode cX11_tree 21 = .ok (.ifCond .eq 11, 3) := by decide +kernel
theorem dX11_tree_24 : decode cX11_tree 24 = .ok (.aload_n 0, 1) := by decide +kernel
theorem dX11_tree_25 : decode cX11_tree 25 = .ok (.iload_n 1, 1) := by decide +kernel
theorem dX11_tree_26 : decode cX11_tree 26 = .ok (.invokevirtual 207, 3) := by decide +kernel
theorem dX11_tree_29 : decode cX11_tree 29 = .ok (.ifCond .ne 5, 3) := by decide +kernel
theorem dX11_tree_32 : decode cX11_tree 32 = .ok (.iconst (-1), 1) := by decide +kernel
theorem dX11_tree_33 : decode cX11_tree 33 = .ok (.ireturn, 1) := by decide +kernel
theorem dX11_tree_34 : decode cX11_tree 34 = .ok (.aload_n 0, 1) := by decide +kernel
theorem dX11_tree_35 : decode cX11_tree 35 = .ok (.getfield 68, 3) := by decide +kernel
theorem dX11_tree_38 : decode cX11_tree 38 = .ok (.invokevirtual 210, 3) := by decide +kernel
theorem dX11_tree_41 : decode cX11_tree 41 = .ok (.iconst 0, 1) := by decide +kernel
theorem dX11_tree_42 : decode cX11_tree 42 = .ok (.istore_n 2, 1) := by decide +kernel
theorem dX11_tree_43 : decode cX11_tree 43 = .ok (.iload_n 2, 1) := by decide +kernel
theorem dX11_tree_44 : decode cX11_tree 44 = .ok (.iload_n 1, 1) := by decide +kernel
theorem dX11_tree_45 : decode cX11_tree 45 = .ok (.if_icmp .ge 21, 3) := by decide +kernel
theorem dX11_tree_48 : decode cX11_tree 48 = .ok (.aload_n 0, 1) := by decide +kernel
theorem dX11_tree_49 : decode cX11_tree 49 = .ok (.getfield 68, 3) := by decide +kernel
theorem dX11_tree_52 : decode cX11_tree 52 = .ok (.aload_n 0, 1) := by decide +kernel
theorem dX11_tree_53 : decode cX11_tree 53 = .ok (.iload_n 2, 1) := by decide +kernel
theorem dX11_tree_54 : decode cX11_tree 54 = .ok (.invokevirtual 128, 3) := by decide +kernel
theorem dX11_tree_57 : decode cX11_tree 57 = .ok (.invokevirtual 212, 3) := by decide +kernel
theorem dX11_tree_60 : decode cX11_tree 60 = .ok (.iinc 2 1, 3) := by decide +kernel
theorem dX11_tree_63 : decode cX11_tree 63 = .ok (.goto (-20), 3) := by decide +kernel
theorem dX11_tree_66 : decode cX11_tree 66 = .ok (.aload_n 0, 1) := by decide +kernel
theorem dX11_tree_67 : decode cX11_tree 67 = .ok (.getfield 68, 3) := by decide +kernel
theorem dX11_tree_70 : decode cX11_tree 70 = .ok (.aload_n 0, 1) := by decide +kernel
theorem dX11_tree_71 : decode cX11_tree 71 = .ok (.getfield 16, 3) := by decide +kernel
theorem dX11_tree_74 : decode cX11_tree 74 = .ok (.invokevirtual 215, 3) := by decide +kernel
theorem dX11_tree_77 : decode cX11_tree 77 = .ok (.pop, 1) := by decide +kernel
theorem dX11_tree_78 : decode cX11_tree 78 = .ok (.aload_n 0, 1) := by decide +kernel
theorem dX11_tree_79 : decode cX11_tree 79 = .ok (.getfield 68, 3) := by decide +kernel
theorem dX11_tree_82 : decode cX11_tree 82 = .ok (.invokevirtual 219, 3) := by decide +kernel
theorem dX11_tree_85 : decode cX11_tree 85 = .ok (.ireturn, 1) := by decide +kernel
theorem dX11_from_0 : decode cX11_from 0 = .ok (.aload_n 0, 1) := by decide +kernel
theorem dX11_from_1 : decode cX11_from 1 = .ok (.getfield 68, 3) := by decide +kernel
theorem dX11_from_4 : decode cX11_from 4 = .ok (.iload_n 1, 1) := by decide +kernel
theorem dX11_from_5 : decode cX11_from 5 = .ok (.invokevirtual 222, 3) := by decide +kernel
theorem dX11_from_8 : decode cX11_from 8 = .ok (.ireturn, 1) := by decide +kernel
theorem dX11_missing_0 : decode cX11_missing 0 = .ok (.iload_n 1, 1) := by decide +kernel
theorem dX11_missing_1 : decode cX11_missing 1 = .ok (.ifCond .lt 32, 3) := by decide +kernel
theorem dX11_missing_4 : decode cX11_missing 4 = .ok (.iload_n 1, 1) := by decide +kernel
theorem dX11_missing_5 : decode cX11_missing 5 = .ok (.iconst 1, 1) := by decide +kernel
theorem dX11_missing_6 : decode cX11_missing 6 = .ok (.if_icmp .gt 27, 3) := by decide +kernel
theorem dX11_missing_9 : decode cX11_missing 9 = .ok (.aload_n 0, 1) := by decide +kernel
theorem dX11_missing_10 : decode cX11_missing 10 = .ok (.getfield 68, 3) := by decide +kernel
theorem dX11_missing_13 : decode cX11_missing 13 = .ok (.getfield 225, 3) := by decide +kernel
theorem dX11_missing_16 : decode cX11_missing 16 = .ok (.ifCond .eq 17, 3) := by decide +kernel
theorem dX11_missing_19 : decode cX11_missing 19 = .ok (.aload_n 0, 1) := by decide +kernel
theorem dX11_missing_20 : decode cX11_missing 20 = .ok (.getfield 68, 3) := by decide +kernel
theorem dX11_missing_23 : decode cX11_missing 23 = .ok (.aload_n 0, 1) := by decide +kernel
theorem dX11_missing_24 : decode cX11_missing 24 = .ok (.getfield 16, 3) := by decide +kernel
theorem dX11_missing_27 : decode cX11_missing 27 = .ok (.invokevirtual 215, 3) := by decide +kernel
theorem dX11_missing_30 : decode cX11_missing 30 = .ok (.ifCond .ne 5, 3) := by decide +kernel
theorem dX11_missing_33 : decode cX11_missing 33 = .ok (.iconst (-1), 1) := by decide +kernel
theorem dX11_missing_34 : decode cX11_missing 34 = .ok (.ireturn, 1) := by decide +kernel
theorem dX11_missing_35 : decode cX11_missing 35 = .ok (.aload_n 0, 1) := by decide +kernel
theorem dX11_missing_36 : decode cX11_missing 36 = .ok (.invokevirtual 145, 3) := by decide +kernel
theorem dX11_missing_39 : decode cX11_missing 39 = .ok (.astore_n 2, 1) := by decide +kernel
theorem dX11_missing_40 : decode cX11_missing 40 = .ok (.aload_n 0, 1) := by decide +kernel
theorem dX11_missing_41 : decode cX11_missing 41 = .ok (.getfield 68, 3) := by decide +kernel
theorem dX11_missing_44 : decode cX11_missing 44 = .ok (.aload_n 0, 1) := by decide +kernel
theorem dX11_missing_45 : decode cX11_missing 45 = .ok (.getfield 68, 3) := by decide +kernel
theorem dX11_missing_48 : decode cX11_missing 48 = .ok (.getfield 225, 3) := by decide +kernel
theorem dX11_missing_51 : decode cX11_missing 51 = .ok (.invokevirtual 228, 3) := by decide +kernel
theorem dX11_missing_54 : decode cX11_missing 54 = .ok (.istore_n 3, 1) := by decide +kernel
theorem dX11_missing_55 : decode cX11_missing 55 = .ok (.iconst (-1), 1) := by decide +kernel
theorem dX11_missing_56 : decode cX11_missing 56 = .ok (.istore 4, 2) := by decide +kernel
theorem dX11_missing_58 : decode cX11_missing 58 = .ok (.iconst 0, 1) := by decide +kernel
theorem dX11_missing_59 : decode cX11_missing 59 = .ok (.istore 5, 2) := by decide +kernel
theorem dX11_missing_61 : decode cX11_missing 61 = .ok (.iload 5, 2) := by decide +kernel
theorem dX11_missing_63 : decode cX11_missing 63 = .ok (.aload_n 2, 1) := by decide +kernel
theorem dX11_missing_64 : decode cX11_missing 64 = .ok (.getfield 199, 3) := by decide +kernel
theorem dX11_missing_67 : decode cX11_missing 67 = .ok (.if_icmp .ge 38, 3) := by decide +kernel
theorem dX11_missing_70 : decode cX11_missing 70 = .ok (.aload_n 0, 1) := by decide +kernel
theorem dX11_missing_71 : decode cX11_missing 71 = .ok (.getfield 68, 3) := by decide +kernel
theorem dX11_missing_74 : decode cX11_missing 74 = .ok (.aload_n 0, 1) := by decide +kernel
theorem dX11_missing_75 : decode cX11_missing 75 = .ok (.getfield 16, 3) := by decide +kernel
theorem dX11_missing_78 : decode cX11_missing 78 = .ok (.aload_n 2, 1) := by decide +kernel
theorem dX11_missing_79 : decode cX11_missing 79 = .ok (.iload 5, 2) := by decide +kernel
theorem dX11_missing_81 : decode cX11_missing 81 = .ok (.invokevirtual 231, 3) := by decide +kernel
theorem dX11_missing_84 : decode cX11_missing 84 = .ok (.istore 6, 2) := by decide +kernel
theorem dX11_missing_86 : decode cX11_missing 86 = .ok (.iload 6, 2) := by decide +kernel
theorem dX11_missing_88 : decode cX11_missing 88 = .ok (.iload_n 3, 1) := by decide +kernel
theorem dX11_missing_89 : decode cX11_missing 89 = .ok (.if_icmp .ge 10, 3) := by decide +kernel
theorem dX11_missing_92 : decode cX11_missing 92 = .ok (.iload 6, 2) := by decide +kernel
theorem dX11_missing_94 : decode cX11_missing 94 = .ok (.istore_n 3, 1) := by decide +kernel
theorem dX11_missing_95 : decode cX11_missing 95 = .ok (.iload 5, 2) := by decide +kernel
theorem dX11_missing_97 : decode cX11_missing 97 = .ok (.istore 4, 2) := by decide +kernel
theorem dX11_missing_99 : decode cX11_missing 99 = .ok (.iinc 5 1, 3) := by decide +kernel
theorem dX11_missing_102 : decode cX11_missing 102 = .ok (.goto (-41), 3) := by decide +kernel
theorem dX11_missing_105 : decode cX11_missing 105 = .ok (.iload 4, 2) := by decide +kernel
theorem dX11_missing_107 : decode cX11_missing 107 = .ok (.iconst (-1), 1) := by decide +kernel
theorem dX11_missing_108 : decode cX11_missing 108 = .ok (.if_icmp .eq 7, 3) := by decide +kernel
theorem dX11_missing_111 : decode cX11_missing 111 = .ok (.iload_n 1, 1) := by decide +kernel
theorem dX11_missing_112 : decode cX11_missing 112 = .ok (.ifCond .ne 8, 3) := by decide +kernel
theorem dX11_missing_115 : decode cX11_missing 115 = .ok (.iload 4, 2) := by decide +kernel
theorem dX11_missing_117 : decode cX11_missing 117 = .ok (.goto 4, 3) := by decide +kernel
theorem dX11_missing_120 : decode cX11_missing 120 = .ok (.iload_n 3, 1) := by decide +kernel
theorem dX11_missing_121 : decode cX11_missing 121 = .ok (.ireturn, 1) := by decide +kernel
theorem dX11_ways_0 : decode cX11_ways 0 = .ok (.aload_n 0, 1) := by decide +kernel
theorem dX11_ways_1 : decode cX11_ways 1 = .ok (.invokevirtual 145, 3) := by decide +kernel
theorem dX11_ways_4 : decode cX11_ways 4 = .ok (.astore 4, 2) := by decide +kernel
theorem dX11_ways_6 : decode cX11_ways 6 = .ok (.aload 4, 2) := by decide +kernel
theorem dX11_ways_8 : decode cX11_ways 8 = .ok (.iload_n 1, 1) := by decide +kernel
theorem dX11_ways_9 : decode cX11_ways 9 = .ok (.invokevirtual 149, 3) := by decide +kernel
theorem dX11_ways_12 : decode cX11_ways 12 = .ok (.ifCond .eq 21, 3) := by decide +kernel
theorem dX11_ways_15 : decode cX11_ways 15 = .ok (.aload 4, 2) := by decide +kernel
theorem dX11_ways_17 : decode cX11_ways 17 = .ok (.iload_n 2, 1) := by decide +kernel
theorem dX11_ways_18 : decode cX11_ways 18 = .ok (.invokevirtual 149, 3) := by decide +kernel
theorem dX11_ways_21 : decode cX11_ways 21 = .ok (.ifCond .eq 12, 3) := by decide +kernel
theorem dX11_ways_24 : decode cX11_ways 24 = .ok (.iload_n 3, 1) := by decide +kernel
theorem dX11_ways_25 : decode cX11_ways 25 = .ok (.bipush 10, 2) := by decide +kernel
theorem dX11_ways_27 : decode cX11_ways 27 = .ok (.invokestatic 235, 3) := by decide +kernel
theorem dX11_ways_30 : decode cX11_ways 30 = .ok (.ifCond .ne 7, 3) := by decide +kernel
theorem dX11_ways_33 : decode cX11_ways 33 = .ok (.ldc2_w 238, 3) := by decide +kernel
theorem dX11_ways_36 : decode cX11_ways 36 = .ok (.lreturn, 1) := by decide +kernel
theorem dX11_ways_37 : decode cX11_ways 37 = .ok (.aload 4, 2) := by decide +kernel
theorem dX11_ways_39 : decode cX11_ways 39 = .ok (.iload_n 1, 1) := by decide +kernel
theorem dX11_ways_40 : decode cX11_ways 40 = .ok (.iload_n 3, 1) := by decide +kernel
theorem dX11_ways_41 : decode cX11_ways 41 = .ok (.aload_n 0, 1) := by decide +kernel
theorem dX11_ways_42 : decode cX11_ways 42 = .ok (.getfield 16, 3) := by decide +kernel
theorem dX11_ways_45 : decode cX11_ways 45 = .ok (.getfield 240, 3) := by decide +kernel
theorem dX11_ways_48 : decode cX11_ways 48 = .ok (.invokevirtual 243, 3) := by decide +kernel
theorem dX11_ways_51 : decode cX11_ways 51 = .ok (.aload 4, 2) := by decide +kernel
theorem dX11_ways_53 : decode cX11_ways 53 = .ok (.getfield 247, 3) := by decide +kernel
theorem dX11_ways_56 : decode cX11_ways 56 = .ok (.iload_n 2, 1) := by decide +kernel
theorem dX11_ways_57 : decode cX11_ways 57 = .ok (.laload, 1) := by decide +kernel
theorem dX11_ways_58 : decode cX11_ways 58 = .ok (.lreturn, 1) := by decide +kernel
theorem dX11_likeliest_0 : decode cX11_likeliest 0 = .ok (.aload_n 0, 1) := by decide +kernel
theorem dX11_likeliest_1 : decode cX11_likeliest 1 = .ok (.getfield 16, 3) := by decide +kernel
theorem dX11_likeliest_4 : decode cX11_likeliest 4 = .ok (.iload_n 1, 1) := by decide +kernel
theorem dX11_likeliest_5 : decode cX11_likeliest 5 = .ok (.invokevirtual 178, 3) := by decide +kernel
theorem dX11_likeliest_8 : decode cX11_likeliest 8 = .ok (.astore 5, 2) := by decide +kernel
theorem dX11_likeliest_10 : decode cX11_likeliest 10 = .ok (.aload_n 0, 1) := by decide +kernel
theorem dX11_likeliest_11 : decode cX11_likeliest 11 = .ok (.getfield 16, 3) := by decide +kernel
theorem dX11_likeliest_14 : decode cX11_likeliest 14 = .ok (.iload_n 3, 1) := by decide +kernel
theorem dX11_likeliest_15 : decode cX11_likeliest 15 = .ok (.invokevirtual 178, 3) := by decide +kernel
theorem dX11_likeliest_18 : decode cX11_likeliest 18 = .ok (.astore 6, 2) := by decide +kernel
theorem dX11_likeliest_20 : decode cX11_likeliest 20 = .ok (.aload 5, 2) := by decide +kernel
theorem dX11_likeliest_22 : decode cX11_likeliest 22 = .ok (.ifnull 25, 3) := by decide +kernel
theorem dX11_likeliest_25 : decode cX11_likeliest 25 = .ok (.aload 6, 2) := by decide +kernel
theorem dX11_likeliest_27 : decode cX11_likeliest 27 = .ok (.ifnull 20, 3) := by decide +kernel
theorem dX11_likeliest_30 : decode cX11_likeliest 30 = .ok (.iload_n 2, 1) := by decide +kernel
theorem dX11_likeliest_31 : decode cX11_likeliest 31 = .ok (.iconst 5, 1) := by decide +kernel
theorem dX11_likeliest_32 : decode cX11_likeliest 32 = .ok (.invokestatic 235, 3) := by decide +kernel
theorem dX11_likeliest_35 : decode cX11_likeliest 35 = .ok (.ifCond .eq 12, 3) := by decide +kernel
theorem dX11_likeliest_38 : decode cX11_likeliest 38 = .ok (.iload 4, 2) := by decide +kernel
theorem dX11_likeliest_40 : decode cX11_likeliest 40 = .ok (.iconst 5, 1) := by decide +kernel
theorem dX11_likeliest_41 : decode cX11_likeliest 41 = .ok (.invokestatic 235, 3) := by decide +kernel
theorem dX11_likeliest_44 : decode cX11_likeliest 44 = .ok (.ifCond .ne 6, 3) := by decide +kernel
theorem dX11_likeliest_47 : decode cX11_likeliest 47 = .ok (.bipush (-2), 2) := by decide +kernel
theorem dX11_likeliest_49 : decode cX11_likeliest 49 = .ok (.ireturn, 1) := by decide +kernel
theorem dX11_likeliest_50 : decode cX11_likeliest 50 = .ok (.aload_n 0, 1) := by decide +kernel
theorem dX11_likeliest_51 : decode cX11_likeliest 51 = .ok (.invokevirtual 145, 3) := by decide +kernel
theorem dX11_likeliest_54 : decode cX11_likeliest 54 = .ok (.astore 7, 2) := by decide +kernel
theorem dX11_likeliest_56 : decode cX11_likeliest 56 = .ok (.aload 7, 2) := by decide +kernel
theorem dX11_likeliest_58 : decode cX11_likeliest 58 = .ok (.aload 7, 2) := by decide +kernel
theorem dX11_likeliest_60 : decode cX11_likeliest 60 = .ok (.aload 5, 2) := by decide +kernel
theorem dX11_likeliest_62 : decode cX11_likeliest 62 = .ok (.invokevirtual 251, 3) := by decide +kernel
theorem dX11_likeliest_65 : decode cX11_likeliest 65 = .ok (.iload_n 2, 1) := by decide +kernel
theorem dX11_likeliest_66 : decode cX11_likeliest 66 = .ok (.aload_n 0, 1) := by decide +kernel
theorem dX11_likeliest_67 : decode cX11_likeliest 67 = .ok (.getfield 16, 3) := by decide +kernel
theorem dX11_likeliest_70 : decode cX11_likeliest 70 = .ok (.getfield 240, 3) := by decide +kernel
theorem dX11_likeliest_73 : decode cX11_likeliest 73 = .ok (.invokevirtual 243, 3) := by decide +kernel
theorem dX11_likeliest_76 : decode cX11_likeliest 76 = .ok (.aload 7, 2) := by decide +kernel
theorem dX11_likeliest_78 : decode cX11_likeliest 78 = .ok (.invokevirtual 254, 3) := by decide +kernel
theorem dX11_likeliest_81 : decode cX11_likeliest 81 = .ok (.aload 7, 2) := by decide +kernel
theorem dX11_likeliest_83 : decode cX11_likeliest 83 = .ok (.aload 7, 2) := by decide +kernel
theorem dX11_likeliest_85 : decode cX11_likeliest 85 = .ok (.aload 6, 2) := by decide +kernel
theorem dX11_likeliest_87 : decode cX11_likeliest 87 = .ok (.invokevirtual 251, 3) := by decide +kernel
theorem dX11_likeliest_90 : decode cX11_likeliest 90 = .ok (.iload 4, 2) := by decide +kernel
theorem dX11_likeliest_92 : decode cX11_likeliest 92 = .ok (.aload_n 0, 1) := by decide +kernel
theorem dX11_likeliest_93 : decode cX11_likeliest 93 = .ok (.getfield 16, 3) := by decide +kernel
theorem dX11_likeliest_96 : decode cX11_likeliest 96 = .ok (.getfield 240, 3) := by decide +kernel
theorem dX11_likeliest_99 : decode cX11_likeliest 99 = .ok (.invokevirtual 243, 3) := by decide +kernel
theorem dX11_likeliest_102 : decode cX11_likeliest 102 = .ok (.lconst 0, 1) := by decide +kernel
theorem dX11_likeliest_103 : decode cX11_likeliest 103 = .ok (.lstore 8, 2) := by decide +kernel
theorem dX11_likeliest_105 : decode cX11_likeliest 105 = .ok (.iconst (-1), 1) := by decide +kernel
theorem dX11_likeliest_106 : decode cX11_likeliest 106 = .ok (.istore 10, 2) := by decide +kernel
theorem dX11_likeliest_108 : decode cX11_likeliest 108 = .ok (.iconst 0, 1) := by decide +kernel
theorem dX11_likeliest_109 : decode cX11_likeliest 109 = .ok (.istore 11, 2) := by decide +kernel
theorem dX11_likeliest_111 : decode cX11_likeliest 111 = .ok (.iload 11, 2) := by decide +kernel
theorem dX11_likeliest_113 : decode cX11_likeliest 113 = .ok (.aload 7, 2) := by decide +kernel
theorem dX11_likeliest_115 : decode cX11_likeliest 115 = .ok (.getfield 199, 3) := by decide +kernel
theorem dX11_likeliest_118 : decode cX11_likeliest 118 = .ok (.if_icmp .ge 44, 3) := by decide +kernel
theorem dX11_likeliest_121 : decode cX11_likeliest 121 = .ok (.aload 7, 2) := by decide +kernel
theorem dX11_likeliest_123 : decode cX11_likeliest 123 = .ok (.getfield 257, 3) := by decide +kernel
theorem dX11_likeliest_126 : decode cX11_likeliest 126 = .ok (.iload 11, 2) := by decide +kernel
theorem dX11_likeliest_128 : decode cX11_likeliest 128 = .ok (.laload, 1) := by decide +kernel
theorem dX11_likeliest_129 : decode cX11_likeliest 129 = .ok (.aload 7, 2) := by decide +kernel
theorem dX11_likeliest_131 : decode cX11_likeliest 131 = .ok (.getfield 247, 3) := by decide +kernel
theorem dX11_likeliest_134 : decode cX11_likeliest 134 = .ok (.iload 11, 2) := by decide +kernel
theorem dX11_likeliest_136 : decode cX11_likeliest 136 = .ok (.laload, 1) := by decide +kernel
theorem dX11_likeliest_137 : decode cX11_likeliest 137 = .ok (.lmul, 1) := by decide +kernel
theorem dX11_likeliest_138 : decode cX11_likeliest 138 = .ok (.lstore 12, 2) := by decide +kernel
theorem dX11_likeliest_140 : decode cX11_likeliest 140 = .ok (.lload 12, 2) := by decide +kernel
theorem dX11_likeliest_142 : decode cX11_likeliest 142 = .ok (.lload 8, 2) := by decide +kernel
theorem dX11_likeliest_144 : decode cX11_likeliest 144 = .ok (.lcmp, 1) := by decide +kernel
theorem dX11_likeliest_145 : decode cX11_likeliest 145 = .ok (.ifCond .le 11, 3) := by decide +kernel
theorem dX11_likeliest_148 : decode cX11_likeliest 148 = .ok (.lload 12, 2) := by decide +kernel
theorem dX11_likeliest_150 : decode cX11_likeliest 150 = .ok (.lstore 8, 2) := by decide +kernel
theorem dX11_likeliest_152 : decode cX11_likeliest 152 = .ok (.iload 11, 2) := by decide +kernel
theorem dX11_likeliest_154 : decode cX11_likeliest 154 = .ok (.istore 10, 2) := by decide +kernel
theorem dX11_likeliest_156 : decode cX11_likeliest 156 = .ok (.iinc 11 1, 3) := by decide +kernel
theorem dX11_likeliest_159 : decode cX11_likeliest 159 = .ok (.goto (-48), 3) := by decide +kernel
theorem dX11_likeliest_162 : decode cX11_likeliest 162 = .ok (.iload 10, 2) := by decide +kernel
theorem dX11_likeliest_164 : decode cX11_likeliest 164 = .ok (.iconst (-1), 1) := by decide +kernel
theorem dX11_likeliest_165 : decode cX11_likeliest 165 = .ok (.if_icmp .eq 9, 3) := by decide +kernel
theorem dX11_likeliest_168 : decode cX11_likeliest 168 = .ok (.aload_n 0, 1) := by decide +kernel
theorem dX11_likeliest_169 : decode cX11_likeliest 169 = .ok (.lload 8, 2) := by decide +kernel
theorem dX11_likeliest_171 : decode cX11_likeliest 171 = .ok (.putfield 260, 3) := by decide +kernel
theorem dX11_likeliest_174 : decode cX11_likeliest 174 = .ok (.iload 10, 2) := by decide +kernel
theorem dX11_likeliest_176 : decode cX11_likeliest 176 = .ok (.ireturn, 1) := by decide +kernel
theorem dX11_likely_0 : decode cX11_likely 0 = .ok (.aload_n 0, 1) := by decide +kernel
theorem dX11_likely_1 : decode cX11_likely 1 = .ok (.getfield 260, 3) := by decide +kernel
theorem dX11_likely_4 : decode cX11_likely 4 = .ok (.lreturn, 1) := by decide +kernel
theorem dX11_firsts_0 : decode cX11_firsts 0 = .ok (.aload_n 0, 1) := by decide +kernel
theorem dX11_firsts_1 : decode cX11_firsts 1 = .ok (.invokevirtual 145, 3) := by decide +kernel
theorem dX11_firsts_4 : decode cX11_firsts 4 = .ok (.astore_n 3, 1) := by decide +kernel
theorem dX11_firsts_5 : decode cX11_firsts 5 = .ok (.aload_n 3, 1) := by decide +kernel
theorem dX11_firsts_6 : decode cX11_firsts 6 = .ok (.iload_n 1, 1) := by decide +kernel
theorem dX11_firsts_7 : decode cX11_firsts 7 = .ok (.invokevirtual 149, 3) := by decide +kernel
theorem dX11_firsts_10 : decode cX11_firsts 10 = .ok (.ifCond .eq 12, 3) := by decide +kernel
theorem dX11_firsts_13 : decode cX11_firsts 13 = .ok (.iload_n 2, 1) := by decide +kernel
theorem dX11_firsts_14 : decode cX11_firsts 14 = .ok (.bipush 10, 2) := by decide +kernel
theorem dX11_firsts_16 : decode cX11_firsts 16 = .ok (.invokestatic 235, 3) := by decide +kernel
theorem dX11_firsts_19 : decode cX11_firsts 19 = .ok (.ifCond .ne 5, 3) := by decide +kernel
theorem dX11_firsts_22 : decode cX11_firsts 22 = .ok (.iconst (-1), 1) := by decide +kernel
theorem dX11_firsts_23 : decode cX11_firsts 23 = .ok (.ireturn, 1) := by decide +kernel
theorem dX11_firsts_24 : decode cX11_firsts 24 = .ok (.aload_n 3, 1) := by decide +kernel
theorem dX11_firsts_25 : decode cX11_firsts 25 = .ok (.iload_n 1, 1) := by decide +kernel
theorem dX11_firsts_26 : decode cX11_firsts 26 = .ok (.iload_n 2, 1) := by decide +kernel
theorem dX11_firsts_27 : decode cX11_firsts 27 = .ok (.aload_n 0, 1) := by decide +kernel
theorem dX11_firsts_28 : decode cX11_firsts 28 = .ok (.getfield 16, 3) := by decide +kernel
theorem dX11_firsts_31 : decode cX11_firsts 31 = .ok (.getfield 240, 3) := by decide +kernel
theorem dX11_firsts_34 : decode cX11_firsts 34 = .ok (.invokevirtual 243, 3) := by decide +kernel
theorem dX11_firsts_37 : decode cX11_firsts 37 = .ok (.iconst 0, 1) := by decide +kernel
theorem dX11_firsts_38 : decode cX11_firsts 38 = .ok (.istore 4, 2) := by decide +kernel
theorem dX11_firsts_40 : decode cX11_firsts 40 = .ok (.iconst 0, 1) := by decide +kernel
theorem dX11_firsts_41 : decode cX11_firsts 41 = .ok (.istore 5, 2) := by decide +kernel
theorem dX11_firsts_43 : decode cX11_firsts 43 = .ok (.iload 5, 2) := by decide +kernel
theorem dX11_firsts_45 : decode cX11_firsts 45 = .ok (.aload_n 3, 1) := by decide +kernel
theorem dX11_firsts_46 : decode cX11_firsts 46 = .ok (.getfield 199, 3) := by decide +kernel
theorem dX11_firsts_49 : decode cX11_firsts 49 = .ok (.if_icmp .ge 24, 3) := by decide +kernel
theorem dX11_firsts_52 : decode cX11_firsts 52 = .ok (.aload_n 3, 1) := by decide +kernel
theorem dX11_firsts_53 : decode cX11_firsts 53 = .ok (.getfield 247, 3) := by decide +kernel
theorem dX11_firsts_56 : decode cX11_firsts 56 = .ok (.iload 5, 2) := by decide +kernel
theorem dX11_firsts_58 : decode cX11_firsts 58 = .ok (.laload, 1) := by decide +kernel
theorem dX11_firsts_59 : decode cX11_firsts 59 = .ok (.lconst 0, 1) := by decide +kernel
theorem dX11_firsts_60 : decode cX11_firsts 60 = .ok (.lcmp, 1) := by decide +kernel
theorem dX11_firsts_61 : decode cX11_firsts 61 = .ok (.ifCond .le 6, 3) := by decide +kernel
theorem dX11_firsts_64 : decode cX11_firsts 64 = .ok (.iinc 4 1, 3) := by decide +kernel
theorem dX11_firsts_67 : decode cX11_firsts 67 = .ok (.iinc 5 1, 3) := by decide +kernel
theorem dX11_firsts_70 : decode cX11_firsts 70 = .ok (.goto (-27), 3) := by decide +kernel
theorem dX11_firsts_73 : decode cX11_firsts 73 = .ok (.iload 4, 2) := by decide +kernel
theorem dX11_firsts_75 : decode cX11_firsts 75 = .ok (.ireturn, 1) := by decide +kernel
theorem dX11_drawn_0 : decode cX11_drawn 0 = .ok (.aload_n 0, 1) := by decide +kernel
theorem dX11_drawn_1 : decode cX11_drawn 1 = .ok (.invokevirtual 145, 3) := by decide +kernel
theorem dX11_drawn_4 : decode cX11_drawn 4 = .ok (.astore 4, 2) := by decide +kernel
theorem dX11_drawn_6 : decode cX11_drawn 6 = .ok (.aload_n 0, 1) := by decide +kernel
theorem dX11_drawn_7 : decode cX11_drawn 7 = .ok (.getfield 16, 3) := by decide +kernel
theorem dX11_drawn_10 : decode cX11_drawn 10 = .ok (.invokevirtual 264, 3) := by decide +kernel
theorem dX11_drawn_13 : decode cX11_drawn 13 = .ok (.istore 5, 2) := by decide +kernel
theorem dX11_drawn_15 : decode cX11_drawn 15 = .ok (.aload 4, 2) := by decide +kernel
theorem dX11_drawn_17 : decode cX11_drawn 17 = .ok (.iload_n 1, 1) := by decide +kernel
theorem dX11_drawn_18 : decode cX11_drawn 18 = .ok (.invokevirtual 149, 3) := by decide +kernel
theorem dX11_drawn_21 : decode cX11_drawn 21 = .ok (.ifCond .eq 17, 3) := by decide +kernel
theorem dX11_drawn_24 : decode cX11_drawn 24 = .ok (.iload_n 2, 1) := by decide +kernel
theorem dX11_drawn_25 : decode cX11_drawn 25 = .ok (.bipush 100, 2) := by decide +kernel
theorem dX11_drawn_27 : decode cX11_drawn 27 = .ok (.invokestatic 235, 3) := by decide +kernel
theorem dX11_drawn_30 : decode cX11_drawn 30 = .ok (.ifCond .eq 8, 3) := by decide +kernel
theorem dX11_drawn_33 : decode cX11_drawn 33 = .ok (.iload 5, 2) := by decide +kernel
theorem dX11_drawn_35 : decode cX11_drawn 35 = .ok (.ifCond .gt 5, 3) := by decide +kernel
theorem dX11_drawn_38 : decode cX11_drawn 38 = .ok (.iconst (-1), 1) := by decide +kernel
theorem dX11_drawn_39 : decode cX11_drawn 39 = .ok (.ireturn, 1) := by decide +kernel
theorem dX11_drawn_40 : decode cX11_drawn 40 = .ok (.iload_n 1, 1) := by decide +kernel
theorem dX11_drawn_41 : decode cX11_drawn 41 = .ok (.istore 6, 2) := by decide +kernel
theorem dX11_drawn_43 : decode cX11_drawn 43 = .ok (.iload_n 3, 1) := by decide +kernel
theorem dX11_drawn_44 : decode cX11_drawn 44 = .ok (.istore 7, 2) := by decide +kernel
theorem dX11_drawn_46 : decode cX11_drawn 46 = .ok (.iconst 0, 1) := by decide +kernel
theorem dX11_drawn_47 : decode cX11_drawn 47 = .ok (.istore 8, 2) := by decide +kernel
theorem dX11_drawn_49 : decode cX11_drawn 49 = .ok (.iload 8, 2) := by decide +kernel
theorem dX11_drawn_51 : decode cX11_drawn 51 = .ok (.iload_n 2, 1) := by decide +kernel
theorem dX11_drawn_52 : decode cX11_drawn 52 = .ok (.if_icmp .ge 45, 3) := by decide +kernel
theorem dX11_drawn_55 : decode cX11_drawn 55 = .ok (.iload 7, 2) := by decide +kernel
theorem dX11_drawn_57 : decode cX11_drawn 57 = .ok (.ldc_w 267, 3) := by decide +kernel
theorem dX11_drawn_60 : decode cX11_drawn 60 = .ok (.imul, 1) := by decide +kernel
theorem dX11_drawn_61 : decode cX11_drawn 61 = .ok (.sipush 12345, 3) := by decide +kernel
theorem dX11_drawn_64 : decode cX11_drawn 64 = .ok (.iadd, 1) := by decide +kernel
theorem dX11_drawn_65 : decode cX11_drawn 65 = .ok (.istore 7, 2) := by decide +kernel
theorem dX11_drawn_67 : decode cX11_drawn 67 = .ok (.aload 4, 2) := by decide +kernel
theorem dX11_drawn_69 : decode cX11_drawn 69 = .ok (.iload 6, 2) := by decide +kernel
theorem dX11_drawn_71 : decode cX11_drawn 71 = .ok (.aload_n 0, 1) := by decide +kernel
theorem dX11_drawn_72 : decode cX11_drawn 72 = .ok (.getfield 16, 3) := by decide +kernel
theorem dX11_drawn_75 : decode cX11_drawn 75 = .ok (.iload 7, 2) := by decide +kernel
theorem dX11_drawn_77 : decode cX11_drawn 77 = .ok (.bipush 8, 2) := by decide +kernel
theorem dX11_drawn_79 : decode cX11_drawn 79 = .ok (.iushr, 1) := by decide +kernel
theorem dX11_drawn_80 : decode cX11_drawn 80 = .ok (.iload 5, 2) := by decide +kernel
theorem dX11_drawn_82 : decode cX11_drawn 82 = .ok (.irem, 1) := by decide +kernel
theorem dX11_drawn_83 : decode cX11_drawn 83 = .ok (.invokevirtual 268, 3) := by decide +kernel
theorem dX11_drawn_86 : decode cX11_drawn 86 = .ok (.invokevirtual 271, 3) := by decide +kernel
theorem dX11_drawn_89 : decode cX11_drawn 89 = .ok (.istore 6, 2) := by decide +kernel
theorem dX11_drawn_91 : decode cX11_drawn 91 = .ok (.iinc 8 1, 3) := by decide +kernel
theorem dX11_drawn_94 : decode cX11_drawn 94 = .ok (.goto (-45), 3) := by decide +kernel
theorem dX11_drawn_97 : decode cX11_drawn 97 = .ok (.iload 6, 2) := by decide +kernel
theorem dX11_drawn_99 : decode cX11_drawn 99 = .ok (.ireturn, 1) := by decide +kernel
theorem dX11_again_0 : decode cX11_again 0 = .ok (.iload_n 1, 1) := by decide +kernel
theorem dX11_again_1 : decode cX11_again 1 = .ok (.bipush 10, 2) := by decide +kernel
theorem dX11_again_3 : decode cX11_again 3 = .ok (.invokestatic 235, 3) := by decide +kernel
theorem dX11_again_6 : decode cX11_again 6 = .ok (.ifCond .ne 5, 3) := by decide +kernel
theorem dX11_again_9 : decode cX11_again 9 = .ok (.iconst (-1), 1) := by decide +kernel
theorem dX11_again_10 : decode cX11_again 10 = .ok (.ireturn, 1) := by decide +kernel
theorem dX11_again_11 : decode cX11_again 11 = .ok (.aload_n 0, 1) := by decide +kernel
theorem dX11_again_12 : decode cX11_again 12 = .ok (.invokevirtual 145, 3) := by decide +kernel
theorem dX11_again_15 : decode cX11_again 15 = .ok (.astore_n 2, 1) := by decide +kernel
theorem dX11_again_16 : decode cX11_again 16 = .ok (.aload_n 2, 1) := by decide +kernel
theorem dX11_again_17 : decode cX11_again 17 = .ok (.iconst 0, 1) := by decide +kernel
theorem dX11_again_18 : decode cX11_again 18 = .ok (.iload_n 1, 1) := by decide +kernel
theorem dX11_again_19 : decode cX11_again 19 = .ok (.getstatic 274, 3) := by decide +kernel
theorem dX11_again_22 : decode cX11_again 22 = .ok (.invokevirtual 243, 3) := by decide +kernel
theorem dX11_again_25 : decode cX11_again 25 = .ok (.aload_n 2, 1) := by decide +kernel
theorem dX11_again_26 : decode cX11_again 26 = .ok (.getfield 247, 3) := by decide +kernel
theorem dX11_again_29 : decode cX11_again 29 = .ok (.iconst 0, 1) := by decide +kernel
theorem dX11_again_30 : decode cX11_again 30 = .ok (.laload, 1) := by decide +kernel
theorem dX11_again_31 : decode cX11_again 31 = .ok (.l2i, 1) := by decide +kernel
theorem dX11_again_32 : decode cX11_again 32 = .ok (.ireturn, 1) := by decide +kernel
theorem dX11_along_0 : decode cX11_along 0 = .ok (.aload_n 0, 1) := by decide +kernel
theorem dX11_along_1 : decode cX11_along 1 = .ok (.invokevirtual 145, 3) := by decide +kernel
theorem dX11_along_4 : decode cX11_along 4 = .ok (.astore 4, 2) := by decide +kernel
theorem dX11_along_6 : decode cX11_along 6 = .ok (.aload 4, 2) := by decide +kernel
theorem dX11_along_8 : decode cX11_along 8 = .ok (.iload_n 1, 1) := by decide +kernel
theorem dX11_along_9 : decode cX11_along 9 = .ok (.invokevirtual 149, 3) := by decide +kernel
theorem dX11_along_12 : decode cX11_along 12 = .ok (.ifCond .eq 21, 3) := by decide +kernel
theorem dX11_along_15 : decode cX11_along 15 = .ok (.iload_n 2, 1) := by decide +kernel
theorem dX11_along_16 : decode cX11_along 16 = .ok (.bipush 10, 2) := by decide +kernel
theorem dX11_along_18 : decode cX11_along 18 = .ok (.invokestatic 235, 3) := by decide +kernel
theorem dX11_along_21 : decode cX11_along 21 = .ok (.ifCond .eq 12, 3) := by decide +kernel
theorem dX11_along_24 : decode cX11_along 24 = .ok (.iload_n 3, 1) := by decide +kernel
theorem dX11_along_25 : decode cX11_along 25 = .ok (.ifCond .lt 8, 3) := by decide +kernel
theorem dX11_along_28 : decode cX11_along 28 = .ok (.iload_n 3, 1) := by decide +kernel
theorem dX11_along_29 : decode cX11_along 29 = .ok (.iconst 1, 1) := by decide +kernel
theorem dX11_along_30 : decode cX11_along 30 = .ok (.if_icmp .le 11, 3) := by decide +kernel
theorem dX11_along_33 : decode cX11_along 33 = .ok (.new 114, 3) := by decide +kernel
theorem dX11_along_36 : decode cX11_along 36 = .ok (.dup, 1) := by decide +kernel
theorem dX11_along_37 : decode cX11_along 37 = .ok (.invokespecial 116, 3) := by decide +kernel
theorem dX11_along_40 : decode cX11_along 40 = .ok (.athrow, 1) := by decide +kernel
theorem dX11_along_41 : decode cX11_along 41 = .ok (.aload 4, 2) := by decide +kernel
theorem dX11_along_43 : decode cX11_along 43 = .ok (.iload_n 1, 1) := by decide +kernel
theorem dX11_along_44 : decode cX11_along 44 = .ok (.iload_n 2, 1) := by decide +kernel
theorem dX11_along_45 : decode cX11_along 45 = .ok (.aload_n 0, 1) := by decide +kernel
theorem dX11_along_46 : decode cX11_along 46 = .ok (.getfield 16, 3) := by decide +kernel
theorem dX11_along_49 : decode cX11_along 49 = .ok (.getfield 240, 3) := by decide +kernel
theorem dX11_along_52 : decode cX11_along 52 = .ok (.invokevirtual 243, 3) := by decide +kernel
theorem dX11_along_55 : decode cX11_along 55 = .ok (.aload 4, 2) := by decide +kernel
theorem dX11_along_57 : decode cX11_along 57 = .ok (.invokevirtual 277, 3) := by decide +kernel
theorem dX11_along_60 : decode cX11_along 60 = .ok (.lstore 5, 2) := by decide +kernel
theorem dX11_along_62 : decode cX11_along 62 = .ok (.lload 5, 2) := by decide +kernel
theorem dX11_along_64 : decode cX11_along 64 = .ok (.lconst 0, 1) := by decide +kernel
theorem dX11_along_65 : decode cX11_along 65 = .ok (.lcmp, 1) := by decide +kernel
theorem dX11_along_66 : decode cX11_along 66 = .ok (.ifCond .gt 11, 3) := by decide +kernel
theorem dX11_along_69 : decode cX11_along 69 = .ok (.new 114, 3) := by decide +kernel
theorem dX11_along_72 : decode cX11_along 72 = .ok (.dup, 1) := by decide +kernel
theorem dX11_along_73 : decode cX11_along 73 = .ok (.invokespecial 116, 3) := by decide +kernel
theorem dX11_along_76 : decode cX11_along 76 = .ok (.athrow, 1) := by decide +kernel
theorem dX11_along_77 : decode cX11_along 77 = .ok (.aload 4, 2) := by decide +kernel
theorem dX11_along_79 : decode cX11_along 79 = .ok (.iload_n 1, 1) := by decide +kernel
theorem dX11_along_80 : decode cX11_along 80 = .ok (.invokevirtual 281, 3) := by decide +kernel
theorem dX11_along_83 : decode cX11_along 83 = .ok (.lstore 7, 2) := by decide +kernel
theorem dX11_along_85 : decode cX11_along 85 = .ok (.lload 7, 2) := by decide +kernel
theorem dX11_along_87 : decode cX11_along 87 = .ok (.lload 5, 2) := by decide +kernel
theorem dX11_along_89 : decode cX11_along 89 = .ok (.invokestatic 285, 3) := by decide +kernel
theorem dX11_along_92 : decode cX11_along 92 = .ok (.lstore 9, 2) := by decide +kernel
theorem dX11_along_94 : decode cX11_along 94 = .ok (.lload 9, 2) := by decide +kernel
theorem dX11_along_96 : decode cX11_along 96 = .ok (.lconst 0, 1) := by decide +kernel
theorem dX11_along_97 : decode cX11_along 97 = .ok (.lcmp, 1) := by decide +kernel
theorem dX11_along_98 : decode cX11_along 98 = .ok (.ifCond .gt 11, 3) := by decide +kernel
theorem dX11_along_101 : decode cX11_along 101 = .ok (.new 114, 3) := by decide +kernel
theorem dX11_along_104 : decode cX11_along 104 = .ok (.dup, 1) := by decide +kernel
theorem dX11_along_105 : decode cX11_along 105 = .ok (.invokespecial 116, 3) := by decide +kernel
theorem dX11_along_108 : decode cX11_along 108 = .ok (.athrow, 1) := by decide +kernel
theorem dX11_along_109 : decode cX11_along 109 = .ok (.iload_n 3, 1) := by decide +kernel
theorem dX11_along_110 : decode cX11_along 110 = .ok (.ifCond .ne 8, 3) := by decide +kernel
theorem dX11_along_113 : decode cX11_along 113 = .ok (.lload 7, 2) := by decide +kernel
theorem dX11_along_115 : decode cX11_along 115 = .ok (.goto 5, 3) := by decide +kernel
theorem dX11_along_118 : decode cX11_along 118 = .ok (.lload 5, 2) := by decide +kernel
theorem dX11_along_120 : decode cX11_along 120 = .ok (.lload 9, 2) := by decide +kernel
theorem dX11_along_122 : decode cX11_along 122 = .ok (.ldiv, 1) := by decide +kernel
theorem dX11_along_123 : decode cX11_along 123 = .ok (.lreturn, 1) := by decide +kernel
theorem dX11_holds_0 : decode cX11_holds 0 = .ok (.aload_n 0, 1) := by decide +kernel
theorem dX11_holds_1 : decode cX11_holds 1 = .ok (.invokevirtual 84, 3) := by decide +kernel
theorem dX11_holds_4 : decode cX11_holds 4 = .ok (.istore_n 2, 1) := by decide +kernel
theorem dX11_holds_5 : decode cX11_holds 5 = .ok (.iload_n 1, 1) := by decide +kernel
theorem dX11_holds_6 : decode cX11_holds 6 = .ok (.bipush 9, 2) := by decide +kernel
theorem dX11_holds_8 : decode cX11_holds 8 = .ok (.invokestatic 235, 3) := by decide +kernel
theorem dX11_holds_11 : decode cX11_holds 11 = .ok (.ifCond .eq 14, 3) := by decide +kernel
theorem dX11_holds_14 : decode cX11_holds 14 = .ok (.iload_n 2, 1) := by decide +kernel
theorem dX11_holds_15 : decode cX11_holds 15 = .ok (.aload_n 0, 1) := by decide +kernel
theorem dX11_holds_16 : decode cX11_holds 16 = .ok (.getfield 16, 3) := by decide +kernel
theorem dX11_holds_19 : decode cX11_holds 19 = .ok (.getfield 132, 3) := by decide +kernel
theorem dX11_holds_22 : decode cX11_holds 22 = .ok (.if_icmp .eq 5, 3) := by decide +kernel
theorem dX11_holds_25 : decode cX11_holds 25 = .ok (.iconst (-1), 1) := by decide +kernel
theorem dX11_holds_26 : decode cX11_holds 26 = .ok (.ireturn, 1) := by decide +kernel
theorem dX11_holds_27 : decode cX11_holds 27 = .ok (.iconst 0, 1) := by decide +kernel
theorem dX11_holds_28 : decode cX11_holds 28 = .ok (.istore_n 3, 1) := by decide +kernel
theorem dX11_holds_29 : decode cX11_holds 29 = .ok (.iload_n 3, 1) := by decide +kernel
theorem dX11_holds_30 : decode cX11_holds 30 = .ok (.iload_n 2, 1) := by decide +kernel
theorem dX11_holds_31 : decode cX11_holds 31 = .ok (.if_icmp .ge 26, 3) := by decide +kernel
theorem dX11_holds_34 : decode cX11_holds 34 = .ok (.iload_n 3, 1) := by decide +kernel
theorem dX11_holds_35 : decode cX11_holds 35 = .ok (.bipush 7, 2) := by decide +kernel
theorem dX11_holds_37 : decode cX11_holds 37 = .ok (.if_icmp .ge 20, 3) := by decide +kernel
theorem dX11_holds_40 : decode cX11_holds 40 = .ok (.aload_n 0, 1) := by decide +kernel
theorem dX11_holds_41 : decode cX11_holds 41 = .ok (.getfield 72, 3) := by decide +kernel
theorem dX11_holds_44 : decode cX11_holds 44 = .ok (.iload_n 3, 1) := by decide +kernel
theorem dX11_holds_45 : decode cX11_holds 45 = .ok (.aload_n 0, 1) := by decide +kernel
theorem dX11_holds_46 : decode cX11_holds 46 = .ok (.iload_n 3, 1) := by decide +kernel
theorem dX11_holds_47 : decode cX11_holds 47 = .ok (.invokevirtual 128, 3) := by decide +kernel
theorem dX11_holds_50 : decode cX11_holds 50 = .ok (.iastore, 1) := by decide +kernel
theorem dX11_holds_51 : decode cX11_holds 51 = .ok (.iinc 3 1, 3) := by decide +kernel
theorem dX11_holds_54 : decode cX11_holds 54 = .ok (.goto (-25), 3) := by decide +kernel
theorem dX11_holds_57 : decode cX11_holds 57 = .ok (.aload_n 0, 1) := by decide +kernel
theorem dX11_holds_58 : decode cX11_holds 58 = .ok (.invokevirtual 145, 3) := by decide +kernel
theorem dX11_holds_61 : decode cX11_holds 61 = .ok (.aload_n 0, 1) := by decide +kernel
theorem dX11_holds_62 : decode cX11_holds 62 = .ok (.getfield 72, 3) := by decide +kernel
theorem dX11_holds_65 : decode cX11_holds 65 = .ok (.iload_n 1, 1) := by decide +kernel
theorem dX11_holds_66 : decode cX11_holds 66 = .ok (.invokevirtual 289, 3) := by decide +kernel
theorem dX11_holds_69 : decode cX11_holds 69 = .ok (.ifCond .eq 7, 3) := by decide +kernel
theorem dX11_holds_72 : decode cX11_holds 72 = .ok (.iconst 1, 1) := by decide +kernel
theorem dX11_holds_73 : decode cX11_holds 73 = .ok (.goto 4, 3) := by decide +kernel
theorem dX11_holds_76 : decode cX11_holds 76 = .ok (.iconst 0, 1) := by decide +kernel
theorem dX11_holds_77 : decode cX11_holds 77 = .ok (.ireturn, 1) := by decide +kernel
theorem dX11_marks_0 : decode cX11_marks 0 = .ok (.iload_n 1, 1) := by decide +kernel
theorem dX11_marks_1 : decode cX11_marks 1 = .ok (.bipush 9, 2) := by decide +kernel
theorem dX11_marks_3 : decode cX11_marks 3 = .ok (.invokestatic 235, 3) := by decide +kernel
theorem dX11_marks_6 : decode cX11_marks 6 = .ok (.ifCond .ne 5, 3) := by decide +kernel
theorem dX11_marks_9 : decode cX11_marks 9 = .ok (.iconst (-1), 1) := by decide +kernel
theorem dX11_marks_10 : decode cX11_marks 10 = .ok (.ireturn, 1) := by decide +kernel
theorem dX11_marks_11 : decode cX11_marks 11 = .ok (.aload_n 0, 1) := by decide +kernel
theorem dX11_marks_12 : decode cX11_marks 12 = .ok (.invokevirtual 145, 3) := by decide +kernel
theorem dX11_marks_15 : decode cX11_marks 15 = .ok (.astore_n 2, 1) := by decide +kernel
theorem dX11_marks_16 : decode cX11_marks 16 = .ok (.iconst 1, 1) := by decide +kernel
theorem dX11_marks_17 : decode cX11_marks 17 = .ok (.istore_n 3, 1) := by decide +kernel
theorem dX11_marks_18 : decode cX11_marks 18 = .ok (.iload_n 3, 1) := by decide +kernel
theorem dX11_marks_19 : decode cX11_marks 19 = .ok (.aload_n 0, 1) := by decide +kernel
theorem dX11_marks_20 : decode cX11_marks 20 = .ok (.getfield 16, 3) := by decide +kernel
theorem dX11_marks_23 : decode cX11_marks 23 = .ok (.getfield 132, 3) := by decide +kernel
theorem dX11_marks_26 : decode cX11_marks 26 = .ok (.if_icmp .gt 62, 3) := by decide +kernel
theorem dX11_marks_29 : decode cX11_marks 29 = .ok (.iconst 0, 1) := by decide +kernel
theorem dX11_marks_30 : decode cX11_marks 30 = .ok (.istore 4, 2) := by decide +kernel
theorem dX11_marks_32 : decode cX11_marks 32 = .ok (.iload 4, 2) := by decide +kernel
theorem dX11_marks_34 : decode cX11_marks 34 = .ok (.aload_n 0, 1) := by decide +kernel
theorem dX11_marks_35 : decode cX11_marks 35 = .ok (.getfield 16, 3) := by decide +kernel
theorem dX11_marks_38 : decode cX11_marks 38 = .ok (.getfield 132, 3) := by decide +kernel
theorem dX11_marks_41 : decode cX11_marks 41 = .ok (.if_icmp .ge 27, 3) := by decide +kernel
theorem dX11_marks_44 : decode cX11_marks 44 = .ok (.iload 4, 2) := by decide +kernel
theorem dX11_marks_46 : decode cX11_marks 46 = .ok (.bipush 7, 2) := by decide +kernel
theorem dX11_marks_48 : decode cX11_marks 48 = .ok (.if_icmp .ge 20, 3) := by decide +kernel
theorem dX11_marks_51 : decode cX11_marks 51 = .ok (.aload_n 0, 1) := by decide +kernel
theorem dX11_marks_52 : decode cX11_marks 52 = .ok (.getfield 72, 3) := by decide +kernel
theorem dX11_marks_55 : decode cX11_marks 55 = .ok (.iload 4, 2) := by decide +kernel
theorem dX11_marks_57 : decode cX11_marks 57 = .ok (.iload 4, 2) := by decide +kernel
theorem dX11_marks_59 : decode cX11_marks 59 = .ok (.iload_n 3, 1) := by decide +kernel
theorem dX11_marks_60 : decode cX11_marks 60 = .ok (.irem, 1) := by decide +kernel
theorem dX11_marks_61 : decode cX11_marks 61 = .ok (.iastore, 1) := by decide +kernel
theorem dX11_marks_62 : decode cX11_marks 62 = .ok (.iinc 4 1, 3) := by decide +kernel
theorem dX11_marks_65 : decode cX11_marks 65 = .ok (.goto (-33), 3) := by decide +kernel
theorem dX11_marks_68 : decode cX11_marks 68 = .ok (.aload_n 2, 1) := by decide +kernel
theorem dX11_marks_69 : decode cX11_marks 69 = .ok (.aload_n 0, 1) := by decide +kernel
theorem dX11_marks_70 : decode cX11_marks 70 = .ok (.getfield 72, 3) := by decide +kernel
theorem dX11_marks_73 : decode cX11_marks 73 = .ok (.iload_n 1, 1) := by decide +kernel
theorem dX11_marks_74 : decode cX11_marks 74 = .ok (.invokevirtual 289, 3) := by decide +kernel
theorem dX11_marks_77 : decode cX11_marks 77 = .ok (.ifCond .eq 5, 3) := by decide +kernel
theorem dX11_marks_80 : decode cX11_marks 80 = .ok (.iload_n 3, 1) := by decide +kernel
theorem dX11_marks_81 : decode cX11_marks 81 = .ok (.ireturn, 1) := by decide +kernel
theorem dX11_marks_82 : decode cX11_marks 82 = .ok (.iinc 3 1, 3) := by decide +kernel
theorem dX11_marks_85 : decode cX11_marks 85 = .ok (.goto (-67), 3) := by decide +kernel
theorem dX11_marks_88 : decode cX11_marks 88 = .ok (.iconst (-1), 1) := by decide +kernel
theorem dX11_marks_89 : decode cX11_marks 89 = .ok (.ireturn, 1) := by decide +kernel
theorem dX11_sense_0 : decode cX11_sense 0 = .ok (.aload_n 0, 1) := by decide +kernel
theorem dX11_sense_1 : decode cX11_sense 1 = .ok (.invokevirtual 145, 3) := by decide +kernel
theorem dX11_sense_4 : decode cX11_sense 4 = .ok (.astore_n 2, 1) := by decide +kernel
theorem dX11_sense_5 : decode cX11_sense 5 = .ok (.iconst 0, 1) := by decide +kernel
theorem dX11_sense_6 : decode cX11_sense 6 = .ok (.istore_n 3, 1) := by decide +kernel
theorem dX11_sense_7 : decode cX11_sense 7 = .ok (.iconst 0, 1) := by decide +kernel
theorem dX11_sense_8 : decode cX11_sense 8 = .ok (.istore 4, 2) := by decide +kernel
theorem dX11_sense_10 : decode cX11_sense 10 = .ok (.iload 4, 2) := by decide +kernel
theorem dX11_sense_12 : decode cX11_sense 12 = .ok (.aload_n 2, 1) := by decide +kernel
theorem dX11_sense_13 : decode cX11_sense 13 = .ok (.getfield 199, 3) := by decide +kernel
theorem dX11_sense_16 : decode cX11_sense 16 = .ok (.if_icmp .ge 41, 3) := by decide +kernel
theorem dX11_sense_19 : decode cX11_sense 19 = .ok (.aload_n 0, 1) := by decide +kernel
theorem dX11_sense_20 : decode cX11_sense 20 = .ok (.getfield 16, 3) := by decide +kernel
theorem dX11_sense_23 : decode cX11_sense 23 = .ok (.aload_n 2, 1) := by decide +kernel
theorem dX11_sense_24 : decode cX11_sense 24 = .ok (.getfield 293, 3) := by decide +kernel
theorem dX11_sense_27 : decode cX11_sense 27 = .ok (.iload 4, 2) := by decide +kernel
theorem dX11_sense_29 : decode cX11_sense 29 = .ok (.iaload, 1) := by decide +kernel
theorem dX11_sense_30 : decode cX11_sense 30 = .ok (.aload_n 2, 1) := by decide +kernel
theorem dX11_sense_31 : decode cX11_sense 31 = .ok (.getfield 296, 3) := by decide +kernel
theorem dX11_sense_34 : decode cX11_sense 34 = .ok (.invokevirtual 299, 3) := by decide +kernel
theorem dX11_sense_37 : decode cX11_sense 37 = .ok (.ifCond .eq 14, 3) := by decide +kernel
theorem dX11_sense_40 : decode cX11_sense 40 = .ok (.iload_n 3, 1) := by decide +kernel
theorem dX11_sense_41 : decode cX11_sense 41 = .ok (.iload_n 1, 1) := by decide +kernel
theorem dX11_sense_42 : decode cX11_sense 42 = .ok (.if_icmp .ne 6, 3) := by decide +kernel
theorem dX11_sense_45 : decode cX11_sense 45 = .ok (.iload 4, 2) := by decide +kernel
theorem dX11_sense_47 : decode cX11_sense 47 = .ok (.ireturn, 1) := by decide +kernel
theorem dX11_sense_48 : decode cX11_sense 48 = .ok (.iinc 3 1, 3) := by decide +kernel
theorem dX11_sense_51 : decode cX11_sense 51 = .ok (.iinc 4 1, 3) := by decide +kernel
theorem dX11_sense_54 : decode cX11_sense 54 = .ok (.goto (-44), 3) := by decide +kernel
theorem dX11_sense_57 : decode cX11_sense 57 = .ok (.iload_n 1, 1) := by decide +kernel
theorem dX11_sense_58 : decode cX11_sense 58 = .ok (.iconst (-1), 1) := by decide +kernel
theorem dX11_sense_59 : decode cX11_sense 59 = .ok (.if_icmp .ne 7, 3) := by decide +kernel
theorem dX11_sense_62 : decode cX11_sense 62 = .ok (.iload_n 3, 1) := by decide +kernel
theorem dX11_sense_63 : decode cX11_sense 63 = .ok (.goto 4, 3) := by decide +kernel
theorem dX11_sense_66 : decode cX11_sense 66 = .ok (.iconst (-1), 1) := by decide +kernel
theorem dX11_sense_67 : decode cX11_sense 67 = .ok (.ireturn, 1) := by decide +kernel
theorem dX11_mended_0 : decode cX11_mended 0 = .ok (.aload_n 0, 1) := by decide +kernel
theorem dX11_mended_1 : decode cX11_mended 1 = .ok (.getfield 16, 3) := by decide +kernel
theorem dX11_mended_4 : decode cX11_mended 4 = .ok (.iload_n 1, 1) := by decide +kernel
theorem dX11_mended_5 : decode cX11_mended 5 = .ok (.invokevirtual 105, 3) := by decide +kernel
theorem dX11_mended_8 : decode cX11_mended 8 = .ok (.astore_n 3, 1) := by decide +kernel
theorem dX11_mended_9 : decode cX11_mended 9 = .ok (.aload_n 3, 1) := by decide +kernel
theorem dX11_mended_10 : decode cX11_mended 10 = .ok (.ifnull 12, 3) := by decide +kernel
theorem dX11_mended_13 : decode cX11_mended 13 = .ok (.iload_n 2, 1) := by decide +kernel
theorem dX11_mended_14 : decode cX11_mended 14 = .ok (.ifCond .lt 8, 3) := by decide +kernel
theorem dX11_mended_17 : decode cX11_mended 17 = .ok (.iload_n 2, 1) := by decide +kernel
theorem dX11_mended_18 : decode cX11_mended 18 = .ok (.iconst 1, 1) := by decide +kernel
theorem dX11_mended_19 : decode cX11_mended 19 = .ok (.if_icmp .le 5, 3) := by decide +kernel
theorem dX11_mended_22 : decode cX11_mended 22 = .ok (.iconst (-1), 1) := by decide +kernel
theorem dX11_mended_23 : decode cX11_mended 23 = .ok (.ireturn, 1) := by decide +kernel
theorem dX11_mended_24 : decode cX11_mended 24 = .ok (.aload_n 0, 1) := by decide +kernel
theorem dX11_mended_25 : decode cX11_mended 25 = .ok (.invokevirtual 145, 3) := by decide +kernel
theorem dX11_mended_28 : decode cX11_mended 28 = .ok (.astore 4, 2) := by decide +kernel
theorem dX11_mended_30 : decode cX11_mended 30 = .ok (.ldc_w 302, 3) := by decide +kernel
theorem dX11_mended_33 : decode cX11_mended 33 = .ok (.istore 5, 2) := by decide +kernel
theorem dX11_mended_35 : decode cX11_mended 35 = .ok (.iconst (-1), 1) := by decide +kernel
theorem dX11_mended_36 : decode cX11_mended 36 = .ok (.istore 6, 2) := by decide +kernel
theorem dX11_mended_38 : decode cX11_mended 38 = .ok (.iconst 0, 1) := by decide +kernel
theorem dX11_mended_39 : decode cX11_mended 39 = .ok (.istore 7, 2) := by decide +kernel
theorem dX11_mended_41 : decode cX11_mended 41 = .ok (.iload 7, 2) := by decide +kernel
theorem dX11_mended_43 : decode cX11_mended 43 = .ok (.aload 4, 2) := by decide +kernel
theorem dX11_mended_45 : decode cX11_mended 45 = .ok (.getfield 199, 3) := by decide +kernel
theorem dX11_mended_48 : decode cX11_mended 48 = .ok (.if_icmp .ge 57, 3) := by decide +kernel
theorem dX11_mended_51 : decode cX11_mended 51 = .ok (.aload 4, 2) := by decide +kernel
theorem dX11_mended_53 : decode cX11_mended 53 = .ok (.iload 7, 2) := by decide +kernel
theorem dX11_mended_55 : decode cX11_mended 55 = .ok (.aload_n 3, 1) := by decide +kernel
theorem dX11_mended_56 : decode cX11_mended 56 = .ok (.invokevirtual 303, 3) := by decide +kernel
theorem dX11_mended_59 : decode cX11_mended 59 = .ok (.istore 8, 2) := by decide +kernel
theorem dX11_mended_61 : decode cX11_mended 61 = .ok (.iload 8, 2) := by decide +kernel
theorem dX11_mended_63 : decode cX11_mended 63 = .ok (.iload 5, 2) := by decide +kernel
theorem dX11_mended_65 : decode cX11_mended 65 = .ok (.if_icmp .ge 34, 3) := by decide +kernel
theorem dX11_mended_68 : decode cX11_mended 68 = .ok (.aload_n 0, 1) := by decide +kernel
theorem dX11_mended_69 : decode cX11_mended 69 = .ok (.getfield 16, 3) := by decide +kernel
theorem dX11_mended_72 : decode cX11_mended 72 = .ok (.aload 4, 2) := by decide +kernel
theorem dX11_mended_74 : decode cX11_mended 74 = .ok (.getfield 293, 3) := by decide +kernel
theorem dX11_mended_77 : decode cX11_mended 77 = .ok (.iload 7, 2) := by decide +kernel
theorem dX11_mended_79 : decode cX11_mended 79 = .ok (.iaload, 1) := by decide +kernel
theorem dX11_mended_80 : decode cX11_mended 80 = .ok (.aload 4, 2) := by decide +kernel
theorem dX11_mended_82 : decode cX11_mended 82 = .ok (.getfield 296, 3) := by decide +kernel
theorem dX11_mended_85 : decode cX11_mended 85 = .ok (.invokevirtual 299, 3) := by decide +kernel
theorem dX11_mended_88 : decode cX11_mended 88 = .ok (.ifCond .eq 11, 3) := by decide +kernel
theorem dX11_mended_91 : decode cX11_mended 91 = .ok (.iload 8, 2) := by decide +kernel
theorem dX11_mended_93 : decode cX11_mended 93 = .ok (.istore 5, 2) := by decide +kernel
theorem dX11_mended_95 : decode cX11_mended 95 = .ok (.iload 7, 2) := by decide +kernel
theorem dX11_mended_97 : decode cX11_mended 97 = .ok (.istore 6, 2) := by decide +kernel
theorem dX11_mended_99 : decode cX11_mended 99 = .ok (.iinc 7 1, 3) := by decide +kernel
theorem dX11_mended_102 : decode cX11_mended 102 = .ok (.goto (-61), 3) := by decide +kernel
theorem dX11_mended_105 : decode cX11_mended 105 = .ok (.iload 6, 2) := by decide +kernel
theorem dX11_mended_107 : decode cX11_mended 107 = .ok (.iconst (-1), 1) := by decide +kernel
theorem dX11_mended_108 : decode cX11_mended 108 = .ok (.if_icmp .eq 7, 3) := by decide +kernel
theorem dX11_mended_111 : decode cX11_mended 111 = .ok (.iload_n 2, 1) := by decide +kernel
theorem dX11_mended_112 : decode cX11_mended 112 = .ok (.ifCond .ne 8, 3) := by decide +kernel
theorem dX11_mended_115 : decode cX11_mended 115 = .ok (.iload 6, 2) := by decide +kernel
theorem dX11_mended_117 : decode cX11_mended 117 = .ok (.goto 5, 3) := by decide +kernel
theorem dX11_mended_120 : decode cX11_mended 120 = .ok (.iload 5, 2) := by decide +kernel
theorem dX11_mended_122 : decode cX11_mended 122 = .ok (.ireturn, 1) := by decide +kernel
theorem dX11_song_0 : decode cX11_song 0 = .ok (.aload_n 0, 1) := by decide +kernel
theorem dX11_song_1 : decode cX11_song 1 = .ok (.invokevirtual 145, 3) := by decide +kernel
theorem dX11_song_4 : decode cX11_song 4 = .ok (.astore_n 2, 1) := by decide +kernel
theorem dX11_song_5 : decode cX11_song 5 = .ok (.aload_n 2, 1) := by decide +kernel
theorem dX11_song_6 : decode cX11_song 6 = .ok (.iload_n 1, 1) := by decide +kernel
theorem dX11_song_7 : decode cX11_song 7 = .ok (.invokevirtual 149, 3) := by decide +kernel
theorem dX11_song_10 : decode cX11_song 10 = .ok (.ifCond .eq 23, 3) := by decide +kernel
theorem dX11_song_13 : decode cX11_song 13 = .ok (.aload_n 0, 1) := by decide +kernel
theorem dX11_song_14 : decode cX11_song 14 = .ok (.getfield 16, 3) := by decide +kernel
theorem dX11_song_17 : decode cX11_song 17 = .ok (.aload_n 2, 1) := by decide +kernel
theorem dX11_song_18 : decode cX11_song 18 = .ok (.getfield 153, 3) := by decide +kernel
theorem dX11_song_21 : decode cX11_song 21 = .ok (.iload_n 1, 1) := by decide +kernel
theorem dX11_song_22 : decode cX11_song 22 = .ok (.iaload, 1) := by decide +kernel
theorem dX11_song_23 : decode cX11_song 23 = .ok (.aload_n 2, 1) := by decide +kernel
theorem dX11_song_24 : decode cX11_song 24 = .ok (.getfield 152, 3) := by decide +kernel
theorem dX11_song_27 : decode cX11_song 27 = .ok (.invokevirtual 306, 3) := by decide +kernel
theorem dX11_song_30 : decode cX11_song 30 = .ok (.goto 4, 3) := by decide +kernel
theorem dX11_song_33 : decode cX11_song 33 = .ok (.iconst (-1), 1) := by decide +kernel
theorem dX11_song_34 : decode cX11_song 34 = .ok (.ireturn, 1) := by decide +kernel
theorem dX11_better_0 : decode cX11_better 0 = .ok (.aload_n 0, 1) := by decide +kernel
theorem dX11_better_1 : decode cX11_better 1 = .ok (.getfield 16, 3) := by decide +kernel
theorem dX11_better_4 : decode cX11_better 4 = .ok (.iload_n 1, 1) := by decide +kernel
theorem dX11_better_5 : decode cX11_better 5 = .ok (.invokevirtual 178, 3) := by decide +kernel
theorem dX11_better_8 : decode cX11_better 8 = .ok (.astore_n 3, 1) := by decide +kernel
theorem dX11_better_9 : decode cX11_better 9 = .ok (.aload_n 3, 1) := by decide +kernel
theorem dX11_better_10 : decode cX11_better 10 = .ok (.ifnull 12, 3) := by decide +kernel
theorem dX11_better_13 : decode cX11_better 13 = .ok (.iload_n 2, 1) := by decide +kernel
theorem dX11_better_14 : decode cX11_better 14 = .ok (.bipush 21, 2) := by decide +kernel
theorem dX11_better_16 : decode cX11_better 16 = .ok (.invokestatic 235, 3) := by decide +kernel
theorem dX11_better_19 : decode cX11_better 19 = .ok (.ifCond .ne 5, 3) := by decide +kernel
theorem dX11_better_22 : decode cX11_better 22 = .ok (.iconst (-1), 1) := by decide +kernel
theorem dX11_better_23 : decode cX11_better 23 = .ok (.ireturn, 1) := by decide +kernel
theorem dX11_better_24 : decode cX11_better 24 = .ok (.aload_n 0, 1) := by decide +kernel
theorem dX11_better_25 : decode cX11_better 25 = .ok (.invokevirtual 145, 3) := by decide +kernel
theorem dX11_better_28 : decode cX11_better 28 = .ok (.astore 4, 2) := by decide +kernel
theorem dX11_better_30 : decode cX11_better 30 = .ok (.iconst (-1), 1) := by decide +kernel
theorem dX11_better_31 : decode cX11_better 31 = .ok (.istore 5, 2) := by decide +kernel
theorem dX11_better_33 : decode cX11_better 33 = .ok (.iconst 0, 1) := by decide +kernel
theorem dX11_better_34 : decode cX11_better 34 = .ok (.istore 6, 2) := by decide +kernel
theorem dX11_better_36 : decode cX11_better 36 = .ok (.iconst (-1), 1) := by decide +kernel
theorem dX11_better_37 : decode cX11_better 37 = .ok (.istore 7, 2) := by decide +kernel
theorem dX11_better_39 : decode cX11_better 39 = .ok (.iconst 0, 1) := by decide +kernel
theorem dX11_better_40 : decode cX11_better 40 = .ok (.istore 8, 2) := by decide +kernel
theorem dX11_better_42 : decode cX11_better 42 = .ok (.iload 8, 2) := by decide +kernel
theorem dX11_better_44 : decode cX11_better 44 = .ok (.aload 4, 2) := by decide +kernel
theorem dX11_better_46 : decode cX11_better 46 = .ok (.getfield 199, 3) := by decide +kernel
theorem dX11_better_49 : decode cX11_better 49 = .ok (.if_icmp .ge 80, 3) := by decide +kernel
theorem dX11_better_52 : decode cX11_better 52 = .ok (.aload 4, 2) := by decide +kernel
theorem dX11_better_54 : decode cX11_better 54 = .ok (.iload 8, 2) := by decide +kernel
theorem dX11_better_56 : decode cX11_better 56 = .ok (.aload_n 3, 1) := by decide +kernel
theorem dX11_better_57 : decode cX11_better 57 = .ok (.invokevirtual 309, 3) := by decide +kernel
theorem dX11_better_60 : decode cX11_better 60 = .ok (.istore 9, 2) := by decide +kernel
theorem dX11_better_62 : decode cX11_better 62 = .ok (.iload 9, 2) := by decide +kernel
theorem dX11_better_64 : decode cX11_better 64 = .ok (.iload_n 2, 1) := by decide +kernel
theorem dX11_better_65 : decode cX11_better 65 = .ok (.if_icmp .gt 58, 3) := by decide +kernel
theorem dX11_better_68 : decode cX11_better 68 = .ok (.aload_n 0, 1) := by decide +kernel
theorem dX11_better_69 : decode cX11_better 69 = .ok (.getfield 16, 3) := by decide +kernel
theorem dX11_better_72 : decode cX11_better 72 = .ok (.aload 4, 2) := by decide +kernel
theorem dX11_better_74 : decode cX11_better 74 = .ok (.getfield 153, 3) := by decide +kernel
theorem dX11_better_77 : decode cX11_better 77 = .ok (.iload 8, 2) := by decide +kernel
theorem dX11_better_79 : decode cX11_better 79 = .ok (.iaload, 1) := by decide +kernel
theorem dX11_better_80 : decode cX11_better 80 = .ok (.aload 4, 2) := by decide +kernel
theorem dX11_better_82 : decode cX11_better 82 = .ok (.getfield 152, 3) := by decide +kernel
theorem dX11_better_85 : decode cX11_better 85 = .ok (.invokevirtual 306, 3) := by decide +kernel
theorem dX11_better_88 : decode cX11_better 88 = .ok (.istore 10, 2) := by decide +kernel
theorem dX11_better_90 : decode cX11_better 90 = .ok (.iload 10, 2) := by decide +kernel
theorem dX11_better_92 : decode cX11_better 92 = .ok (.iload 5, 2) := by decide +kernel
theorem dX11_better_94 : decode cX11_better 94 = .ok (.if_icmp .gt 17, 3) := by decide +kernel
theorem dX11_better_97 : decode cX11_better 97 = .ok (.iload 10, 2) := by decide +kernel
theorem dX11_better_99 : decode cX11_better 99 = .ok (.iload 5, 2) := by decide +kernel
theorem dX11_better_101 : decode cX11_better 101 = .ok (.if_icmp .ne 22, 3) := by decide +kernel
theorem dX11_better_104 : decode cX11_better 104 = .ok (.iload 9, 2) := by decide +kernel
theorem dX11_better_106 : decode cX11_better 106 = .ok (.iload 6, 2) := by decide +kernel
theorem dX11_better_108 : decode cX11_better 108 = .ok (.if_icmp .ge 15, 3) := by decide +kernel
theorem dX11_better_111 : decode cX11_better 111 = .ok (.iload 10, 2) := by decide +kernel
theorem dX11_better_113 : decode cX11_better 113 = .ok (.istore 5, 2) := by decide +kernel
theorem dX11_better_115 : decode cX11_better 115 = .ok (.iload 9, 2) := by decide +kernel
theorem dX11_better_117 : decode cX11_better 117 = .ok (.istore 6, 2) := by decide +kernel
theorem dX11_better_119 : decode cX11_better 119 = .ok (.iload 8, 2) := by decide +kernel
theorem dX11_better_121 : decode cX11_better 121 = .ok (.istore 7, 2) := by decide +kernel
theorem dX11_better_123 : decode cX11_better 123 = .ok (.iinc 8 1, 3) := by decide +kernel
theorem dX11_better_126 : decode cX11_better 126 = .ok (.goto (-84), 3) := by decide +kernel
theorem dX11_better_129 : decode cX11_better 129 = .ok (.iload 7, 2) := by decide +kernel
theorem dX11_better_131 : decode cX11_better 131 = .ok (.ireturn, 1) := by decide +kernel
theorem dX11_join_0 : decode cX11_join 0 = .ok (.aload_n 0, 1) := by decide +kernel
theorem dX11_join_1 : decode cX11_join 1 = .ok (.getfield 16, 3) := by decide +kernel
theorem dX11_join_4 : decode cX11_join 4 = .ok (.iload_n 1, 1) := by decide +kernel
theorem dX11_join_5 : decode cX11_join 5 = .ok (.invokevirtual 105, 3) := by decide +kernel
theorem dX11_join_8 : decode cX11_join 8 = .ok (.astore 4, 2) := by decide +kernel
theorem dX11_join_10 : decode cX11_join 10 = .ok (.aload_n 0, 1) := by decide +kernel
theorem dX11_join_11 : decode cX11_join 11 = .ok (.getfield 16, 3) := by decide +kernel
theorem dX11_join_14 : decode cX11_join 14 = .ok (.iload_n 2, 1) := by decide +kernel
theorem dX11_join_15 : decode cX11_join 15 = .ok (.invokevirtual 105, 3) := by decide +kernel
theorem dX11_join_18 : decode cX11_join 18 = .ok (.astore 5, 2) := by decide +kernel
theorem dX11_join_20 : decode cX11_join 20 = .ok (.aload 4, 2) := by decide +kernel
theorem dX11_join_22 : decode cX11_join 22 = .ok (.ifnull 17, 3) := by decide +kernel
theorem dX11_join_25 : decode cX11_join 25 = .ok (.aload 5, 2) := by decide +kernel
theorem dX11_join_27 : decode cX11_join 27 = .ok (.ifnull 12, 3) := by decide +kernel
theorem dX11_join_30 : decode cX11_join 30 = .ok (.iload_n 3, 1) := by decide +kernel
theorem dX11_join_31 : decode cX11_join 31 = .ok (.ifCond .lt 8, 3) := by decide +kernel
theorem dX11_join_34 : decode cX11_join 34 = .ok (.iload_n 3, 1) := by decide +kernel
theorem dX11_join_35 : decode cX11_join 35 = .ok (.iconst 1, 1) := by decide +kernel
theorem dX11_join_36 : decode cX11_join 36 = .ok (.if_icmp .le 5, 3) := by decide +kernel
theorem dX11_join_39 : decode cX11_join 39 = .ok (.iconst (-1), 1) := by decide +kernel
theorem dX11_join_40 : decode cX11_join 40 = .ok (.ireturn, 1) := by decide +kernel
theorem dX11_join_41 : decode cX11_join 41 = .ok (.aload_n 0, 1) := by decide +kernel
theorem dX11_join_42 : decode cX11_join 42 = .ok (.invokevirtual 145, 3) := by decide +kernel
theorem dX11_join_45 : decode cX11_join 45 = .ok (.astore 6, 2) := by decide +kernel
theorem dX11_join_47 : decode cX11_join 47 = .ok (.ldc_w 302, 3) := by decide +kernel
theorem dX11_join_50 : decode cX11_join 50 = .ok (.istore 7, 2) := by decide +kernel
theorem dX11_join_52 : decode cX11_join 52 = .ok (.iconst (-1), 1) := by decide +kernel
theorem dX11_join_53 : decode cX11_join 53 = .ok (.istore 8, 2) := by decide +kernel
theorem dX11_join_55 : decode cX11_join 55 = .ok (.iconst 0, 1) := by decide +kernel
theorem dX11_join_56 : decode cX11_join 56 = .ok (.istore 9, 2) := by decide +kernel
theorem dX11_join_58 : decode cX11_join 58 = .ok (.iload 9, 2) := by decide +kernel
theorem dX11_join_60 : decode cX11_join 60 = .ok (.aload 6, 2) := by decide +kernel
theorem dX11_join_62 : decode cX11_join 62 = .ok (.getfield 199, 3) := by decide +kernel
theorem dX11_join_65 : decode cX11_join 65 = .ok (.if_icmp .ge 45, 3) := by decide +kernel
theorem dX11_join_68 : decode cX11_join 68 = .ok (.aload 6, 2) := by decide +kernel
theorem dX11_join_70 : decode cX11_join 70 = .ok (.iload 9, 2) := by decide +kernel
theorem dX11_join_72 : decode cX11_join 72 = .ok (.aload 4, 2) := by decide +kernel
theorem dX11_join_74 : decode cX11_join 74 = .ok (.invokevirtual 309, 3) := by decide +kernel
theorem dX11_join_77 : decode cX11_join 77 = .ok (.aload 6, 2) := by decide +kernel
theorem dX11_join_79 : decode cX11_join 79 = .ok (.iload 9, 2) := by decide +kernel
theorem dX11_join_81 : decode cX11_join 81 = .ok (.aload 5, 2) := by decide +kernel
theorem dX11_join_83 : decode cX11_join 83 = .ok (.invokevirtual 309, 3) := by decide +kernel
theorem dX11_join_86 : decode cX11_join 86 = .ok (.iadd, 1) := by decide +kernel
theorem dX11_join_87 : decode cX11_join 87 = .ok (.istore 10, 2) := by decide +kernel
theorem dX11_join_89 : decode cX11_join 89 = .ok (.iload 10, 2) := by decide +kernel
theorem dX11_join_91 : decode cX11_join 91 = .ok (.iload 7, 2) := by decide +kernel
theorem dX11_join_93 : decode cX11_join 93 = .ok (.if_icmp .ge 11, 3) := by decide +kernel
theorem dX11_join_96 : decode cX11_join 96 = .ok (.iload 10, 2) := by decide +kernel
theorem dX11_join_98 : decode cX11_join 98 = .ok (.istore 7, 2) := by decide +kernel
theorem dX11_join_100 : decode cX11_join 100 = .ok (.iload 9, 2) := by decide +kernel
theorem dX11_join_102 : decode cX11_join 102 = .ok (.istore 8, 2) := by decide +kernel
theorem dX11_join_104 : decode cX11_join 104 = .ok (.iinc 9 1, 3) := by decide +kernel
theorem dX11_join_107 : decode cX11_join 107 = .ok (.goto (-49), 3) := by decide +kernel
theorem dX11_join_110 : decode cX11_join 110 = .ok (.iload_n 3, 1) := by decide +kernel
theorem dX11_join_111 : decode cX11_join 111 = .ok (.ifCond .ne 8, 3) := by decide +kernel
theorem dX11_join_114 : decode cX11_join 114 = .ok (.iload 8, 2) := by decide +kernel
theorem dX11_join_116 : decode cX11_join 116 = .ok (.goto 5, 3) := by decide +kernel
theorem dX11_join_119 : decode cX11_join 119 = .ok (.iload 7, 2) := by decide +kernel
theorem dX11_join_121 : decode cX11_join 121 = .ok (.ireturn, 1) := by decide +kernel
theorem dX11_woven_0 : decode cX11_woven 0 = .ok (.aload_n 0, 1) := by decide +kernel
theorem dX11_woven_1 : decode cX11_woven 1 = .ok (.getfield 16, 3) := by decide +kernel
theorem dX11_woven_4 : decode cX11_woven 4 = .ok (.iload_n 1, 1) := by decide +kernel
theorem dX11_woven_5 : decode cX11_woven 5 = .ok (.invokevirtual 105, 3) := by decide +kernel
theorem dX11_woven_8 : decode cX11_woven 8 = .ok (.astore 4, 2) := by decide +kernel
theorem dX11_woven_10 : decode cX11_woven 10 = .ok (.aload_n 0, 1) := by decide +kernel
theorem dX11_woven_11 : decode cX11_woven 11 = .ok (.getfield 16, 3) := by decide +kernel
theorem dX11_woven_14 : decode cX11_woven 14 = .ok (.iload_n 2, 1) := by decide +kernel
theorem dX11_woven_15 : decode cX11_woven 15 = .ok (.invokevirtual 105, 3) := by decide +kernel
theorem dX11_woven_18 : decode cX11_woven 18 = .ok (.astore 5, 2) := by decide +kernel
theorem dX11_woven_20 : decode cX11_woven 20 = .ok (.aload_n 0, 1) := by decide +kernel
theorem dX11_woven_21 : decode cX11_woven 21 = .ok (.getfield 16, 3) := by decide +kernel
theorem dX11_woven_24 : decode cX11_woven 24 = .ok (.iload_n 3, 1) := by decide +kernel
theorem dX11_woven_25 : decode cX11_woven 25 = .ok (.invokevirtual 105, 3) := by decide +kernel
theorem dX11_woven_28 : decode cX11_woven 28 = .ok (.astore 6, 2) := by decide +kernel
theorem dX11_woven_30 : decode cX11_woven 30 = .ok (.aload 4, 2) := by decide +kernel
theorem dX11_woven_32 : decode cX11_woven 32 = .ok (.ifnull 13, 3) := by decide +kernel
theorem dX11_woven_35 : decode cX11_woven 35 = .ok (.aload 5, 2) := by decide +kernel
theorem dX11_woven_37 : decode cX11_woven 37 = .ok (.ifnull 8, 3) := by decide +kernel
theorem dX11_woven_40 : decode cX11_woven 40 = .ok (.aload 6, 2) := by decide +kernel
theorem dX11_woven_42 : decode cX11_woven 42 = .ok (.ifnonnull 6, 3) := by decide +kernel
theorem dX11_woven_45 : decode cX11_woven 45 = .ok (.bipush (-2), 2) := by decide +kernel
theorem dX11_woven_47 : decode cX11_woven 47 = .ok (.ireturn, 1) := by decide +kernel
theorem dX11_woven_48 : decode cX11_woven 48 = .ok (.iconst 0, 1) := by decide +kernel
theorem dX11_woven_49 : decode cX11_woven 49 = .ok (.istore 7, 2) := by decide +kernel
theorem dX11_woven_51 : decode cX11_woven 51 = .ok (.iconst 0, 1) := by decide +kernel
theorem dX11_woven_52 : decode cX11_woven 52 = .ok (.istore 8, 2) := by decide +kernel
theorem dX11_woven_54 : decode cX11_woven 54 = .ok (.iconst 0, 1) := by decide +kernel
theorem dX11_woven_55 : decode cX11_woven 55 = .ok (.istore 9, 2) := by decide +kernel
theorem dX11_woven_57 : decode cX11_woven 57 = .ok (.iload 9, 2) := by decide +kernel
theorem dX11_woven_59 : decode cX11_woven 59 = .ok (.bipush 7, 2) := by decide +kernel
theorem dX11_woven_61 : decode cX11_woven 61 = .ok (.if_icmp .ge 58, 3) := by decide +kernel
theorem dX11_woven_64 : decode cX11_woven 64 = .ok (.iload 8, 2) := by decide +kernel
theorem dX11_woven_66 : decode cX11_woven 66 = .ok (.aload 6, 2) := by decide +kernel
theorem dX11_woven_68 : decode cX11_woven 68 = .ok (.getfield 109, 3) := by decide +kernel
theorem dX11_woven_71 : decode cX11_woven 71 = .ok (.if_icmp .ge 48, 3) := by decide +kernel
theorem dX11_woven_74 : decode cX11_woven 74 = .ok (.aload 4, 2) := by decide +kernel
theorem dX11_woven_76 : decode cX11_woven 76 = .ok (.aload 6, 2) := by decide +kernel
theorem dX11_woven_78 : decode cX11_woven 78 = .ok (.iload 8, 2) := by decide +kernel
theorem dX11_woven_80 : decode cX11_woven 80 = .ok (.invokevirtual 311, 3) := by decide +kernel
theorem dX11_woven_83 : decode cX11_woven 83 = .ok (.aload 5, 2) := by decide +kernel
theorem dX11_woven_85 : decode cX11_woven 85 = .ok (.aload 6, 2) := by decide +kernel
theorem dX11_woven_87 : decode cX11_woven 87 = .ok (.iload 8, 2) := by decide +kernel
theorem dX11_woven_89 : decode cX11_woven 89 = .ok (.invokevirtual 311, 3) := by decide +kernel
theorem dX11_woven_92 : decode cX11_woven 92 = .ok (.invokestatic 315, 3) := by decide +kernel
theorem dX11_woven_95 : decode cX11_woven 95 = .ok (.istore 10, 2) := by decide +kernel
theorem dX11_woven_97 : decode cX11_woven 97 = .ok (.iload 10, 2) := by decide +kernel
theorem dX11_woven_99 : decode cX11_woven 99 = .ok (.iload 8, 2) := by decide +kernel
theorem dX11_woven_101 : decode cX11_woven 101 = .ok (.if_icmp .gt 5, 3) := by decide +kernel
theorem dX11_woven_104 : decode cX11_woven 104 = .ok (.iconst (-1), 1) := by decide +kernel
theorem dX11_woven_105 : decode cX11_woven 105 = .ok (.ireturn, 1) := by decide +kernel
theorem dX11_woven_106 : decode cX11_woven 106 = .ok (.iload 10, 2) := by decide +kernel
theorem dX11_woven_108 : decode cX11_woven 108 = .ok (.istore 8, 2) := by decide +kernel
theorem dX11_woven_110 : decode cX11_woven 110 = .ok (.iinc 7 1, 3) := by decide +kernel
theorem dX11_woven_113 : decode cX11_woven 113 = .ok (.iinc 9 1, 3) := by decide +kernel
theorem dX11_woven_116 : decode cX11_woven 116 = .ok (.goto (-59), 3) := by decide +kernel
theorem dX11_woven_119 : decode cX11_woven 119 = .ok (.iload 7, 2) := by decide +kernel
theorem dX11_woven_121 : decode cX11_woven 121 = .ok (.ireturn, 1) := by decide +kernel
theorem dX11_sentence_0 : decode cX11_sentence 0 = .ok (.aload_n 0, 1) := by decide +kernel
theorem dX11_sentence_1 : decode cX11_sentence 1 = .ok (.getfield 45, 3) := by decide +kernel
theorem dX11_sentence_4 : decode cX11_sentence 4 = .ok (.aload_n 0, 1) := by decide +kernel
theorem dX11_sentence_5 : decode cX11_sentence 5 = .ok (.invokevirtual 84, 3) := by decide +kernel
theorem dX11_sentence_8 : decode cX11_sentence 8 = .ok (.sipush 200, 3) := by decide +kernel
theorem dX11_sentence_11 : decode cX11_sentence 11 = .ok (.invokevirtual 88, 3) := by decide +kernel
theorem dX11_sentence_14 : decode cX11_sentence 14 = .ok (.aload_n 0, 1) := by decide +kernel
theorem dX11_sentence_15 : decode cX11_sentence 15 = .ok (.getfield 61, 3) := by decide +kernel
theorem dX11_sentence_18 : decode cX11_sentence 18 = .ok (.aload_n 0, 1) := by decide +kernel
theorem dX11_sentence_19 : decode cX11_sentence 19 = .ok (.getfield 26, 3) := by decide +kernel
theorem dX11_sentence_22 : decode cX11_sentence 22 = .ok (.aload_n 0, 1) := by decide +kernel
theorem dX11_sentence_23 : decode cX11_sentence 23 = .ok (.getfield 16, 3) := by decide +kernel
theorem dX11_sentence_26 : decode cX11_sentence 26 = .ok (.invokevirtual 318, 3) := by decide +kernel
theorem dX11_sentence_29 : decode cX11_sentence 29 = .ok (.istore_n 1, 1) := by decide +kernel
theorem dX11_sentence_30 : decode cX11_sentence 30 = .ok (.aload_n 0, 1) := by decide +kernel
theorem dX11_sentence_31 : decode cX11_sentence 31 = .ok (.aload_n 0, 1) := by decide +kernel
theorem dX11_sentence_32 : decode cX11_sentence 32 = .ok (.getfield 45, 3) := by decide +kernel
theorem dX11_sentence_35 : decode cX11_sentence 35 = .ok (.getfield 96, 3) := by decide +kernel
theorem dX11_sentence_38 : decode cX11_sentence 38 = .ok (.putfield 99, 3) := by decide +kernel
theorem dX11_sentence_41 : decode cX11_sentence 41 = .ok (.aload_n 0, 1) := by decide +kernel
theorem dX11_sentence_42 : decode cX11_sentence 42 = .ok (.getfield 99, 3) := by decide +kernel
theorem dX11_sentence_45 : decode cX11_sentence 45 = .ok (.ifCond .eq 13, 3) := by decide +kernel
theorem dX11_sentence_48 : decode cX11_sentence 48 = .ok (.iconst (-1), 1) := by decide +kernel
theorem dX11_sentence_49 : decode cX11_sentence 49 = .ok (.aload_n 0, 1) := by decide +kernel
theorem dX11_sentence_50 : decode cX11_sentence 50 = .ok (.getfield 45, 3) := by decide +kernel
theorem dX11_sentence_53 : decode cX11_sentence 53 = .ok (.getfield 102, 3) := by decide +kernel
theorem dX11_sentence_56 : decode cX11_sentence 56 = .ok (.isub, 1) := by decide +kernel
theorem dX11_sentence_57 : decode cX11_sentence 57 = .ok (.ireturn, 1) := by decide +kernel
theorem dX11_sentence_58 : decode cX11_sentence 58 = .ok (.aload_n 0, 1) := by decide +kernel
theorem dX11_sentence_59 : decode cX11_sentence 59 = .ok (.getfield 16, 3) := by decide +kernel
theorem dX11_sentence_62 : decode cX11_sentence 62 = .ok (.getfield 321, 3) := by decide +kernel
theorem dX11_sentence_65 : decode cX11_sentence 65 = .ok (.astore_n 2, 1) := by decide +kernel
theorem dX11_sentence_66 : decode cX11_sentence 66 = .ok (.aload_n 0, 1) := by decide +kernel
theorem dX11_sentence_67 : decode cX11_sentence 67 = .ok (.getfield 16, 3) := by decide +kernel
theorem dX11_sentence_70 : decode cX11_sentence 70 = .ok (.aload_n 0, 1) := by decide +kernel
theorem dX11_sentence_71 : decode cX11_sentence 71 = .ok (.getfield 26, 3) := by decide +kernel
theorem dX11_sentence_74 : decode cX11_sentence 74 = .ok (.putfield 321, 3) := by decide +kernel
theorem dX11_sentence_77 : decode cX11_sentence 77 = .ok (.aload_n 0, 1) := by decide +kernel
theorem dX11_sentence_78 : decode cX11_sentence 78 = .ok (.aload_n 2, 1) := by decide +kernel
theorem dX11_sentence_79 : decode cX11_sentence 79 = .ok (.putfield 26, 3) := by decide +kernel
theorem dX11_sentence_82 : decode cX11_sentence 82 = .ok (.iload_n 1, 1) := by decide +kernel
theorem dX11_sentence_83 : decode cX11_sentence 83 = .ok (.ireturn, 1) := by decide +kernel
theorem dX11_said_0 : decode cX11_said 0 = .ok (.aload_n 0, 1) := by decide +kernel
theorem dX11_said_1 : decode cX11_said 1 = .ok (.getfield 16, 3) := by decide +kernel
theorem dX11_said_4 : decode cX11_said 4 = .ok (.getfield 321, 3) := by decide +kernel
theorem dX11_said_7 : decode cX11_said 7 = .ok (.getfield 324, 3) := by decide +kernel
theorem dX11_said_10 : decode cX11_said 10 = .ok (.ifCond .ne 5, 3) := by decide +kernel
theorem dX11_said_13 : decode cX11_said 13 = .ok (.iconst (-1), 1) := by decide +kernel
theorem dX11_said_14 : decode cX11_said 14 = .ok (.ireturn, 1) := by decide +kernel
theorem dX11_said_15 : decode cX11_said 15 = .ok (.iconst 0, 1) := by decide +kernel
theorem dX11_said_16 : decode cX11_said 16 = .ok (.istore_n 1, 1) := by decide +kernel
theorem dX11_said_17 : decode cX11_said 17 = .ok (.iconst 0, 1) := by decide +kernel
theorem dX11_said_18 : decode cX11_said 18 = .ok (.istore_n 2, 1) := by decide +kernel
theorem dX11_said_19 : decode cX11_said 19 = .ok (.iload_n 2, 1) := by decide +kernel
theorem dX11_said_20 : decode cX11_said 20 = .ok (.aload_n 0, 1) := by decide +kernel
theorem dX11_said_21 : decode cX11_said 21 = .ok (.getfield 16, 3) := by decide +kernel
theorem dX11_said_24 : decode cX11_said 24 = .ok (.getfield 142, 3) := by decide +kernel
theorem dX11_said_27 : decode cX11_said 27 = .ok (.if_icmp .ge 47, 3) := by decide +kernel
theorem dX11_said_30 : decode cX11_said 30 = .ok (.iload_n 2, 1) := by decide +kernel
theorem dX11_said_31 : decode cX11_said 31 = .ok (.bipush 10, 2) := by decide +kernel
theorem dX11_said_33 : decode cX11_said 33 = .ok (.if_icmp .ge 41, 3) := by decide +kernel
theorem dX11_said_36 : decode cX11_said 36 = .ok (.aload_n 0, 1) := by decide +kernel
theorem dX11_said_37 : decode cX11_said 37 = .ok (.getfield 16, 3) := by decide +kernel
theorem dX11_said_40 : decode cX11_said 40 = .ok (.getfield 321, 3) := by decide +kernel
theorem dX11_said_43 : decode cX11_said 43 = .ok (.aload_n 0, 1) := by decide +kernel
theorem dX11_said_44 : decode cX11_said 44 = .ok (.getfield 16, 3) := by decide +kernel
theorem dX11_said_47 : decode cX11_said 47 = .ok (.getfield 325, 3) := by decide +kernel
theorem dX11_said_50 : decode cX11_said 50 = .ok (.iload_n 2, 1) := by decide +kernel
theorem dX11_said_51 : decode cX11_said 51 = .ok (.aaload, 1) := by decide +kernel
theorem dX11_said_52 : decode cX11_said 52 = .ok (.aload_n 0, 1) := by decide +kernel
theorem dX11_said_53 : decode cX11_said 53 = .ok (.getfield 16, 3) := by decide +kernel
theorem dX11_said_56 : decode cX11_said 56 = .ok (.invokevirtual 329, 3) := by decide +kernel
theorem dX11_said_59 : decode cX11_said 59 = .ok (.ifCond .eq 9, 3) := by decide +kernel
theorem dX11_said_62 : decode cX11_said 62 = .ok (.iload_n 1, 1) := by decide +kernel
theorem dX11_said_63 : decode cX11_said 63 = .ok (.iconst 1, 1) := by decide +kernel
theorem dX11_said_64 : decode cX11_said 64 = .ok (.iload_n 2, 1) := by decide +kernel
theorem dX11_said_65 : decode cX11_said 65 = .ok (.ishl, 1) := by decide +kernel
theorem dX11_said_66 : decode cX11_said 66 = .ok (.ior, 1) := by decide +kernel
theorem dX11_said_67 : decode cX11_said 67 = .ok (.istore_n 1, 1) := by decide +kernel
theorem dX11_said_68 : decode cX11_said 68 = .ok (.iinc 2 1, 3) := by decide +kernel
theorem dX11_said_71 : decode cX11_said 71 = .ok (.goto (-52), 3) := by decide +kernel
theorem dX11_said_74 : decode cX11_said 74 = .ok (.iload_n 1, 1) := by decide +kernel
theorem dX11_said_75 : decode cX11_said 75 = .ok (.ireturn, 1) := by decide +kernel
theorem dX11_image_0 : decode cX11_image 0 = .ok (.iload_n 1, 1) := by decide +kernel
theorem dX11_image_1 : decode cX11_image 1 = .ok (.ifCond .lt 8, 3) := by decide +kernel
theorem dX11_image_4 : decode cX11_image 4 = .ok (.iload_n 1, 1) := by decide +kernel
theorem dX11_image_5 : decode cX11_image 5 = .ok (.iconst 2, 1) := by decide +kernel
theorem dX11_image_6 : decode cX11_image 6 = .ok (.if_icmp .lt 5, 3) := by decide +kernel
theorem dX11_image_9 : decode cX11_image 9 = .ok (.iconst 0, 1) := by decide +kernel
theorem dX11_image_10 : decode cX11_image 10 = .ok (.ireturn, 1) := by decide +kernel
theorem dX11_image_11 : decode cX11_image 11 = .ok (.aload_n 0, 1) := by decide +kernel
theorem dX11_image_12 : decode cX11_image 12 = .ok (.getfield 30, 3) := by decide +kernel
theorem dX11_image_15 : decode cX11_image 15 = .ok (.iload_n 1, 1) := by decide +kernel
theorem dX11_image_16 : decode cX11_image 16 = .ok (.aaload, 1) := by decide +kernel
theorem dX11_image_17 : decode cX11_image 17 = .ok (.ifnonnull 16, 3) := by decide +kernel
theorem dX11_image_20 : decode cX11_image 20 = .ok (.aload_n 0, 1) := by decide +kernel
theorem dX11_image_21 : decode cX11_image 21 = .ok (.getfield 30, 3) := by decide +kernel
theorem dX11_image_24 : decode cX11_image 24 = .ok (.iload_n 1, 1) := by decide +kernel
theorem dX11_image_25 : decode cX11_image 25 = .ok (.new 13, 3) := by decide +kernel
theorem dX11_image_28 : decode cX11_image 28 = .ok (.dup, 1) := by decide +kernel
theorem dX11_image_29 : decode cX11_image 29 = .ok (.invokespecial 15, 3) := by decide +kernel
theorem dX11_image_32 : decode cX11_image 32 = .ok (.aastore, 1) := by decide +kernel
theorem dX11_image_33 : decode cX11_image 33 = .ok (.aload_n 0, 1) := by decide +kernel
theorem dX11_image_34 : decode cX11_image 34 = .ok (.getfield 30, 3) := by decide +kernel
theorem dX11_image_37 : decode cX11_image 37 = .ok (.iload_n 1, 1) := by decide +kernel
theorem dX11_image_38 : decode cX11_image 38 = .ok (.aaload, 1) := by decide +kernel
theorem dX11_image_39 : decode cX11_image 39 = .ok (.aload_n 0, 1) := by decide +kernel
theorem dX11_image_40 : decode cX11_image 40 = .ok (.getfield 16, 3) := by decide +kernel
theorem dX11_image_43 : decode cX11_image 43 = .ok (.invokevirtual 333, 3) := by decide +kernel
theorem dX11_image_46 : decode cX11_image 46 = .ok (.iconst 1, 1) := by decide +kernel
theorem dX11_image_47 : decode cX11_image 47 = .ok (.ireturn, 1) := by decide +kernel
theorem dX11_restore_0 : decode cX11_restore 0 = .ok (.iload_n 1, 1) := by decide +kernel
theorem dX11_restore_1 : decode cX11_restore 1 = .ok (.ifCond .lt 17, 3) := by decide +kernel
theorem dX11_restore_4 : decode cX11_restore 4 = .ok (.iload_n 1, 1) := by decide +kernel
theorem dX11_restore_5 : decode cX11_restore 5 = .ok (.iconst 2, 1) := by decide +kernel
theorem dX11_restore_6 : decode cX11_restore 6 = .ok (.if_icmp .ge 12, 3) := by decide +kernel
theorem dX11_restore_9 : decode cX11_restore 9 = .ok (.aload_n 0, 1) := by decide +kernel
theorem dX11_restore_10 : decode cX11_restore 10 = .ok (.getfield 30, 3) := by decide +kernel
theorem dX11_restore_13 : decode cX11_restore 13 = .ok (.iload_n 1, 1) := by decide +kernel
theorem dX11_restore_14 : decode cX11_restore 14 = .ok (.aaload, 1) := by decide +kernel
theorem dX11_restore_15 : decode cX11_restore 15 = .ok (.ifnonnull 5, 3) := by decide +kernel
theorem dX11_restore_18 : decode cX11_restore 18 = .ok (.iconst 0, 1) := by decide +kernel
theorem dX11_restore_19 : decode cX11_restore 19 = .ok (.ireturn, 1) := by decide +kernel
theorem dX11_restore_20 : decode cX11_restore 20 = .ok (.aload_n 0, 1) := by decide +kernel
theorem dX11_restore_21 : decode cX11_restore 21 = .ok (.getfield 16, 3) := by decide +kernel
theorem dX11_restore_24 : decode cX11_restore 24 = .ok (.aload_n 0, 1) := by decide +kernel
theorem dX11_restore_25 : decode cX11_restore 25 = .ok (.getfield 30, 3) := by decide +kernel
theorem dX11_restore_28 : decode cX11_restore 28 = .ok (.iload_n 1, 1) := by decide +kernel
theorem dX11_restore_29 : decode cX11_restore 29 = .ok (.aaload, 1) := by decide +kernel
theorem dX11_restore_30 : decode cX11_restore 30 = .ok (.invokevirtual 333, 3) := by decide +kernel
theorem dX11_restore_33 : decode cX11_restore 33 = .ok (.iconst 1, 1) := by decide +kernel
theorem dX11_restore_34 : decode cX11_restore 34 = .ok (.ireturn, 1) := by decide +kernel
theorem dX11_count_0 : decode cX11_count 0 = .ok (.iload_n 1, 1) := by decide +kernel
theorem dX11_count_1 : decode cX11_count 1 = .ok (.tableswitch 99 0 6 #[43, 51, 59, 67, 78, 86, 94], 43) := by decide +kernel
theorem dX11_count_44 : decode cX11_count 44 = .ok (.aload_n 0, 1) := by decide +kernel
theorem dX11_count_45 : decode cX11_count 45 = .ok (.getfield 16, 3) := by decide +kernel
theorem dX11_count_48 : decode cX11_count 48 = .ok (.getfield 132, 3) := by decide +kernel
theorem dX11_count_51 : decode cX11_count 51 = .ok (.ireturn, 1) := by decide +kernel
theorem dX11_count_52 : decode cX11_count 52 = .ok (.aload_n 0, 1) := by decide +kernel
theorem dX11_count_53 : decode cX11_count 53 = .ok (.getfield 16, 3) := by decide +kernel
theorem dX11_count_56 : decode cX11_count 56 = .ok (.getfield 142, 3) := by decide +kernel
theorem dX11_count_59 : decode cX11_count 59 = .ok (.ireturn, 1) := by decide +kernel
theorem dX11_count_60 : decode cX11_count 60 = .ok (.aload_n 0, 1) := by decide +kernel
theorem dX11_count_61 : decode cX11_count 61 = .ok (.getfield 16, 3) := by decide +kernel
theorem dX11_count_64 : decode cX11_count 64 = .ok (.getfield 165, 3) := by decide +kernel
theorem dX11_count_67 : decode cX11_count 67 = .ok (.ireturn, 1) := by decide +kernel
theorem dX11_count_68 : decode cX11_count 68 = .ok (.aload_n 0, 1) := by decide +kernel
theorem dX11_count_69 : decode cX11_count 69 = .ok (.getfield 16, 3) := by decide +kernel
theorem dX11_count_72 : decode cX11_count 72 = .ok (.getfield 132, 3) := by decide +kernel
theorem dX11_count_75 : decode cX11_count 75 = .ok (.invokestatic 337, 3) := by decide +kernel
theorem dX11_count_78 : decode cX11_count 78 = .ok (.ireturn, 1) := by decide +kernel
theorem dX11_count_79 : decode cX11_count 79 = .ok (.aload_n 0, 1) := by decide +kernel
theorem dX11_count_80 : decode cX11_count 80 = .ok (.getfield 16, 3) := by decide +kernel
theorem dX11_count_83 : decode cX11_count 83 = .ok (.getfield 340, 3) := by decide +kernel
theorem dX11_count_86 : decode cX11_count 86 = .ok (.ireturn, 1) := by decide +kernel
theorem dX11_count_87 : decode cX11_count 87 = .ok (.aload_n 0, 1) := by decide +kernel
theorem dX11_count_88 : decode cX11_count 88 = .ok (.getfield 16, 3) := by decide +kernel
theorem dX11_count_91 : decode cX11_count 91 = .ok (.getfield 343, 3) := by decide +kernel
theorem dX11_count_94 : decode cX11_count 94 = .ok (.ireturn, 1) := by decide +kernel
theorem dX11_count_95 : decode cX11_count 95 = .ok (.aload_n 0, 1) := by decide +kernel
theorem dX11_count_96 : decode cX11_count 96 = .ok (.getfield 76, 3) := by decide +kernel
theorem dX11_count_99 : decode cX11_count 99 = .ok (.ireturn, 1) := by decide +kernel
theorem dX11_count_100 : decode cX11_count 100 = .ok (.iconst (-1), 1) := by decide +kernel
theorem dX11_count_101 : decode cX11_count 101 = .ok (.ireturn, 1) := by decide +kernel
theorem dX11_putNumber_0 : decode cX11_putNumber 0 = .ok (.bipush 24, 2) := by decide +kernel
theorem dX11_putNumber_2 : decode cX11_putNumber 2 = .ok (.istore_n 2, 1) := by decide +kernel
theorem dX11_putNumber_3 : decode cX11_putNumber 3 = .ok (.iload_n 2, 1) := by decide +kernel
theorem dX11_putNumber_4 : decode cX11_putNumber 4 = .ok (.ifCond .lt 42, 3) := by decide +kernel
theorem dX11_putNumber_7 : decode cX11_putNumber 7 = .ok (.aload_n 0, 1) := by decide +kernel
theorem dX11_putNumber_8 : decode cX11_putNumber 8 = .ok (.getfield 76, 3) := by decide +kernel
theorem dX11_putNumber_11 : decode cX11_putNumber 11 = .ok (.sipush 740, 3) := by decide +kernel
theorem dX11_putNumber_14 : decode cX11_putNumber 14 = .ok (.if_icmp .ge 32, 3) := by decide +kernel
theorem dX11_putNumber_17 : decode cX11_putNumber 17 = .ok (.aload_n 0, 1) := by decide +kernel
theorem dX11_putNumber_18 : decode cX11_putNumber 18 = .ok (.getfield 9, 3) := by decide +kernel
theorem dX11_putNumber_21 : decode cX11_putNumber 21 = .ok (.aload_n 0, 1) := by decide +kernel
theorem dX11_putNumber_22 : decode cX11_putNumber 22 = .ok (.getfield 76, 3) := by decide +kernel
theorem dX11_putNumber_25 : decode cX11_putNumber 25 = .ok (.iload_n 1, 1) := by decide +kernel
theorem dX11_putNumber_26 : decode cX11_putNumber 26 = .ok (.iload_n 2, 1) := by decide +kernel
theorem dX11_putNumber_27 : decode cX11_putNumber 27 = .ok (.iushr, 1) := by decide +kernel
theorem dX11_putNumber_28 : decode cX11_putNumber 28 = .ok (.i2b, 1) := by decide +kernel
theorem dX11_putNumber_29 : decode cX11_putNumber 29 = .ok (.bastore, 1) := by decide +kernel
theorem dX11_putNumber_30 : decode cX11_putNumber 30 = .ok (.aload_n 0, 1) := by decide +kernel
theorem dX11_putNumber_31 : decode cX11_putNumber 31 = .ok (.dup, 1) := by decide +kernel
theorem dX11_putNumber_32 : decode cX11_putNumber 32 = .ok (.getfield 76, 3) := by decide +kernel
theorem dX11_putNumber_35 : decode cX11_putNumber 35 = .ok (.iconst 1, 1) := by decide +kernel
theorem dX11_putNumber_36 : decode cX11_putNumber 36 = .ok (.iadd, 1) := by decide +kernel
theorem dX11_putNumber_37 : decode cX11_putNumber 37 = .ok (.putfield 76, 3) := by decide +kernel
theorem dX11_putNumber_40 : decode cX11_putNumber 40 = .ok (.iinc 2 (-8), 3) := by decide +kernel
theorem dX11_putNumber_43 : decode cX11_putNumber 43 = .ok (.goto (-40), 3) := by decide +kernel
theorem dX11_putNumber_46 : decode cX11_putNumber 46 = .ok (.return_, 1) := by decide +kernel
theorem dX11_takeTape_0 : decode cX11_takeTape 0 = .ok (.aload_n 0, 1) := by decide +kernel
theorem dX11_takeTape_1 : decode cX11_takeTape 1 = .ok (.getfield 76, 3) := by decide +kernel
theorem dX11_takeTape_4 : decode cX11_takeTape 4 = .ok (.istore_n 1, 1) := by decide +kernel
theorem dX11_takeTape_5 : decode cX11_takeTape 5 = .ok (.aload_n 0, 1) := by decide +kernel
theorem dX11_takeTape_6 : decode cX11_takeTape 6 = .ok (.iconst 0, 1) := by decide +kernel
theorem dX11_takeTape_7 : decode cX11_takeTape 7 = .ok (.putfield 76, 3) := by decide +kernel
theorem dX11_takeTape_10 : decode cX11_takeTape 10 = .ok (.iload_n 1, 1) := by decide +kernel
theorem dX11_takeTape_11 : decode cX11_takeTape 11 = .ok (.ireturn, 1) := by decide +kernel
theorem dX11_byteAt_0 : decode cX11_byteAt 0 = .ok (.iload_n 1, 1) := by decide +kernel
theorem dX11_byteAt_1 : decode cX11_byteAt 1 = .ok (.ifCond .lt 23, 3) := by decide +kernel
theorem dX11_byteAt_4 : decode cX11_byteAt 4 = .ok (.iload_n 1, 1) := by decide +kernel
theorem dX11_byteAt_5 : decode cX11_byteAt 5 = .ok (.sipush 740, 3) := by decide +kernel
theorem dX11_byteAt_8 : decode cX11_byteAt 8 = .ok (.if_icmp .ge 16, 3) := by decide +kernel
theorem dX11_byteAt_11 : decode cX11_byteAt 11 = .ok (.aload_n 0, 1) := by decide +kernel
theorem dX11_byteAt_12 : decode cX11_byteAt 12 = .ok (.getfield 9, 3) := by decide +kernel
theorem dX11_byteAt_15 : decode cX11_byteAt 15 = .ok (.iload_n 1, 1) := by decide +kernel
theorem dX11_byteAt_16 : decode cX11_byteAt 16 = .ok (.baload, 1) := by decide +kernel
theorem dX11_byteAt_17 : decode cX11_byteAt 17 = .ok (.sipush 255, 3) := by decide +kernel
theorem dX11_byteAt_20 : decode cX11_byteAt 20 = .ok (.iand, 1) := by decide +kernel
theorem dX11_byteAt_21 : decode cX11_byteAt 21 = .ok (.goto 4, 3) := by decide +kernel
theorem dX11_byteAt_24 : decode cX11_byteAt 24 = .ok (.iconst 0, 1) := by decide +kernel
theorem dX11_byteAt_25 : decode cX11_byteAt 25 = .ok (.ireturn, 1) := by decide +kernel
theorem dX11_areCopies_0 : decode cX11_areCopies 0 = .ok (.iconst 0, 1) := by decide +kernel
theorem dX11_areCopies_1 : decode cX11_areCopies 1 = .ok (.istore_n 2, 1) := by decide +kernel
theorem dX11_areCopies_2 : decode cX11_areCopies 2 = .ok (.iload_n 2, 1) := by decide +kernel
theorem dX11_areCopies_3 : decode cX11_areCopies 3 = .ok (.iload_n 1, 1) := by decide +kernel
theorem dX11_areCopies_4 : decode cX11_areCopies 4 = .ok (.if_icmp .ge 26, 3) := by decide +kernel
theorem dX11_areCopies_7 : decode cX11_areCopies 7 = .ok (.aload_n 0, 1) := by decide +kernel
theorem dX11_areCopies_8 : decode cX11_areCopies 8 = .ok (.iload_n 2, 1) := by decide +kernel
theorem dX11_areCopies_9 : decode cX11_areCopies 9 = .ok (.invokevirtual 128, 3) := by decide +kernel
theorem dX11_areCopies_12 : decode cX11_areCopies 12 = .ok (.aload_n 0, 1) := by decide +kernel
theorem dX11_areCopies_13 : decode cX11_areCopies 13 = .ok (.getfield 16, 3) := by decide +kernel
theorem dX11_areCopies_16 : decode cX11_areCopies 16 = .ok (.getfield 142, 3) := by decide +kernel
theorem dX11_areCopies_19 : decode cX11_areCopies 19 = .ok (.if_icmp .lt 5, 3) := by decide +kernel
theorem dX11_areCopies_22 : decode cX11_areCopies 22 = .ok (.iconst 0, 1) := by decide +kernel
theorem dX11_areCopies_23 : decode cX11_areCopies 23 = .ok (.ireturn, 1) := by decide +kernel
theorem dX11_areCopies_24 : decode cX11_areCopies 24 = .ok (.iinc 2 1, 3) := by decide +kernel
theorem dX11_areCopies_27 : decode cX11_areCopies 27 = .ok (.goto (-25), 3) := by decide +kernel
theorem dX11_areCopies_30 : decode cX11_areCopies 30 = .ok (.iconst 1, 1) := by decide +kernel
theorem dX11_areCopies_31 : decode cX11_areCopies 31 = .ok (.ireturn, 1) := by decide +kernel
theorem dX11_areUnlike_0 : decode cX11_areUnlike 0 = .ok (.iconst 0, 1) := by decide +kernel
theorem dX11_areUnlike_1 : decode cX11_areUnlike 1 = .ok (.istore_n 2, 1) := by decide +kernel
theorem dX11_areUnlike_2 : decode cX11_areUnlike 2 = .ok (.iload_n 2, 1) := by decide +kernel
theorem dX11_areUnlike_3 : decode cX11_areUnlike 3 = .ok (.iload_n 1, 1) := by decide +kernel
theorem dX11_areUnlike_4 : decode cX11_areUnlike 4 = .ok (.if_icmp .ge 37, 3) := by decide +kernel
theorem dX11_areUnlike_7 : decode cX11_areUnlike 7 = .ok (.iconst 0, 1) := by decide +kernel
theorem dX11_areUnlike_8 : decode cX11_areUnlike 8 = .ok (.istore_n 3, 1) := by decide +kernel
theorem dX11_areUnlike_9 : decode cX11_areUnlike 9 = .ok (.iload_n 3, 1) := by decide +kernel
theorem dX11_areUnlike_10 : decode cX11_areUnlike 10 = .ok (.iload_n 2, 1) := by decide +kernel
theorem dX11_areUnlike_11 : decode cX11_areUnlike 11 = .ok (.if_icmp .ge 24, 3) := by decide +kernel
theorem dX11_areUnlike_14 : decode cX11_areUnlike 14 = .ok (.aload_n 0, 1) := by decide +kernel
theorem dX11_areUnlike_15 : decode cX11_areUnlike 15 = .ok (.iload_n 2, 1) := by decide +kernel
theorem dX11_areUnlike_16 : decode cX11_areUnlike 16 = .ok (.invokevirtual 128, 3) := by decide +kernel
theorem dX11_areUnlike_19 : decode cX11_areUnlike 19 = .ok (.aload_n 0, 1) := by decide +kernel
theorem dX11_areUnlike_20 : decode cX11_areUnlike 20 = .ok (.iload_n 3, 1) := by decide +kernel
theorem dX11_areUnlike_21 : decode cX11_areUnlike 21 = .ok (.invokevirtual 128, 3) := by decide +kernel
theorem dX11_areUnlike_24 : decode cX11_areUnlike 24 = .ok (.if_icmp .ne 5, 3) := by decide +kernel
theorem dX11_areUnlike_27 : decode cX11_areUnlike 27 = .ok (.iconst 0, 1) := by decide +kernel
theorem dX11_areUnlike_28 : decode cX11_areUnlike 28 = .ok (.ireturn, 1) := by decide +kernel
theorem dX11_areUnlike_29 : decode cX11_areUnlike 29 = .ok (.iinc 3 1, 3) := by decide +kernel
theorem dX11_areUnlike_32 : decode cX11_areUnlike 32 = .ok (.goto (-23), 3) := by decide +kernel
theorem dX11_areUnlike_35 : decode cX11_areUnlike 35 = .ok (.iinc 2 1, 3) := by decide +kernel
theorem dX11_areUnlike_38 : decode cX11_areUnlike 38 = .ok (.goto (-36), 3) := by decide +kernel
theorem dX11_areUnlike_41 : decode cX11_areUnlike 41 = .ok (.iconst 1, 1) := by decide +kernel
theorem dX11_areUnlike_42 : decode cX11_areUnlike 42 = .ok (.ireturn, 1) := by decide +kernel
theorem dX11_orders_0 : decode cX11_orders 0 = .ok (.iconst 2, 1) := by decide +kernel
theorem dX11_orders_1 : decode cX11_orders 1 = .ok (.bipush 7, 2) := by decide +kernel
theorem dX11_orders_3 : decode cX11_orders 3 = .ok (.aload_n 0, 1) := by decide +kernel
theorem dX11_orders_4 : decode cX11_orders 4 = .ok (.getfield 16, 3) := by decide +kernel
theorem dX11_orders_7 : decode cX11_orders 7 = .ok (.getfield 132, 3) := by decide +kernel
theorem dX11_orders_10 : decode cX11_orders 10 = .ok (.invokestatic 202, 3) := by decide +kernel
theorem dX11_orders_13 : decode cX11_orders 13 = .ok (.invokestatic 315, 3) := by decide +kernel
theorem dX11_orders_16 : decode cX11_orders 16 = .ok (.istore_n 1, 1) := by decide +kernel
theorem dX11_orders_17 : decode cX11_orders 17 = .ok (.aload_n 0, 1) := by decide +kernel
theorem dX11_orders_18 : decode cX11_orders 18 = .ok (.getfield 36, 3) := by decide +kernel
theorem dX11_orders_21 : decode cX11_orders 21 = .ok (.iload_n 1, 1) := by decide +kernel
theorem dX11_orders_22 : decode cX11_orders 22 = .ok (.aaload, 1) := by decide +kernel
theorem dX11_orders_23 : decode cX11_orders 23 = .ok (.ifnonnull 17, 3) := by decide +kernel
theorem dX11_orders_26 : decode cX11_orders 26 = .ok (.aload_n 0, 1) := by decide +kernel
theorem dX11_orders_27 : decode cX11_orders 27 = .ok (.getfield 36, 3) := by decide +kernel
theorem dX11_orders_30 : decode cX11_orders 30 = .ok (.iload_n 1, 1) := by decide +kernel
theorem dX11_orders_31 : decode cX11_orders 31 = .ok (.new 34, 3) := by decide +kernel
theorem dX11_orders_34 : decode cX11_orders 34 = .ok (.dup, 1) := by decide +kernel
theorem dX11_orders_35 : decode cX11_orders 35 = .ok (.iload_n 1, 1) := by decide +kernel
theorem dX11_orders_36 : decode cX11_orders 36 = .ok (.invokespecial 346, 3) := by decide +kernel
theorem dX11_orders_39 : decode cX11_orders 39 = .ok (.aastore, 1) := by decide +kernel
theorem dX11_orders_40 : decode cX11_orders 40 = .ok (.aload_n 0, 1) := by decide +kernel
theorem dX11_orders_41 : decode cX11_orders 41 = .ok (.getfield 36, 3) := by decide +kernel
theorem dX11_orders_44 : decode cX11_orders 44 = .ok (.iload_n 1, 1) := by decide +kernel
theorem dX11_orders_45 : decode cX11_orders 45 = .ok (.aaload, 1) := by decide +kernel
theorem dX11_orders_46 : decode cX11_orders 46 = .ok (.areturn, 1) := by decide +kernel
theorem dX11_farFromAll_0 : decode cX11_farFromAll 0 = .ok (.iconst 0, 1) := by decide +kernel
theorem dX11_farFromAll_1 : decode cX11_farFromAll 1 = .ok (.istore 4, 2) := by decide +kernel
theorem dX11_farFromAll_3 : decode cX11_farFromAll 3 = .ok (.iconst 0, 1) := by decide +kernel
theorem dX11_farFromAll_4 : decode cX11_farFromAll 4 = .ok (.istore 5, 2) := by decide +kernel
theorem dX11_farFromAll_6 : decode cX11_farFromAll 6 = .ok (.iconst 0, 1) := by decide +kernel
theorem dX11_farFromAll_7 : decode cX11_farFromAll 7 = .ok (.istore 6, 2) := by decide +kernel
theorem dX11_farFromAll_9 : decode cX11_farFromAll 9 = .ok (.iload 6, 2) := by decide +kernel
theorem dX11_farFromAll_11 : decode cX11_farFromAll 11 = .ok (.aload_n 0, 1) := by decide +kernel
theorem dX11_farFromAll_12 : decode cX11_farFromAll 12 = .ok (.getfield 16, 3) := by decide +kernel
theorem dX11_farFromAll_15 : decode cX11_farFromAll 15 = .ok (.getfield 142, 3) := by decide +kernel
theorem dX11_farFromAll_18 : decode cX11_farFromAll 18 = .ok (.if_icmp .ge 49, 3) := by decide +kernel
theorem dX11_farFromAll_21 : decode cX11_farFromAll 21 = .ok (.iload 6, 2) := by decide +kernel
theorem dX11_farFromAll_23 : decode cX11_farFromAll 23 = .ok (.bipush 10, 2) := by decide +kernel
theorem dX11_farFromAll_25 : decode cX11_farFromAll 25 = .ok (.if_icmp .ge 42, 3) := by decide +kernel
theorem dX11_farFromAll_28 : decode cX11_farFromAll 28 = .ok (.aload_n 1, 1) := by decide +kernel
theorem dX11_farFromAll_29 : decode cX11_farFromAll 29 = .ok (.iload_n 2, 1) := by decide +kernel
theorem dX11_farFromAll_30 : decode cX11_farFromAll 30 = .ok (.aload_n 0, 1) := by decide +kernel
theorem dX11_farFromAll_31 : decode cX11_farFromAll 31 = .ok (.getfield 16, 3) := by decide +kernel
theorem dX11_farFromAll_34 : decode cX11_farFromAll 34 = .ok (.getfield 325, 3) := by decide +kernel
theorem dX11_farFromAll_37 : decode cX11_farFromAll 37 = .ok (.iload 6, 2) := by decide +kernel
theorem dX11_farFromAll_39 : decode cX11_farFromAll 39 = .ok (.aaload, 1) := by decide +kernel
theorem dX11_farFromAll_40 : decode cX11_farFromAll 40 = .ok (.invokevirtual 303, 3) := by decide +kernel
theorem dX11_farFromAll_43 : decode cX11_farFromAll 43 = .ok (.istore 7, 2) := by decide +kernel
theorem dX11_farFromAll_45 : decode cX11_farFromAll 45 = .ok (.iload 4, 2) := by decide +kernel
theorem dX11_farFromAll_47 : decode cX11_farFromAll 47 = .ok (.iload 7, 2) := by decide +kernel
theorem dX11_farFromAll_49 : decode cX11_farFromAll 49 = .ok (.iadd, 1) := by decide +kernel
theorem dX11_farFromAll_50 : decode cX11_farFromAll 50 = .ok (.istore 4, 2) := by decide +kernel
theorem dX11_farFromAll_52 : decode cX11_farFromAll 52 = .ok (.iload 5, 2) := by decide +kernel
theorem dX11_farFromAll_54 : decode cX11_farFromAll 54 = .ok (.iload 7, 2) := by decide +kernel
theorem dX11_farFromAll_56 : decode cX11_farFromAll 56 = .ok (.invokestatic 315, 3) := by decide +kernel
theorem dX11_farFromAll_59 : decode cX11_farFromAll 59 = .ok (.istore 5, 2) := by decide +kernel
theorem dX11_farFromAll_61 : decode cX11_farFromAll 61 = .ok (.iinc 6 1, 3) := by decide +kernel
theorem dX11_farFromAll_64 : decode cX11_farFromAll 64 = .ok (.goto (-55), 3) := by decide +kernel
theorem dX11_farFromAll_67 : decode cX11_farFromAll 67 = .ok (.iload_n 3, 1) := by decide +kernel
theorem dX11_farFromAll_68 : decode cX11_farFromAll 68 = .ok (.ifCond .ne 8, 3) := by decide +kernel
theorem dX11_farFromAll_71 : decode cX11_farFromAll 71 = .ok (.iload 4, 2) := by decide +kernel
theorem dX11_farFromAll_73 : decode cX11_farFromAll 73 = .ok (.goto 5, 3) := by decide +kernel
theorem dX11_farFromAll_76 : decode cX11_farFromAll 76 = .ok (.iload 5, 2) := by decide +kernel
theorem dX11_farFromAll_78 : decode cX11_farFromAll 78 = .ok (.ireturn, 1) := by decide +kernel
theorem dX11_factorial_0 : decode cX11_factorial 0 = .ok (.iload_n 0, 1) := by decide +kernel
theorem dX11_factorial_1 : decode cX11_factorial 1 = .ok (.ifCond .lt 19, 3) := by decide +kernel
theorem dX11_factorial_4 : decode cX11_factorial 4 = .ok (.iload_n 0, 1) := by decide +kernel
theorem dX11_factorial_5 : decode cX11_factorial 5 = .ok (.getstatic 348, 3) := by decide +kernel
theorem dX11_factorial_8 : decode cX11_factorial 8 = .ok (.arraylength, 1) := by decide +kernel
theorem dX11_factorial_9 : decode cX11_factorial 9 = .ok (.if_icmp .ge 11, 3) := by decide +kernel
theorem dX11_factorial_12 : decode cX11_factorial 12 = .ok (.getstatic 348, 3) := by decide +kernel
theorem dX11_factorial_15 : decode cX11_factorial 15 = .ok (.iload_n 0, 1) := by decide +kernel
theorem dX11_factorial_16 : decode cX11_factorial 16 = .ok (.iaload, 1) := by decide +kernel
theorem dX11_factorial_17 : decode cX11_factorial 17 = .ok (.goto 4, 3) := by decide +kernel
theorem dX11_factorial_20 : decode cX11_factorial 20 = .ok (.iconst 1, 1) := by decide +kernel
theorem dX11_factorial_21 : decode cX11_factorial 21 = .ok (.ireturn, 1) := by decide +kernel
theorem dX11_isWithin_0 : decode cX11_isWithin 0 = .ok (.iload_n 0, 1) := by decide +kernel
theorem dX11_isWithin_1 : decode cX11_isWithin 1 = .ok (.ifCond .lt 12, 3) := by decide +kernel
theorem dX11_isWithin_4 : decode cX11_isWithin 4 = .ok (.iload_n 0, 1) := by decide +kernel
theorem dX11_isWithin_5 : decode cX11_isWithin 5 = .ok (.iload_n 1, 1) := by decide +kernel
theorem dX11_isWithin_6 : decode cX11_isWithin 6 = .ok (.if_icmp .gt 7, 3) := by decide +kernel
theorem dX11_isWithin_9 : decode cX11_isWithin 9 = .ok (.iconst 1, 1) := by decide +kernel
theorem dX11_isWithin_10 : decode cX11_isWithin 10 = .ok (.goto 4, 3) := by decide +kernel
theorem dX11_isWithin_13 : decode cX11_isWithin 13 = .ok (.iconst 0, 1) := by decide +kernel
theorem dX11_isWithin_14 : decode cX11_isWithin 14 = .ok (.ireturn, 1) := by decide +kernel
theorem dX11_commonDivisor_0 : decode cX11_commonDivisor 0 = .ok (.lload_n 0, 1) := by decide +kernel
theorem dX11_commonDivisor_1 : decode cX11_commonDivisor 1 = .ok (.lstore 4, 2) := by decide +kernel
theorem dX11_commonDivisor_3 : decode cX11_commonDivisor 3 = .ok (.lload_n 2, 1) := by decide +kernel
theorem dX11_commonDivisor_4 : decode cX11_commonDivisor 4 = .ok (.lstore 6, 2) := by decide +kernel
theorem dX11_commonDivisor_6 : decode cX11_commonDivisor 6 = .ok (.iconst 0, 1) := by decide +kernel
theorem dX11_commonDivisor_7 : decode cX11_commonDivisor 7 = .ok (.istore 8, 2) := by decide +kernel
theorem dX11_commonDivisor_9 : decode cX11_commonDivisor 9 = .ok (.iload 8, 2) := by decide +kernel
theorem dX11_commonDivisor_11 : decode cX11_commonDivisor 11 = .ok (.sipush 200, 3) := by decide +kernel
theorem dX11_commonDivisor_14 : decode cX11_commonDivisor 14 = .ok (.if_icmp .ge 31, 3) := by decide +kernel
theorem dX11_commonDivisor_17 : decode cX11_commonDivisor 17 = .ok (.lload 6, 2) := by decide +kernel
theorem dX11_commonDivisor_19 : decode cX11_commonDivisor 19 = .ok (.lconst 0, 1) := by decide +kernel
theorem dX11_commonDivisor_20 : decode cX11_commonDivisor 20 = .ok (.lcmp, 1) := by decide +kernel
theorem dX11_commonDivisor_21 : decode cX11_commonDivisor 21 = .ok (.ifCond .le 24, 3) := by decide +kernel
theorem dX11_commonDivisor_24 : decode cX11_commonDivisor 24 = .ok (.lload 4, 2) := by decide +kernel
theorem dX11_commonDivisor_26 : decode cX11_commonDivisor 26 = .ok (.lload 6, 2) := by decide +kernel
theorem dX11_commonDivisor_28 : decode cX11_commonDivisor 28 = .ok (.lrem, 1) := by decide +kernel
theorem dX11_commonDivisor_29 : decode cX11_commonDivisor 29 = .ok (.lstore 9, 2) := by decide +kernel
theorem dX11_commonDivisor_31 : decode cX11_commonDivisor 31 = .ok (.lload 6, 2) := by decide +kernel
theorem dX11_commonDivisor_33 : decode cX11_commonDivisor 33 = .ok (.lstore 4, 2) := by decide +kernel
theorem dX11_commonDivisor_35 : decode cX11_commonDivisor 35 = .ok (.lload 9, 2) := by decide +kernel
theorem dX11_commonDivisor_37 : decode cX11_commonDivisor 37 = .ok (.lstore 6, 2) := by decide +kernel
theorem dX11_commonDivisor_39 : decode cX11_commonDivisor 39 = .ok (.iinc 8 1, 3) := by decide +kernel
theorem dX11_commonDivisor_42 : decode cX11_commonDivisor 42 = .ok (.goto (-33), 3) := by decide +kernel
theorem dX11_commonDivisor_45 : decode cX11_commonDivisor 45 = .ok (.lload 4, 2) := by decide +kernel
theorem dX11_commonDivisor_47 : decode cX11_commonDivisor 47 = .ok (.lreturn, 1) := by decide +kernel
theorem dX11_lineOf_0 : decode cX11_lineOf 0 = .ok (.iload_n 0, 1) := by decide +kernel
theorem dX11_lineOf_1 : decode cX11_lineOf 1 = .ok (.iconst 4, 1) := by decide +kernel
theorem dX11_lineOf_2 : decode cX11_lineOf 2 = .ok (.iload_n 1, 1) := by decide +kernel
theorem dX11_lineOf_3 : decode cX11_lineOf 3 = .ok (.imul, 1) := by decide +kernel
theorem dX11_lineOf_4 : decode cX11_lineOf 4 = .ok (.iushr, 1) := by decide +kernel
theorem dX11_lineOf_5 : decode cX11_lineOf 5 = .ok (.bipush 15, 2) := by decide +kernel
theorem dX11_lineOf_7 : decode cX11_lineOf 7 = .ok (.iand, 1) := by decide +kernel
theorem dX11_lineOf_8 : decode cX11_lineOf 8 = .ok (.ireturn, 1) := by decide +kernel
theorem dX11_pairBit_0 : decode cX11_pairBit 0 = .ok (.iload_n 0, 1) := by decide +kernel
theorem dX11_pairBit_1 : decode cX11_pairBit 1 = .ok (.iload_n 1, 1) := by decide +kernel
theorem dX11_pairBit_2 : decode cX11_pairBit 2 = .ok (.invokestatic 315, 3) := by decide +kernel
theorem dX11_pairBit_5 : decode cX11_pairBit 5 = .ok (.istore_n 2, 1) := by decide +kernel
theorem dX11_pairBit_6 : decode cX11_pairBit 6 = .ok (.iconst 1, 1) := by decide +kernel
theorem dX11_pairBit_7 : decode cX11_pairBit 7 = .ok (.iload_n 2, 1) := by decide +kernel
theorem dX11_pairBit_8 : decode cX11_pairBit 8 = .ok (.iload_n 2, 1) := by decide +kernel
theorem dX11_pairBit_9 : decode cX11_pairBit 9 = .ok (.iconst 1, 1) := by decide +kernel
theorem dX11_pairBit_10 : decode cX11_pairBit 10 = .ok (.isub, 1) := by decide +kernel
theorem dX11_pairBit_11 : decode cX11_pairBit 11 = .ok (.imul, 1) := by decide +kernel
theorem dX11_pairBit_12 : decode cX11_pairBit 12 = .ok (.iconst 2, 1) := by decide +kernel
theorem dX11_pairBit_13 : decode cX11_pairBit 13 = .ok (.idiv, 1) := by decide +kernel
theorem dX11_pairBit_14 : decode cX11_pairBit 14 = .ok (.iload_n 0, 1) := by decide +kernel
theorem dX11_pairBit_15 : decode cX11_pairBit 15 = .ok (.iload_n 1, 1) := by decide +kernel
theorem dX11_pairBit_16 : decode cX11_pairBit 16 = .ok (.invokestatic 202, 3) := by decide +kernel
theorem dX11_pairBit_19 : decode cX11_pairBit 19 = .ok (.iadd, 1) := by decide +kernel
theorem dX11_pairBit_20 : decode cX11_pairBit 20 = .ok (.ishl, 1) := by decide +kernel
theorem dX11_pairBit_21 : decode cX11_pairBit 21 = .ok (.ireturn, 1) := by decide +kernel
theorem dX12_init_0 : decode cX12_init 0 = .ok (.aload_n 0, 1) := by decide +kernel
theorem dX12_init_1 : decode cX12_init 1 = .ok (.invokespecial 1, 3) := by decide +kernel
theorem dX12_init_4 : decode cX12_init 4 = .ok (.aload_n 0, 1) := by decide +kernel
theorem dX12_init_5 : decode cX12_init 5 = .ok (.sipush 740, 3) := by decide +kernel
theorem dX12_init_8 : decode cX12_init 8 = .ok (.newarray .int, 2) := by decide +kernel
