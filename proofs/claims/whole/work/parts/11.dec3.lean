theorem dX12_layApart_2 : decode cX12_layApart 2 = .ok (.iload_n 1, 1) := by decide +kernel
theorem dX12_layApart_3 : decode cX12_layApart 3 = .ok (.aload_n 0, 1) := by decide +kernel
theorem dX12_layApart_4 : decode cX12_layApart 4 = .ok (.getfield 298, 3) := by decide +kernel
theorem dX12_layApart_7 : decode cX12_layApart 7 = .ok (.if_icmp .ge 56, 3) := by decide +kernel
theorem dX12_layApart_10 : decode cX12_layApart 10 = .ok (.iconst 0, 1) := by decide +kernel
theorem dX12_layApart_11 : decode cX12_layApart 11 = .ok (.istore_n 2, 1) := by decide +kernel
theorem dX12_layApart_12 : decode cX12_layApart 12 = .ok (.iload_n 2, 1) := by decide +kernel
theorem dX12_layApart_13 : decode cX12_layApart 13 = .ok (.aload_n 0, 1) := by decide +kernel
theorem dX12_layApart_14 : decode cX12_layApart 14 = .ok (.getfield 298, 3) := by decide +kernel
theorem dX12_layApart_17 : decode cX12_layApart 17 = .ok (.if_icmp .ge 40, 3) := by decide +kernel
theorem dX12_layApart_20 : decode cX12_layApart 20 = .ok (.aload_n 0, 1) := by decide +kernel
theorem dX12_layApart_21 : decode cX12_layApart 21 = .ok (.aload_n 0, 1) := by decide +kernel
theorem dX12_layApart_22 : decode cX12_layApart 22 = .ok (.getfield 48, 3) := by decide +kernel
theorem dX12_layApart_25 : decode cX12_layApart 25 = .ok (.iload_n 1, 1) := by decide +kernel
theorem dX12_layApart_26 : decode cX12_layApart 26 = .ok (.iaload, 1) := by decide +kernel
theorem dX12_layApart_27 : decode cX12_layApart 27 = .ok (.aload_n 0, 1) := by decide +kernel
theorem dX12_layApart_28 : decode cX12_layApart 28 = .ok (.getfield 48, 3) := by decide +kernel
theorem dX12_layApart_31 : decode cX12_layApart 31 = .ok (.iload_n 2, 1) := by decide +kernel
theorem dX12_layApart_32 : decode cX12_layApart 32 = .ok (.iaload, 1) := by decide +kernel
theorem dX12_layApart_33 : decode cX12_layApart 33 = .ok (.invokevirtual 269, 3) := by decide +kernel
theorem dX12_layApart_36 : decode cX12_layApart 36 = .ok (.aload_n 0, 1) := by decide +kernel
theorem dX12_layApart_37 : decode cX12_layApart 37 = .ok (.getfield 54, 3) := by decide +kernel
theorem dX12_layApart_40 : decode cX12_layApart 40 = .ok (.bipush 10, 2) := by decide +kernel
theorem dX12_layApart_42 : decode cX12_layApart 42 = .ok (.iload_n 1, 1) := by decide +kernel
theorem dX12_layApart_43 : decode cX12_layApart 43 = .ok (.imul, 1) := by decide +kernel
theorem dX12_layApart_44 : decode cX12_layApart 44 = .ok (.iload_n 2, 1) := by decide +kernel
theorem dX12_layApart_45 : decode cX12_layApart 45 = .ok (.iadd, 1) := by decide +kernel
theorem dX12_layApart_46 : decode cX12_layApart 46 = .ok (.aload_n 0, 1) := by decide +kernel
theorem dX12_layApart_47 : decode cX12_layApart 47 = .ok (.invokevirtual 273, 3) := by decide +kernel
theorem dX12_layApart_50 : decode cX12_layApart 50 = .ok (.iastore, 1) := by decide +kernel
theorem dX12_layApart_51 : decode cX12_layApart 51 = .ok (.iinc 2 1, 3) := by decide +kernel
theorem dX12_layApart_54 : decode cX12_layApart 54 = .ok (.goto (-42), 3) := by decide +kernel
theorem dX12_layApart_57 : decode cX12_layApart 57 = .ok (.iinc 1 1, 3) := by decide +kernel
theorem dX12_layApart_60 : decode cX12_layApart 60 = .ok (.goto (-58), 3) := by decide +kernel
theorem dX12_layApart_63 : decode cX12_layApart 63 = .ok (.return_, 1) := by decide +kernel
theorem dX12_tree_0 : decode cX12_tree 0 = .ok (.aload_n 0, 1) := by decide +kernel
theorem dX12_tree_1 : decode cX12_tree 1 = .ok (.iconst 0, 1) := by decide +kernel
theorem dX12_tree_2 : decode cX12_tree 2 = .ok (.putfield 81, 3) := by decide +kernel
theorem dX12_tree_5 : decode cX12_tree 5 = .ok (.aload_n 0, 1) := by decide +kernel
theorem dX12_tree_6 : decode cX12_tree 6 = .ok (.invokevirtual 164, 3) := by decide +kernel
theorem dX12_tree_9 : decode cX12_tree 9 = .ok (.aload_n 0, 1) := by decide +kernel
theorem dX12_tree_10 : decode cX12_tree 10 = .ok (.invokevirtual 167, 3) := by decide +kernel
theorem dX12_tree_13 : decode cX12_tree 13 = .ok (.istore_n 1, 1) := by decide +kernel
theorem dX12_tree_14 : decode cX12_tree 14 = .ok (.iload_n 1, 1) := by decide +kernel
theorem dX12_tree_15 : decode cX12_tree 15 = .ok (.iconst 1, 1) := by decide +kernel
theorem dX12_tree_16 : decode cX12_tree 16 = .ok (.bipush 9, 2) := by decide +kernel
theorem dX12_tree_18 : decode cX12_tree 18 = .ok (.invokestatic 151, 3) := by decide +kernel
theorem dX12_tree_21 : decode cX12_tree 21 = .ok (.ifCond .ne 5, 3) := by decide +kernel
theorem dX12_tree_24 : decode cX12_tree 24 = .ok (.iconst (-1), 1) := by decide +kernel
theorem dX12_tree_25 : decode cX12_tree 25 = .ok (.ireturn, 1) := by decide +kernel
theorem dX12_tree_26 : decode cX12_tree 26 = .ok (.iconst 0, 1) := by decide +kernel
theorem dX12_tree_27 : decode cX12_tree 27 = .ok (.istore_n 2, 1) := by decide +kernel
theorem dX12_tree_28 : decode cX12_tree 28 = .ok (.iconst 0, 1) := by decide +kernel
theorem dX12_tree_29 : decode cX12_tree 29 = .ok (.istore_n 3, 1) := by decide +kernel
theorem dX12_tree_30 : decode cX12_tree 30 = .ok (.iload_n 3, 1) := by decide +kernel
theorem dX12_tree_31 : decode cX12_tree 31 = .ok (.iload_n 1, 1) := by decide +kernel
theorem dX12_tree_32 : decode cX12_tree 32 = .ok (.if_icmp .ge 48, 3) := by decide +kernel
theorem dX12_tree_35 : decode cX12_tree 35 = .ok (.aload_n 0, 1) := by decide +kernel
theorem dX12_tree_36 : decode cX12_tree 36 = .ok (.aload_n 0, 1) := by decide +kernel
theorem dX12_tree_37 : decode cX12_tree 37 = .ok (.getfield 7, 3) := by decide +kernel
theorem dX12_tree_40 : decode cX12_tree 40 = .ok (.iload_n 3, 1) := by decide +kernel
theorem dX12_tree_41 : decode cX12_tree 41 = .ok (.iaload, 1) := by decide +kernel
theorem dX12_tree_42 : decode cX12_tree 42 = .ok (.invokevirtual 241, 3) := by decide +kernel
theorem dX12_tree_45 : decode cX12_tree 45 = .ok (.ifCond .eq 16, 3) := by decide +kernel
theorem dX12_tree_48 : decode cX12_tree 48 = .ok (.iload_n 2, 1) := by decide +kernel
theorem dX12_tree_49 : decode cX12_tree 49 = .ok (.aload_n 0, 1) := by decide +kernel
theorem dX12_tree_50 : decode cX12_tree 50 = .ok (.getfield 7, 3) := by decide +kernel
theorem dX12_tree_53 : decode cX12_tree 53 = .ok (.iload_n 3, 1) := by decide +kernel
theorem dX12_tree_54 : decode cX12_tree 54 = .ok (.iaload, 1) := by decide +kernel
theorem dX12_tree_55 : decode cX12_tree 55 = .ok (.invokestatic 198, 3) := by decide +kernel
theorem dX12_tree_58 : decode cX12_tree 58 = .ok (.ifCond .eq 5, 3) := by decide +kernel
theorem dX12_tree_61 : decode cX12_tree 61 = .ok (.iconst (-1), 1) := by decide +kernel
theorem dX12_tree_62 : decode cX12_tree 62 = .ok (.ireturn, 1) := by decide +kernel
theorem dX12_tree_63 : decode cX12_tree 63 = .ok (.iload_n 2, 1) := by decide +kernel
theorem dX12_tree_64 : decode cX12_tree 64 = .ok (.iconst 1, 1) := by decide +kernel
theorem dX12_tree_65 : decode cX12_tree 65 = .ok (.aload_n 0, 1) := by decide +kernel
theorem dX12_tree_66 : decode cX12_tree 66 = .ok (.getfield 7, 3) := by decide +kernel
theorem dX12_tree_69 : decode cX12_tree 69 = .ok (.iload_n 3, 1) := by decide +kernel
theorem dX12_tree_70 : decode cX12_tree 70 = .ok (.iaload, 1) := by decide +kernel
theorem dX12_tree_71 : decode cX12_tree 71 = .ok (.ishl, 1) := by decide +kernel
theorem dX12_tree_72 : decode cX12_tree 72 = .ok (.ior, 1) := by decide +kernel
theorem dX12_tree_73 : decode cX12_tree 73 = .ok (.istore_n 2, 1) := by decide +kernel
theorem dX12_tree_74 : decode cX12_tree 74 = .ok (.iinc 3 1, 3) := by decide +kernel
theorem dX12_tree_77 : decode cX12_tree 77 = .ok (.goto (-47), 3) := by decide +kernel
theorem dX12_tree_80 : decode cX12_tree 80 = .ok (.aload_n 0, 1) := by decide +kernel
theorem dX12_tree_81 : decode cX12_tree 81 = .ok (.iload_n 1, 1) := by decide +kernel
theorem dX12_tree_82 : decode cX12_tree 82 = .ok (.putfield 298, 3) := by decide +kernel
theorem dX12_tree_85 : decode cX12_tree 85 = .ok (.iconst 0, 1) := by decide +kernel
theorem dX12_tree_86 : decode cX12_tree 86 = .ok (.istore_n 3, 1) := by decide +kernel
theorem dX12_tree_87 : decode cX12_tree 87 = .ok (.iload_n 3, 1) := by decide +kernel
theorem dX12_tree_88 : decode cX12_tree 88 = .ok (.iload_n 1, 1) := by decide +kernel
theorem dX12_tree_89 : decode cX12_tree 89 = .ok (.if_icmp .ge 21, 3) := by decide +kernel
theorem dX12_tree_92 : decode cX12_tree 92 = .ok (.aload_n 0, 1) := by decide +kernel
theorem dX12_tree_93 : decode cX12_tree 93 = .ok (.getfield 48, 3) := by decide +kernel
theorem dX12_tree_96 : decode cX12_tree 96 = .ok (.iload_n 3, 1) := by decide +kernel
theorem dX12_tree_97 : decode cX12_tree 97 = .ok (.aload_n 0, 1) := by decide +kernel
theorem dX12_tree_98 : decode cX12_tree 98 = .ok (.getfield 7, 3) := by decide +kernel
theorem dX12_tree_101 : decode cX12_tree 101 = .ok (.iload_n 3, 1) := by decide +kernel
theorem dX12_tree_102 : decode cX12_tree 102 = .ok (.iaload, 1) := by decide +kernel
theorem dX12_tree_103 : decode cX12_tree 103 = .ok (.iastore, 1) := by decide +kernel
theorem dX12_tree_104 : decode cX12_tree 104 = .ok (.iinc 3 1, 3) := by decide +kernel
theorem dX12_tree_107 : decode cX12_tree 107 = .ok (.goto (-20), 3) := by decide +kernel
theorem dX12_tree_110 : decode cX12_tree 110 = .ok (.aload_n 0, 1) := by decide +kernel
theorem dX12_tree_111 : decode cX12_tree 111 = .ok (.invokevirtual 301, 3) := by decide +kernel
theorem dX12_tree_114 : decode cX12_tree 114 = .ok (.aload_n 0, 1) := by decide +kernel
theorem dX12_tree_115 : decode cX12_tree 115 = .ok (.iload_n 1, 1) := by decide +kernel
theorem dX12_tree_116 : decode cX12_tree 116 = .ok (.invokevirtual 304, 3) := by decide +kernel
theorem dX12_tree_119 : decode cX12_tree 119 = .ok (.istore_n 3, 1) := by decide +kernel
theorem dX12_tree_120 : decode cX12_tree 120 = .ok (.aload_n 0, 1) := by decide +kernel
theorem dX12_tree_121 : decode cX12_tree 121 = .ok (.iload_n 1, 1) := by decide +kernel
theorem dX12_tree_122 : decode cX12_tree 122 = .ok (.putfield 307, 3) := by decide +kernel
theorem dX12_tree_125 : decode cX12_tree 125 = .ok (.iconst 0, 1) := by decide +kernel
theorem dX12_tree_126 : decode cX12_tree 126 = .ok (.istore 4, 2) := by decide +kernel
theorem dX12_tree_128 : decode cX12_tree 128 = .ok (.iload 4, 2) := by decide +kernel
theorem dX12_tree_130 : decode cX12_tree 130 = .ok (.iload_n 1, 1) := by decide +kernel
theorem dX12_tree_131 : decode cX12_tree 131 = .ok (.if_icmp .ge 43, 3) := by decide +kernel
theorem dX12_tree_134 : decode cX12_tree 134 = .ok (.aload_n 0, 1) := by decide +kernel
theorem dX12_tree_135 : decode cX12_tree 135 = .ok (.getfield 60, 3) := by decide +kernel
theorem dX12_tree_138 : decode cX12_tree 138 = .ok (.iload 4, 2) := by decide +kernel
theorem dX12_tree_140 : decode cX12_tree 140 = .ok (.aload_n 0, 1) := by decide +kernel
theorem dX12_tree_141 : decode cX12_tree 141 = .ok (.getfield 51, 3) := by decide +kernel
theorem dX12_tree_144 : decode cX12_tree 144 = .ok (.iload 4, 2) := by decide +kernel
theorem dX12_tree_146 : decode cX12_tree 146 = .ok (.iaload, 1) := by decide +kernel
theorem dX12_tree_147 : decode cX12_tree 147 = .ok (.iconst (-1), 1) := by decide +kernel
theorem dX12_tree_148 : decode cX12_tree 148 = .ok (.if_icmp .ne 7, 3) := by decide +kernel
theorem dX12_tree_151 : decode cX12_tree 151 = .ok (.iconst (-1), 1) := by decide +kernel
theorem dX12_tree_152 : decode cX12_tree 152 = .ok (.goto 15, 3) := by decide +kernel
theorem dX12_tree_155 : decode cX12_tree 155 = .ok (.aload_n 0, 1) := by decide +kernel
theorem dX12_tree_156 : decode cX12_tree 156 = .ok (.getfield 48, 3) := by decide +kernel
theorem dX12_tree_159 : decode cX12_tree 159 = .ok (.aload_n 0, 1) := by decide +kernel
theorem dX12_tree_160 : decode cX12_tree 160 = .ok (.getfield 51, 3) := by decide +kernel
theorem dX12_tree_163 : decode cX12_tree 163 = .ok (.iload 4, 2) := by decide +kernel
theorem dX12_tree_165 : decode cX12_tree 165 = .ok (.iaload, 1) := by decide +kernel
theorem dX12_tree_166 : decode cX12_tree 166 = .ok (.iaload, 1) := by decide +kernel
theorem dX12_tree_167 : decode cX12_tree 167 = .ok (.iastore, 1) := by decide +kernel
theorem dX12_tree_168 : decode cX12_tree 168 = .ok (.iinc 4 1, 3) := by decide +kernel
theorem dX12_tree_171 : decode cX12_tree 171 = .ok (.goto (-43), 3) := by decide +kernel
theorem dX12_tree_174 : decode cX12_tree 174 = .ok (.iload_n 3, 1) := by decide +kernel
theorem dX12_tree_175 : decode cX12_tree 175 = .ok (.ireturn, 1) := by decide +kernel
theorem dX12_from_0 : decode cX12_from 0 = .ok (.aload_n 0, 1) := by decide +kernel
theorem dX12_from_1 : decode cX12_from 1 = .ok (.iconst 0, 1) := by decide +kernel
theorem dX12_from_2 : decode cX12_from 2 = .ok (.putfield 81, 3) := by decide +kernel
theorem dX12_from_5 : decode cX12_from 5 = .ok (.iload_n 1, 1) := by decide +kernel
theorem dX12_from_6 : decode cX12_from 6 = .ok (.ifCond .lt 20, 3) := by decide +kernel
theorem dX12_from_9 : decode cX12_from 9 = .ok (.iload_n 1, 1) := by decide +kernel
theorem dX12_from_10 : decode cX12_from 10 = .ok (.aload_n 0, 1) := by decide +kernel
theorem dX12_from_11 : decode cX12_from 11 = .ok (.getfield 307, 3) := by decide +kernel
theorem dX12_from_14 : decode cX12_from 14 = .ok (.if_icmp .ge 12, 3) := by decide +kernel
theorem dX12_from_17 : decode cX12_from 17 = .ok (.aload_n 0, 1) := by decide +kernel
theorem dX12_from_18 : decode cX12_from 18 = .ok (.getfield 60, 3) := by decide +kernel
theorem dX12_from_21 : decode cX12_from 21 = .ok (.iload_n 1, 1) := by decide +kernel
theorem dX12_from_22 : decode cX12_from 22 = .ok (.iaload, 1) := by decide +kernel
theorem dX12_from_23 : decode cX12_from 23 = .ok (.goto 4, 3) := by decide +kernel
theorem dX12_from_26 : decode cX12_from 26 = .ok (.iconst (-1), 1) := by decide +kernel
theorem dX12_from_27 : decode cX12_from 27 = .ok (.ireturn, 1) := by decide +kernel
theorem dX12_missing_0 : decode cX12_missing 0 = .ok (.aload_n 0, 1) := by decide +kernel
theorem dX12_missing_1 : decode cX12_missing 1 = .ok (.iconst 0, 1) := by decide +kernel
theorem dX12_missing_2 : decode cX12_missing 2 = .ok (.putfield 81, 3) := by decide +kernel
theorem dX12_missing_5 : decode cX12_missing 5 = .ok (.aload_n 0, 1) := by decide +kernel
theorem dX12_missing_6 : decode cX12_missing 6 = .ok (.invokevirtual 164, 3) := by decide +kernel
theorem dX12_missing_9 : decode cX12_missing 9 = .ok (.aload_n 0, 1) := by decide +kernel
theorem dX12_missing_10 : decode cX12_missing 10 = .ok (.getfield 298, 3) := by decide +kernel
theorem dX12_missing_13 : decode cX12_missing 13 = .ok (.ifCond .eq 12, 3) := by decide +kernel
theorem dX12_missing_16 : decode cX12_missing 16 = .ok (.iload_n 1, 1) := by decide +kernel
theorem dX12_missing_17 : decode cX12_missing 17 = .ok (.iconst 0, 1) := by decide +kernel
theorem dX12_missing_18 : decode cX12_missing 18 = .ok (.iconst 1, 1) := by decide +kernel
theorem dX12_missing_19 : decode cX12_missing 19 = .ok (.invokestatic 151, 3) := by decide +kernel
theorem dX12_missing_22 : decode cX12_missing 22 = .ok (.ifCond .ne 5, 3) := by decide +kernel
theorem dX12_missing_25 : decode cX12_missing 25 = .ok (.iconst (-1), 1) := by decide +kernel
theorem dX12_missing_26 : decode cX12_missing 26 = .ok (.ireturn, 1) := by decide +kernel
theorem dX12_missing_27 : decode cX12_missing 27 = .ok (.iconst 0, 1) := by decide +kernel
theorem dX12_missing_28 : decode cX12_missing 28 = .ok (.istore_n 2, 1) := by decide +kernel
theorem dX12_missing_29 : decode cX12_missing 29 = .ok (.iload_n 2, 1) := by decide +kernel
theorem dX12_missing_30 : decode cX12_missing 30 = .ok (.aload_n 0, 1) := by decide +kernel
theorem dX12_missing_31 : decode cX12_missing 31 = .ok (.getfield 298, 3) := by decide +kernel
theorem dX12_missing_34 : decode cX12_missing 34 = .ok (.if_icmp .ge 24, 3) := by decide +kernel
theorem dX12_missing_37 : decode cX12_missing 37 = .ok (.aload_n 0, 1) := by decide +kernel
theorem dX12_missing_38 : decode cX12_missing 38 = .ok (.aload_n 0, 1) := by decide +kernel
theorem dX12_missing_39 : decode cX12_missing 39 = .ok (.getfield 48, 3) := by decide +kernel
theorem dX12_missing_42 : decode cX12_missing 42 = .ok (.iload_n 2, 1) := by decide +kernel
theorem dX12_missing_43 : decode cX12_missing 43 = .ok (.iaload, 1) := by decide +kernel
theorem dX12_missing_44 : decode cX12_missing 44 = .ok (.invokevirtual 241, 3) := by decide +kernel
theorem dX12_missing_47 : decode cX12_missing 47 = .ok (.ifCond .ne 5, 3) := by decide +kernel
theorem dX12_missing_50 : decode cX12_missing 50 = .ok (.iconst (-1), 1) := by decide +kernel
theorem dX12_missing_51 : decode cX12_missing 51 = .ok (.ireturn, 1) := by decide +kernel
theorem dX12_missing_52 : decode cX12_missing 52 = .ok (.iinc 2 1, 3) := by decide +kernel
theorem dX12_missing_55 : decode cX12_missing 55 = .ok (.goto (-26), 3) := by decide +kernel
theorem dX12_missing_58 : decode cX12_missing 58 = .ok (.aload_n 0, 1) := by decide +kernel
theorem dX12_missing_59 : decode cX12_missing 59 = .ok (.invokevirtual 301, 3) := by decide +kernel
theorem dX12_missing_62 : decode cX12_missing 62 = .ok (.aload_n 0, 1) := by decide +kernel
theorem dX12_missing_63 : decode cX12_missing 63 = .ok (.aload_n 0, 1) := by decide +kernel
theorem dX12_missing_64 : decode cX12_missing 64 = .ok (.getfield 298, 3) := by decide +kernel
theorem dX12_missing_67 : decode cX12_missing 67 = .ok (.invokevirtual 304, 3) := by decide +kernel
theorem dX12_missing_70 : decode cX12_missing 70 = .ok (.istore_n 2, 1) := by decide +kernel
theorem dX12_missing_71 : decode cX12_missing 71 = .ok (.iconst (-1), 1) := by decide +kernel
theorem dX12_missing_72 : decode cX12_missing 72 = .ok (.istore_n 3, 1) := by decide +kernel
theorem dX12_missing_73 : decode cX12_missing 73 = .ok (.iconst 0, 1) := by decide +kernel
theorem dX12_missing_74 : decode cX12_missing 74 = .ok (.istore 4, 2) := by decide +kernel
theorem dX12_missing_76 : decode cX12_missing 76 = .ok (.iload 4, 2) := by decide +kernel
theorem dX12_missing_78 : decode cX12_missing 78 = .ok (.aload_n 0, 1) := by decide +kernel
theorem dX12_missing_79 : decode cX12_missing 79 = .ok (.invokevirtual 251, 3) := by decide +kernel
theorem dX12_missing_82 : decode cX12_missing 82 = .ok (.if_icmp .ge 128, 3) := by decide +kernel
theorem dX12_missing_85 : decode cX12_missing 85 = .ok (.aload_n 0, 1) := by decide +kernel
theorem dX12_missing_86 : decode cX12_missing 86 = .ok (.iload 4, 2) := by decide +kernel
theorem dX12_missing_88 : decode cX12_missing 88 = .ok (.aload_n 0, 1) := by decide +kernel
theorem dX12_missing_89 : decode cX12_missing 89 = .ok (.getfield 42, 3) := by decide +kernel
theorem dX12_missing_92 : decode cX12_missing 92 = .ok (.invokevirtual 292, 3) := by decide +kernel
theorem dX12_missing_95 : decode cX12_missing 95 = .ok (.iconst 0, 1) := by decide +kernel
theorem dX12_missing_96 : decode cX12_missing 96 = .ok (.istore 5, 2) := by decide +kernel
theorem dX12_missing_98 : decode cX12_missing 98 = .ok (.iload 5, 2) := by decide +kernel
theorem dX12_missing_100 : decode cX12_missing 100 = .ok (.aload_n 0, 1) := by decide +kernel
theorem dX12_missing_101 : decode cX12_missing 101 = .ok (.getfield 298, 3) := by decide +kernel
theorem dX12_missing_104 : decode cX12_missing 104 = .ok (.if_icmp .ge 73, 3) := by decide +kernel
theorem dX12_missing_107 : decode cX12_missing 107 = .ok (.aload_n 0, 1) := by decide +kernel
theorem dX12_missing_108 : decode cX12_missing 108 = .ok (.aload_n 0, 1) := by decide +kernel
theorem dX12_missing_109 : decode cX12_missing 109 = .ok (.getfield 48, 3) := by decide +kernel
theorem dX12_missing_112 : decode cX12_missing 112 = .ok (.iload 5, 2) := by decide +kernel
theorem dX12_missing_114 : decode cX12_missing 114 = .ok (.iaload, 1) := by decide +kernel
theorem dX12_missing_115 : decode cX12_missing 115 = .ok (.aload_n 0, 1) := by decide +kernel
theorem dX12_missing_116 : decode cX12_missing 116 = .ok (.getfield 45, 3) := by decide +kernel
theorem dX12_missing_119 : decode cX12_missing 119 = .ok (.invokevirtual 265, 3) := by decide +kernel
theorem dX12_missing_122 : decode cX12_missing 122 = .ok (.aload_n 0, 1) := by decide +kernel
theorem dX12_missing_123 : decode cX12_missing 123 = .ok (.getfield 54, 3) := by decide +kernel
theorem dX12_missing_126 : decode cX12_missing 126 = .ok (.bipush 10, 2) := by decide +kernel
theorem dX12_missing_128 : decode cX12_missing 128 = .ok (.iload 5, 2) := by decide +kernel
theorem dX12_missing_130 : decode cX12_missing 130 = .ok (.imul, 1) := by decide +kernel
theorem dX12_missing_131 : decode cX12_missing 131 = .ok (.aload_n 0, 1) := by decide +kernel
theorem dX12_missing_132 : decode cX12_missing 132 = .ok (.getfield 298, 3) := by decide +kernel
theorem dX12_missing_135 : decode cX12_missing 135 = .ok (.iadd, 1) := by decide +kernel
theorem dX12_missing_136 : decode cX12_missing 136 = .ok (.aload_n 0, 1) := by decide +kernel
theorem dX12_missing_137 : decode cX12_missing 137 = .ok (.invokevirtual 273, 3) := by decide +kernel
theorem dX12_missing_140 : decode cX12_missing 140 = .ok (.iastore, 1) := by decide +kernel
theorem dX12_missing_141 : decode cX12_missing 141 = .ok (.aload_n 0, 1) := by decide +kernel
theorem dX12_missing_142 : decode cX12_missing 142 = .ok (.getfield 54, 3) := by decide +kernel
theorem dX12_missing_145 : decode cX12_missing 145 = .ok (.bipush 10, 2) := by decide +kernel
theorem dX12_missing_147 : decode cX12_missing 147 = .ok (.aload_n 0, 1) := by decide +kernel
theorem dX12_missing_148 : decode cX12_missing 148 = .ok (.getfield 298, 3) := by decide +kernel
theorem dX12_missing_151 : decode cX12_missing 151 = .ok (.imul, 1) := by decide +kernel
theorem dX12_missing_152 : decode cX12_missing 152 = .ok (.iload 5, 2) := by decide +kernel
theorem dX12_missing_154 : decode cX12_missing 154 = .ok (.iadd, 1) := by decide +kernel
theorem dX12_missing_155 : decode cX12_missing 155 = .ok (.aload_n 0, 1) := by decide +kernel
theorem dX12_missing_156 : decode cX12_missing 156 = .ok (.getfield 54, 3) := by decide +kernel
theorem dX12_missing_159 : decode cX12_missing 159 = .ok (.bipush 10, 2) := by decide +kernel
theorem dX12_missing_161 : decode cX12_missing 161 = .ok (.iload 5, 2) := by decide +kernel
theorem dX12_missing_163 : decode cX12_missing 163 = .ok (.imul, 1) := by decide +kernel
theorem dX12_missing_164 : decode cX12_missing 164 = .ok (.aload_n 0, 1) := by decide +kernel
theorem dX12_missing_165 : decode cX12_missing 165 = .ok (.getfield 298, 3) := by decide +kernel
theorem dX12_missing_168 : decode cX12_missing 168 = .ok (.iadd, 1) := by decide +kernel
theorem dX12_missing_169 : decode cX12_missing 169 = .ok (.iaload, 1) := by decide +kernel
theorem dX12_missing_170 : decode cX12_missing 170 = .ok (.iastore, 1) := by decide +kernel
theorem dX12_missing_171 : decode cX12_missing 171 = .ok (.iinc 5 1, 3) := by decide +kernel
theorem dX12_missing_174 : decode cX12_missing 174 = .ok (.goto (-76), 3) := by decide +kernel
theorem dX12_missing_177 : decode cX12_missing 177 = .ok (.aload_n 0, 1) := by decide +kernel
theorem dX12_missing_178 : decode cX12_missing 178 = .ok (.aload_n 0, 1) := by decide +kernel
theorem dX12_missing_179 : decode cX12_missing 179 = .ok (.getfield 298, 3) := by decide +kernel
theorem dX12_missing_182 : decode cX12_missing 182 = .ok (.iconst 1, 1) := by decide +kernel
theorem dX12_missing_183 : decode cX12_missing 183 = .ok (.iadd, 1) := by decide +kernel
theorem dX12_missing_184 : decode cX12_missing 184 = .ok (.invokevirtual 304, 3) := by decide +kernel
theorem dX12_missing_187 : decode cX12_missing 187 = .ok (.istore 5, 2) := by decide +kernel
theorem dX12_missing_189 : decode cX12_missing 189 = .ok (.iload 5, 2) := by decide +kernel
theorem dX12_missing_191 : decode cX12_missing 191 = .ok (.iload_n 2, 1) := by decide +kernel
theorem dX12_missing_192 : decode cX12_missing 192 = .ok (.if_icmp .lt 6, 3) := by decide +kernel
theorem dX12_missing_195 : decode cX12_missing 195 = .ok (.goto 9, 3) := by decide +kernel
theorem dX12_missing_198 : decode cX12_missing 198 = .ok (.iload 5, 2) := by decide +kernel
theorem dX12_missing_200 : decode cX12_missing 200 = .ok (.istore_n 2, 1) := by decide +kernel
theorem dX12_missing_201 : decode cX12_missing 201 = .ok (.iload 4, 2) := by decide +kernel
theorem dX12_missing_203 : decode cX12_missing 203 = .ok (.istore_n 3, 1) := by decide +kernel
theorem dX12_missing_204 : decode cX12_missing 204 = .ok (.iinc 4 1, 3) := by decide +kernel
theorem dX12_missing_207 : decode cX12_missing 207 = .ok (.goto (-131), 3) := by decide +kernel
theorem dX12_missing_210 : decode cX12_missing 210 = .ok (.iload_n 3, 1) := by decide +kernel
theorem dX12_missing_211 : decode cX12_missing 211 = .ok (.iconst (-1), 1) := by decide +kernel
theorem dX12_missing_212 : decode cX12_missing 212 = .ok (.if_icmp .ne 7, 3) := by decide +kernel
theorem dX12_missing_215 : decode cX12_missing 215 = .ok (.iconst (-1), 1) := by decide +kernel
theorem dX12_missing_216 : decode cX12_missing 216 = .ok (.goto 12, 3) := by decide +kernel
theorem dX12_missing_219 : decode cX12_missing 219 = .ok (.iload_n 1, 1) := by decide +kernel
theorem dX12_missing_220 : decode cX12_missing 220 = .ok (.ifCond .ne 7, 3) := by decide +kernel
theorem dX12_missing_223 : decode cX12_missing 223 = .ok (.iload_n 3, 1) := by decide +kernel
theorem dX12_missing_224 : decode cX12_missing 224 = .ok (.goto 4, 3) := by decide +kernel
theorem dX12_missing_227 : decode cX12_missing 227 = .ok (.iload_n 2, 1) := by decide +kernel
theorem dX12_missing_228 : decode cX12_missing 228 = .ok (.ireturn, 1) := by decide +kernel
theorem dX12_layNeighbours_0 : decode cX12_layNeighbours 0 = .ok (.aload_n 0, 1) := by decide +kernel
theorem dX12_layNeighbours_1 : decode cX12_layNeighbours 1 = .ok (.getfield 310, 3) := by decide +kernel
theorem dX12_layNeighbours_4 : decode cX12_layNeighbours 4 = .ok (.aload_n 0, 1) := by decide +kernel
theorem dX12_layNeighbours_5 : decode cX12_layNeighbours 5 = .ok (.invokevirtual 185, 3) := by decide +kernel
theorem dX12_layNeighbours_8 : decode cX12_layNeighbours 8 = .ok (.if_icmp .ne 4, 3) := by decide +kernel
theorem dX12_layNeighbours_11 : decode cX12_layNeighbours 11 = .ok (.return_, 1) := by decide +kernel
theorem dX12_layNeighbours_12 : decode cX12_layNeighbours 12 = .ok (.aload_n 0, 1) := by decide +kernel
theorem dX12_layNeighbours_13 : decode cX12_layNeighbours 13 = .ok (.aload_n 0, 1) := by decide +kernel
theorem dX12_layNeighbours_14 : decode cX12_layNeighbours 14 = .ok (.invokevirtual 185, 3) := by decide +kernel
theorem dX12_layNeighbours_17 : decode cX12_layNeighbours 17 = .ok (.putfield 310, 3) := by decide +kernel
theorem dX12_layNeighbours_20 : decode cX12_layNeighbours 20 = .ok (.iconst 0, 1) := by decide +kernel
theorem dX12_layNeighbours_21 : decode cX12_layNeighbours 21 = .ok (.istore_n 1, 1) := by decide +kernel
theorem dX12_layNeighbours_22 : decode cX12_layNeighbours 22 = .ok (.iload_n 1, 1) := by decide +kernel
theorem dX12_layNeighbours_23 : decode cX12_layNeighbours 23 = .ok (.aload_n 0, 1) := by decide +kernel
theorem dX12_layNeighbours_24 : decode cX12_layNeighbours 24 = .ok (.invokevirtual 251, 3) := by decide +kernel
theorem dX12_layNeighbours_27 : decode cX12_layNeighbours 27 = .ok (.if_icmp .ge 77, 3) := by decide +kernel
theorem dX12_layNeighbours_30 : decode cX12_layNeighbours 30 = .ok (.iconst 0, 1) := by decide +kernel
theorem dX12_layNeighbours_31 : decode cX12_layNeighbours 31 = .ok (.istore_n 2, 1) := by decide +kernel
theorem dX12_layNeighbours_32 : decode cX12_layNeighbours 32 = .ok (.iload_n 2, 1) := by decide +kernel
theorem dX12_layNeighbours_33 : decode cX12_layNeighbours 33 = .ok (.aload_n 0, 1) := by decide +kernel
theorem dX12_layNeighbours_34 : decode cX12_layNeighbours 34 = .ok (.invokevirtual 185, 3) := by decide +kernel
theorem dX12_layNeighbours_37 : decode cX12_layNeighbours 37 = .ok (.iconst 1, 1) := by decide +kernel
theorem dX12_layNeighbours_38 : decode cX12_layNeighbours 38 = .ok (.isub, 1) := by decide +kernel
theorem dX12_layNeighbours_39 : decode cX12_layNeighbours 39 = .ok (.if_icmp .ge 59, 3) := by decide +kernel
theorem dX12_layNeighbours_42 : decode cX12_layNeighbours 42 = .ok (.aload_n 0, 1) := by decide +kernel
theorem dX12_layNeighbours_43 : decode cX12_layNeighbours 43 = .ok (.iload_n 1, 1) := by decide +kernel
theorem dX12_layNeighbours_44 : decode cX12_layNeighbours 44 = .ok (.invokevirtual 257, 3) := by decide +kernel
theorem dX12_layNeighbours_47 : decode cX12_layNeighbours 47 = .ok (.aload_n 0, 1) := by decide +kernel
theorem dX12_layNeighbours_48 : decode cX12_layNeighbours 48 = .ok (.getfield 36, 3) := by decide +kernel
theorem dX12_layNeighbours_51 : decode cX12_layNeighbours 51 = .ok (.iload_n 2, 1) := by decide +kernel
theorem dX12_layNeighbours_52 : decode cX12_layNeighbours 52 = .ok (.iaload, 1) := by decide +kernel
theorem dX12_layNeighbours_53 : decode cX12_layNeighbours 53 = .ok (.istore_n 3, 1) := by decide +kernel
theorem dX12_layNeighbours_54 : decode cX12_layNeighbours 54 = .ok (.aload_n 0, 1) := by decide +kernel
theorem dX12_layNeighbours_55 : decode cX12_layNeighbours 55 = .ok (.getfield 36, 3) := by decide +kernel
theorem dX12_layNeighbours_58 : decode cX12_layNeighbours 58 = .ok (.iload_n 2, 1) := by decide +kernel
theorem dX12_layNeighbours_59 : decode cX12_layNeighbours 59 = .ok (.aload_n 0, 1) := by decide +kernel
theorem dX12_layNeighbours_60 : decode cX12_layNeighbours 60 = .ok (.getfield 36, 3) := by decide +kernel
theorem dX12_layNeighbours_63 : decode cX12_layNeighbours 63 = .ok (.iload_n 2, 1) := by decide +kernel
theorem dX12_layNeighbours_64 : decode cX12_layNeighbours 64 = .ok (.iconst 1, 1) := by decide +kernel
theorem dX12_layNeighbours_65 : decode cX12_layNeighbours 65 = .ok (.iadd, 1) := by decide +kernel
theorem dX12_layNeighbours_66 : decode cX12_layNeighbours 66 = .ok (.iaload, 1) := by decide +kernel
theorem dX12_layNeighbours_67 : decode cX12_layNeighbours 67 = .ok (.iastore, 1) := by decide +kernel
theorem dX12_layNeighbours_68 : decode cX12_layNeighbours 68 = .ok (.aload_n 0, 1) := by decide +kernel
theorem dX12_layNeighbours_69 : decode cX12_layNeighbours 69 = .ok (.getfield 36, 3) := by decide +kernel
theorem dX12_layNeighbours_72 : decode cX12_layNeighbours 72 = .ok (.iload_n 2, 1) := by decide +kernel
theorem dX12_layNeighbours_73 : decode cX12_layNeighbours 73 = .ok (.iconst 1, 1) := by decide +kernel
theorem dX12_layNeighbours_74 : decode cX12_layNeighbours 74 = .ok (.iadd, 1) := by decide +kernel
theorem dX12_layNeighbours_75 : decode cX12_layNeighbours 75 = .ok (.iload_n 3, 1) := by decide +kernel
theorem dX12_layNeighbours_76 : decode cX12_layNeighbours 76 = .ok (.iastore, 1) := by decide +kernel
theorem dX12_layNeighbours_77 : decode cX12_layNeighbours 77 = .ok (.aload_n 0, 1) := by decide +kernel
theorem dX12_layNeighbours_78 : decode cX12_layNeighbours 78 = .ok (.getfield 72, 3) := by decide +kernel
theorem dX12_layNeighbours_81 : decode cX12_layNeighbours 81 = .ok (.bipush 6, 2) := by decide +kernel
theorem dX12_layNeighbours_83 : decode cX12_layNeighbours 83 = .ok (.iload_n 1, 1) := by decide +kernel
theorem dX12_layNeighbours_84 : decode cX12_layNeighbours 84 = .ok (.imul, 1) := by decide +kernel
theorem dX12_layNeighbours_85 : decode cX12_layNeighbours 85 = .ok (.iload_n 2, 1) := by decide +kernel
theorem dX12_layNeighbours_86 : decode cX12_layNeighbours 86 = .ok (.iadd, 1) := by decide +kernel
theorem dX12_layNeighbours_87 : decode cX12_layNeighbours 87 = .ok (.aload_n 0, 1) := by decide +kernel
theorem dX12_layNeighbours_88 : decode cX12_layNeighbours 88 = .ok (.invokevirtual 313, 3) := by decide +kernel
theorem dX12_layNeighbours_91 : decode cX12_layNeighbours 91 = .ok (.iastore, 1) := by decide +kernel
theorem dX12_layNeighbours_92 : decode cX12_layNeighbours 92 = .ok (.iinc 2 1, 3) := by decide +kernel
theorem dX12_layNeighbours_95 : decode cX12_layNeighbours 95 = .ok (.goto (-63), 3) := by decide +kernel
theorem dX12_layNeighbours_98 : decode cX12_layNeighbours 98 = .ok (.iinc 1 1, 3) := by decide +kernel
theorem dX12_layNeighbours_101 : decode cX12_layNeighbours 101 = .ok (.goto (-79), 3) := by decide +kernel
theorem dX12_layNeighbours_104 : decode cX12_layNeighbours 104 = .ok (.return_, 1) := by decide +kernel
theorem dX12_layWays_0 : decode cX12_layWays 0 = .ok (.aload_n 0, 1) := by decide +kernel
theorem dX12_layWays_1 : decode cX12_layWays 1 = .ok (.invokevirtual 316, 3) := by decide +kernel
theorem dX12_layWays_4 : decode cX12_layWays 4 = .ok (.aload_n 0, 1) := by decide +kernel
theorem dX12_layWays_5 : decode cX12_layWays 5 = .ok (.invokevirtual 251, 3) := by decide +kernel
theorem dX12_layWays_8 : decode cX12_layWays 8 = .ok (.istore 4, 2) := by decide +kernel
theorem dX12_layWays_10 : decode cX12_layWays 10 = .ok (.iconst 0, 1) := by decide +kernel
theorem dX12_layWays_11 : decode cX12_layWays 11 = .ok (.istore 5, 2) := by decide +kernel
theorem dX12_layWays_13 : decode cX12_layWays 13 = .ok (.iload 5, 2) := by decide +kernel
theorem dX12_layWays_15 : decode cX12_layWays 15 = .ok (.iload 4, 2) := by decide +kernel
theorem dX12_layWays_17 : decode cX12_layWays 17 = .ok (.if_icmp .ge 17, 3) := by decide +kernel
theorem dX12_layWays_20 : decode cX12_layWays 20 = .ok (.aload_n 0, 1) := by decide +kernel
theorem dX12_layWays_21 : decode cX12_layWays 21 = .ok (.getfield 63, 3) := by decide +kernel
theorem dX12_layWays_24 : decode cX12_layWays 24 = .ok (.iload 5, 2) := by decide +kernel
theorem dX12_layWays_26 : decode cX12_layWays 26 = .ok (.lconst 0, 1) := by decide +kernel
theorem dX12_layWays_27 : decode cX12_layWays 27 = .ok (.lastore, 1) := by decide +kernel
theorem dX12_layWays_28 : decode cX12_layWays 28 = .ok (.iinc 5 1, 3) := by decide +kernel
theorem dX12_layWays_31 : decode cX12_layWays 31 = .ok (.goto (-18), 3) := by decide +kernel
theorem dX12_layWays_34 : decode cX12_layWays 34 = .ok (.aload_n 0, 1) := by decide +kernel
theorem dX12_layWays_35 : decode cX12_layWays 35 = .ok (.getfield 63, 3) := by decide +kernel
theorem dX12_layWays_38 : decode cX12_layWays 38 = .ok (.iload_n 1, 1) := by decide +kernel
theorem dX12_layWays_39 : decode cX12_layWays 39 = .ok (.lconst 1, 1) := by decide +kernel
theorem dX12_layWays_40 : decode cX12_layWays 40 = .ok (.lastore, 1) := by decide +kernel
theorem dX12_layWays_41 : decode cX12_layWays 41 = .ok (.iconst 0, 1) := by decide +kernel
theorem dX12_layWays_42 : decode cX12_layWays 42 = .ok (.istore 5, 2) := by decide +kernel
theorem dX12_layWays_44 : decode cX12_layWays 44 = .ok (.iload 5, 2) := by decide +kernel
theorem dX12_layWays_46 : decode cX12_layWays 46 = .ok (.iload_n 2, 1) := by decide +kernel
theorem dX12_layWays_47 : decode cX12_layWays 47 = .ok (.if_icmp .ge 162, 3) := by decide +kernel
theorem dX12_layWays_50 : decode cX12_layWays 50 = .ok (.iconst 0, 1) := by decide +kernel
theorem dX12_layWays_51 : decode cX12_layWays 51 = .ok (.istore 6, 2) := by decide +kernel
theorem dX12_layWays_53 : decode cX12_layWays 53 = .ok (.iload 6, 2) := by decide +kernel
theorem dX12_layWays_55 : decode cX12_layWays 55 = .ok (.iload 4, 2) := by decide +kernel
theorem dX12_layWays_57 : decode cX12_layWays 57 = .ok (.if_icmp .ge 17, 3) := by decide +kernel
theorem dX12_layWays_60 : decode cX12_layWays 60 = .ok (.aload_n 0, 1) := by decide +kernel
theorem dX12_layWays_61 : decode cX12_layWays 61 = .ok (.getfield 66, 3) := by decide +kernel
theorem dX12_layWays_64 : decode cX12_layWays 64 = .ok (.iload 6, 2) := by decide +kernel
theorem dX12_layWays_66 : decode cX12_layWays 66 = .ok (.lconst 0, 1) := by decide +kernel
theorem dX12_layWays_67 : decode cX12_layWays 67 = .ok (.lastore, 1) := by decide +kernel
theorem dX12_layWays_68 : decode cX12_layWays 68 = .ok (.iinc 6 1, 3) := by decide +kernel
theorem dX12_layWays_71 : decode cX12_layWays 71 = .ok (.goto (-18), 3) := by decide +kernel
theorem dX12_layWays_74 : decode cX12_layWays 74 = .ok (.iconst 0, 1) := by decide +kernel
theorem dX12_layWays_75 : decode cX12_layWays 75 = .ok (.istore 6, 2) := by decide +kernel
theorem dX12_layWays_77 : decode cX12_layWays 77 = .ok (.iload 6, 2) := by decide +kernel
theorem dX12_layWays_79 : decode cX12_layWays 79 = .ok (.iload 4, 2) := by decide +kernel
theorem dX12_layWays_81 : decode cX12_layWays 81 = .ok (.if_icmp .ge 92, 3) := by decide +kernel
theorem dX12_layWays_84 : decode cX12_layWays 84 = .ok (.aload_n 0, 1) := by decide +kernel
theorem dX12_layWays_85 : decode cX12_layWays 85 = .ok (.getfield 63, 3) := by decide +kernel
theorem dX12_layWays_88 : decode cX12_layWays 88 = .ok (.iload 6, 2) := by decide +kernel
theorem dX12_layWays_90 : decode cX12_layWays 90 = .ok (.laload, 1) := by decide +kernel
theorem dX12_layWays_91 : decode cX12_layWays 91 = .ok (.lconst 0, 1) := by decide +kernel
theorem dX12_layWays_92 : decode cX12_layWays 92 = .ok (.lcmp, 1) := by decide +kernel
theorem dX12_layWays_93 : decode cX12_layWays 93 = .ok (.ifCond .ne 6, 3) := by decide +kernel
theorem dX12_layWays_96 : decode cX12_layWays 96 = .ok (.goto 71, 3) := by decide +kernel
theorem dX12_layWays_99 : decode cX12_layWays 99 = .ok (.iconst 0, 1) := by decide +kernel
theorem dX12_layWays_100 : decode cX12_layWays 100 = .ok (.istore 7, 2) := by decide +kernel
theorem dX12_layWays_102 : decode cX12_layWays 102 = .ok (.iload 7, 2) := by decide +kernel
theorem dX12_layWays_104 : decode cX12_layWays 104 = .ok (.aload_n 0, 1) := by decide +kernel
theorem dX12_layWays_105 : decode cX12_layWays 105 = .ok (.invokevirtual 185, 3) := by decide +kernel
theorem dX12_layWays_108 : decode cX12_layWays 108 = .ok (.iconst 1, 1) := by decide +kernel
theorem dX12_layWays_109 : decode cX12_layWays 109 = .ok (.isub, 1) := by decide +kernel
theorem dX12_layWays_110 : decode cX12_layWays 110 = .ok (.if_icmp .ge 57, 3) := by decide +kernel
theorem dX12_layWays_113 : decode cX12_layWays 113 = .ok (.aload_n 0, 1) := by decide +kernel
theorem dX12_layWays_114 : decode cX12_layWays 114 = .ok (.getfield 66, 3) := by decide +kernel
theorem dX12_layWays_117 : decode cX12_layWays 117 = .ok (.aload_n 0, 1) := by decide +kernel
theorem dX12_layWays_118 : decode cX12_layWays 118 = .ok (.getfield 72, 3) := by decide +kernel
theorem dX12_layWays_121 : decode cX12_layWays 121 = .ok (.bipush 6, 2) := by decide +kernel
theorem dX12_layWays_123 : decode cX12_layWays 123 = .ok (.iload 6, 2) := by decide +kernel
theorem dX12_layWays_125 : decode cX12_layWays 125 = .ok (.imul, 1) := by decide +kernel
theorem dX12_layWays_126 : decode cX12_layWays 126 = .ok (.iload 7, 2) := by decide +kernel
theorem dX12_layWays_128 : decode cX12_layWays 128 = .ok (.iadd, 1) := by decide +kernel
theorem dX12_layWays_129 : decode cX12_layWays 129 = .ok (.iaload, 1) := by decide +kernel
theorem dX12_layWays_130 : decode cX12_layWays 130 = .ok (.dup2, 1) := by decide +kernel
theorem dX12_layWays_131 : decode cX12_layWays 131 = .ok (.laload, 1) := by decide +kernel
theorem dX12_layWays_132 : decode cX12_layWays 132 = .ok (.aload_n 0, 1) := by decide +kernel
theorem dX12_layWays_133 : decode cX12_layWays 133 = .ok (.getfield 63, 3) := by decide +kernel
theorem dX12_layWays_136 : decode cX12_layWays 136 = .ok (.iload 6, 2) := by decide +kernel
theorem dX12_layWays_138 : decode cX12_layWays 138 = .ok (.laload, 1) := by decide +kernel
theorem dX12_layWays_139 : decode cX12_layWays 139 = .ok (.iload_n 3, 1) := by decide +kernel
theorem dX12_layWays_140 : decode cX12_layWays 140 = .ok (.ifCond .eq 7, 3) := by decide +kernel
theorem dX12_layWays_143 : decode cX12_layWays 143 = .ok (.iconst 1, 1) := by decide +kernel
theorem dX12_layWays_144 : decode cX12_layWays 144 = .ok (.goto 13, 3) := by decide +kernel
theorem dX12_layWays_147 : decode cX12_layWays 147 = .ok (.aload_n 0, 1) := by decide +kernel
theorem dX12_layWays_148 : decode cX12_layWays 148 = .ok (.getfield 13, 3) := by decide +kernel
theorem dX12_layWays_151 : decode cX12_layWays 151 = .ok (.bipush 102, 2) := by decide +kernel
theorem dX12_layWays_153 : decode cX12_layWays 153 = .ok (.iload 7, 2) := by decide +kernel
theorem dX12_layWays_155 : decode cX12_layWays 155 = .ok (.iadd, 1) := by decide +kernel
theorem dX12_layWays_156 : decode cX12_layWays 156 = .ok (.iaload, 1) := by decide +kernel
theorem dX12_layWays_157 : decode cX12_layWays 157 = .ok (.i2l, 1) := by decide +kernel
theorem dX12_layWays_158 : decode cX12_layWays 158 = .ok (.lmul, 1) := by decide +kernel
theorem dX12_layWays_159 : decode cX12_layWays 159 = .ok (.ladd, 1) := by decide +kernel
theorem dX12_layWays_160 : decode cX12_layWays 160 = .ok (.lastore, 1) := by decide +kernel
theorem dX12_layWays_161 : decode cX12_layWays 161 = .ok (.iinc 7 1, 3) := by decide +kernel
theorem dX12_layWays_164 : decode cX12_layWays 164 = .ok (.goto (-62), 3) := by decide +kernel
theorem dX12_layWays_167 : decode cX12_layWays 167 = .ok (.iinc 6 1, 3) := by decide +kernel
theorem dX12_layWays_170 : decode cX12_layWays 170 = .ok (.goto (-93), 3) := by decide +kernel
theorem dX12_layWays_173 : decode cX12_layWays 173 = .ok (.iconst 0, 1) := by decide +kernel
theorem dX12_layWays_174 : decode cX12_layWays 174 = .ok (.istore 6, 2) := by decide +kernel
theorem dX12_layWays_176 : decode cX12_layWays 176 = .ok (.iload 6, 2) := by decide +kernel
theorem dX12_layWays_178 : decode cX12_layWays 178 = .ok (.iload 4, 2) := by decide +kernel
theorem dX12_layWays_180 : decode cX12_layWays 180 = .ok (.if_icmp .ge 23, 3) := by decide +kernel
theorem dX12_layWays_183 : decode cX12_layWays 183 = .ok (.aload_n 0, 1) := by decide +kernel
theorem dX12_layWays_184 : decode cX12_layWays 184 = .ok (.getfield 63, 3) := by decide +kernel
theorem dX12_layWays_187 : decode cX12_layWays 187 = .ok (.iload 6, 2) := by decide +kernel
theorem dX12_layWays_189 : decode cX12_layWays 189 = .ok (.aload_n 0, 1) := by decide +kernel
theorem dX12_layWays_190 : decode cX12_layWays 190 = .ok (.getfield 66, 3) := by decide +kernel
theorem dX12_layWays_193 : decode cX12_layWays 193 = .ok (.iload 6, 2) := by decide +kernel
theorem dX12_layWays_195 : decode cX12_layWays 195 = .ok (.laload, 1) := by decide +kernel
theorem dX12_layWays_196 : decode cX12_layWays 196 = .ok (.lastore, 1) := by decide +kernel
theorem dX12_layWays_197 : decode cX12_layWays 197 = .ok (.iinc 6 1, 3) := by decide +kernel
theorem dX12_layWays_200 : decode cX12_layWays 200 = .ok (.goto (-24), 3) := by decide +kernel
theorem dX12_layWays_203 : decode cX12_layWays 203 = .ok (.iinc 5 1, 3) := by decide +kernel
theorem dX12_layWays_206 : decode cX12_layWays 206 = .ok (.goto (-162), 3) := by decide +kernel
theorem dX12_layWays_209 : decode cX12_layWays 209 = .ok (.return_, 1) := by decide +kernel
theorem dX12_ways_0 : decode cX12_ways 0 = .ok (.aload_n 0, 1) := by decide +kernel
theorem dX12_ways_1 : decode cX12_ways 1 = .ok (.iconst 0, 1) := by decide +kernel
theorem dX12_ways_2 : decode cX12_ways 2 = .ok (.putfield 81, 3) := by decide +kernel
theorem dX12_ways_5 : decode cX12_ways 5 = .ok (.aload_n 0, 1) := by decide +kernel
theorem dX12_ways_6 : decode cX12_ways 6 = .ok (.invokevirtual 164, 3) := by decide +kernel
theorem dX12_ways_9 : decode cX12_ways 9 = .ok (.aload_n 0, 1) := by decide +kernel
theorem dX12_ways_10 : decode cX12_ways 10 = .ok (.iload_n 1, 1) := by decide +kernel
theorem dX12_ways_11 : decode cX12_ways 11 = .ok (.invokevirtual 254, 3) := by decide +kernel
theorem dX12_ways_14 : decode cX12_ways 14 = .ok (.ifCond .eq 21, 3) := by decide +kernel
theorem dX12_ways_17 : decode cX12_ways 17 = .ok (.aload_n 0, 1) := by decide +kernel
theorem dX12_ways_18 : decode cX12_ways 18 = .ok (.iload_n 2, 1) := by decide +kernel
theorem dX12_ways_19 : decode cX12_ways 19 = .ok (.invokevirtual 254, 3) := by decide +kernel
theorem dX12_ways_22 : decode cX12_ways 22 = .ok (.ifCond .eq 13, 3) := by decide +kernel
theorem dX12_ways_25 : decode cX12_ways 25 = .ok (.iload_n 3, 1) := by decide +kernel
theorem dX12_ways_26 : decode cX12_ways 26 = .ok (.iconst 0, 1) := by decide +kernel
theorem dX12_ways_27 : decode cX12_ways 27 = .ok (.bipush 10, 2) := by decide +kernel
theorem dX12_ways_29 : decode cX12_ways 29 = .ok (.invokestatic 151, 3) := by decide +kernel
theorem dX12_ways_32 : decode cX12_ways 32 = .ok (.ifCond .ne 7, 3) := by decide +kernel
theorem dX12_ways_35 : decode cX12_ways 35 = .ok (.ldc2_w 319, 3) := by decide +kernel
theorem dX12_ways_38 : decode cX12_ways 38 = .ok (.lreturn, 1) := by decide +kernel
theorem dX12_ways_39 : decode cX12_ways 39 = .ok (.aload_n 0, 1) := by decide +kernel
theorem dX12_ways_40 : decode cX12_ways 40 = .ok (.iload_n 1, 1) := by decide +kernel
theorem dX12_ways_41 : decode cX12_ways 41 = .ok (.iload_n 3, 1) := by decide +kernel
theorem dX12_ways_42 : decode cX12_ways 42 = .ok (.iconst 0, 1) := by decide +kernel
theorem dX12_ways_43 : decode cX12_ways 43 = .ok (.invokevirtual 321, 3) := by decide +kernel
theorem dX12_ways_46 : decode cX12_ways 46 = .ok (.aload_n 0, 1) := by decide +kernel
theorem dX12_ways_47 : decode cX12_ways 47 = .ok (.getfield 63, 3) := by decide +kernel
theorem dX12_ways_50 : decode cX12_ways 50 = .ok (.iload_n 2, 1) := by decide +kernel
theorem dX12_ways_51 : decode cX12_ways 51 = .ok (.laload, 1) := by decide +kernel
theorem dX12_ways_52 : decode cX12_ways 52 = .ok (.lreturn, 1) := by decide +kernel
theorem dX12_orderOf_0 : decode cX12_orderOf 0 = .ok (.iconst 0, 1) := by decide +kernel
theorem dX12_orderOf_1 : decode cX12_orderOf 1 = .ok (.istore_n 2, 1) := by decide +kernel
theorem dX12_orderOf_2 : decode cX12_orderOf 2 = .ok (.iload_n 2, 1) := by decide +kernel
theorem dX12_orderOf_3 : decode cX12_orderOf 3 = .ok (.aload_n 0, 1) := by decide +kernel
theorem dX12_orderOf_4 : decode cX12_orderOf 4 = .ok (.invokevirtual 185, 3) := by decide +kernel
theorem dX12_orderOf_7 : decode cX12_orderOf 7 = .ok (.if_icmp .ge 21, 3) := by decide +kernel
theorem dX12_orderOf_10 : decode cX12_orderOf 10 = .ok (.aload_n 0, 1) := by decide +kernel
theorem dX12_orderOf_11 : decode cX12_orderOf 11 = .ok (.getfield 36, 3) := by decide +kernel
theorem dX12_orderOf_14 : decode cX12_orderOf 14 = .ok (.iload_n 2, 1) := by decide +kernel
theorem dX12_orderOf_15 : decode cX12_orderOf 15 = .ok (.aload_n 0, 1) := by decide +kernel
theorem dX12_orderOf_16 : decode cX12_orderOf 16 = .ok (.iload_n 1, 1) := by decide +kernel
theorem dX12_orderOf_17 : decode cX12_orderOf 17 = .ok (.iload_n 2, 1) := by decide +kernel
theorem dX12_orderOf_18 : decode cX12_orderOf 18 = .ok (.invokevirtual 247, 3) := by decide +kernel
theorem dX12_orderOf_21 : decode cX12_orderOf 21 = .ok (.iastore, 1) := by decide +kernel
theorem dX12_orderOf_22 : decode cX12_orderOf 22 = .ok (.iinc 2 1, 3) := by decide +kernel
theorem dX12_orderOf_25 : decode cX12_orderOf 25 = .ok (.goto (-23), 3) := by decide +kernel
theorem dX12_orderOf_28 : decode cX12_orderOf 28 = .ok (.aload_n 0, 1) := by decide +kernel
theorem dX12_orderOf_29 : decode cX12_orderOf 29 = .ok (.invokevirtual 313, 3) := by decide +kernel
theorem dX12_orderOf_32 : decode cX12_orderOf 32 = .ok (.ireturn, 1) := by decide +kernel
theorem dX12_likeliest_0 : decode cX12_likeliest 0 = .ok (.aload_n 0, 1) := by decide +kernel
theorem dX12_likeliest_1 : decode cX12_likeliest 1 = .ok (.iconst 0, 1) := by decide +kernel
theorem dX12_likeliest_2 : decode cX12_likeliest 2 = .ok (.putfield 81, 3) := by decide +kernel
theorem dX12_likeliest_5 : decode cX12_likeliest 5 = .ok (.aload_n 0, 1) := by decide +kernel
theorem dX12_likeliest_6 : decode cX12_likeliest 6 = .ok (.invokevirtual 164, 3) := by decide +kernel
theorem dX12_likeliest_9 : decode cX12_likeliest 9 = .ok (.aload_n 0, 1) := by decide +kernel
theorem dX12_likeliest_10 : decode cX12_likeliest 10 = .ok (.iload_n 1, 1) := by decide +kernel
theorem dX12_likeliest_11 : decode cX12_likeliest 11 = .ok (.iload_n 3, 1) := by decide +kernel
theorem dX12_likeliest_12 : decode cX12_likeliest 12 = .ok (.invokevirtual 282, 3) := by decide +kernel
theorem dX12_likeliest_15 : decode cX12_likeliest 15 = .ok (.ifCond .eq 22, 3) := by decide +kernel
theorem dX12_likeliest_18 : decode cX12_likeliest 18 = .ok (.iload_n 2, 1) := by decide +kernel
theorem dX12_likeliest_19 : decode cX12_likeliest 19 = .ok (.iconst 0, 1) := by decide +kernel
theorem dX12_likeliest_20 : decode cX12_likeliest 20 = .ok (.iconst 5, 1) := by decide +kernel
theorem dX12_likeliest_21 : decode cX12_likeliest 21 = .ok (.invokestatic 151, 3) := by decide +kernel
theorem dX12_likeliest_24 : decode cX12_likeliest 24 = .ok (.ifCond .eq 13, 3) := by decide +kernel
theorem dX12_likeliest_27 : decode cX12_likeliest 27 = .ok (.iload 4, 2) := by decide +kernel
theorem dX12_likeliest_29 : decode cX12_likeliest 29 = .ok (.iconst 0, 1) := by decide +kernel
theorem dX12_likeliest_30 : decode cX12_likeliest 30 = .ok (.iconst 5, 1) := by decide +kernel
theorem dX12_likeliest_31 : decode cX12_likeliest 31 = .ok (.invokestatic 151, 3) := by decide +kernel
theorem dX12_likeliest_34 : decode cX12_likeliest 34 = .ok (.ifCond .ne 6, 3) := by decide +kernel
theorem dX12_likeliest_37 : decode cX12_likeliest 37 = .ok (.bipush (-2), 2) := by decide +kernel
theorem dX12_likeliest_39 : decode cX12_likeliest 39 = .ok (.ireturn, 1) := by decide +kernel
theorem dX12_likeliest_40 : decode cX12_likeliest 40 = .ok (.aload_n 0, 1) := by decide +kernel
theorem dX12_likeliest_41 : decode cX12_likeliest 41 = .ok (.aload_n 0, 1) := by decide +kernel
theorem dX12_likeliest_42 : decode cX12_likeliest 42 = .ok (.iload_n 1, 1) := by decide +kernel
theorem dX12_likeliest_43 : decode cX12_likeliest 43 = .ok (.invokevirtual 325, 3) := by decide +kernel
theorem dX12_likeliest_46 : decode cX12_likeliest 46 = .ok (.iload_n 2, 1) := by decide +kernel
theorem dX12_likeliest_47 : decode cX12_likeliest 47 = .ok (.iconst 0, 1) := by decide +kernel
theorem dX12_likeliest_48 : decode cX12_likeliest 48 = .ok (.invokevirtual 321, 3) := by decide +kernel
theorem dX12_likeliest_51 : decode cX12_likeliest 51 = .ok (.iconst 0, 1) := by decide +kernel
theorem dX12_likeliest_52 : decode cX12_likeliest 52 = .ok (.istore 5, 2) := by decide +kernel
theorem dX12_likeliest_54 : decode cX12_likeliest 54 = .ok (.iload 5, 2) := by decide +kernel
theorem dX12_likeliest_56 : decode cX12_likeliest 56 = .ok (.aload_n 0, 1) := by decide +kernel
theorem dX12_likeliest_57 : decode cX12_likeliest 57 = .ok (.invokevirtual 251, 3) := by decide +kernel
theorem dX12_likeliest_60 : decode cX12_likeliest 60 = .ok (.if_icmp .ge 23, 3) := by decide +kernel
theorem dX12_likeliest_63 : decode cX12_likeliest 63 = .ok (.aload_n 0, 1) := by decide +kernel
theorem dX12_likeliest_64 : decode cX12_likeliest 64 = .ok (.getfield 69, 3) := by decide +kernel
theorem dX12_likeliest_67 : decode cX12_likeliest 67 = .ok (.iload 5, 2) := by decide +kernel
theorem dX12_likeliest_69 : decode cX12_likeliest 69 = .ok (.aload_n 0, 1) := by decide +kernel
theorem dX12_likeliest_70 : decode cX12_likeliest 70 = .ok (.getfield 63, 3) := by decide +kernel
theorem dX12_likeliest_73 : decode cX12_likeliest 73 = .ok (.iload 5, 2) := by decide +kernel
theorem dX12_likeliest_75 : decode cX12_likeliest 75 = .ok (.laload, 1) := by decide +kernel
theorem dX12_likeliest_76 : decode cX12_likeliest 76 = .ok (.lastore, 1) := by decide +kernel
theorem dX12_likeliest_77 : decode cX12_likeliest 77 = .ok (.iinc 5 1, 3) := by decide +kernel
theorem dX12_likeliest_80 : decode cX12_likeliest 80 = .ok (.goto (-26), 3) := by decide +kernel
theorem dX12_likeliest_83 : decode cX12_likeliest 83 = .ok (.aload_n 0, 1) := by decide +kernel
theorem dX12_likeliest_84 : decode cX12_likeliest 84 = .ok (.aload_n 0, 1) := by decide +kernel
theorem dX12_likeliest_85 : decode cX12_likeliest 85 = .ok (.iload_n 3, 1) := by decide +kernel
theorem dX12_likeliest_86 : decode cX12_likeliest 86 = .ok (.invokevirtual 325, 3) := by decide +kernel
theorem dX12_likeliest_89 : decode cX12_likeliest 89 = .ok (.iload 4, 2) := by decide +kernel
theorem dX12_likeliest_91 : decode cX12_likeliest 91 = .ok (.iconst 0, 1) := by decide +kernel
theorem dX12_likeliest_92 : decode cX12_likeliest 92 = .ok (.invokevirtual 321, 3) := by decide +kernel
theorem dX12_likeliest_95 : decode cX12_likeliest 95 = .ok (.iconst (-1), 1) := by decide +kernel
theorem dX12_likeliest_96 : decode cX12_likeliest 96 = .ok (.istore 5, 2) := by decide +kernel
theorem dX12_likeliest_98 : decode cX12_likeliest 98 = .ok (.lconst 0, 1) := by decide +kernel
theorem dX12_likeliest_99 : decode cX12_likeliest 99 = .ok (.lstore 6, 2) := by decide +kernel
theorem dX12_likeliest_101 : decode cX12_likeliest 101 = .ok (.iconst 0, 1) := by decide +kernel
theorem dX12_likeliest_102 : decode cX12_likeliest 102 = .ok (.istore 8, 2) := by decide +kernel
theorem dX12_likeliest_104 : decode cX12_likeliest 104 = .ok (.iload 8, 2) := by decide +kernel
theorem dX12_likeliest_106 : decode cX12_likeliest 106 = .ok (.aload_n 0, 1) := by decide +kernel
theorem dX12_likeliest_107 : decode cX12_likeliest 107 = .ok (.invokevirtual 251, 3) := by decide +kernel
theorem dX12_likeliest_110 : decode cX12_likeliest 110 = .ok (.if_icmp .ge 45, 3) := by decide +kernel
theorem dX12_likeliest_113 : decode cX12_likeliest 113 = .ok (.aload_n 0, 1) := by decide +kernel
theorem dX12_likeliest_114 : decode cX12_likeliest 114 = .ok (.getfield 69, 3) := by decide +kernel
theorem dX12_likeliest_117 : decode cX12_likeliest 117 = .ok (.iload 8, 2) := by decide +kernel
theorem dX12_likeliest_119 : decode cX12_likeliest 119 = .ok (.laload, 1) := by decide +kernel
theorem dX12_likeliest_120 : decode cX12_likeliest 120 = .ok (.aload_n 0, 1) := by decide +kernel
theorem dX12_likeliest_121 : decode cX12_likeliest 121 = .ok (.getfield 63, 3) := by decide +kernel
theorem dX12_likeliest_124 : decode cX12_likeliest 124 = .ok (.iload 8, 2) := by decide +kernel
theorem dX12_likeliest_126 : decode cX12_likeliest 126 = .ok (.laload, 1) := by decide +kernel
theorem dX12_likeliest_127 : decode cX12_likeliest 127 = .ok (.lmul, 1) := by decide +kernel
theorem dX12_likeliest_128 : decode cX12_likeliest 128 = .ok (.lstore 9, 2) := by decide +kernel
theorem dX12_likeliest_130 : decode cX12_likeliest 130 = .ok (.lload 9, 2) := by decide +kernel
theorem dX12_likeliest_132 : decode cX12_likeliest 132 = .ok (.lload 6, 2) := by decide +kernel
theorem dX12_likeliest_134 : decode cX12_likeliest 134 = .ok (.lcmp, 1) := by decide +kernel
theorem dX12_likeliest_135 : decode cX12_likeliest 135 = .ok (.ifCond .gt 6, 3) := by decide +kernel
theorem dX12_likeliest_138 : decode cX12_likeliest 138 = .ok (.goto 11, 3) := by decide +kernel
theorem dX12_likeliest_141 : decode cX12_likeliest 141 = .ok (.lload 9, 2) := by decide +kernel
theorem dX12_likeliest_143 : decode cX12_likeliest 143 = .ok (.lstore 6, 2) := by decide +kernel
theorem dX12_likeliest_145 : decode cX12_likeliest 145 = .ok (.iload 8, 2) := by decide +kernel
theorem dX12_likeliest_147 : decode cX12_likeliest 147 = .ok (.istore 5, 2) := by decide +kernel
theorem dX12_likeliest_149 : decode cX12_likeliest 149 = .ok (.iinc 8 1, 3) := by decide +kernel
theorem dX12_likeliest_152 : decode cX12_likeliest 152 = .ok (.goto (-48), 3) := by decide +kernel
theorem dX12_likeliest_155 : decode cX12_likeliest 155 = .ok (.iload 5, 2) := by decide +kernel
theorem dX12_likeliest_157 : decode cX12_likeliest 157 = .ok (.iconst (-1), 1) := by decide +kernel
theorem dX12_likeliest_158 : decode cX12_likeliest 158 = .ok (.if_icmp .eq 9, 3) := by decide +kernel
theorem dX12_likeliest_161 : decode cX12_likeliest 161 = .ok (.aload_n 0, 1) := by decide +kernel
theorem dX12_likeliest_162 : decode cX12_likeliest 162 = .ok (.lload 6, 2) := by decide +kernel
theorem dX12_likeliest_164 : decode cX12_likeliest 164 = .ok (.putfield 328, 3) := by decide +kernel
theorem dX12_likeliest_167 : decode cX12_likeliest 167 = .ok (.iload 5, 2) := by decide +kernel
theorem dX12_likeliest_169 : decode cX12_likeliest 169 = .ok (.ireturn, 1) := by decide +kernel
theorem dX12_likely_0 : decode cX12_likely 0 = .ok (.aload_n 0, 1) := by decide +kernel
theorem dX12_likely_1 : decode cX12_likely 1 = .ok (.iconst 0, 1) := by decide +kernel
theorem dX12_likely_2 : decode cX12_likely 2 = .ok (.putfield 81, 3) := by decide +kernel
theorem dX12_likely_5 : decode cX12_likely 5 = .ok (.aload_n 0, 1) := by decide +kernel
theorem dX12_likely_6 : decode cX12_likely 6 = .ok (.getfield 328, 3) := by decide +kernel
theorem dX12_likely_9 : decode cX12_likely 9 = .ok (.lreturn, 1) := by decide +kernel
theorem dX12_firsts_0 : decode cX12_firsts 0 = .ok (.aload_n 0, 1) := by decide +kernel
theorem dX12_firsts_1 : decode cX12_firsts 1 = .ok (.iconst 0, 1) := by decide +kernel
theorem dX12_firsts_2 : decode cX12_firsts 2 = .ok (.putfield 81, 3) := by decide +kernel
theorem dX12_firsts_5 : decode cX12_firsts 5 = .ok (.aload_n 0, 1) := by decide +kernel
theorem dX12_firsts_6 : decode cX12_firsts 6 = .ok (.invokevirtual 164, 3) := by decide +kernel
theorem dX12_firsts_9 : decode cX12_firsts 9 = .ok (.aload_n 0, 1) := by decide +kernel
theorem dX12_firsts_10 : decode cX12_firsts 10 = .ok (.iload_n 1, 1) := by decide +kernel
theorem dX12_firsts_11 : decode cX12_firsts 11 = .ok (.invokevirtual 254, 3) := by decide +kernel
theorem dX12_firsts_14 : decode cX12_firsts 14 = .ok (.ifCond .eq 13, 3) := by decide +kernel
theorem dX12_firsts_17 : decode cX12_firsts 17 = .ok (.iload_n 2, 1) := by decide +kernel
theorem dX12_firsts_18 : decode cX12_firsts 18 = .ok (.iconst 0, 1) := by decide +kernel
theorem dX12_firsts_19 : decode cX12_firsts 19 = .ok (.bipush 10, 2) := by decide +kernel
theorem dX12_firsts_21 : decode cX12_firsts 21 = .ok (.invokestatic 151, 3) := by decide +kernel
theorem dX12_firsts_24 : decode cX12_firsts 24 = .ok (.ifCond .ne 5, 3) := by decide +kernel
theorem dX12_firsts_27 : decode cX12_firsts 27 = .ok (.iconst (-1), 1) := by decide +kernel
theorem dX12_firsts_28 : decode cX12_firsts 28 = .ok (.ireturn, 1) := by decide +kernel
theorem dX12_firsts_29 : decode cX12_firsts 29 = .ok (.aload_n 0, 1) := by decide +kernel
theorem dX12_firsts_30 : decode cX12_firsts 30 = .ok (.iload_n 1, 1) := by decide +kernel
theorem dX12_firsts_31 : decode cX12_firsts 31 = .ok (.iload_n 2, 1) := by decide +kernel
theorem dX12_firsts_32 : decode cX12_firsts 32 = .ok (.iconst 0, 1) := by decide +kernel
theorem dX12_firsts_33 : decode cX12_firsts 33 = .ok (.invokevirtual 321, 3) := by decide +kernel
theorem dX12_firsts_36 : decode cX12_firsts 36 = .ok (.iconst 0, 1) := by decide +kernel
theorem dX12_firsts_37 : decode cX12_firsts 37 = .ok (.istore_n 3, 1) := by decide +kernel
theorem dX12_firsts_38 : decode cX12_firsts 38 = .ok (.iconst 0, 1) := by decide +kernel
theorem dX12_firsts_39 : decode cX12_firsts 39 = .ok (.istore 4, 2) := by decide +kernel
theorem dX12_firsts_41 : decode cX12_firsts 41 = .ok (.iload 4, 2) := by decide +kernel
theorem dX12_firsts_43 : decode cX12_firsts 43 = .ok (.aload_n 0, 1) := by decide +kernel
theorem dX12_firsts_44 : decode cX12_firsts 44 = .ok (.invokevirtual 251, 3) := by decide +kernel
theorem dX12_firsts_47 : decode cX12_firsts 47 = .ok (.if_icmp .ge 24, 3) := by decide +kernel
theorem dX12_firsts_50 : decode cX12_firsts 50 = .ok (.aload_n 0, 1) := by decide +kernel
theorem dX12_firsts_51 : decode cX12_firsts 51 = .ok (.getfield 63, 3) := by decide +kernel
theorem dX12_firsts_54 : decode cX12_firsts 54 = .ok (.iload 4, 2) := by decide +kernel
theorem dX12_firsts_56 : decode cX12_firsts 56 = .ok (.laload, 1) := by decide +kernel
theorem dX12_firsts_57 : decode cX12_firsts 57 = .ok (.lconst 0, 1) := by decide +kernel
theorem dX12_firsts_58 : decode cX12_firsts 58 = .ok (.lcmp, 1) := by decide +kernel
theorem dX12_firsts_59 : decode cX12_firsts 59 = .ok (.ifCond .le 6, 3) := by decide +kernel
theorem dX12_firsts_62 : decode cX12_firsts 62 = .ok (.iinc 3 1, 3) := by decide +kernel
theorem dX12_firsts_65 : decode cX12_firsts 65 = .ok (.iinc 4 1, 3) := by decide +kernel
theorem dX12_firsts_68 : decode cX12_firsts 68 = .ok (.goto (-27), 3) := by decide +kernel
theorem dX12_firsts_71 : decode cX12_firsts 71 = .ok (.iload_n 3, 1) := by decide +kernel
theorem dX12_firsts_72 : decode cX12_firsts 72 = .ok (.ireturn, 1) := by decide +kernel
theorem dX12_allLikely_0 : decode cX12_allLikely 0 = .ok (.iconst 0, 1) := by decide +kernel
theorem dX12_allLikely_1 : decode cX12_allLikely 1 = .ok (.istore_n 1, 1) := by decide +kernel
theorem dX12_allLikely_2 : decode cX12_allLikely 2 = .ok (.iconst 0, 1) := by decide +kernel
theorem dX12_allLikely_3 : decode cX12_allLikely 3 = .ok (.istore_n 2, 1) := by decide +kernel
theorem dX12_allLikely_4 : decode cX12_allLikely 4 = .ok (.iload_n 2, 1) := by decide +kernel
theorem dX12_allLikely_5 : decode cX12_allLikely 5 = .ok (.aload_n 0, 1) := by decide +kernel
theorem dX12_allLikely_6 : decode cX12_allLikely 6 = .ok (.invokevirtual 185, 3) := by decide +kernel
theorem dX12_allLikely_9 : decode cX12_allLikely 9 = .ok (.iconst 1, 1) := by decide +kernel
theorem dX12_allLikely_10 : decode cX12_allLikely 10 = .ok (.isub, 1) := by decide +kernel
theorem dX12_allLikely_11 : decode cX12_allLikely 11 = .ok (.if_icmp .ge 21, 3) := by decide +kernel
theorem dX12_allLikely_14 : decode cX12_allLikely 14 = .ok (.iload_n 1, 1) := by decide +kernel
theorem dX12_allLikely_15 : decode cX12_allLikely 15 = .ok (.aload_n 0, 1) := by decide +kernel
theorem dX12_allLikely_16 : decode cX12_allLikely 16 = .ok (.getfield 13, 3) := by decide +kernel
theorem dX12_allLikely_19 : decode cX12_allLikely 19 = .ok (.bipush 102, 2) := by decide +kernel
theorem dX12_allLikely_21 : decode cX12_allLikely 21 = .ok (.iload_n 2, 1) := by decide +kernel
theorem dX12_allLikely_22 : decode cX12_allLikely 22 = .ok (.iadd, 1) := by decide +kernel
theorem dX12_allLikely_23 : decode cX12_allLikely 23 = .ok (.iaload, 1) := by decide +kernel
theorem dX12_allLikely_24 : decode cX12_allLikely 24 = .ok (.iadd, 1) := by decide +kernel
theorem dX12_allLikely_25 : decode cX12_allLikely 25 = .ok (.istore_n 1, 1) := by decide +kernel
theorem dX12_allLikely_26 : decode cX12_allLikely 26 = .ok (.iinc 2 1, 3) := by decide +kernel
theorem dX12_allLikely_29 : decode cX12_allLikely 29 = .ok (.goto (-25), 3) := by decide +kernel
theorem dX12_allLikely_32 : decode cX12_allLikely 32 = .ok (.iload_n 1, 1) := by decide +kernel
theorem dX12_allLikely_33 : decode cX12_allLikely 33 = .ok (.ireturn, 1) := by decide +kernel
theorem dX12_drawn_0 : decode cX12_drawn 0 = .ok (.aload_n 0, 1) := by decide +kernel
theorem dX12_drawn_1 : decode cX12_drawn 1 = .ok (.iconst 0, 1) := by decide +kernel
theorem dX12_drawn_2 : decode cX12_drawn 2 = .ok (.putfield 81, 3) := by decide +kernel
theorem dX12_drawn_5 : decode cX12_drawn 5 = .ok (.aload_n 0, 1) := by decide +kernel
theorem dX12_drawn_6 : decode cX12_drawn 6 = .ok (.invokevirtual 164, 3) := by decide +kernel
theorem dX12_drawn_9 : decode cX12_drawn 9 = .ok (.aload_n 0, 1) := by decide +kernel
theorem dX12_drawn_10 : decode cX12_drawn 10 = .ok (.iload_n 1, 1) := by decide +kernel
theorem dX12_drawn_11 : decode cX12_drawn 11 = .ok (.invokevirtual 254, 3) := by decide +kernel
theorem dX12_drawn_14 : decode cX12_drawn 14 = .ok (.ifCond .eq 20, 3) := by decide +kernel
theorem dX12_drawn_17 : decode cX12_drawn 17 = .ok (.iload_n 2, 1) := by decide +kernel
theorem dX12_drawn_18 : decode cX12_drawn 18 = .ok (.iconst 0, 1) := by decide +kernel
theorem dX12_drawn_19 : decode cX12_drawn 19 = .ok (.bipush 100, 2) := by decide +kernel
theorem dX12_drawn_21 : decode cX12_drawn 21 = .ok (.invokestatic 151, 3) := by decide +kernel
theorem dX12_drawn_24 : decode cX12_drawn 24 = .ok (.ifCond .eq 10, 3) := by decide +kernel
theorem dX12_drawn_27 : decode cX12_drawn 27 = .ok (.aload_n 0, 1) := by decide +kernel
theorem dX12_drawn_28 : decode cX12_drawn 28 = .ok (.invokevirtual 331, 3) := by decide +kernel
theorem dX12_drawn_31 : decode cX12_drawn 31 = .ok (.ifCond .ne 5, 3) := by decide +kernel
theorem dX12_drawn_34 : decode cX12_drawn 34 = .ok (.iconst (-1), 1) := by decide +kernel
theorem dX12_drawn_35 : decode cX12_drawn 35 = .ok (.ireturn, 1) := by decide +kernel
theorem dX12_drawn_36 : decode cX12_drawn 36 = .ok (.aload_n 0, 1) := by decide +kernel
theorem dX12_drawn_37 : decode cX12_drawn 37 = .ok (.iload_n 1, 1) := by decide +kernel
theorem dX12_drawn_38 : decode cX12_drawn 38 = .ok (.invokevirtual 257, 3) := by decide +kernel
theorem dX12_drawn_41 : decode cX12_drawn 41 = .ok (.iload_n 3, 1) := by decide +kernel
theorem dX12_drawn_42 : decode cX12_drawn 42 = .ok (.istore 4, 2) := by decide +kernel
theorem dX12_drawn_44 : decode cX12_drawn 44 = .ok (.iconst 0, 1) := by decide +kernel
theorem dX12_drawn_45 : decode cX12_drawn 45 = .ok (.istore 5, 2) := by decide +kernel
theorem dX12_drawn_47 : decode cX12_drawn 47 = .ok (.iload 5, 2) := by decide +kernel
theorem dX12_drawn_49 : decode cX12_drawn 49 = .ok (.iload_n 2, 1) := by decide +kernel
theorem dX12_drawn_50 : decode cX12_drawn 50 = .ok (.if_icmp .ge 108, 3) := by decide +kernel
theorem dX12_drawn_53 : decode cX12_drawn 53 = .ok (.iload 4, 2) := by decide +kernel
theorem dX12_drawn_55 : decode cX12_drawn 55 = .ok (.ldc_w 334, 3) := by decide +kernel
theorem dX12_drawn_58 : decode cX12_drawn 58 = .ok (.imul, 1) := by decide +kernel
theorem dX12_drawn_59 : decode cX12_drawn 59 = .ok (.sipush 12345, 3) := by decide +kernel
theorem dX12_drawn_62 : decode cX12_drawn 62 = .ok (.iadd, 1) := by decide +kernel
theorem dX12_drawn_63 : decode cX12_drawn 63 = .ok (.istore 4, 2) := by decide +kernel
theorem dX12_drawn_65 : decode cX12_drawn 65 = .ok (.iload 4, 2) := by decide +kernel
theorem dX12_drawn_67 : decode cX12_drawn 67 = .ok (.bipush 8, 2) := by decide +kernel
theorem dX12_drawn_69 : decode cX12_drawn 69 = .ok (.iushr, 1) := by decide +kernel
theorem dX12_drawn_70 : decode cX12_drawn 70 = .ok (.aload_n 0, 1) := by decide +kernel
theorem dX12_drawn_71 : decode cX12_drawn 71 = .ok (.invokevirtual 331, 3) := by decide +kernel
theorem dX12_drawn_74 : decode cX12_drawn 74 = .ok (.irem, 1) := by decide +kernel
theorem dX12_drawn_75 : decode cX12_drawn 75 = .ok (.istore 6, 2) := by decide +kernel
theorem dX12_drawn_77 : decode cX12_drawn 77 = .ok (.iconst 0, 1) := by decide +kernel
theorem dX12_drawn_78 : decode cX12_drawn 78 = .ok (.istore 7, 2) := by decide +kernel
theorem dX12_drawn_80 : decode cX12_drawn 80 = .ok (.iload 6, 2) := by decide +kernel
theorem dX12_drawn_82 : decode cX12_drawn 82 = .ok (.aload_n 0, 1) := by decide +kernel
theorem dX12_drawn_83 : decode cX12_drawn 83 = .ok (.getfield 13, 3) := by decide +kernel
theorem dX12_drawn_86 : decode cX12_drawn 86 = .ok (.bipush 102, 2) := by decide +kernel
theorem dX12_drawn_88 : decode cX12_drawn 88 = .ok (.iload 7, 2) := by decide +kernel
theorem dX12_drawn_90 : decode cX12_drawn 90 = .ok (.iadd, 1) := by decide +kernel
theorem dX12_drawn_91 : decode cX12_drawn 91 = .ok (.iaload, 1) := by decide +kernel
theorem dX12_drawn_92 : decode cX12_drawn 92 = .ok (.if_icmp .lt 24, 3) := by decide +kernel
theorem dX12_drawn_95 : decode cX12_drawn 95 = .ok (.iload 6, 2) := by decide +kernel
theorem dX12_drawn_97 : decode cX12_drawn 97 = .ok (.aload_n 0, 1) := by decide +kernel
theorem dX12_drawn_98 : decode cX12_drawn 98 = .ok (.getfield 13, 3) := by decide +kernel
theorem dX12_drawn_101 : decode cX12_drawn 101 = .ok (.bipush 102, 2) := by decide +kernel
theorem dX12_drawn_103 : decode cX12_drawn 103 = .ok (.iload 7, 2) := by decide +kernel
theorem dX12_drawn_105 : decode cX12_drawn 105 = .ok (.iadd, 1) := by decide +kernel
theorem dX12_drawn_106 : decode cX12_drawn 106 = .ok (.iaload, 1) := by decide +kernel
theorem dX12_drawn_107 : decode cX12_drawn 107 = .ok (.isub, 1) := by decide +kernel
theorem dX12_drawn_108 : decode cX12_drawn 108 = .ok (.istore 6, 2) := by decide +kernel
theorem dX12_drawn_110 : decode cX12_drawn 110 = .ok (.iinc 7 1, 3) := by decide +kernel
theorem dX12_drawn_113 : decode cX12_drawn 113 = .ok (.goto (-33), 3) := by decide +kernel
theorem dX12_drawn_116 : decode cX12_drawn 116 = .ok (.aload_n 0, 1) := by decide +kernel
theorem dX12_drawn_117 : decode cX12_drawn 117 = .ok (.getfield 36, 3) := by decide +kernel
theorem dX12_drawn_120 : decode cX12_drawn 120 = .ok (.iload 7, 2) := by decide +kernel
theorem dX12_drawn_122 : decode cX12_drawn 122 = .ok (.iaload, 1) := by decide +kernel
theorem dX12_drawn_123 : decode cX12_drawn 123 = .ok (.istore 8, 2) := by decide +kernel
theorem dX12_drawn_125 : decode cX12_drawn 125 = .ok (.aload_n 0, 1) := by decide +kernel
theorem dX12_drawn_126 : decode cX12_drawn 126 = .ok (.getfield 36, 3) := by decide +kernel
theorem dX12_drawn_129 : decode cX12_drawn 129 = .ok (.iload 7, 2) := by decide +kernel
theorem dX12_drawn_131 : decode cX12_drawn 131 = .ok (.aload_n 0, 1) := by decide +kernel
theorem dX12_drawn_132 : decode cX12_drawn 132 = .ok (.getfield 36, 3) := by decide +kernel
theorem dX12_drawn_135 : decode cX12_drawn 135 = .ok (.iload 7, 2) := by decide +kernel
theorem dX12_drawn_137 : decode cX12_drawn 137 = .ok (.iconst 1, 1) := by decide +kernel
theorem dX12_drawn_138 : decode cX12_drawn 138 = .ok (.iadd, 1) := by decide +kernel
theorem dX12_drawn_139 : decode cX12_drawn 139 = .ok (.iaload, 1) := by decide +kernel
theorem dX12_drawn_140 : decode cX12_drawn 140 = .ok (.iastore, 1) := by decide +kernel
theorem dX12_drawn_141 : decode cX12_drawn 141 = .ok (.aload_n 0, 1) := by decide +kernel
theorem dX12_drawn_142 : decode cX12_drawn 142 = .ok (.getfield 36, 3) := by decide +kernel
theorem dX12_drawn_145 : decode cX12_drawn 145 = .ok (.iload 7, 2) := by decide +kernel
theorem dX12_drawn_147 : decode cX12_drawn 147 = .ok (.iconst 1, 1) := by decide +kernel
theorem dX12_drawn_148 : decode cX12_drawn 148 = .ok (.iadd, 1) := by decide +kernel
theorem dX12_drawn_149 : decode cX12_drawn 149 = .ok (.iload 8, 2) := by decide +kernel
theorem dX12_drawn_151 : decode cX12_drawn 151 = .ok (.iastore, 1) := by decide +kernel
theorem dX12_drawn_152 : decode cX12_drawn 152 = .ok (.iinc 5 1, 3) := by decide +kernel
theorem dX12_drawn_155 : decode cX12_drawn 155 = .ok (.goto (-108), 3) := by decide +kernel
theorem dX12_drawn_158 : decode cX12_drawn 158 = .ok (.aload_n 0, 1) := by decide +kernel
theorem dX12_drawn_159 : decode cX12_drawn 159 = .ok (.invokevirtual 313, 3) := by decide +kernel
theorem dX12_drawn_162 : decode cX12_drawn 162 = .ok (.ireturn, 1) := by decide +kernel
theorem dX12_again_0 : decode cX12_again 0 = .ok (.aload_n 0, 1) := by decide +kernel
theorem dX12_again_1 : decode cX12_again 1 = .ok (.iconst 0, 1) := by decide +kernel
theorem dX12_again_2 : decode cX12_again 2 = .ok (.putfield 81, 3) := by decide +kernel
theorem dX12_again_5 : decode cX12_again 5 = .ok (.aload_n 0, 1) := by decide +kernel
theorem dX12_again_6 : decode cX12_again 6 = .ok (.invokevirtual 164, 3) := by decide +kernel
theorem dX12_again_9 : decode cX12_again 9 = .ok (.iload_n 1, 1) := by decide +kernel
theorem dX12_again_10 : decode cX12_again 10 = .ok (.iconst 0, 1) := by decide +kernel
theorem dX12_again_11 : decode cX12_again 11 = .ok (.bipush 10, 2) := by decide +kernel
theorem dX12_again_13 : decode cX12_again 13 = .ok (.invokestatic 151, 3) := by decide +kernel
theorem dX12_again_16 : decode cX12_again 16 = .ok (.ifCond .ne 5, 3) := by decide +kernel
theorem dX12_again_19 : decode cX12_again 19 = .ok (.iconst (-1), 1) := by decide +kernel
theorem dX12_again_20 : decode cX12_again 20 = .ok (.ireturn, 1) := by decide +kernel
theorem dX12_again_21 : decode cX12_again 21 = .ok (.aload_n 0, 1) := by decide +kernel
theorem dX12_again_22 : decode cX12_again 22 = .ok (.iconst 0, 1) := by decide +kernel
theorem dX12_again_23 : decode cX12_again 23 = .ok (.iload_n 1, 1) := by decide +kernel
theorem dX12_again_24 : decode cX12_again 24 = .ok (.iconst 1, 1) := by decide +kernel
theorem dX12_again_25 : decode cX12_again 25 = .ok (.invokevirtual 321, 3) := by decide +kernel
theorem dX12_again_28 : decode cX12_again 28 = .ok (.aload_n 0, 1) := by decide +kernel
theorem dX12_again_29 : decode cX12_again 29 = .ok (.getfield 63, 3) := by decide +kernel
theorem dX12_again_32 : decode cX12_again 32 = .ok (.iconst 0, 1) := by decide +kernel
theorem dX12_again_33 : decode cX12_again 33 = .ok (.laload, 1) := by decide +kernel
theorem dX12_again_34 : decode cX12_again 34 = .ok (.l2i, 1) := by decide +kernel
theorem dX12_again_35 : decode cX12_again 35 = .ok (.ireturn, 1) := by decide +kernel
theorem dX12_along_0 : decode cX12_along 0 = .ok (.aload_n 0, 1) := by decide +kernel
theorem dX12_along_1 : decode cX12_along 1 = .ok (.invokevirtual 164, 3) := by decide +kernel
theorem dX12_along_4 : decode cX12_along 4 = .ok (.aload_n 0, 1) := by decide +kernel
theorem dX12_along_5 : decode cX12_along 5 = .ok (.iload_n 1, 1) := by decide +kernel
theorem dX12_along_6 : decode cX12_along 6 = .ok (.invokevirtual 254, 3) := by decide +kernel
theorem dX12_along_9 : decode cX12_along 9 = .ok (.ifCond .eq 22, 3) := by decide +kernel
theorem dX12_along_12 : decode cX12_along 12 = .ok (.iload_n 2, 1) := by decide +kernel
theorem dX12_along_13 : decode cX12_along 13 = .ok (.iconst 0, 1) := by decide +kernel
theorem dX12_along_14 : decode cX12_along 14 = .ok (.bipush 10, 2) := by decide +kernel
theorem dX12_along_16 : decode cX12_along 16 = .ok (.invokestatic 151, 3) := by decide +kernel
theorem dX12_along_19 : decode cX12_along 19 = .ok (.ifCond .eq 12, 3) := by decide +kernel
theorem dX12_along_22 : decode cX12_along 22 = .ok (.iload_n 3, 1) := by decide +kernel
theorem dX12_along_23 : decode cX12_along 23 = .ok (.iconst 0, 1) := by decide +kernel
theorem dX12_along_24 : decode cX12_along 24 = .ok (.iconst 1, 1) := by decide +kernel
theorem dX12_along_25 : decode cX12_along 25 = .ok (.invokestatic 151, 3) := by decide +kernel
theorem dX12_along_28 : decode cX12_along 28 = .ok (.ifCond .ne 10, 3) := by decide +kernel
theorem dX12_along_31 : decode cX12_along 31 = .ok (.aload_n 0, 1) := by decide +kernel
theorem dX12_along_32 : decode cX12_along 32 = .ok (.iconst 1, 1) := by decide +kernel
theorem dX12_along_33 : decode cX12_along 33 = .ok (.putfield 81, 3) := by decide +kernel
theorem dX12_along_36 : decode cX12_along 36 = .ok (.lconst 0, 1) := by decide +kernel
theorem dX12_along_37 : decode cX12_along 37 = .ok (.lreturn, 1) := by decide +kernel
theorem dX12_along_38 : decode cX12_along 38 = .ok (.aload_n 0, 1) := by decide +kernel
theorem dX12_along_39 : decode cX12_along 39 = .ok (.iload_n 1, 1) := by decide +kernel
theorem dX12_along_40 : decode cX12_along 40 = .ok (.iload_n 2, 1) := by decide +kernel
theorem dX12_along_41 : decode cX12_along 41 = .ok (.iconst 0, 1) := by decide +kernel
theorem dX12_along_42 : decode cX12_along 42 = .ok (.invokevirtual 321, 3) := by decide +kernel
theorem dX12_along_45 : decode cX12_along 45 = .ok (.aload_n 0, 1) := by decide +kernel
theorem dX12_along_46 : decode cX12_along 46 = .ok (.iload_n 1, 1) := by decide +kernel
theorem dX12_along_47 : decode cX12_along 47 = .ok (.aload_n 0, 1) := by decide +kernel
theorem dX12_along_48 : decode cX12_along 48 = .ok (.getfield 42, 3) := by decide +kernel
theorem dX12_along_51 : decode cX12_along 51 = .ok (.invokevirtual 292, 3) := by decide +kernel
theorem dX12_along_54 : decode cX12_along 54 = .ok (.lconst 0, 1) := by decide +kernel
theorem dX12_along_55 : decode cX12_along 55 = .ok (.lstore 4, 2) := by decide +kernel
theorem dX12_along_57 : decode cX12_along 57 = .ok (.lconst 0, 1) := by decide +kernel
theorem dX12_along_58 : decode cX12_along 58 = .ok (.lstore 6, 2) := by decide +kernel
theorem dX12_along_60 : decode cX12_along 60 = .ok (.iconst 0, 1) := by decide +kernel
theorem dX12_along_61 : decode cX12_along 61 = .ok (.istore 8, 2) := by decide +kernel
theorem dX12_along_63 : decode cX12_along 63 = .ok (.iload 8, 2) := by decide +kernel
theorem dX12_along_65 : decode cX12_along 65 = .ok (.aload_n 0, 1) := by decide +kernel
theorem dX12_along_66 : decode cX12_along 66 = .ok (.invokevirtual 251, 3) := by decide +kernel
theorem dX12_along_69 : decode cX12_along 69 = .ok (.if_icmp .ge 64, 3) := by decide +kernel
theorem dX12_along_72 : decode cX12_along 72 = .ok (.aload_n 0, 1) := by decide +kernel
theorem dX12_along_73 : decode cX12_along 73 = .ok (.getfield 63, 3) := by decide +kernel
theorem dX12_along_76 : decode cX12_along 76 = .ok (.iload 8, 2) := by decide +kernel
theorem dX12_along_78 : decode cX12_along 78 = .ok (.laload, 1) := by decide +kernel
theorem dX12_along_79 : decode cX12_along 79 = .ok (.lconst 0, 1) := by decide +kernel
theorem dX12_along_80 : decode cX12_along 80 = .ok (.lcmp, 1) := by decide +kernel
theorem dX12_along_81 : decode cX12_along 81 = .ok (.ifCond .ne 6, 3) := by decide +kernel
theorem dX12_along_84 : decode cX12_along 84 = .ok (.goto 43, 3) := by decide +kernel
theorem dX12_along_87 : decode cX12_along 87 = .ok (.aload_n 0, 1) := by decide +kernel
theorem dX12_along_88 : decode cX12_along 88 = .ok (.iload 8, 2) := by decide +kernel
theorem dX12_along_90 : decode cX12_along 90 = .ok (.aload_n 0, 1) := by decide +kernel
theorem dX12_along_91 : decode cX12_along 91 = .ok (.getfield 45, 3) := by decide +kernel
theorem dX12_along_94 : decode cX12_along 94 = .ok (.invokevirtual 292, 3) := by decide +kernel
theorem dX12_along_97 : decode cX12_along 97 = .ok (.lload 4, 2) := by decide +kernel
theorem dX12_along_99 : decode cX12_along 99 = .ok (.aload_n 0, 1) := by decide +kernel
theorem dX12_along_100 : decode cX12_along 100 = .ok (.getfield 63, 3) := by decide +kernel
theorem dX12_along_103 : decode cX12_along 103 = .ok (.iload 8, 2) := by decide +kernel
theorem dX12_along_105 : decode cX12_along 105 = .ok (.laload, 1) := by decide +kernel
theorem dX12_along_106 : decode cX12_along 106 = .ok (.aload_n 0, 1) := by decide +kernel
theorem dX12_along_107 : decode cX12_along 107 = .ok (.invokevirtual 259, 3) := by decide +kernel
theorem dX12_along_110 : decode cX12_along 110 = .ok (.i2l, 1) := by decide +kernel
theorem dX12_along_111 : decode cX12_along 111 = .ok (.lmul, 1) := by decide +kernel
theorem dX12_along_112 : decode cX12_along 112 = .ok (.ladd, 1) := by decide +kernel
theorem dX12_along_113 : decode cX12_along 113 = .ok (.lstore 4, 2) := by decide +kernel
theorem dX12_along_115 : decode cX12_along 115 = .ok (.lload 6, 2) := by decide +kernel
theorem dX12_along_117 : decode cX12_along 117 = .ok (.aload_n 0, 1) := by decide +kernel
theorem dX12_along_118 : decode cX12_along 118 = .ok (.getfield 63, 3) := by decide +kernel
theorem dX12_along_121 : decode cX12_along 121 = .ok (.iload 8, 2) := by decide +kernel
theorem dX12_along_123 : decode cX12_along 123 = .ok (.laload, 1) := by decide +kernel
theorem dX12_along_124 : decode cX12_along 124 = .ok (.ladd, 1) := by decide +kernel
theorem dX12_along_125 : decode cX12_along 125 = .ok (.lstore 6, 2) := by decide +kernel
theorem dX12_along_127 : decode cX12_along 127 = .ok (.iinc 8 1, 3) := by decide +kernel
theorem dX12_along_130 : decode cX12_along 130 = .ok (.goto (-67), 3) := by decide +kernel
theorem dX12_along_133 : decode cX12_along 133 = .ok (.lload 6, 2) := by decide +kernel
theorem dX12_along_135 : decode cX12_along 135 = .ok (.lconst 0, 1) := by decide +kernel
theorem dX12_along_136 : decode cX12_along 136 = .ok (.lcmp, 1) := by decide +kernel
theorem dX12_along_137 : decode cX12_along 137 = .ok (.ifCond .ne 10, 3) := by decide +kernel
theorem dX12_along_140 : decode cX12_along 140 = .ok (.aload_n 0, 1) := by decide +kernel
theorem dX12_along_141 : decode cX12_along 141 = .ok (.iconst 1, 1) := by decide +kernel
theorem dX12_along_142 : decode cX12_along 142 = .ok (.putfield 81, 3) := by decide +kernel
theorem dX12_along_145 : decode cX12_along 145 = .ok (.lconst 0, 1) := by decide +kernel
theorem dX12_along_146 : decode cX12_along 146 = .ok (.lreturn, 1) := by decide +kernel
theorem dX12_along_147 : decode cX12_along 147 = .ok (.aload_n 0, 1) := by decide +kernel
theorem dX12_along_148 : decode cX12_along 148 = .ok (.iconst 0, 1) := by decide +kernel
theorem dX12_along_149 : decode cX12_along 149 = .ok (.putfield 81, 3) := by decide +kernel
theorem dX12_along_152 : decode cX12_along 152 = .ok (.lload 6, 2) := by decide +kernel
theorem dX12_along_154 : decode cX12_along 154 = .ok (.lstore 8, 2) := by decide +kernel
theorem dX12_along_156 : decode cX12_along 156 = .ok (.lload 4, 2) := by decide +kernel
theorem dX12_along_158 : decode cX12_along 158 = .ok (.lstore 10, 2) := by decide +kernel
theorem dX12_along_160 : decode cX12_along 160 = .ok (.lload 10, 2) := by decide +kernel
theorem dX12_along_162 : decode cX12_along 162 = .ok (.lconst 0, 1) := by decide +kernel
theorem dX12_along_163 : decode cX12_along 163 = .ok (.lcmp, 1) := by decide +kernel
theorem dX12_along_164 : decode cX12_along 164 = .ok (.ifCond .le 21, 3) := by decide +kernel
theorem dX12_along_167 : decode cX12_along 167 = .ok (.lload 8, 2) := by decide +kernel
theorem dX12_along_169 : decode cX12_along 169 = .ok (.lload 10, 2) := by decide +kernel
theorem dX12_along_171 : decode cX12_along 171 = .ok (.lrem, 1) := by decide +kernel
theorem dX12_along_172 : decode cX12_along 172 = .ok (.lstore 12, 2) := by decide +kernel
theorem dX12_along_174 : decode cX12_along 174 = .ok (.lload 10, 2) := by decide +kernel
theorem dX12_along_176 : decode cX12_along 176 = .ok (.lstore 8, 2) := by decide +kernel
theorem dX12_along_178 : decode cX12_along 178 = .ok (.lload 12, 2) := by decide +kernel
theorem dX12_along_180 : decode cX12_along 180 = .ok (.lstore 10, 2) := by decide +kernel
theorem dX12_along_182 : decode cX12_along 182 = .ok (.goto (-22), 3) := by decide +kernel
theorem dX12_along_185 : decode cX12_along 185 = .ok (.iload_n 3, 1) := by decide +kernel
theorem dX12_along_186 : decode cX12_along 186 = .ok (.ifCond .ne 8, 3) := by decide +kernel
theorem dX12_along_189 : decode cX12_along 189 = .ok (.lload 4, 2) := by decide +kernel
theorem dX12_along_191 : decode cX12_along 191 = .ok (.goto 5, 3) := by decide +kernel
theorem dX12_along_194 : decode cX12_along 194 = .ok (.lload 6, 2) := by decide +kernel
theorem dX12_along_196 : decode cX12_along 196 = .ok (.lload 8, 2) := by decide +kernel
theorem dX12_along_198 : decode cX12_along 198 = .ok (.ldiv, 1) := by decide +kernel
theorem dX12_along_199 : decode cX12_along 199 = .ok (.lreturn, 1) := by decide +kernel
theorem dX12_nearestLike_0 : decode cX12_nearestLike 0 = .ok (.bipush 100, 2) := by decide +kernel
theorem dX12_nearestLike_2 : decode cX12_nearestLike 2 = .ok (.istore_n 1, 1) := by decide +kernel
theorem dX12_nearestLike_3 : decode cX12_nearestLike 3 = .ok (.aload_n 0, 1) := by decide +kernel
theorem dX12_nearestLike_4 : decode cX12_nearestLike 4 = .ok (.iconst 0, 1) := by decide +kernel
theorem dX12_nearestLike_5 : decode cX12_nearestLike 5 = .ok (.aload_n 0, 1) := by decide +kernel
theorem dX12_nearestLike_6 : decode cX12_nearestLike 6 = .ok (.getfield 42, 3) := by decide +kernel
theorem dX12_nearestLike_9 : decode cX12_nearestLike 9 = .ok (.invokevirtual 292, 3) := by decide +kernel
theorem dX12_nearestLike_12 : decode cX12_nearestLike 12 = .ok (.iconst 1, 1) := by decide +kernel
theorem dX12_nearestLike_13 : decode cX12_nearestLike 13 = .ok (.istore_n 2, 1) := by decide +kernel
theorem dX12_nearestLike_14 : decode cX12_nearestLike 14 = .ok (.iload_n 2, 1) := by decide +kernel
theorem dX12_nearestLike_15 : decode cX12_nearestLike 15 = .ok (.aload_n 0, 1) := by decide +kernel
theorem dX12_nearestLike_16 : decode cX12_nearestLike 16 = .ok (.invokevirtual 251, 3) := by decide +kernel
theorem dX12_nearestLike_19 : decode cX12_nearestLike 19 = .ok (.if_icmp .ge 92, 3) := by decide +kernel
theorem dX12_nearestLike_22 : decode cX12_nearestLike 22 = .ok (.aload_n 0, 1) := by decide +kernel
theorem dX12_nearestLike_23 : decode cX12_nearestLike 23 = .ok (.iload_n 2, 1) := by decide +kernel
theorem dX12_nearestLike_24 : decode cX12_nearestLike 24 = .ok (.aload_n 0, 1) := by decide +kernel
theorem dX12_nearestLike_25 : decode cX12_nearestLike 25 = .ok (.getfield 45, 3) := by decide +kernel
theorem dX12_nearestLike_28 : decode cX12_nearestLike 28 = .ok (.invokevirtual 292, 3) := by decide +kernel
theorem dX12_nearestLike_31 : decode cX12_nearestLike 31 = .ok (.iconst 1, 1) := by decide +kernel
theorem dX12_nearestLike_32 : decode cX12_nearestLike 32 = .ok (.istore_n 3, 1) := by decide +kernel
theorem dX12_nearestLike_33 : decode cX12_nearestLike 33 = .ok (.iconst 0, 1) := by decide +kernel
theorem dX12_nearestLike_34 : decode cX12_nearestLike 34 = .ok (.istore 4, 2) := by decide +kernel
theorem dX12_nearestLike_36 : decode cX12_nearestLike 36 = .ok (.iload 4, 2) := by decide +kernel
theorem dX12_nearestLike_38 : decode cX12_nearestLike 38 = .ok (.aload_n 0, 1) := by decide +kernel
theorem dX12_nearestLike_39 : decode cX12_nearestLike 39 = .ok (.invokevirtual 185, 3) := by decide +kernel
theorem dX12_nearestLike_42 : decode cX12_nearestLike 42 = .ok (.if_icmp .ge 41, 3) := by decide +kernel
theorem dX12_nearestLike_45 : decode cX12_nearestLike 45 = .ok (.iload_n 3, 1) := by decide +kernel
theorem dX12_nearestLike_46 : decode cX12_nearestLike 46 = .ok (.ifCond .eq 37, 3) := by decide +kernel
theorem dX12_nearestLike_49 : decode cX12_nearestLike 49 = .ok (.aload_n 0, 1) := by decide +kernel
theorem dX12_nearestLike_50 : decode cX12_nearestLike 50 = .ok (.getfield 75, 3) := by decide +kernel
theorem dX12_nearestLike_53 : decode cX12_nearestLike 53 = .ok (.aload_n 0, 1) := by decide +kernel
theorem dX12_nearestLike_54 : decode cX12_nearestLike 54 = .ok (.getfield 36, 3) := by decide +kernel
theorem dX12_nearestLike_57 : decode cX12_nearestLike 57 = .ok (.iload 4, 2) := by decide +kernel
theorem dX12_nearestLike_59 : decode cX12_nearestLike 59 = .ok (.iaload, 1) := by decide +kernel
theorem dX12_nearestLike_60 : decode cX12_nearestLike 60 = .ok (.iaload, 1) := by decide +kernel
theorem dX12_nearestLike_61 : decode cX12_nearestLike 61 = .ok (.aload_n 0, 1) := by decide +kernel
theorem dX12_nearestLike_62 : decode cX12_nearestLike 62 = .ok (.getfield 75, 3) := by decide +kernel
theorem dX12_nearestLike_65 : decode cX12_nearestLike 65 = .ok (.iload 4, 2) := by decide +kernel
theorem dX12_nearestLike_67 : decode cX12_nearestLike 67 = .ok (.iaload, 1) := by decide +kernel
theorem dX12_nearestLike_68 : decode cX12_nearestLike 68 = .ok (.if_icmp .ne 7, 3) := by decide +kernel
theorem dX12_nearestLike_71 : decode cX12_nearestLike 71 = .ok (.iconst 1, 1) := by decide +kernel
theorem dX12_nearestLike_72 : decode cX12_nearestLike 72 = .ok (.goto 4, 3) := by decide +kernel
theorem dX12_nearestLike_75 : decode cX12_nearestLike 75 = .ok (.iconst 0, 1) := by decide +kernel
theorem dX12_nearestLike_76 : decode cX12_nearestLike 76 = .ok (.istore_n 3, 1) := by decide +kernel
theorem dX12_nearestLike_77 : decode cX12_nearestLike 77 = .ok (.iinc 4 1, 3) := by decide +kernel
theorem dX12_nearestLike_80 : decode cX12_nearestLike 80 = .ok (.goto (-44), 3) := by decide +kernel
theorem dX12_nearestLike_83 : decode cX12_nearestLike 83 = .ok (.iload_n 3, 1) := by decide +kernel
theorem dX12_nearestLike_84 : decode cX12_nearestLike 84 = .ok (.ifCond .ne 6, 3) := by decide +kernel
theorem dX12_nearestLike_87 : decode cX12_nearestLike 87 = .ok (.goto 18, 3) := by decide +kernel
theorem dX12_nearestLike_90 : decode cX12_nearestLike 90 = .ok (.aload_n 0, 1) := by decide +kernel
theorem dX12_nearestLike_91 : decode cX12_nearestLike 91 = .ok (.invokevirtual 259, 3) := by decide +kernel
theorem dX12_nearestLike_94 : decode cX12_nearestLike 94 = .ok (.istore 4, 2) := by decide +kernel
theorem dX12_nearestLike_96 : decode cX12_nearestLike 96 = .ok (.iload 4, 2) := by decide +kernel
theorem dX12_nearestLike_98 : decode cX12_nearestLike 98 = .ok (.iload_n 1, 1) := by decide +kernel
theorem dX12_nearestLike_99 : decode cX12_nearestLike 99 = .ok (.if_icmp .ge 6, 3) := by decide +kernel
theorem dX12_nearestLike_102 : decode cX12_nearestLike 102 = .ok (.iload 4, 2) := by decide +kernel
theorem dX12_nearestLike_104 : decode cX12_nearestLike 104 = .ok (.istore_n 1, 1) := by decide +kernel
theorem dX12_nearestLike_105 : decode cX12_nearestLike 105 = .ok (.iinc 2 1, 3) := by decide +kernel
theorem dX12_nearestLike_108 : decode cX12_nearestLike 108 = .ok (.goto (-94), 3) := by decide +kernel
theorem dX12_nearestLike_111 : decode cX12_nearestLike 111 = .ok (.iload_n 1, 1) := by decide +kernel
theorem dX12_nearestLike_112 : decode cX12_nearestLike 112 = .ok (.ireturn, 1) := by decide +kernel
theorem dX12_holds_0 : decode cX12_holds 0 = .ok (.aload_n 0, 1) := by decide +kernel
theorem dX12_holds_1 : decode cX12_holds 1 = .ok (.iconst 0, 1) := by decide +kernel
theorem dX12_holds_2 : decode cX12_holds 2 = .ok (.putfield 81, 3) := by decide +kernel
theorem dX12_holds_5 : decode cX12_holds 5 = .ok (.aload_n 0, 1) := by decide +kernel
theorem dX12_holds_6 : decode cX12_holds 6 = .ok (.invokevirtual 164, 3) := by decide +kernel
theorem dX12_holds_9 : decode cX12_holds 9 = .ok (.aload_n 0, 1) := by decide +kernel
theorem dX12_holds_10 : decode cX12_holds 10 = .ok (.invokevirtual 167, 3) := by decide +kernel
theorem dX12_holds_13 : decode cX12_holds 13 = .ok (.istore_n 2, 1) := by decide +kernel
theorem dX12_holds_14 : decode cX12_holds 14 = .ok (.iload_n 2, 1) := by decide +kernel
theorem dX12_holds_15 : decode cX12_holds 15 = .ok (.aload_n 0, 1) := by decide +kernel
theorem dX12_holds_16 : decode cX12_holds 16 = .ok (.invokevirtual 185, 3) := by decide +kernel
theorem dX12_holds_19 : decode cX12_holds 19 = .ok (.if_icmp .ne 13, 3) := by decide +kernel
theorem dX12_holds_22 : decode cX12_holds 22 = .ok (.iload_n 1, 1) := by decide +kernel
theorem dX12_holds_23 : decode cX12_holds 23 = .ok (.iconst 0, 1) := by decide +kernel
theorem dX12_holds_24 : decode cX12_holds 24 = .ok (.bipush 9, 2) := by decide +kernel
theorem dX12_holds_26 : decode cX12_holds 26 = .ok (.invokestatic 151, 3) := by decide +kernel
theorem dX12_holds_29 : decode cX12_holds 29 = .ok (.ifCond .ne 5, 3) := by decide +kernel
theorem dX12_holds_32 : decode cX12_holds 32 = .ok (.iconst (-1), 1) := by decide +kernel
theorem dX12_holds_33 : decode cX12_holds 33 = .ok (.ireturn, 1) := by decide +kernel
theorem dX12_holds_34 : decode cX12_holds 34 = .ok (.iconst 0, 1) := by decide +kernel
theorem dX12_holds_35 : decode cX12_holds 35 = .ok (.istore_n 3, 1) := by decide +kernel
theorem dX12_holds_36 : decode cX12_holds 36 = .ok (.iload_n 3, 1) := by decide +kernel
theorem dX12_holds_37 : decode cX12_holds 37 = .ok (.iload_n 2, 1) := by decide +kernel
theorem dX12_holds_38 : decode cX12_holds 38 = .ok (.if_icmp .ge 21, 3) := by decide +kernel
theorem dX12_holds_41 : decode cX12_holds 41 = .ok (.aload_n 0, 1) := by decide +kernel
theorem dX12_holds_42 : decode cX12_holds 42 = .ok (.getfield 75, 3) := by decide +kernel
theorem dX12_holds_45 : decode cX12_holds 45 = .ok (.iload_n 3, 1) := by decide +kernel
theorem dX12_holds_46 : decode cX12_holds 46 = .ok (.aload_n 0, 1) := by decide +kernel
theorem dX12_holds_47 : decode cX12_holds 47 = .ok (.getfield 7, 3) := by decide +kernel
theorem dX12_holds_50 : decode cX12_holds 50 = .ok (.iload_n 3, 1) := by decide +kernel
theorem dX12_holds_51 : decode cX12_holds 51 = .ok (.iaload, 1) := by decide +kernel
theorem dX12_holds_52 : decode cX12_holds 52 = .ok (.iastore, 1) := by decide +kernel
theorem dX12_holds_53 : decode cX12_holds 53 = .ok (.iinc 3 1, 3) := by decide +kernel
theorem dX12_holds_56 : decode cX12_holds 56 = .ok (.goto (-20), 3) := by decide +kernel
theorem dX12_holds_59 : decode cX12_holds 59 = .ok (.aload_n 0, 1) := by decide +kernel
theorem dX12_holds_60 : decode cX12_holds 60 = .ok (.invokevirtual 335, 3) := by decide +kernel
theorem dX12_holds_63 : decode cX12_holds 63 = .ok (.iconst 2, 1) := by decide +kernel
theorem dX12_holds_64 : decode cX12_holds 64 = .ok (.iload_n 1, 1) := by decide +kernel
theorem dX12_holds_65 : decode cX12_holds 65 = .ok (.imul, 1) := by decide +kernel
theorem dX12_holds_66 : decode cX12_holds 66 = .ok (.if_icmp .le 7, 3) := by decide +kernel
theorem dX12_holds_69 : decode cX12_holds 69 = .ok (.iconst 1, 1) := by decide +kernel
theorem dX12_holds_70 : decode cX12_holds 70 = .ok (.goto 4, 3) := by decide +kernel
theorem dX12_holds_73 : decode cX12_holds 73 = .ok (.iconst 0, 1) := by decide +kernel
theorem dX12_holds_74 : decode cX12_holds 74 = .ok (.ireturn, 1) := by decide +kernel
theorem dX12_marks_0 : decode cX12_marks 0 = .ok (.aload_n 0, 1) := by decide +kernel
theorem dX12_marks_1 : decode cX12_marks 1 = .ok (.iconst 0, 1) := by decide +kernel
theorem dX12_marks_2 : decode cX12_marks 2 = .ok (.putfield 81, 3) := by decide +kernel
theorem dX12_marks_5 : decode cX12_marks 5 = .ok (.aload_n 0, 1) := by decide +kernel
theorem dX12_marks_6 : decode cX12_marks 6 = .ok (.invokevirtual 164, 3) := by decide +kernel
theorem dX12_marks_9 : decode cX12_marks 9 = .ok (.iload_n 1, 1) := by decide +kernel
theorem dX12_marks_10 : decode cX12_marks 10 = .ok (.iconst 0, 1) := by decide +kernel
theorem dX12_marks_11 : decode cX12_marks 11 = .ok (.bipush 9, 2) := by decide +kernel
theorem dX12_marks_13 : decode cX12_marks 13 = .ok (.invokestatic 151, 3) := by decide +kernel
theorem dX12_marks_16 : decode cX12_marks 16 = .ok (.ifCond .ne 5, 3) := by decide +kernel
theorem dX12_marks_19 : decode cX12_marks 19 = .ok (.iconst (-1), 1) := by decide +kernel
theorem dX12_marks_20 : decode cX12_marks 20 = .ok (.ireturn, 1) := by decide +kernel
theorem dX12_marks_21 : decode cX12_marks 21 = .ok (.iconst 1, 1) := by decide +kernel
theorem dX12_marks_22 : decode cX12_marks 22 = .ok (.istore_n 2, 1) := by decide +kernel
theorem dX12_marks_23 : decode cX12_marks 23 = .ok (.iload_n 2, 1) := by decide +kernel
theorem dX12_marks_24 : decode cX12_marks 24 = .ok (.aload_n 0, 1) := by decide +kernel
theorem dX12_marks_25 : decode cX12_marks 25 = .ok (.invokevirtual 185, 3) := by decide +kernel
theorem dX12_marks_28 : decode cX12_marks 28 = .ok (.if_icmp .ge 46, 3) := by decide +kernel
theorem dX12_marks_31 : decode cX12_marks 31 = .ok (.iconst 0, 1) := by decide +kernel
theorem dX12_marks_32 : decode cX12_marks 32 = .ok (.istore_n 3, 1) := by decide +kernel
theorem dX12_marks_33 : decode cX12_marks 33 = .ok (.iload_n 3, 1) := by decide +kernel
theorem dX12_marks_34 : decode cX12_marks 34 = .ok (.aload_n 0, 1) := by decide +kernel
theorem dX12_marks_35 : decode cX12_marks 35 = .ok (.invokevirtual 185, 3) := by decide +kernel
theorem dX12_marks_38 : decode cX12_marks 38 = .ok (.if_icmp .ge 18, 3) := by decide +kernel
theorem dX12_marks_41 : decode cX12_marks 41 = .ok (.aload_n 0, 1) := by decide +kernel
theorem dX12_marks_42 : decode cX12_marks 42 = .ok (.getfield 75, 3) := by decide +kernel
theorem dX12_marks_45 : decode cX12_marks 45 = .ok (.iload_n 3, 1) := by decide +kernel
theorem dX12_marks_46 : decode cX12_marks 46 = .ok (.iload_n 3, 1) := by decide +kernel
theorem dX12_marks_47 : decode cX12_marks 47 = .ok (.iload_n 2, 1) := by decide +kernel
theorem dX12_marks_48 : decode cX12_marks 48 = .ok (.irem, 1) := by decide +kernel
theorem dX12_marks_49 : decode cX12_marks 49 = .ok (.iastore, 1) := by decide +kernel
theorem dX12_marks_50 : decode cX12_marks 50 = .ok (.iinc 3 1, 3) := by decide +kernel
theorem dX12_marks_53 : decode cX12_marks 53 = .ok (.goto (-20), 3) := by decide +kernel
theorem dX12_marks_56 : decode cX12_marks 56 = .ok (.aload_n 0, 1) := by decide +kernel
theorem dX12_marks_57 : decode cX12_marks 57 = .ok (.invokevirtual 335, 3) := by decide +kernel
theorem dX12_marks_60 : decode cX12_marks 60 = .ok (.iconst 2, 1) := by decide +kernel
theorem dX12_marks_61 : decode cX12_marks 61 = .ok (.iload_n 1, 1) := by decide +kernel
theorem dX12_marks_62 : decode cX12_marks 62 = .ok (.imul, 1) := by decide +kernel
theorem dX12_marks_63 : decode cX12_marks 63 = .ok (.if_icmp .le 5, 3) := by decide +kernel
theorem dX12_marks_66 : decode cX12_marks 66 = .ok (.iload_n 2, 1) := by decide +kernel
theorem dX12_marks_67 : decode cX12_marks 67 = .ok (.ireturn, 1) := by decide +kernel
theorem dX12_marks_68 : decode cX12_marks 68 = .ok (.iinc 2 1, 3) := by decide +kernel
theorem dX12_marks_71 : decode cX12_marks 71 = .ok (.goto (-48), 3) := by decide +kernel
theorem dX12_marks_74 : decode cX12_marks 74 = .ok (.aload_n 0, 1) := by decide +kernel
theorem dX12_marks_75 : decode cX12_marks 75 = .ok (.invokevirtual 185, 3) := by decide +kernel
theorem dX12_marks_78 : decode cX12_marks 78 = .ok (.ireturn, 1) := by decide +kernel
theorem dX12_hasSense_0 : decode cX12_hasSense 0 = .ok (.iconst 0, 1) := by decide +kernel
theorem dX12_hasSense_1 : decode cX12_hasSense 1 = .ok (.istore_n 2, 1) := by decide +kernel
theorem dX12_hasSense_2 : decode cX12_hasSense 2 = .ok (.iload_n 2, 1) := by decide +kernel
theorem dX12_hasSense_3 : decode cX12_hasSense 3 = .ok (.aload_n 0, 1) := by decide +kernel
theorem dX12_hasSense_4 : decode cX12_hasSense 4 = .ok (.getfield 13, 3) := by decide +kernel
theorem dX12_hasSense_7 : decode cX12_hasSense 7 = .ok (.iconst 3, 1) := by decide +kernel
theorem dX12_hasSense_8 : decode cX12_hasSense 8 = .ok (.iaload, 1) := by decide +kernel
theorem dX12_hasSense_9 : decode cX12_hasSense 9 = .ok (.if_icmp .ge 59, 3) := by decide +kernel
theorem dX12_hasSense_12 : decode cX12_hasSense 12 = .ok (.aload_n 1, 1) := by decide +kernel
theorem dX12_hasSense_13 : decode cX12_hasSense 13 = .ok (.aload_n 0, 1) := by decide +kernel
theorem dX12_hasSense_14 : decode cX12_hasSense 14 = .ok (.getfield 13, 3) := by decide +kernel
theorem dX12_hasSense_17 : decode cX12_hasSense 17 = .ok (.bipush 110, 2) := by decide +kernel
theorem dX12_hasSense_19 : decode cX12_hasSense 19 = .ok (.iconst 2, 1) := by decide +kernel
theorem dX12_hasSense_20 : decode cX12_hasSense 20 = .ok (.iload_n 2, 1) := by decide +kernel
theorem dX12_hasSense_21 : decode cX12_hasSense 21 = .ok (.imul, 1) := by decide +kernel
theorem dX12_hasSense_22 : decode cX12_hasSense 22 = .ok (.iadd, 1) := by decide +kernel
theorem dX12_hasSense_23 : decode cX12_hasSense 23 = .ok (.iaload, 1) := by decide +kernel
theorem dX12_hasSense_24 : decode cX12_hasSense 24 = .ok (.iaload, 1) := by decide +kernel
theorem dX12_hasSense_25 : decode cX12_hasSense 25 = .ok (.istore_n 3, 1) := by decide +kernel
theorem dX12_hasSense_26 : decode cX12_hasSense 26 = .ok (.aload_n 1, 1) := by decide +kernel
theorem dX12_hasSense_27 : decode cX12_hasSense 27 = .ok (.aload_n 0, 1) := by decide +kernel
theorem dX12_hasSense_28 : decode cX12_hasSense 28 = .ok (.getfield 13, 3) := by decide +kernel
theorem dX12_hasSense_31 : decode cX12_hasSense 31 = .ok (.bipush 110, 2) := by decide +kernel
theorem dX12_hasSense_33 : decode cX12_hasSense 33 = .ok (.iconst 2, 1) := by decide +kernel
theorem dX12_hasSense_34 : decode cX12_hasSense 34 = .ok (.iload_n 2, 1) := by decide +kernel
theorem dX12_hasSense_35 : decode cX12_hasSense 35 = .ok (.imul, 1) := by decide +kernel
theorem dX12_hasSense_36 : decode cX12_hasSense 36 = .ok (.iadd, 1) := by decide +kernel
theorem dX12_hasSense_37 : decode cX12_hasSense 37 = .ok (.iconst 1, 1) := by decide +kernel
theorem dX12_hasSense_38 : decode cX12_hasSense 38 = .ok (.iadd, 1) := by decide +kernel
theorem dX12_hasSense_39 : decode cX12_hasSense 39 = .ok (.iaload, 1) := by decide +kernel
theorem dX12_hasSense_40 : decode cX12_hasSense 40 = .ok (.iaload, 1) := by decide +kernel
theorem dX12_hasSense_41 : decode cX12_hasSense 41 = .ok (.istore 4, 2) := by decide +kernel
theorem dX12_hasSense_43 : decode cX12_hasSense 43 = .ok (.iload_n 3, 1) := by decide +kernel
theorem dX12_hasSense_44 : decode cX12_hasSense 44 = .ok (.iconst (-1), 1) := by decide +kernel
theorem dX12_hasSense_45 : decode cX12_hasSense 45 = .ok (.if_icmp .eq 17, 3) := by decide +kernel
theorem dX12_hasSense_48 : decode cX12_hasSense 48 = .ok (.iload 4, 2) := by decide +kernel
theorem dX12_hasSense_50 : decode cX12_hasSense 50 = .ok (.iconst (-1), 1) := by decide +kernel
theorem dX12_hasSense_51 : decode cX12_hasSense 51 = .ok (.if_icmp .eq 11, 3) := by decide +kernel
theorem dX12_hasSense_54 : decode cX12_hasSense 54 = .ok (.iload_n 3, 1) := by decide +kernel
theorem dX12_hasSense_55 : decode cX12_hasSense 55 = .ok (.iload 4, 2) := by decide +kernel
theorem dX12_hasSense_57 : decode cX12_hasSense 57 = .ok (.if_icmp .le 5, 3) := by decide +kernel
theorem dX12_hasSense_60 : decode cX12_hasSense 60 = .ok (.iconst 0, 1) := by decide +kernel
theorem dX12_hasSense_61 : decode cX12_hasSense 61 = .ok (.ireturn, 1) := by decide +kernel
theorem dX12_hasSense_62 : decode cX12_hasSense 62 = .ok (.iinc 2 1, 3) := by decide +kernel
theorem dX12_hasSense_65 : decode cX12_hasSense 65 = .ok (.goto (-63), 3) := by decide +kernel
theorem dX12_hasSense_68 : decode cX12_hasSense 68 = .ok (.iconst 1, 1) := by decide +kernel
theorem dX12_hasSense_69 : decode cX12_hasSense 69 = .ok (.ireturn, 1) := by decide +kernel
theorem dX12_sense_0 : decode cX12_sense 0 = .ok (.aload_n 0, 1) := by decide +kernel
theorem dX12_sense_1 : decode cX12_sense 1 = .ok (.iconst 0, 1) := by decide +kernel
theorem dX12_sense_2 : decode cX12_sense 2 = .ok (.putfield 81, 3) := by decide +kernel
theorem dX12_sense_5 : decode cX12_sense 5 = .ok (.aload_n 0, 1) := by decide +kernel
theorem dX12_sense_6 : decode cX12_sense 6 = .ok (.invokevirtual 164, 3) := by decide +kernel
theorem dX12_sense_9 : decode cX12_sense 9 = .ok (.iload_n 1, 1) := by decide +kernel
theorem dX12_sense_10 : decode cX12_sense 10 = .ok (.iconst (-1), 1) := by decide +kernel
theorem dX12_sense_11 : decode cX12_sense 11 = .ok (.if_icmp .ge 5, 3) := by decide +kernel
theorem dX12_sense_14 : decode cX12_sense 14 = .ok (.iconst (-1), 1) := by decide +kernel
theorem dX12_sense_15 : decode cX12_sense 15 = .ok (.ireturn, 1) := by decide +kernel
theorem dX12_sense_16 : decode cX12_sense 16 = .ok (.iconst 0, 1) := by decide +kernel
theorem dX12_sense_17 : decode cX12_sense 17 = .ok (.istore_n 2, 1) := by decide +kernel
theorem dX12_sense_18 : decode cX12_sense 18 = .ok (.iconst 0, 1) := by decide +kernel
theorem dX12_sense_19 : decode cX12_sense 19 = .ok (.istore_n 3, 1) := by decide +kernel
theorem dX12_sense_20 : decode cX12_sense 20 = .ok (.iload_n 3, 1) := by decide +kernel
theorem dX12_sense_21 : decode cX12_sense 21 = .ok (.aload_n 0, 1) := by decide +kernel
theorem dX12_sense_22 : decode cX12_sense 22 = .ok (.invokevirtual 251, 3) := by decide +kernel
theorem dX12_sense_25 : decode cX12_sense 25 = .ok (.if_icmp .ge 42, 3) := by decide +kernel
theorem dX12_sense_28 : decode cX12_sense 28 = .ok (.aload_n 0, 1) := by decide +kernel
theorem dX12_sense_29 : decode cX12_sense 29 = .ok (.iload_n 3, 1) := by decide +kernel
theorem dX12_sense_30 : decode cX12_sense 30 = .ok (.aload_n 0, 1) := by decide +kernel
theorem dX12_sense_31 : decode cX12_sense 31 = .ok (.getfield 42, 3) := by decide +kernel
theorem dX12_sense_34 : decode cX12_sense 34 = .ok (.invokevirtual 292, 3) := by decide +kernel
theorem dX12_sense_37 : decode cX12_sense 37 = .ok (.aload_n 0, 1) := by decide +kernel
theorem dX12_sense_38 : decode cX12_sense 38 = .ok (.aload_n 0, 1) := by decide +kernel
theorem dX12_sense_39 : decode cX12_sense 39 = .ok (.getfield 42, 3) := by decide +kernel
theorem dX12_sense_42 : decode cX12_sense 42 = .ok (.invokevirtual 338, 3) := by decide +kernel
theorem dX12_sense_45 : decode cX12_sense 45 = .ok (.ifCond .ne 6, 3) := by decide +kernel
theorem dX12_sense_48 : decode cX12_sense 48 = .ok (.goto 13, 3) := by decide +kernel
theorem dX12_sense_51 : decode cX12_sense 51 = .ok (.iload_n 2, 1) := by decide +kernel
theorem dX12_sense_52 : decode cX12_sense 52 = .ok (.iload_n 1, 1) := by decide +kernel
theorem dX12_sense_53 : decode cX12_sense 53 = .ok (.if_icmp .ne 5, 3) := by decide +kernel
theorem dX12_sense_56 : decode cX12_sense 56 = .ok (.iload_n 3, 1) := by decide +kernel
theorem dX12_sense_57 : decode cX12_sense 57 = .ok (.ireturn, 1) := by decide +kernel
theorem dX12_sense_58 : decode cX12_sense 58 = .ok (.iinc 2 1, 3) := by decide +kernel
theorem dX12_sense_61 : decode cX12_sense 61 = .ok (.iinc 3 1, 3) := by decide +kernel
theorem dX12_sense_64 : decode cX12_sense 64 = .ok (.goto (-44), 3) := by decide +kernel
theorem dX12_sense_67 : decode cX12_sense 67 = .ok (.iload_n 1, 1) := by decide +kernel
theorem dX12_sense_68 : decode cX12_sense 68 = .ok (.iconst (-1), 1) := by decide +kernel
theorem dX12_sense_69 : decode cX12_sense 69 = .ok (.if_icmp .ne 7, 3) := by decide +kernel
theorem dX12_sense_72 : decode cX12_sense 72 = .ok (.iload_n 2, 1) := by decide +kernel
theorem dX12_sense_73 : decode cX12_sense 73 = .ok (.goto 4, 3) := by decide +kernel
theorem dX12_sense_76 : decode cX12_sense 76 = .ok (.iconst (-1), 1) := by decide +kernel
theorem dX12_sense_77 : decode cX12_sense 77 = .ok (.ireturn, 1) := by decide +kernel
theorem dX12_mended_0 : decode cX12_mended 0 = .ok (.aload_n 0, 1) := by decide +kernel
theorem dX12_mended_1 : decode cX12_mended 1 = .ok (.iconst 0, 1) := by decide +kernel
theorem dX12_mended_2 : decode cX12_mended 2 = .ok (.putfield 81, 3) := by decide +kernel
theorem dX12_mended_5 : decode cX12_mended 5 = .ok (.aload_n 0, 1) := by decide +kernel
theorem dX12_mended_6 : decode cX12_mended 6 = .ok (.invokevirtual 164, 3) := by decide +kernel
theorem dX12_mended_9 : decode cX12_mended 9 = .ok (.aload_n 0, 1) := by decide +kernel
theorem dX12_mended_10 : decode cX12_mended 10 = .ok (.iload_n 1, 1) := by decide +kernel
theorem dX12_mended_11 : decode cX12_mended 11 = .ok (.invokevirtual 241, 3) := by decide +kernel
theorem dX12_mended_14 : decode cX12_mended 14 = .ok (.ifCond .eq 12, 3) := by decide +kernel
theorem dX12_mended_17 : decode cX12_mended 17 = .ok (.iload_n 2, 1) := by decide +kernel
theorem dX12_mended_18 : decode cX12_mended 18 = .ok (.iconst 0, 1) := by decide +kernel
theorem dX12_mended_19 : decode cX12_mended 19 = .ok (.iconst 1, 1) := by decide +kernel
theorem dX12_mended_20 : decode cX12_mended 20 = .ok (.invokestatic 151, 3) := by decide +kernel
theorem dX12_mended_23 : decode cX12_mended 23 = .ok (.ifCond .ne 5, 3) := by decide +kernel
theorem dX12_mended_26 : decode cX12_mended 26 = .ok (.iconst (-1), 1) := by decide +kernel
theorem dX12_mended_27 : decode cX12_mended 27 = .ok (.ireturn, 1) := by decide +kernel
theorem dX12_mended_28 : decode cX12_mended 28 = .ok (.aload_n 0, 1) := by decide +kernel
theorem dX12_mended_29 : decode cX12_mended 29 = .ok (.iload_n 1, 1) := by decide +kernel
theorem dX12_mended_30 : decode cX12_mended 30 = .ok (.aload_n 0, 1) := by decide +kernel
theorem dX12_mended_31 : decode cX12_mended 31 = .ok (.getfield 45, 3) := by decide +kernel
theorem dX12_mended_34 : decode cX12_mended 34 = .ok (.invokevirtual 265, 3) := by decide +kernel
theorem dX12_mended_37 : decode cX12_mended 37 = .ok (.iconst (-1), 1) := by decide +kernel
theorem dX12_mended_38 : decode cX12_mended 38 = .ok (.istore_n 3, 1) := by decide +kernel
theorem dX12_mended_39 : decode cX12_mended 39 = .ok (.iconst 0, 1) := by decide +kernel
theorem dX12_mended_40 : decode cX12_mended 40 = .ok (.istore 4, 2) := by decide +kernel
theorem dX12_mended_42 : decode cX12_mended 42 = .ok (.iconst 0, 1) := by decide +kernel
theorem dX12_mended_43 : decode cX12_mended 43 = .ok (.istore 5, 2) := by decide +kernel
theorem dX12_mended_45 : decode cX12_mended 45 = .ok (.iload 5, 2) := by decide +kernel
theorem dX12_mended_47 : decode cX12_mended 47 = .ok (.aload_n 0, 1) := by decide +kernel
theorem dX12_mended_48 : decode cX12_mended 48 = .ok (.invokevirtual 251, 3) := by decide +kernel
theorem dX12_mended_51 : decode cX12_mended 51 = .ok (.if_icmp .ge 61, 3) := by decide +kernel
theorem dX12_mended_54 : decode cX12_mended 54 = .ok (.aload_n 0, 1) := by decide +kernel
theorem dX12_mended_55 : decode cX12_mended 55 = .ok (.iload 5, 2) := by decide +kernel
theorem dX12_mended_57 : decode cX12_mended 57 = .ok (.aload_n 0, 1) := by decide +kernel
theorem dX12_mended_58 : decode cX12_mended 58 = .ok (.getfield 42, 3) := by decide +kernel
theorem dX12_mended_61 : decode cX12_mended 61 = .ok (.invokevirtual 292, 3) := by decide +kernel
theorem dX12_mended_64 : decode cX12_mended 64 = .ok (.aload_n 0, 1) := by decide +kernel
theorem dX12_mended_65 : decode cX12_mended 65 = .ok (.aload_n 0, 1) := by decide +kernel
theorem dX12_mended_66 : decode cX12_mended 66 = .ok (.getfield 42, 3) := by decide +kernel
theorem dX12_mended_69 : decode cX12_mended 69 = .ok (.invokevirtual 338, 3) := by decide +kernel
theorem dX12_mended_72 : decode cX12_mended 72 = .ok (.ifCond .ne 6, 3) := by decide +kernel
theorem dX12_mended_75 : decode cX12_mended 75 = .ok (.goto 31, 3) := by decide +kernel
theorem dX12_mended_78 : decode cX12_mended 78 = .ok (.aload_n 0, 1) := by decide +kernel
theorem dX12_mended_79 : decode cX12_mended 79 = .ok (.invokevirtual 273, 3) := by decide +kernel
theorem dX12_mended_82 : decode cX12_mended 82 = .ok (.istore 6, 2) := by decide +kernel
theorem dX12_mended_84 : decode cX12_mended 84 = .ok (.iload_n 3, 1) := by decide +kernel
theorem dX12_mended_85 : decode cX12_mended 85 = .ok (.iconst (-1), 1) := by decide +kernel
theorem dX12_mended_86 : decode cX12_mended 86 = .ok (.if_icmp .eq 13, 3) := by decide +kernel
theorem dX12_mended_89 : decode cX12_mended 89 = .ok (.iload 6, 2) := by decide +kernel
theorem dX12_mended_91 : decode cX12_mended 91 = .ok (.iload 4, 2) := by decide +kernel
theorem dX12_mended_93 : decode cX12_mended 93 = .ok (.if_icmp .lt 6, 3) := by decide +kernel
theorem dX12_mended_96 : decode cX12_mended 96 = .ok (.goto 10, 3) := by decide +kernel
theorem dX12_mended_99 : decode cX12_mended 99 = .ok (.iload 5, 2) := by decide +kernel
theorem dX12_mended_101 : decode cX12_mended 101 = .ok (.istore_n 3, 1) := by decide +kernel
theorem dX12_mended_102 : decode cX12_mended 102 = .ok (.iload 6, 2) := by decide +kernel
theorem dX12_mended_104 : decode cX12_mended 104 = .ok (.istore 4, 2) := by decide +kernel
theorem dX12_mended_106 : decode cX12_mended 106 = .ok (.iinc 5 1, 3) := by decide +kernel
theorem dX12_mended_109 : decode cX12_mended 109 = .ok (.goto (-64), 3) := by decide +kernel
theorem dX12_mended_112 : decode cX12_mended 112 = .ok (.iload_n 3, 1) := by decide +kernel
theorem dX12_mended_113 : decode cX12_mended 113 = .ok (.iconst (-1), 1) := by decide +kernel
theorem dX12_mended_114 : decode cX12_mended 114 = .ok (.if_icmp .ne 7, 3) := by decide +kernel
theorem dX12_mended_117 : decode cX12_mended 117 = .ok (.iconst (-1), 1) := by decide +kernel
theorem dX12_mended_118 : decode cX12_mended 118 = .ok (.goto 13, 3) := by decide +kernel
theorem dX12_mended_121 : decode cX12_mended 121 = .ok (.iload_n 2, 1) := by decide +kernel
theorem dX12_mended_122 : decode cX12_mended 122 = .ok (.ifCond .ne 7, 3) := by decide +kernel
theorem dX12_mended_125 : decode cX12_mended 125 = .ok (.iload_n 3, 1) := by decide +kernel
theorem dX12_mended_126 : decode cX12_mended 126 = .ok (.goto 5, 3) := by decide +kernel
theorem dX12_mended_129 : decode cX12_mended 129 = .ok (.iload 4, 2) := by decide +kernel
theorem dX12_mended_131 : decode cX12_mended 131 = .ok (.ireturn, 1) := by decide +kernel
theorem dX12_songOf_0 : decode cX12_songOf 0 = .ok (.iconst 0, 1) := by decide +kernel
theorem dX12_songOf_1 : decode cX12_songOf 1 = .ok (.istore_n 2, 1) := by decide +kernel
theorem dX12_songOf_2 : decode cX12_songOf 2 = .ok (.iconst 0, 1) := by decide +kernel
theorem dX12_songOf_3 : decode cX12_songOf 3 = .ok (.istore_n 3, 1) := by decide +kernel
theorem dX12_songOf_4 : decode cX12_songOf 4 = .ok (.iload_n 3, 1) := by decide +kernel
theorem dX12_songOf_5 : decode cX12_songOf 5 = .ok (.aload_n 0, 1) := by decide +kernel
theorem dX12_songOf_6 : decode cX12_songOf 6 = .ok (.getfield 13, 3) := by decide +kernel
theorem dX12_songOf_9 : decode cX12_songOf 9 = .ok (.iconst 4, 1) := by decide +kernel
theorem dX12_songOf_10 : decode cX12_songOf 10 = .ok (.iaload, 1) := by decide +kernel
theorem dX12_songOf_11 : decode cX12_songOf 11 = .ok (.if_icmp .ge 75, 3) := by decide +kernel
theorem dX12_songOf_14 : decode cX12_songOf 14 = .ok (.aload_n 1, 1) := by decide +kernel
theorem dX12_songOf_15 : decode cX12_songOf 15 = .ok (.aload_n 0, 1) := by decide +kernel
theorem dX12_songOf_16 : decode cX12_songOf 16 = .ok (.getfield 13, 3) := by decide +kernel
theorem dX12_songOf_19 : decode cX12_songOf 19 = .ok (.sipush 134, 3) := by decide +kernel
theorem dX12_songOf_22 : decode cX12_songOf 22 = .ok (.iconst 3, 1) := by decide +kernel
theorem dX12_songOf_23 : decode cX12_songOf 23 = .ok (.iload_n 3, 1) := by decide +kernel
theorem dX12_songOf_24 : decode cX12_songOf 24 = .ok (.imul, 1) := by decide +kernel
theorem dX12_songOf_25 : decode cX12_songOf 25 = .ok (.iadd, 1) := by decide +kernel
theorem dX12_songOf_26 : decode cX12_songOf 26 = .ok (.iaload, 1) := by decide +kernel
theorem dX12_songOf_27 : decode cX12_songOf 27 = .ok (.iaload, 1) := by decide +kernel
theorem dX12_songOf_28 : decode cX12_songOf 28 = .ok (.istore 4, 2) := by decide +kernel
theorem dX12_songOf_30 : decode cX12_songOf 30 = .ok (.aload_n 1, 1) := by decide +kernel
theorem dX12_songOf_31 : decode cX12_songOf 31 = .ok (.aload_n 0, 1) := by decide +kernel
theorem dX12_songOf_32 : decode cX12_songOf 32 = .ok (.getfield 13, 3) := by decide +kernel
theorem dX12_songOf_35 : decode cX12_songOf 35 = .ok (.sipush 134, 3) := by decide +kernel
theorem dX12_songOf_38 : decode cX12_songOf 38 = .ok (.iconst 3, 1) := by decide +kernel
theorem dX12_songOf_39 : decode cX12_songOf 39 = .ok (.iload_n 3, 1) := by decide +kernel
theorem dX12_songOf_40 : decode cX12_songOf 40 = .ok (.imul, 1) := by decide +kernel
theorem dX12_songOf_41 : decode cX12_songOf 41 = .ok (.iadd, 1) := by decide +kernel
theorem dX12_songOf_42 : decode cX12_songOf 42 = .ok (.iconst 1, 1) := by decide +kernel
theorem dX12_songOf_43 : decode cX12_songOf 43 = .ok (.iadd, 1) := by decide +kernel
theorem dX12_songOf_44 : decode cX12_songOf 44 = .ok (.iaload, 1) := by decide +kernel
theorem dX12_songOf_45 : decode cX12_songOf 45 = .ok (.iaload, 1) := by decide +kernel
theorem dX12_songOf_46 : decode cX12_songOf 46 = .ok (.istore 5, 2) := by decide +kernel
theorem dX12_songOf_48 : decode cX12_songOf 48 = .ok (.iload 4, 2) := by decide +kernel
theorem dX12_songOf_50 : decode cX12_songOf 50 = .ok (.iconst (-1), 1) := by decide +kernel
theorem dX12_songOf_51 : decode cX12_songOf 51 = .ok (.if_icmp .eq 29, 3) := by decide +kernel
theorem dX12_songOf_54 : decode cX12_songOf 54 = .ok (.iload 5, 2) := by decide +kernel
theorem dX12_songOf_56 : decode cX12_songOf 56 = .ok (.iload 4, 2) := by decide +kernel
theorem dX12_songOf_58 : decode cX12_songOf 58 = .ok (.iconst 1, 1) := by decide +kernel
theorem dX12_songOf_59 : decode cX12_songOf 59 = .ok (.iadd, 1) := by decide +kernel
theorem dX12_songOf_60 : decode cX12_songOf 60 = .ok (.if_icmp .ne 20, 3) := by decide +kernel
theorem dX12_songOf_63 : decode cX12_songOf 63 = .ok (.iload_n 2, 1) := by decide +kernel
theorem dX12_songOf_64 : decode cX12_songOf 64 = .ok (.aload_n 0, 1) := by decide +kernel
theorem dX12_songOf_65 : decode cX12_songOf 65 = .ok (.getfield 13, 3) := by decide +kernel
theorem dX12_songOf_68 : decode cX12_songOf 68 = .ok (.sipush 134, 3) := by decide +kernel
theorem dX12_songOf_71 : decode cX12_songOf 71 = .ok (.iconst 3, 1) := by decide +kernel
theorem dX12_songOf_72 : decode cX12_songOf 72 = .ok (.iload_n 3, 1) := by decide +kernel
theorem dX12_songOf_73 : decode cX12_songOf 73 = .ok (.imul, 1) := by decide +kernel
theorem dX12_songOf_74 : decode cX12_songOf 74 = .ok (.iadd, 1) := by decide +kernel
theorem dX12_songOf_75 : decode cX12_songOf 75 = .ok (.iconst 2, 1) := by decide +kernel
theorem dX12_songOf_76 : decode cX12_songOf 76 = .ok (.iadd, 1) := by decide +kernel
theorem dX12_songOf_77 : decode cX12_songOf 77 = .ok (.iaload, 1) := by decide +kernel
theorem dX12_songOf_78 : decode cX12_songOf 78 = .ok (.iadd, 1) := by decide +kernel
theorem dX12_songOf_79 : decode cX12_songOf 79 = .ok (.istore_n 2, 1) := by decide +kernel
theorem dX12_songOf_80 : decode cX12_songOf 80 = .ok (.iinc 3 1, 3) := by decide +kernel
theorem dX12_songOf_83 : decode cX12_songOf 83 = .ok (.goto (-79), 3) := by decide +kernel
theorem dX12_songOf_86 : decode cX12_songOf 86 = .ok (.iload_n 2, 1) := by decide +kernel
theorem dX12_songOf_87 : decode cX12_songOf 87 = .ok (.ireturn, 1) := by decide +kernel
theorem dX12_song_0 : decode cX12_song 0 = .ok (.aload_n 0, 1) := by decide +kernel
theorem dX12_song_1 : decode cX12_song 1 = .ok (.iconst 0, 1) := by decide +kernel
theorem dX12_song_2 : decode cX12_song 2 = .ok (.putfield 81, 3) := by decide +kernel
theorem dX12_song_5 : decode cX12_song 5 = .ok (.aload_n 0, 1) := by decide +kernel
theorem dX12_song_6 : decode cX12_song 6 = .ok (.invokevirtual 164, 3) := by decide +kernel
theorem dX12_song_9 : decode cX12_song 9 = .ok (.aload_n 0, 1) := by decide +kernel
theorem dX12_song_10 : decode cX12_song 10 = .ok (.iload_n 1, 1) := by decide +kernel
theorem dX12_song_11 : decode cX12_song 11 = .ok (.invokevirtual 254, 3) := by decide +kernel
theorem dX12_song_14 : decode cX12_song 14 = .ok (.ifCond .ne 5, 3) := by decide +kernel
theorem dX12_song_17 : decode cX12_song 17 = .ok (.iconst (-1), 1) := by decide +kernel
theorem dX12_song_18 : decode cX12_song 18 = .ok (.ireturn, 1) := by decide +kernel
theorem dX12_song_19 : decode cX12_song 19 = .ok (.aload_n 0, 1) := by decide +kernel
theorem dX12_song_20 : decode cX12_song 20 = .ok (.iload_n 1, 1) := by decide +kernel
theorem dX12_song_21 : decode cX12_song 21 = .ok (.aload_n 0, 1) := by decide +kernel
theorem dX12_song_22 : decode cX12_song 22 = .ok (.getfield 42, 3) := by decide +kernel
theorem dX12_song_25 : decode cX12_song 25 = .ok (.invokevirtual 292, 3) := by decide +kernel
theorem dX12_song_28 : decode cX12_song 28 = .ok (.aload_n 0, 1) := by decide +kernel
theorem dX12_song_29 : decode cX12_song 29 = .ok (.aload_n 0, 1) := by decide +kernel
theorem dX12_song_30 : decode cX12_song 30 = .ok (.getfield 42, 3) := by decide +kernel
theorem dX12_song_33 : decode cX12_song 33 = .ok (.invokevirtual 342, 3) := by decide +kernel
theorem dX12_song_36 : decode cX12_song 36 = .ok (.ireturn, 1) := by decide +kernel
theorem dX12_better_0 : decode cX12_better 0 = .ok (.aload_n 0, 1) := by decide +kernel
theorem dX12_better_1 : decode cX12_better 1 = .ok (.iconst 0, 1) := by decide +kernel
theorem dX12_better_2 : decode cX12_better 2 = .ok (.putfield 81, 3) := by decide +kernel
theorem dX12_better_5 : decode cX12_better 5 = .ok (.aload_n 0, 1) := by decide +kernel
theorem dX12_better_6 : decode cX12_better 6 = .ok (.invokevirtual 164, 3) := by decide +kernel
theorem dX12_better_9 : decode cX12_better 9 = .ok (.aload_n 0, 1) := by decide +kernel
theorem dX12_better_10 : decode cX12_better 10 = .ok (.iload_n 1, 1) := by decide +kernel
theorem dX12_better_11 : decode cX12_better 11 = .ok (.invokevirtual 241, 3) := by decide +kernel
theorem dX12_better_14 : decode cX12_better 14 = .ok (.ifCond .eq 21, 3) := by decide +kernel
theorem dX12_better_17 : decode cX12_better 17 = .ok (.aload_n 0, 1) := by decide +kernel
theorem dX12_better_18 : decode cX12_better 18 = .ok (.iload_n 1, 1) := by decide +kernel
theorem dX12_better_19 : decode cX12_better 19 = .ok (.invokevirtual 279, 3) := by decide +kernel
theorem dX12_better_22 : decode cX12_better 22 = .ok (.ifCond .eq 13, 3) := by decide +kernel
theorem dX12_better_25 : decode cX12_better 25 = .ok (.iload_n 2, 1) := by decide +kernel
theorem dX12_better_26 : decode cX12_better 26 = .ok (.iconst 0, 1) := by decide +kernel
theorem dX12_better_27 : decode cX12_better 27 = .ok (.bipush 21, 2) := by decide +kernel
theorem dX12_better_29 : decode cX12_better 29 = .ok (.invokestatic 151, 3) := by decide +kernel
theorem dX12_better_32 : decode cX12_better 32 = .ok (.ifCond .ne 5, 3) := by decide +kernel
theorem dX12_better_35 : decode cX12_better 35 = .ok (.iconst (-1), 1) := by decide +kernel
theorem dX12_better_36 : decode cX12_better 36 = .ok (.ireturn, 1) := by decide +kernel
theorem dX12_better_37 : decode cX12_better 37 = .ok (.aload_n 0, 1) := by decide +kernel
theorem dX12_better_38 : decode cX12_better 38 = .ok (.iload_n 1, 1) := by decide +kernel
theorem dX12_better_39 : decode cX12_better 39 = .ok (.aload_n 0, 1) := by decide +kernel
theorem dX12_better_40 : decode cX12_better 40 = .ok (.getfield 45, 3) := by decide +kernel
theorem dX12_better_43 : decode cX12_better 43 = .ok (.invokevirtual 265, 3) := by decide +kernel
theorem dX12_better_46 : decode cX12_better 46 = .ok (.iconst (-1), 1) := by decide +kernel
theorem dX12_better_47 : decode cX12_better 47 = .ok (.istore_n 3, 1) := by decide +kernel
theorem dX12_better_48 : decode cX12_better 48 = .ok (.iconst 0, 1) := by decide +kernel
theorem dX12_better_49 : decode cX12_better 49 = .ok (.istore 4, 2) := by decide +kernel
theorem dX12_better_51 : decode cX12_better 51 = .ok (.iconst 0, 1) := by decide +kernel
theorem dX12_better_52 : decode cX12_better 52 = .ok (.istore 5, 2) := by decide +kernel
theorem dX12_better_54 : decode cX12_better 54 = .ok (.iconst 0, 1) := by decide +kernel
theorem dX12_better_55 : decode cX12_better 55 = .ok (.istore 6, 2) := by decide +kernel
theorem dX12_better_57 : decode cX12_better 57 = .ok (.iload 6, 2) := by decide +kernel
theorem dX12_better_59 : decode cX12_better 59 = .ok (.aload_n 0, 1) := by decide +kernel
theorem dX12_better_60 : decode cX12_better 60 = .ok (.invokevirtual 251, 3) := by decide +kernel
theorem dX12_better_63 : decode cX12_better 63 = .ok (.if_icmp .ge 81, 3) := by decide +kernel
theorem dX12_better_66 : decode cX12_better 66 = .ok (.aload_n 0, 1) := by decide +kernel
theorem dX12_better_67 : decode cX12_better 67 = .ok (.iload 6, 2) := by decide +kernel
theorem dX12_better_69 : decode cX12_better 69 = .ok (.aload_n 0, 1) := by decide +kernel
theorem dX12_better_70 : decode cX12_better 70 = .ok (.getfield 42, 3) := by decide +kernel
theorem dX12_better_73 : decode cX12_better 73 = .ok (.invokevirtual 292, 3) := by decide +kernel
theorem dX12_better_76 : decode cX12_better 76 = .ok (.aload_n 0, 1) := by decide +kernel
theorem dX12_better_77 : decode cX12_better 77 = .ok (.invokevirtual 259, 3) := by decide +kernel
theorem dX12_better_80 : decode cX12_better 80 = .ok (.istore 7, 2) := by decide +kernel
theorem dX12_better_82 : decode cX12_better 82 = .ok (.aload_n 0, 1) := by decide +kernel
theorem dX12_better_83 : decode cX12_better 83 = .ok (.aload_n 0, 1) := by decide +kernel
theorem dX12_better_84 : decode cX12_better 84 = .ok (.getfield 42, 3) := by decide +kernel
theorem dX12_better_87 : decode cX12_better 87 = .ok (.invokevirtual 342, 3) := by decide +kernel
theorem dX12_better_90 : decode cX12_better 90 = .ok (.istore 8, 2) := by decide +kernel
theorem dX12_better_92 : decode cX12_better 92 = .ok (.iload 7, 2) := by decide +kernel
theorem dX12_better_94 : decode cX12_better 94 = .ok (.iload_n 2, 1) := by decide +kernel
theorem dX12_better_95 : decode cX12_better 95 = .ok (.if_icmp .gt 43, 3) := by decide +kernel
theorem dX12_better_98 : decode cX12_better 98 = .ok (.iload_n 3, 1) := by decide +kernel
theorem dX12_better_99 : decode cX12_better 99 = .ok (.iconst (-1), 1) := by decide +kernel
theorem dX12_better_100 : decode cX12_better 100 = .ok (.if_icmp .eq 27, 3) := by decide +kernel
theorem dX12_better_103 : decode cX12_better 103 = .ok (.iload 8, 2) := by decide +kernel
theorem dX12_better_105 : decode cX12_better 105 = .ok (.iload 4, 2) := by decide +kernel
theorem dX12_better_107 : decode cX12_better 107 = .ok (.if_icmp .lt 31, 3) := by decide +kernel
theorem dX12_better_110 : decode cX12_better 110 = .ok (.iload 8, 2) := by decide +kernel
theorem dX12_better_112 : decode cX12_better 112 = .ok (.iload 4, 2) := by decide +kernel
theorem dX12_better_114 : decode cX12_better 114 = .ok (.if_icmp .ne 13, 3) := by decide +kernel
theorem dX12_better_117 : decode cX12_better 117 = .ok (.iload 7, 2) := by decide +kernel
theorem dX12_better_119 : decode cX12_better 119 = .ok (.iload 5, 2) := by decide +kernel
theorem dX12_better_121 : decode cX12_better 121 = .ok (.if_icmp .lt 6, 3) := by decide +kernel
theorem dX12_better_124 : decode cX12_better 124 = .ok (.goto 14, 3) := by decide +kernel
theorem dX12_better_127 : decode cX12_better 127 = .ok (.iload 6, 2) := by decide +kernel
theorem dX12_better_129 : decode cX12_better 129 = .ok (.istore_n 3, 1) := by decide +kernel
theorem dX12_better_130 : decode cX12_better 130 = .ok (.iload 8, 2) := by decide +kernel
theorem dX12_better_132 : decode cX12_better 132 = .ok (.istore 4, 2) := by decide +kernel
theorem dX12_better_134 : decode cX12_better 134 = .ok (.iload 7, 2) := by decide +kernel
theorem dX12_better_136 : decode cX12_better 136 = .ok (.istore 5, 2) := by decide +kernel
theorem dX12_better_138 : decode cX12_better 138 = .ok (.iinc 6 1, 3) := by decide +kernel
theorem dX12_better_141 : decode cX12_better 141 = .ok (.goto (-84), 3) := by decide +kernel
theorem dX12_better_144 : decode cX12_better 144 = .ok (.iload_n 3, 1) := by decide +kernel
theorem dX12_better_145 : decode cX12_better 145 = .ok (.ireturn, 1) := by decide +kernel
theorem dX12_join_0 : decode cX12_join 0 = .ok (.aload_n 0, 1) := by decide +kernel
theorem dX12_join_1 : decode cX12_join 1 = .ok (.iconst 0, 1) := by decide +kernel
theorem dX12_join_2 : decode cX12_join 2 = .ok (.putfield 81, 3) := by decide +kernel
theorem dX12_join_5 : decode cX12_join 5 = .ok (.aload_n 0, 1) := by decide +kernel
theorem dX12_join_6 : decode cX12_join 6 = .ok (.invokevirtual 164, 3) := by decide +kernel
theorem dX12_join_9 : decode cX12_join 9 = .ok (.aload_n 0, 1) := by decide +kernel
theorem dX12_join_10 : decode cX12_join 10 = .ok (.iload_n 1, 1) := by decide +kernel
theorem dX12_join_11 : decode cX12_join 11 = .ok (.invokevirtual 241, 3) := by decide +kernel
theorem dX12_join_14 : decode cX12_join 14 = .ok (.ifCond .eq 20, 3) := by decide +kernel
theorem dX12_join_17 : decode cX12_join 17 = .ok (.aload_n 0, 1) := by decide +kernel
theorem dX12_join_18 : decode cX12_join 18 = .ok (.iload_n 2, 1) := by decide +kernel
theorem dX12_join_19 : decode cX12_join 19 = .ok (.invokevirtual 241, 3) := by decide +kernel
theorem dX12_join_22 : decode cX12_join 22 = .ok (.ifCond .eq 12, 3) := by decide +kernel
theorem dX12_join_25 : decode cX12_join 25 = .ok (.iload_n 3, 1) := by decide +kernel
theorem dX12_join_26 : decode cX12_join 26 = .ok (.iconst 0, 1) := by decide +kernel
theorem dX12_join_27 : decode cX12_join 27 = .ok (.iconst 1, 1) := by decide +kernel
theorem dX12_join_28 : decode cX12_join 28 = .ok (.invokestatic 151, 3) := by decide +kernel
theorem dX12_join_31 : decode cX12_join 31 = .ok (.ifCond .ne 5, 3) := by decide +kernel
theorem dX12_join_34 : decode cX12_join 34 = .ok (.iconst (-1), 1) := by decide +kernel
theorem dX12_join_35 : decode cX12_join 35 = .ok (.ireturn, 1) := by decide +kernel
theorem dX12_join_36 : decode cX12_join 36 = .ok (.iconst (-1), 1) := by decide +kernel
theorem dX12_join_37 : decode cX12_join 37 = .ok (.istore 4, 2) := by decide +kernel
theorem dX12_join_39 : decode cX12_join 39 = .ok (.iconst 0, 1) := by decide +kernel
theorem dX12_join_40 : decode cX12_join 40 = .ok (.istore 5, 2) := by decide +kernel
theorem dX12_join_42 : decode cX12_join 42 = .ok (.iconst 0, 1) := by decide +kernel
theorem dX12_join_43 : decode cX12_join 43 = .ok (.istore 6, 2) := by decide +kernel
theorem dX12_join_45 : decode cX12_join 45 = .ok (.iload 6, 2) := by decide +kernel
theorem dX12_join_47 : decode cX12_join 47 = .ok (.aload_n 0, 1) := by decide +kernel
theorem dX12_join_48 : decode cX12_join 48 = .ok (.invokevirtual 251, 3) := by decide +kernel
theorem dX12_join_51 : decode cX12_join 51 = .ok (.if_icmp .ge 76, 3) := by decide +kernel
theorem dX12_join_54 : decode cX12_join 54 = .ok (.aload_n 0, 1) := by decide +kernel
theorem dX12_join_55 : decode cX12_join 55 = .ok (.iload 6, 2) := by decide +kernel
theorem dX12_join_57 : decode cX12_join 57 = .ok (.aload_n 0, 1) := by decide +kernel
theorem dX12_join_58 : decode cX12_join 58 = .ok (.getfield 42, 3) := by decide +kernel
theorem dX12_join_61 : decode cX12_join 61 = .ok (.invokevirtual 292, 3) := by decide +kernel
theorem dX12_join_64 : decode cX12_join 64 = .ok (.aload_n 0, 1) := by decide +kernel
theorem dX12_join_65 : decode cX12_join 65 = .ok (.iload_n 1, 1) := by decide +kernel
theorem dX12_join_66 : decode cX12_join 66 = .ok (.aload_n 0, 1) := by decide +kernel
theorem dX12_join_67 : decode cX12_join 67 = .ok (.getfield 45, 3) := by decide +kernel
theorem dX12_join_70 : decode cX12_join 70 = .ok (.invokevirtual 265, 3) := by decide +kernel
theorem dX12_join_73 : decode cX12_join 73 = .ok (.aload_n 0, 1) := by decide +kernel
theorem dX12_join_74 : decode cX12_join 74 = .ok (.invokevirtual 259, 3) := by decide +kernel
theorem dX12_join_77 : decode cX12_join 77 = .ok (.istore 7, 2) := by decide +kernel
theorem dX12_join_79 : decode cX12_join 79 = .ok (.aload_n 0, 1) := by decide +kernel
theorem dX12_join_80 : decode cX12_join 80 = .ok (.iload_n 2, 1) := by decide +kernel
theorem dX12_join_81 : decode cX12_join 81 = .ok (.aload_n 0, 1) := by decide +kernel
theorem dX12_join_82 : decode cX12_join 82 = .ok (.getfield 45, 3) := by decide +kernel
theorem dX12_join_85 : decode cX12_join 85 = .ok (.invokevirtual 265, 3) := by decide +kernel
theorem dX12_join_88 : decode cX12_join 88 = .ok (.iload 7, 2) := by decide +kernel
theorem dX12_join_90 : decode cX12_join 90 = .ok (.aload_n 0, 1) := by decide +kernel
theorem dX12_join_91 : decode cX12_join 91 = .ok (.invokevirtual 259, 3) := by decide +kernel
theorem dX12_join_94 : decode cX12_join 94 = .ok (.iadd, 1) := by decide +kernel
theorem dX12_join_95 : decode cX12_join 95 = .ok (.istore 7, 2) := by decide +kernel
theorem dX12_join_97 : decode cX12_join 97 = .ok (.iload 4, 2) := by decide +kernel
theorem dX12_join_99 : decode cX12_join 99 = .ok (.iconst (-1), 1) := by decide +kernel
theorem dX12_join_100 : decode cX12_join 100 = .ok (.if_icmp .eq 13, 3) := by decide +kernel
theorem dX12_join_103 : decode cX12_join 103 = .ok (.iload 7, 2) := by decide +kernel
theorem dX12_join_105 : decode cX12_join 105 = .ok (.iload 5, 2) := by decide +kernel
theorem dX12_join_107 : decode cX12_join 107 = .ok (.if_icmp .lt 6, 3) := by decide +kernel
theorem dX12_join_110 : decode cX12_join 110 = .ok (.goto 11, 3) := by decide +kernel
theorem dX12_join_113 : decode cX12_join 113 = .ok (.iload 6, 2) := by decide +kernel
theorem dX12_join_115 : decode cX12_join 115 = .ok (.istore 4, 2) := by decide +kernel
theorem dX12_join_117 : decode cX12_join 117 = .ok (.iload 7, 2) := by decide +kernel
theorem dX12_join_119 : decode cX12_join 119 = .ok (.istore 5, 2) := by decide +kernel
theorem dX12_join_121 : decode cX12_join 121 = .ok (.iinc 6 1, 3) := by decide +kernel
theorem dX12_join_124 : decode cX12_join 124 = .ok (.goto (-79), 3) := by decide +kernel
theorem dX12_join_127 : decode cX12_join 127 = .ok (.iload_n 3, 1) := by decide +kernel
theorem dX12_join_128 : decode cX12_join 128 = .ok (.ifCond .ne 8, 3) := by decide +kernel
theorem dX12_join_131 : decode cX12_join 131 = .ok (.iload 4, 2) := by decide +kernel
theorem dX12_join_133 : decode cX12_join 133 = .ok (.goto 5, 3) := by decide +kernel
theorem dX12_join_136 : decode cX12_join 136 = .ok (.iload 5, 2) := by decide +kernel
theorem dX12_join_138 : decode cX12_join 138 = .ok (.ireturn, 1) := by decide +kernel
theorem dX12_reaches_0 : decode cX12_reaches 0 = .ok (.aload_n 0, 1) := by decide +kernel
theorem dX12_reaches_1 : decode cX12_reaches 1 = .ok (.iload_n 3, 1) := by decide +kernel
theorem dX12_reaches_2 : decode cX12_reaches 2 = .ok (.aload_n 0, 1) := by decide +kernel
theorem dX12_reaches_3 : decode cX12_reaches 3 = .ok (.getfield 42, 3) := by decide +kernel
theorem dX12_reaches_6 : decode cX12_reaches 6 = .ok (.invokevirtual 265, 3) := by decide +kernel
theorem dX12_reaches_9 : decode cX12_reaches 9 = .ok (.iload_n 2, 1) := by decide +kernel
theorem dX12_reaches_10 : decode cX12_reaches 10 = .ok (.istore 4, 2) := by decide +kernel
theorem dX12_reaches_12 : decode cX12_reaches 12 = .ok (.iload 4, 2) := by decide +kernel
theorem dX12_reaches_14 : decode cX12_reaches 14 = .ok (.aload_n 0, 1) := by decide +kernel
theorem dX12_reaches_15 : decode cX12_reaches 15 = .ok (.iload_n 1, 1) := by decide +kernel
theorem dX12_reaches_16 : decode cX12_reaches 16 = .ok (.invokevirtual 182, 3) := by decide +kernel
theorem dX12_reaches_19 : decode cX12_reaches 19 = .ok (.if_icmp .ge 60, 3) := by decide +kernel
theorem dX12_reaches_22 : decode cX12_reaches 22 = .ok (.aload_n 0, 1) := by decide +kernel
theorem dX12_reaches_23 : decode cX12_reaches 23 = .ok (.getfield 42, 3) := by decide +kernel
theorem dX12_reaches_26 : decode cX12_reaches 26 = .ok (.aload_n 0, 1) := by decide +kernel
theorem dX12_reaches_27 : decode cX12_reaches 27 = .ok (.iload_n 1, 1) := by decide +kernel
theorem dX12_reaches_28 : decode cX12_reaches 28 = .ok (.iload 4, 2) := by decide +kernel
theorem dX12_reaches_30 : decode cX12_reaches 30 = .ok (.invokevirtual 247, 3) := by decide +kernel
theorem dX12_reaches_33 : decode cX12_reaches 33 = .ok (.iaload, 1) := by decide +kernel
theorem dX12_reaches_34 : decode cX12_reaches 34 = .ok (.iconst (-1), 1) := by decide +kernel
theorem dX12_reaches_35 : decode cX12_reaches 35 = .ok (.if_icmp .eq 44, 3) := by decide +kernel
theorem dX12_reaches_38 : decode cX12_reaches 38 = .ok (.iload 4, 2) := by decide +kernel
theorem dX12_reaches_40 : decode cX12_reaches 40 = .ok (.iload_n 2, 1) := by decide +kernel
theorem dX12_reaches_41 : decode cX12_reaches 41 = .ok (.if_icmp .eq 32, 3) := by decide +kernel
theorem dX12_reaches_44 : decode cX12_reaches 44 = .ok (.aload_n 0, 1) := by decide +kernel
theorem dX12_reaches_45 : decode cX12_reaches 45 = .ok (.getfield 42, 3) := by decide +kernel
theorem dX12_reaches_48 : decode cX12_reaches 48 = .ok (.aload_n 0, 1) := by decide +kernel
theorem dX12_reaches_49 : decode cX12_reaches 49 = .ok (.iload_n 1, 1) := by decide +kernel
theorem dX12_reaches_50 : decode cX12_reaches 50 = .ok (.iload 4, 2) := by decide +kernel
theorem dX12_reaches_52 : decode cX12_reaches 52 = .ok (.invokevirtual 247, 3) := by decide +kernel
theorem dX12_reaches_55 : decode cX12_reaches 55 = .ok (.iaload, 1) := by decide +kernel
theorem dX12_reaches_56 : decode cX12_reaches 56 = .ok (.aload_n 0, 1) := by decide +kernel
theorem dX12_reaches_57 : decode cX12_reaches 57 = .ok (.getfield 42, 3) := by decide +kernel
theorem dX12_reaches_60 : decode cX12_reaches 60 = .ok (.aload_n 0, 1) := by decide +kernel
theorem dX12_reaches_61 : decode cX12_reaches 61 = .ok (.iload_n 1, 1) := by decide +kernel
theorem dX12_reaches_62 : decode cX12_reaches 62 = .ok (.iload 4, 2) := by decide +kernel
theorem dX12_reaches_64 : decode cX12_reaches 64 = .ok (.iconst 1, 1) := by decide +kernel
theorem dX12_reaches_65 : decode cX12_reaches 65 = .ok (.isub, 1) := by decide +kernel
theorem dX12_reaches_66 : decode cX12_reaches 66 = .ok (.invokevirtual 247, 3) := by decide +kernel
theorem dX12_reaches_69 : decode cX12_reaches 69 = .ok (.iaload, 1) := by decide +kernel
theorem dX12_reaches_70 : decode cX12_reaches 70 = .ok (.if_icmp .le 9, 3) := by decide +kernel
theorem dX12_reaches_73 : decode cX12_reaches 73 = .ok (.iinc 4 1, 3) := by decide +kernel
theorem dX12_reaches_76 : decode cX12_reaches 76 = .ok (.goto (-64), 3) := by decide +kernel
theorem dX12_reaches_79 : decode cX12_reaches 79 = .ok (.iload 4, 2) := by decide +kernel
theorem dX12_reaches_81 : decode cX12_reaches 81 = .ok (.ireturn, 1) := by decide +kernel
theorem dX12_woven_0 : decode cX12_woven 0 = .ok (.aload_n 0, 1) := by decide +kernel
theorem dX12_woven_1 : decode cX12_woven 1 = .ok (.iconst 0, 1) := by decide +kernel
theorem dX12_woven_2 : decode cX12_woven 2 = .ok (.putfield 81, 3) := by decide +kernel
theorem dX12_woven_5 : decode cX12_woven 5 = .ok (.aload_n 0, 1) := by decide +kernel
theorem dX12_woven_6 : decode cX12_woven 6 = .ok (.invokevirtual 164, 3) := by decide +kernel
theorem dX12_woven_9 : decode cX12_woven 9 = .ok (.aload_n 0, 1) := by decide +kernel
theorem dX12_woven_10 : decode cX12_woven 10 = .ok (.iload_n 1, 1) := by decide +kernel
theorem dX12_woven_11 : decode cX12_woven 11 = .ok (.invokevirtual 241, 3) := by decide +kernel
theorem dX12_woven_14 : decode cX12_woven 14 = .ok (.ifCond .eq 19, 3) := by decide +kernel
theorem dX12_woven_17 : decode cX12_woven 17 = .ok (.aload_n 0, 1) := by decide +kernel
theorem dX12_woven_18 : decode cX12_woven 18 = .ok (.iload_n 2, 1) := by decide +kernel
theorem dX12_woven_19 : decode cX12_woven 19 = .ok (.invokevirtual 241, 3) := by decide +kernel
theorem dX12_woven_22 : decode cX12_woven 22 = .ok (.ifCond .eq 11, 3) := by decide +kernel
theorem dX12_woven_25 : decode cX12_woven 25 = .ok (.aload_n 0, 1) := by decide +kernel
theorem dX12_woven_26 : decode cX12_woven 26 = .ok (.iload_n 3, 1) := by decide +kernel
theorem dX12_woven_27 : decode cX12_woven 27 = .ok (.invokevirtual 241, 3) := by decide +kernel
theorem dX12_woven_30 : decode cX12_woven 30 = .ok (.ifCond .ne 6, 3) := by decide +kernel
theorem dX12_woven_33 : decode cX12_woven 33 = .ok (.bipush (-2), 2) := by decide +kernel
theorem dX12_woven_35 : decode cX12_woven 35 = .ok (.ireturn, 1) := by decide +kernel
theorem dX12_woven_36 : decode cX12_woven 36 = .ok (.iconst 0, 1) := by decide +kernel
theorem dX12_woven_37 : decode cX12_woven 37 = .ok (.istore 4, 2) := by decide +kernel
theorem dX12_woven_39 : decode cX12_woven 39 = .ok (.iconst 0, 1) := by decide +kernel
theorem dX12_woven_40 : decode cX12_woven 40 = .ok (.istore 5, 2) := by decide +kernel
theorem dX12_woven_42 : decode cX12_woven 42 = .ok (.iload 4, 2) := by decide +kernel
theorem dX12_woven_44 : decode cX12_woven 44 = .ok (.aload_n 0, 1) := by decide +kernel
theorem dX12_woven_45 : decode cX12_woven 45 = .ok (.iload_n 3, 1) := by decide +kernel
theorem dX12_woven_46 : decode cX12_woven 46 = .ok (.invokevirtual 182, 3) := by decide +kernel
theorem dX12_woven_49 : decode cX12_woven 49 = .ok (.if_icmp .ge 58, 3) := by decide +kernel
theorem dX12_woven_52 : decode cX12_woven 52 = .ok (.aload_n 0, 1) := by decide +kernel
theorem dX12_woven_53 : decode cX12_woven 53 = .ok (.iload_n 3, 1) := by decide +kernel
theorem dX12_woven_54 : decode cX12_woven 54 = .ok (.iload 4, 2) := by decide +kernel
theorem dX12_woven_56 : decode cX12_woven 56 = .ok (.iload_n 1, 1) := by decide +kernel
theorem dX12_woven_57 : decode cX12_woven 57 = .ok (.invokevirtual 346, 3) := by decide +kernel
theorem dX12_woven_60 : decode cX12_woven 60 = .ok (.istore 6, 2) := by decide +kernel
theorem dX12_woven_62 : decode cX12_woven 62 = .ok (.aload_n 0, 1) := by decide +kernel
theorem dX12_woven_63 : decode cX12_woven 63 = .ok (.iload_n 3, 1) := by decide +kernel
theorem dX12_woven_64 : decode cX12_woven 64 = .ok (.iload 4, 2) := by decide +kernel
theorem dX12_woven_66 : decode cX12_woven 66 = .ok (.iload_n 2, 1) := by decide +kernel
theorem dX12_woven_67 : decode cX12_woven 67 = .ok (.invokevirtual 346, 3) := by decide +kernel
theorem dX12_woven_70 : decode cX12_woven 70 = .ok (.istore 7, 2) := by decide +kernel
theorem dX12_woven_72 : decode cX12_woven 72 = .ok (.iload 6, 2) := by decide +kernel
theorem dX12_woven_74 : decode cX12_woven 74 = .ok (.iload 7, 2) := by decide +kernel
theorem dX12_woven_76 : decode cX12_woven 76 = .ok (.if_icmp .le 8, 3) := by decide +kernel
theorem dX12_woven_79 : decode cX12_woven 79 = .ok (.iload 6, 2) := by decide +kernel
theorem dX12_woven_81 : decode cX12_woven 81 = .ok (.goto 5, 3) := by decide +kernel
theorem dX12_woven_84 : decode cX12_woven 84 = .ok (.iload 7, 2) := by decide +kernel
theorem dX12_woven_86 : decode cX12_woven 86 = .ok (.istore 8, 2) := by decide +kernel
theorem dX12_woven_88 : decode cX12_woven 88 = .ok (.iload 8, 2) := by decide +kernel
theorem dX12_woven_90 : decode cX12_woven 90 = .ok (.iload 4, 2) := by decide +kernel
theorem dX12_woven_92 : decode cX12_woven 92 = .ok (.if_icmp .ne 5, 3) := by decide +kernel
theorem dX12_woven_95 : decode cX12_woven 95 = .ok (.iconst (-1), 1) := by decide +kernel
theorem dX12_woven_96 : decode cX12_woven 96 = .ok (.ireturn, 1) := by decide +kernel
theorem dX12_woven_97 : decode cX12_woven 97 = .ok (.iload 8, 2) := by decide +kernel
theorem dX12_woven_99 : decode cX12_woven 99 = .ok (.istore 4, 2) := by decide +kernel
theorem dX12_woven_101 : decode cX12_woven 101 = .ok (.iinc 5 1, 3) := by decide +kernel
theorem dX12_woven_104 : decode cX12_woven 104 = .ok (.goto (-62), 3) := by decide +kernel
theorem dX12_woven_107 : decode cX12_woven 107 = .ok (.iload 5, 2) := by decide +kernel
theorem dX12_woven_109 : decode cX12_woven 109 = .ok (.ireturn, 1) := by decide +kernel
theorem dX12_lays_0 : decode cX12_lays 0 = .ok (.iconst 4, 1) := by decide +kernel
theorem dX12_lays_1 : decode cX12_lays 1 = .ok (.aload_n 0, 1) := by decide +kernel
theorem dX12_lays_2 : decode cX12_lays 2 = .ok (.getfield 349, 3) := by decide +kernel
theorem dX12_lays_5 : decode cX12_lays 5 = .ok (.imul, 1) := by decide +kernel
theorem dX12_lays_6 : decode cX12_lays 6 = .ok (.istore 5, 2) := by decide +kernel
theorem dX12_lays_8 : decode cX12_lays 8 = .ok (.aload_n 0, 1) := by decide +kernel
theorem dX12_lays_9 : decode cX12_lays 9 = .ok (.getfield 78, 3) := by decide +kernel
theorem dX12_lays_12 : decode cX12_lays 12 = .ok (.iload 5, 2) := by decide +kernel
theorem dX12_lays_14 : decode cX12_lays 14 = .ok (.iload_n 1, 1) := by decide +kernel
theorem dX12_lays_15 : decode cX12_lays 15 = .ok (.iastore, 1) := by decide +kernel
theorem dX12_lays_16 : decode cX12_lays 16 = .ok (.aload_n 0, 1) := by decide +kernel
theorem dX12_lays_17 : decode cX12_lays 17 = .ok (.getfield 78, 3) := by decide +kernel
theorem dX12_lays_20 : decode cX12_lays 20 = .ok (.iload 5, 2) := by decide +kernel
theorem dX12_lays_22 : decode cX12_lays 22 = .ok (.iconst 1, 1) := by decide +kernel
theorem dX12_lays_23 : decode cX12_lays 23 = .ok (.iadd, 1) := by decide +kernel
theorem dX12_lays_24 : decode cX12_lays 24 = .ok (.iload_n 2, 1) := by decide +kernel
theorem dX12_lays_25 : decode cX12_lays 25 = .ok (.iastore, 1) := by decide +kernel
theorem dX12_lays_26 : decode cX12_lays 26 = .ok (.aload_n 0, 1) := by decide +kernel
theorem dX12_lays_27 : decode cX12_lays 27 = .ok (.getfield 78, 3) := by decide +kernel
theorem dX12_lays_30 : decode cX12_lays 30 = .ok (.iload 5, 2) := by decide +kernel
theorem dX12_lays_32 : decode cX12_lays 32 = .ok (.iconst 2, 1) := by decide +kernel
theorem dX12_lays_33 : decode cX12_lays 33 = .ok (.iadd, 1) := by decide +kernel
theorem dX12_lays_34 : decode cX12_lays 34 = .ok (.iload_n 3, 1) := by decide +kernel
theorem dX12_lays_35 : decode cX12_lays 35 = .ok (.iastore, 1) := by decide +kernel
theorem dX12_lays_36 : decode cX12_lays 36 = .ok (.aload_n 0, 1) := by decide +kernel
theorem dX12_lays_37 : decode cX12_lays 37 = .ok (.getfield 78, 3) := by decide +kernel
theorem dX12_lays_40 : decode cX12_lays 40 = .ok (.iload 5, 2) := by decide +kernel
theorem dX12_lays_42 : decode cX12_lays 42 = .ok (.iconst 3, 1) := by decide +kernel
theorem dX12_lays_43 : decode cX12_lays 43 = .ok (.iadd, 1) := by decide +kernel
theorem dX12_lays_44 : decode cX12_lays 44 = .ok (.iload 4, 2) := by decide +kernel
theorem dX12_lays_46 : decode cX12_lays 46 = .ok (.iastore, 1) := by decide +kernel
theorem dX12_lays_47 : decode cX12_lays 47 = .ok (.aload_n 0, 1) := by decide +kernel
theorem dX12_lays_48 : decode cX12_lays 48 = .ok (.dup, 1) := by decide +kernel
theorem dX12_lays_49 : decode cX12_lays 49 = .ok (.getfield 349, 3) := by decide +kernel
theorem dX12_lays_52 : decode cX12_lays 52 = .ok (.iconst 1, 1) := by decide +kernel
theorem dX12_lays_53 : decode cX12_lays 53 = .ok (.iadd, 1) := by decide +kernel
theorem dX12_lays_54 : decode cX12_lays 54 = .ok (.putfield 349, 3) := by decide +kernel
theorem dX12_lays_57 : decode cX12_lays 57 = .ok (.aload_n 0, 1) := by decide +kernel
theorem dX12_lays_58 : decode cX12_lays 58 = .ok (.getfield 349, 3) := by decide +kernel
theorem dX12_lays_61 : decode cX12_lays 61 = .ok (.iconst 1, 1) := by decide +kernel
theorem dX12_lays_62 : decode cX12_lays 62 = .ok (.isub, 1) := by decide +kernel
theorem dX12_lays_63 : decode cX12_lays 63 = .ok (.ireturn, 1) := by decide +kernel
theorem dX12_readOr_0 : decode cX12_readOr 0 = .ok (.aload_n 0, 1) := by decide +kernel
theorem dX12_readOr_1 : decode cX12_readOr 1 = .ok (.invokevirtual 352, 3) := by decide +kernel
theorem dX12_readOr_4 : decode cX12_readOr 4 = .ok (.ifCond .ne 5, 3) := by decide +kernel
theorem dX12_readOr_7 : decode cX12_readOr 7 = .ok (.iconst 0, 1) := by decide +kernel
theorem dX12_readOr_8 : decode cX12_readOr 8 = .ok (.ireturn, 1) := by decide +kernel
theorem dX12_readOr_9 : decode cX12_readOr 9 = .ok (.aload_n 0, 1) := by decide +kernel
theorem dX12_readOr_10 : decode cX12_readOr 10 = .ok (.getfield 355, 3) := by decide +kernel
theorem dX12_readOr_13 : decode cX12_readOr 13 = .ok (.istore_n 1, 1) := by decide +kernel
theorem dX12_readOr_14 : decode cX12_readOr 14 = .ok (.aload_n 0, 1) := by decide +kernel
theorem dX12_readOr_15 : decode cX12_readOr 15 = .ok (.bipush 9, 2) := by decide +kernel
theorem dX12_readOr_17 : decode cX12_readOr 17 = .ok (.invokevirtual 202, 3) := by decide +kernel
theorem dX12_readOr_20 : decode cX12_readOr 20 = .ok (.ifCond .eq 31, 3) := by decide +kernel
theorem dX12_readOr_23 : decode cX12_readOr 23 = .ok (.aload_n 0, 1) := by decide +kernel
theorem dX12_readOr_24 : decode cX12_readOr 24 = .ok (.invokevirtual 158, 3) := by decide +kernel
theorem dX12_readOr_27 : decode cX12_readOr 27 = .ok (.aload_n 0, 1) := by decide +kernel
theorem dX12_readOr_28 : decode cX12_readOr 28 = .ok (.invokevirtual 352, 3) := by decide +kernel
theorem dX12_readOr_31 : decode cX12_readOr 31 = .ok (.ifCond .ne 5, 3) := by decide +kernel
theorem dX12_readOr_34 : decode cX12_readOr 34 = .ok (.iconst 0, 1) := by decide +kernel
theorem dX12_readOr_35 : decode cX12_readOr 35 = .ok (.ireturn, 1) := by decide +kernel
theorem dX12_readOr_36 : decode cX12_readOr 36 = .ok (.aload_n 0, 1) := by decide +kernel
theorem dX12_readOr_37 : decode cX12_readOr 37 = .ok (.iconst 3, 1) := by decide +kernel
theorem dX12_readOr_38 : decode cX12_readOr 38 = .ok (.iload_n 1, 1) := by decide +kernel
theorem dX12_readOr_39 : decode cX12_readOr 39 = .ok (.aload_n 0, 1) := by decide +kernel
theorem dX12_readOr_40 : decode cX12_readOr 40 = .ok (.getfield 355, 3) := by decide +kernel
theorem dX12_readOr_43 : decode cX12_readOr 43 = .ok (.iconst 0, 1) := by decide +kernel
theorem dX12_readOr_44 : decode cX12_readOr 44 = .ok (.invokevirtual 358, 3) := by decide +kernel
theorem dX12_readOr_47 : decode cX12_readOr 47 = .ok (.istore_n 1, 1) := by decide +kernel
theorem dX12_readOr_48 : decode cX12_readOr 48 = .ok (.goto (-34), 3) := by decide +kernel
theorem dX12_readOr_51 : decode cX12_readOr 51 = .ok (.aload_n 0, 1) := by decide +kernel
theorem dX12_readOr_52 : decode cX12_readOr 52 = .ok (.iload_n 1, 1) := by decide +kernel
theorem dX12_readOr_53 : decode cX12_readOr 53 = .ok (.putfield 355, 3) := by decide +kernel
theorem dX12_readOr_56 : decode cX12_readOr 56 = .ok (.iconst 1, 1) := by decide +kernel
theorem dX12_readOr_57 : decode cX12_readOr 57 = .ok (.ireturn, 1) := by decide +kernel
theorem dX12_readAnd_0 : decode cX12_readAnd 0 = .ok (.aload_n 0, 1) := by decide +kernel
theorem dX12_readAnd_1 : decode cX12_readAnd 1 = .ok (.invokevirtual 362, 3) := by decide +kernel
theorem dX12_readAnd_4 : decode cX12_readAnd 4 = .ok (.ifCond .ne 5, 3) := by decide +kernel
theorem dX12_readAnd_7 : decode cX12_readAnd 7 = .ok (.iconst 0, 1) := by decide +kernel
theorem dX12_readAnd_8 : decode cX12_readAnd 8 = .ok (.ireturn, 1) := by decide +kernel
theorem dX12_readAnd_9 : decode cX12_readAnd 9 = .ok (.aload_n 0, 1) := by decide +kernel
theorem dX12_readAnd_10 : decode cX12_readAnd 10 = .ok (.getfield 355, 3) := by decide +kernel
theorem dX12_readAnd_13 : decode cX12_readAnd 13 = .ok (.istore_n 1, 1) := by decide +kernel
theorem dX12_readAnd_14 : decode cX12_readAnd 14 = .ok (.aload_n 0, 1) := by decide +kernel
theorem dX12_readAnd_15 : decode cX12_readAnd 15 = .ok (.bipush 10, 2) := by decide +kernel
theorem dX12_readAnd_17 : decode cX12_readAnd 17 = .ok (.invokevirtual 202, 3) := by decide +kernel
theorem dX12_readAnd_20 : decode cX12_readAnd 20 = .ok (.ifCond .eq 31, 3) := by decide +kernel
theorem dX12_readAnd_23 : decode cX12_readAnd 23 = .ok (.aload_n 0, 1) := by decide +kernel
theorem dX12_readAnd_24 : decode cX12_readAnd 24 = .ok (.invokevirtual 158, 3) := by decide +kernel
theorem dX12_readAnd_27 : decode cX12_readAnd 27 = .ok (.aload_n 0, 1) := by decide +kernel
theorem dX12_readAnd_28 : decode cX12_readAnd 28 = .ok (.invokevirtual 362, 3) := by decide +kernel
theorem dX12_readAnd_31 : decode cX12_readAnd 31 = .ok (.ifCond .ne 5, 3) := by decide +kernel
theorem dX12_readAnd_34 : decode cX12_readAnd 34 = .ok (.iconst 0, 1) := by decide +kernel
theorem dX12_readAnd_35 : decode cX12_readAnd 35 = .ok (.ireturn, 1) := by decide +kernel
theorem dX12_readAnd_36 : decode cX12_readAnd 36 = .ok (.aload_n 0, 1) := by decide +kernel
theorem dX12_readAnd_37 : decode cX12_readAnd 37 = .ok (.iconst 2, 1) := by decide +kernel
theorem dX12_readAnd_38 : decode cX12_readAnd 38 = .ok (.iload_n 1, 1) := by decide +kernel
theorem dX12_readAnd_39 : decode cX12_readAnd 39 = .ok (.aload_n 0, 1) := by decide +kernel
theorem dX12_readAnd_40 : decode cX12_readAnd 40 = .ok (.getfield 355, 3) := by decide +kernel
theorem dX12_readAnd_43 : decode cX12_readAnd 43 = .ok (.iconst 0, 1) := by decide +kernel
theorem dX12_readAnd_44 : decode cX12_readAnd 44 = .ok (.invokevirtual 358, 3) := by decide +kernel
theorem dX12_readAnd_47 : decode cX12_readAnd 47 = .ok (.istore_n 1, 1) := by decide +kernel
theorem dX12_readAnd_48 : decode cX12_readAnd 48 = .ok (.goto (-34), 3) := by decide +kernel
theorem dX12_readAnd_51 : decode cX12_readAnd 51 = .ok (.aload_n 0, 1) := by decide +kernel
theorem dX12_readAnd_52 : decode cX12_readAnd 52 = .ok (.iload_n 1, 1) := by decide +kernel
theorem dX12_readAnd_53 : decode cX12_readAnd 53 = .ok (.putfield 355, 3) := by decide +kernel
theorem dX12_readAnd_56 : decode cX12_readAnd 56 = .ok (.iconst 1, 1) := by decide +kernel
theorem dX12_readAnd_57 : decode cX12_readAnd 57 = .ok (.ireturn, 1) := by decide +kernel
theorem dX12_readOne_0 : decode cX12_readOne 0 = .ok (.aload_n 0, 1) := by decide +kernel
theorem dX12_readOne_1 : decode cX12_readOne 1 = .ok (.bipush 40, 2) := by decide +kernel
theorem dX12_readOne_3 : decode cX12_readOne 3 = .ok (.invokevirtual 161, 3) := by decide +kernel
theorem dX12_readOne_6 : decode cX12_readOne 6 = .ok (.istore_n 1, 1) := by decide +kernel
theorem dX12_readOne_7 : decode cX12_readOne 7 = .ok (.bipush 11, 2) := by decide +kernel
theorem dX12_readOne_9 : decode cX12_readOne 9 = .ok (.istore_n 2, 1) := by decide +kernel
theorem dX12_readOne_10 : decode cX12_readOne 10 = .ok (.iload_n 2, 1) := by decide +kernel
theorem dX12_readOne_11 : decode cX12_readOne 11 = .ok (.bipush 19, 2) := by decide +kernel
theorem dX12_readOne_13 : decode cX12_readOne 13 = .ok (.if_icmp .gt 17, 3) := by decide +kernel
theorem dX12_readOne_16 : decode cX12_readOne 16 = .ok (.aload_n 0, 1) := by decide +kernel
theorem dX12_readOne_17 : decode cX12_readOne 17 = .ok (.iload_n 2, 1) := by decide +kernel
theorem dX12_readOne_18 : decode cX12_readOne 18 = .ok (.invokevirtual 202, 3) := by decide +kernel
theorem dX12_readOne_21 : decode cX12_readOne 21 = .ok (.ifCond .ne 9, 3) := by decide +kernel
theorem dX12_readOne_24 : decode cX12_readOne 24 = .ok (.iinc 2 1, 3) := by decide +kernel
theorem dX12_readOne_27 : decode cX12_readOne 27 = .ok (.goto (-17), 3) := by decide +kernel
theorem dX12_readOne_30 : decode cX12_readOne 30 = .ok (.iload_n 1, 1) := by decide +kernel
theorem dX12_readOne_31 : decode cX12_readOne 31 = .ok (.ifCond .ne 15, 3) := by decide +kernel
theorem dX12_readOne_34 : decode cX12_readOne 34 = .ok (.iload_n 2, 1) := by decide +kernel
theorem dX12_readOne_35 : decode cX12_readOne 35 = .ok (.bipush 19, 2) := by decide +kernel
theorem dX12_readOne_37 : decode cX12_readOne 37 = .ok (.if_icmp .le 9, 3) := by decide +kernel
theorem dX12_readOne_40 : decode cX12_readOne 40 = .ok (.aload_n 0, 1) := by decide +kernel
theorem dX12_readOne_41 : decode cX12_readOne 41 = .ok (.iconst 1, 1) := by decide +kernel
theorem dX12_readOne_42 : decode cX12_readOne 42 = .ok (.invokevirtual 148, 3) := by decide +kernel
theorem dX12_readOne_45 : decode cX12_readOne 45 = .ok (.ireturn, 1) := by decide +kernel
theorem dX12_readOne_46 : decode cX12_readOne 46 = .ok (.aload_n 0, 1) := by decide +kernel
theorem dX12_readOne_47 : decode cX12_readOne 47 = .ok (.getfield 365, 3) := by decide +kernel
theorem dX12_readOne_50 : decode cX12_readOne 50 = .ok (.bipush 20, 2) := by decide +kernel
theorem dX12_readOne_52 : decode cX12_readOne 52 = .ok (.if_icmp .eq 12, 3) := by decide +kernel
theorem dX12_readOne_55 : decode cX12_readOne 55 = .ok (.aload_n 0, 1) := by decide +kernel
theorem dX12_readOne_56 : decode cX12_readOne 56 = .ok (.getfield 368, 3) := by decide +kernel
theorem dX12_readOne_59 : decode cX12_readOne 59 = .ok (.bipush 8, 2) := by decide +kernel
theorem dX12_readOne_61 : decode cX12_readOne 61 = .ok (.if_icmp .ne 9, 3) := by decide +kernel
theorem dX12_readOne_64 : decode cX12_readOne 64 = .ok (.aload_n 0, 1) := by decide +kernel
theorem dX12_readOne_65 : decode cX12_readOne 65 = .ok (.iconst 4, 1) := by decide +kernel
theorem dX12_readOne_66 : decode cX12_readOne 66 = .ok (.invokevirtual 148, 3) := by decide +kernel
theorem dX12_readOne_69 : decode cX12_readOne 69 = .ok (.ireturn, 1) := by decide +kernel
theorem dX12_readOne_70 : decode cX12_readOne 70 = .ok (.aload_n 0, 1) := by decide +kernel
theorem dX12_readOne_71 : decode cX12_readOne 71 = .ok (.dup, 1) := by decide +kernel
theorem dX12_readOne_72 : decode cX12_readOne 72 = .ok (.getfield 365, 3) := by decide +kernel
theorem dX12_readOne_75 : decode cX12_readOne 75 = .ok (.iconst 1, 1) := by decide +kernel
theorem dX12_readOne_76 : decode cX12_readOne 76 = .ok (.iadd, 1) := by decide +kernel
theorem dX12_readOne_77 : decode cX12_readOne 77 = .ok (.putfield 365, 3) := by decide +kernel
theorem dX12_readOne_80 : decode cX12_readOne 80 = .ok (.aload_n 0, 1) := by decide +kernel
theorem dX12_readOne_81 : decode cX12_readOne 81 = .ok (.dup, 1) := by decide +kernel
theorem dX12_readOne_82 : decode cX12_readOne 82 = .ok (.getfield 368, 3) := by decide +kernel
theorem dX12_readOne_85 : decode cX12_readOne 85 = .ok (.iconst 1, 1) := by decide +kernel
theorem dX12_readOne_86 : decode cX12_readOne 86 = .ok (.iadd, 1) := by decide +kernel
theorem dX12_readOne_87 : decode cX12_readOne 87 = .ok (.putfield 368, 3) := by decide +kernel
theorem dX12_readOne_90 : decode cX12_readOne 90 = .ok (.aload_n 0, 1) := by decide +kernel
theorem dX12_readOne_91 : decode cX12_readOne 91 = .ok (.invokevirtual 158, 3) := by decide +kernel
theorem dX12_readOne_94 : decode cX12_readOne 94 = .ok (.iconst 1, 1) := by decide +kernel
theorem dX12_readOne_95 : decode cX12_readOne 95 = .ok (.istore_n 3, 1) := by decide +kernel
theorem dX12_readOne_96 : decode cX12_readOne 96 = .ok (.iload_n 1, 1) := by decide +kernel
theorem dX12_readOne_97 : decode cX12_readOne 97 = .ok (.ifCond .eq 11, 3) := by decide +kernel
theorem dX12_readOne_100 : decode cX12_readOne 100 = .ok (.aload_n 0, 1) := by decide +kernel
theorem dX12_readOne_101 : decode cX12_readOne 101 = .ok (.invokevirtual 371, 3) := by decide +kernel
theorem dX12_readOne_104 : decode cX12_readOne 104 = .ok (.istore_n 3, 1) := by decide +kernel
theorem dX12_readOne_105 : decode cX12_readOne 105 = .ok (.goto 68, 3) := by decide +kernel
theorem dX12_readOne_108 : decode cX12_readOne 108 = .ok (.iload_n 2, 1) := by decide +kernel
theorem dX12_readOne_109 : decode cX12_readOne 109 = .ok (.bipush 11, 2) := by decide +kernel
theorem dX12_readOne_111 : decode cX12_readOne 111 = .ok (.if_icmp .ne 11, 3) := by decide +kernel
theorem dX12_readOne_114 : decode cX12_readOne 114 = .ok (.aload_n 0, 1) := by decide +kernel
theorem dX12_readOne_115 : decode cX12_readOne 115 = .ok (.invokevirtual 374, 3) := by decide +kernel
theorem dX12_readOne_118 : decode cX12_readOne 118 = .ok (.istore_n 3, 1) := by decide +kernel
theorem dX12_readOne_119 : decode cX12_readOne 119 = .ok (.goto 54, 3) := by decide +kernel
theorem dX12_readOne_122 : decode cX12_readOne 122 = .ok (.iload_n 2, 1) := by decide +kernel
theorem dX12_readOne_123 : decode cX12_readOne 123 = .ok (.bipush 13, 2) := by decide +kernel
theorem dX12_readOne_125 : decode cX12_readOne 125 = .ok (.if_icmp .gt 28, 3) := by decide +kernel
theorem dX12_readOne_128 : decode cX12_readOne 128 = .ok (.aload_n 0, 1) := by decide +kernel
theorem dX12_readOne_129 : decode cX12_readOne 129 = .ok (.aload_n 0, 1) := by decide +kernel
theorem dX12_readOne_130 : decode cX12_readOne 130 = .ok (.iload_n 2, 1) := by decide +kernel
theorem dX12_readOne_131 : decode cX12_readOne 131 = .ok (.bipush 12, 2) := by decide +kernel
theorem dX12_readOne_133 : decode cX12_readOne 133 = .ok (.if_icmp .ne 7, 3) := by decide +kernel
theorem dX12_readOne_136 : decode cX12_readOne 136 = .ok (.iconst 4, 1) := by decide +kernel
theorem dX12_readOne_137 : decode cX12_readOne 137 = .ok (.goto 4, 3) := by decide +kernel
theorem dX12_readOne_140 : decode cX12_readOne 140 = .ok (.iconst 5, 1) := by decide +kernel
theorem dX12_readOne_141 : decode cX12_readOne 141 = .ok (.iconst 0, 1) := by decide +kernel
theorem dX12_readOne_142 : decode cX12_readOne 142 = .ok (.iconst 0, 1) := by decide +kernel
theorem dX12_readOne_143 : decode cX12_readOne 143 = .ok (.iconst 0, 1) := by decide +kernel
theorem dX12_readOne_144 : decode cX12_readOne 144 = .ok (.invokevirtual 358, 3) := by decide +kernel
theorem dX12_readOne_147 : decode cX12_readOne 147 = .ok (.putfield 355, 3) := by decide +kernel
theorem dX12_readOne_150 : decode cX12_readOne 150 = .ok (.goto 23, 3) := by decide +kernel
theorem dX12_readOne_153 : decode cX12_readOne 153 = .ok (.iload_n 2, 1) := by decide +kernel
theorem dX12_readOne_154 : decode cX12_readOne 154 = .ok (.bipush 15, 2) := by decide +kernel
theorem dX12_readOne_156 : decode cX12_readOne 156 = .ok (.if_icmp .gt 11, 3) := by decide +kernel
theorem dX12_readOne_159 : decode cX12_readOne 159 = .ok (.aload_n 0, 1) := by decide +kernel
theorem dX12_readOne_160 : decode cX12_readOne 160 = .ok (.iload_n 2, 1) := by decide +kernel
theorem dX12_readOne_161 : decode cX12_readOne 161 = .ok (.invokevirtual 377, 3) := by decide +kernel
theorem dX12_readOne_164 : decode cX12_readOne 164 = .ok (.goto 8, 3) := by decide +kernel
theorem dX12_readOne_167 : decode cX12_readOne 167 = .ok (.aload_n 0, 1) := by decide +kernel
theorem dX12_readOne_168 : decode cX12_readOne 168 = .ok (.iload_n 2, 1) := by decide +kernel
theorem dX12_readOne_169 : decode cX12_readOne 169 = .ok (.invokevirtual 380, 3) := by decide +kernel
theorem dX12_readOne_172 : decode cX12_readOne 172 = .ok (.istore_n 3, 1) := by decide +kernel
theorem dX12_readOne_173 : decode cX12_readOne 173 = .ok (.aload_n 0, 1) := by decide +kernel
theorem dX12_readOne_174 : decode cX12_readOne 174 = .ok (.dup, 1) := by decide +kernel
theorem dX12_readOne_175 : decode cX12_readOne 175 = .ok (.getfield 368, 3) := by decide +kernel
theorem dX12_readOne_178 : decode cX12_readOne 178 = .ok (.iconst 1, 1) := by decide +kernel
theorem dX12_readOne_179 : decode cX12_readOne 179 = .ok (.isub, 1) := by decide +kernel
theorem dX12_readOne_180 : decode cX12_readOne 180 = .ok (.putfield 368, 3) := by decide +kernel
theorem dX12_readOne_183 : decode cX12_readOne 183 = .ok (.iload_n 3, 1) := by decide +kernel
theorem dX12_readOne_184 : decode cX12_readOne 184 = .ok (.ireturn, 1) := by decide +kernel
theorem dX12_readNot_0 : decode cX12_readNot 0 = .ok (.aload_n 0, 1) := by decide +kernel
theorem dX12_readNot_1 : decode cX12_readNot 1 = .ok (.invokevirtual 362, 3) := by decide +kernel
theorem dX12_readNot_4 : decode cX12_readNot 4 = .ok (.ifCond .ne 5, 3) := by decide +kernel
theorem dX12_readNot_7 : decode cX12_readNot 7 = .ok (.iconst 0, 1) := by decide +kernel
theorem dX12_readNot_8 : decode cX12_readNot 8 = .ok (.ireturn, 1) := by decide +kernel
theorem dX12_readNot_9 : decode cX12_readNot 9 = .ok (.aload_n 0, 1) := by decide +kernel
theorem dX12_readNot_10 : decode cX12_readNot 10 = .ok (.aload_n 0, 1) := by decide +kernel
theorem dX12_readNot_11 : decode cX12_readNot 11 = .ok (.iconst 1, 1) := by decide +kernel
theorem dX12_readNot_12 : decode cX12_readNot 12 = .ok (.aload_n 0, 1) := by decide +kernel
theorem dX12_readNot_13 : decode cX12_readNot 13 = .ok (.getfield 355, 3) := by decide +kernel
theorem dX12_readNot_16 : decode cX12_readNot 16 = .ok (.iconst 0, 1) := by decide +kernel
theorem dX12_readNot_17 : decode cX12_readNot 17 = .ok (.iconst 0, 1) := by decide +kernel
theorem dX12_readNot_18 : decode cX12_readNot 18 = .ok (.invokevirtual 358, 3) := by decide +kernel
theorem dX12_readNot_21 : decode cX12_readNot 21 = .ok (.putfield 355, 3) := by decide +kernel
theorem dX12_readNot_24 : decode cX12_readNot 24 = .ok (.iconst 1, 1) := by decide +kernel
theorem dX12_readNot_25 : decode cX12_readNot 25 = .ok (.ireturn, 1) := by decide +kernel
theorem dX12_readBracket_0 : decode cX12_readBracket 0 = .ok (.aload_n 0, 1) := by decide +kernel
theorem dX12_readBracket_1 : decode cX12_readBracket 1 = .ok (.invokevirtual 383, 3) := by decide +kernel
theorem dX12_readBracket_4 : decode cX12_readBracket 4 = .ok (.ifCond .ne 5, 3) := by decide +kernel
theorem dX12_readBracket_7 : decode cX12_readBracket 7 = .ok (.iconst 0, 1) := by decide +kernel
theorem dX12_readBracket_8 : decode cX12_readBracket 8 = .ok (.ireturn, 1) := by decide +kernel
theorem dX12_readBracket_9 : decode cX12_readBracket 9 = .ok (.aload_n 0, 1) := by decide +kernel
theorem dX12_readBracket_10 : decode cX12_readBracket 10 = .ok (.bipush 41, 2) := by decide +kernel
theorem dX12_readBracket_12 : decode cX12_readBracket 12 = .ok (.invokevirtual 161, 3) := by decide +kernel
theorem dX12_readBracket_15 : decode cX12_readBracket 15 = .ok (.ifCond .ne 9, 3) := by decide +kernel
theorem dX12_readBracket_18 : decode cX12_readBracket 18 = .ok (.aload_n 0, 1) := by decide +kernel
theorem dX12_readBracket_19 : decode cX12_readBracket 19 = .ok (.iconst 1, 1) := by decide +kernel
theorem dX12_readBracket_20 : decode cX12_readBracket 20 = .ok (.invokevirtual 148, 3) := by decide +kernel
theorem dX12_readBracket_23 : decode cX12_readBracket 23 = .ok (.ireturn, 1) := by decide +kernel
theorem dX12_readBracket_24 : decode cX12_readBracket 24 = .ok (.aload_n 0, 1) := by decide +kernel
theorem dX12_readBracket_25 : decode cX12_readBracket 25 = .ok (.invokevirtual 158, 3) := by decide +kernel
theorem dX12_readBracket_28 : decode cX12_readBracket 28 = .ok (.iconst 1, 1) := by decide +kernel
theorem dX12_readBracket_29 : decode cX12_readBracket 29 = .ok (.ireturn, 1) := by decide +kernel
theorem dX12_readLetters_0 : decode cX12_readLetters 0 = .ok (.aload_n 0, 1) := by decide +kernel
theorem dX12_readLetters_1 : decode cX12_readLetters 1 = .ok (.aload_n 0, 1) := by decide +kernel
theorem dX12_readLetters_2 : decode cX12_readLetters 2 = .ok (.invokevirtual 185, 3) := by decide +kernel
theorem dX12_readLetters_5 : decode cX12_readLetters 5 = .ok (.invokevirtual 211, 3) := by decide +kernel
theorem dX12_readLetters_8 : decode cX12_readLetters 8 = .ok (.ifCond .ne 5, 3) := by decide +kernel
theorem dX12_readLetters_11 : decode cX12_readLetters 11 = .ok (.iconst 0, 1) := by decide +kernel
theorem dX12_readLetters_12 : decode cX12_readLetters 12 = .ok (.ireturn, 1) := by decide +kernel
theorem dX12_readLetters_13 : decode cX12_readLetters 13 = .ok (.aload_n 0, 1) := by decide +kernel
theorem dX12_readLetters_14 : decode cX12_readLetters 14 = .ok (.getfield 155, 3) := by decide +kernel
theorem dX12_readLetters_17 : decode cX12_readLetters 17 = .ok (.istore_n 2, 1) := by decide +kernel
theorem dX12_readLetters_18 : decode cX12_readLetters 18 = .ok (.aload_n 0, 1) := by decide +kernel
theorem dX12_readLetters_19 : decode cX12_readLetters 19 = .ok (.invokevirtual 158, 3) := by decide +kernel
theorem dX12_readLetters_22 : decode cX12_readLetters 22 = .ok (.iload_n 1, 1) := by decide +kernel
theorem dX12_readLetters_23 : decode cX12_readLetters 23 = .ok (.bipush 15, 2) := by decide +kernel
theorem dX12_readLetters_25 : decode cX12_readLetters 25 = .ok (.if_icmp .ne 20, 3) := by decide +kernel
theorem dX12_readLetters_28 : decode cX12_readLetters 28 = .ok (.aload_n 0, 1) := by decide +kernel
theorem dX12_readLetters_29 : decode cX12_readLetters 29 = .ok (.aload_n 0, 1) := by decide +kernel
theorem dX12_readLetters_30 : decode cX12_readLetters 30 = .ok (.invokevirtual 185, 3) := by decide +kernel
theorem dX12_readLetters_33 : decode cX12_readLetters 33 = .ok (.invokevirtual 211, 3) := by decide +kernel
theorem dX12_readLetters_36 : decode cX12_readLetters 36 = .ok (.ifCond .ne 5, 3) := by decide +kernel
theorem dX12_readLetters_39 : decode cX12_readLetters 39 = .ok (.iconst 0, 1) := by decide +kernel
theorem dX12_readLetters_40 : decode cX12_readLetters 40 = .ok (.ireturn, 1) := by decide +kernel
theorem dX12_readLetters_41 : decode cX12_readLetters 41 = .ok (.aload_n 0, 1) := by decide +kernel
theorem dX12_readLetters_42 : decode cX12_readLetters 42 = .ok (.invokevirtual 158, 3) := by decide +kernel
theorem dX12_readLetters_45 : decode cX12_readLetters 45 = .ok (.aload_n 0, 1) := by decide +kernel
theorem dX12_readLetters_46 : decode cX12_readLetters 46 = .ok (.aload_n 0, 1) := by decide +kernel
theorem dX12_readLetters_47 : decode cX12_readLetters 47 = .ok (.iload_n 1, 1) := by decide +kernel
theorem dX12_readLetters_48 : decode cX12_readLetters 48 = .ok (.bipush 14, 2) := by decide +kernel
theorem dX12_readLetters_50 : decode cX12_readLetters 50 = .ok (.if_icmp .ne 8, 3) := by decide +kernel
theorem dX12_readLetters_53 : decode cX12_readLetters 53 = .ok (.bipush 6, 2) := by decide +kernel
theorem dX12_readLetters_55 : decode cX12_readLetters 55 = .ok (.goto 5, 3) := by decide +kernel
theorem dX12_readLetters_58 : decode cX12_readLetters 58 = .ok (.bipush 7, 2) := by decide +kernel
theorem dX12_readLetters_60 : decode cX12_readLetters 60 = .ok (.iload_n 2, 1) := by decide +kernel
theorem dX12_readLetters_61 : decode cX12_readLetters 61 = .ok (.aload_n 0, 1) := by decide +kernel
theorem dX12_readLetters_62 : decode cX12_readLetters 62 = .ok (.getfield 155, 3) := by decide +kernel
theorem dX12_readLetters_65 : decode cX12_readLetters 65 = .ok (.iconst 0, 1) := by decide +kernel
theorem dX12_readLetters_66 : decode cX12_readLetters 66 = .ok (.invokevirtual 358, 3) := by decide +kernel
theorem dX12_readLetters_69 : decode cX12_readLetters 69 = .ok (.putfield 355, 3) := by decide +kernel
theorem dX12_readLetters_72 : decode cX12_readLetters 72 = .ok (.iconst 1, 1) := by decide +kernel
theorem dX12_readLetters_73 : decode cX12_readLetters 73 = .ok (.ireturn, 1) := by decide +kernel
theorem dX12_readCompare_0 : decode cX12_readCompare 0 = .ok (.iconst 0, 1) := by decide +kernel
theorem dX12_readCompare_1 : decode cX12_readCompare 1 = .ok (.istore_n 2, 1) := by decide +kernel
theorem dX12_readCompare_2 : decode cX12_readCompare 2 = .ok (.iload_n 1, 1) := by decide +kernel
theorem dX12_readCompare_3 : decode cX12_readCompare 3 = .ok (.bipush 18, 2) := by decide +kernel
theorem dX12_readCompare_5 : decode cX12_readCompare 5 = .ok (.if_icmp .ge 62, 3) := by decide +kernel
theorem dX12_readCompare_8 : decode cX12_readCompare 8 = .ok (.aload_n 0, 1) := by decide +kernel
theorem dX12_readCompare_9 : decode cX12_readCompare 9 = .ok (.invokevirtual 188, 3) := by decide +kernel
theorem dX12_readCompare_12 : decode cX12_readCompare 12 = .ok (.ifCond .ne 9, 3) := by decide +kernel
theorem dX12_readCompare_15 : decode cX12_readCompare 15 = .ok (.aload_n 0, 1) := by decide +kernel
theorem dX12_readCompare_16 : decode cX12_readCompare 16 = .ok (.iconst 1, 1) := by decide +kernel
theorem dX12_readCompare_17 : decode cX12_readCompare 17 = .ok (.invokevirtual 148, 3) := by decide +kernel
theorem dX12_readCompare_20 : decode cX12_readCompare 20 = .ok (.ireturn, 1) := by decide +kernel
theorem dX12_readCompare_21 : decode cX12_readCompare 21 = .ok (.iload_n 2, 1) := by decide +kernel
theorem dX12_readCompare_22 : decode cX12_readCompare 22 = .ok (.aload_n 0, 1) := by decide +kernel
theorem dX12_readCompare_23 : decode cX12_readCompare 23 = .ok (.invokevirtual 179, 3) := by decide +kernel
theorem dX12_readCompare_26 : decode cX12_readCompare 26 = .ok (.if_icmp .ge 23, 3) := by decide +kernel
theorem dX12_readCompare_29 : decode cX12_readCompare 29 = .ok (.aload_n 0, 1) := by decide +kernel
theorem dX12_readCompare_30 : decode cX12_readCompare 30 = .ok (.getfield 22, 3) := by decide +kernel
theorem dX12_readCompare_33 : decode cX12_readCompare 33 = .ok (.iload_n 2, 1) := by decide +kernel
theorem dX12_readCompare_34 : decode cX12_readCompare 34 = .ok (.laload, 1) := by decide +kernel
theorem dX12_readCompare_35 : decode cX12_readCompare 35 = .ok (.aload_n 0, 1) := by decide +kernel
theorem dX12_readCompare_36 : decode cX12_readCompare 36 = .ok (.getfield 117, 3) := by decide +kernel
theorem dX12_readCompare_39 : decode cX12_readCompare 39 = .ok (.lcmp, 1) := by decide +kernel
theorem dX12_readCompare_40 : decode cX12_readCompare 40 = .ok (.ifCond .eq 9, 3) := by decide +kernel
theorem dX12_readCompare_43 : decode cX12_readCompare 43 = .ok (.iinc 2 1, 3) := by decide +kernel
theorem dX12_readCompare_46 : decode cX12_readCompare 46 = .ok (.goto (-25), 3) := by decide +kernel
theorem dX12_readCompare_49 : decode cX12_readCompare 49 = .ok (.iload_n 2, 1) := by decide +kernel
theorem dX12_readCompare_50 : decode cX12_readCompare 50 = .ok (.aload_n 0, 1) := by decide +kernel
theorem dX12_readCompare_51 : decode cX12_readCompare 51 = .ok (.invokevirtual 179, 3) := by decide +kernel
theorem dX12_readCompare_54 : decode cX12_readCompare 54 = .ok (.if_icmp .ne 9, 3) := by decide +kernel
theorem dX12_readCompare_57 : decode cX12_readCompare 57 = .ok (.aload_n 0, 1) := by decide +kernel
theorem dX12_readCompare_58 : decode cX12_readCompare 58 = .ok (.iconst 3, 1) := by decide +kernel
theorem dX12_readCompare_59 : decode cX12_readCompare 59 = .ok (.invokevirtual 148, 3) := by decide +kernel
theorem dX12_readCompare_62 : decode cX12_readCompare 62 = .ok (.ireturn, 1) := by decide +kernel
theorem dX12_readCompare_63 : decode cX12_readCompare 63 = .ok (.aload_n 0, 1) := by decide +kernel
theorem dX12_readCompare_64 : decode cX12_readCompare 64 = .ok (.invokevirtual 158, 3) := by decide +kernel
theorem dX12_readCompare_67 : decode cX12_readCompare 67 = .ok (.aload_n 0, 1) := by decide +kernel
theorem dX12_readCompare_68 : decode cX12_readCompare 68 = .ok (.bipush 60, 2) := by decide +kernel
theorem dX12_readCompare_70 : decode cX12_readCompare 70 = .ok (.invokevirtual 161, 3) := by decide +kernel
theorem dX12_readCompare_73 : decode cX12_readCompare 73 = .ok (.ifCond .ne 27, 3) := by decide +kernel
theorem dX12_readCompare_76 : decode cX12_readCompare 76 = .ok (.aload_n 0, 1) := by decide +kernel
theorem dX12_readCompare_77 : decode cX12_readCompare 77 = .ok (.bipush 61, 2) := by decide +kernel
theorem dX12_readCompare_79 : decode cX12_readCompare 79 = .ok (.invokevirtual 161, 3) := by decide +kernel
theorem dX12_readCompare_82 : decode cX12_readCompare 82 = .ok (.ifCond .ne 18, 3) := by decide +kernel
theorem dX12_readCompare_85 : decode cX12_readCompare 85 = .ok (.aload_n 0, 1) := by decide +kernel
theorem dX12_readCompare_86 : decode cX12_readCompare 86 = .ok (.bipush 62, 2) := by decide +kernel
theorem dX12_readCompare_88 : decode cX12_readCompare 88 = .ok (.invokevirtual 161, 3) := by decide +kernel
theorem dX12_readCompare_91 : decode cX12_readCompare 91 = .ok (.ifCond .ne 9, 3) := by decide +kernel
theorem dX12_readCompare_94 : decode cX12_readCompare 94 = .ok (.aload_n 0, 1) := by decide +kernel
theorem dX12_readCompare_95 : decode cX12_readCompare 95 = .ok (.iconst 1, 1) := by decide +kernel
theorem dX12_readCompare_96 : decode cX12_readCompare 96 = .ok (.invokevirtual 148, 3) := by decide +kernel
theorem dX12_readCompare_99 : decode cX12_readCompare 99 = .ok (.ireturn, 1) := by decide +kernel
theorem dX12_readCompare_100 : decode cX12_readCompare 100 = .ok (.aload_n 0, 1) := by decide +kernel
theorem dX12_readCompare_101 : decode cX12_readCompare 101 = .ok (.getfield 114, 3) := by decide +kernel
theorem dX12_readCompare_104 : decode cX12_readCompare 104 = .ok (.istore_n 3, 1) := by decide +kernel
theorem dX12_readCompare_105 : decode cX12_readCompare 105 = .ok (.aload_n 0, 1) := by decide +kernel
theorem dX12_readCompare_106 : decode cX12_readCompare 106 = .ok (.invokevirtual 158, 3) := by decide +kernel
theorem dX12_readCompare_109 : decode cX12_readCompare 109 = .ok (.aload_n 0, 1) := by decide +kernel
theorem dX12_readCompare_110 : decode cX12_readCompare 110 = .ok (.iconst 0, 1) := by decide +kernel
theorem dX12_readCompare_111 : decode cX12_readCompare 111 = .ok (.bipush 99, 2) := by decide +kernel
theorem dX12_readCompare_113 : decode cX12_readCompare 113 = .ok (.invokevirtual 205, 3) := by decide +kernel
theorem dX12_readCompare_116 : decode cX12_readCompare 116 = .ok (.ifCond .ne 5, 3) := by decide +kernel
theorem dX12_readCompare_119 : decode cX12_readCompare 119 = .ok (.iconst 0, 1) := by decide +kernel
theorem dX12_readCompare_120 : decode cX12_readCompare 120 = .ok (.ireturn, 1) := by decide +kernel
theorem dX12_readCompare_121 : decode cX12_readCompare 121 = .ok (.aload_n 0, 1) := by decide +kernel
theorem dX12_readCompare_122 : decode cX12_readCompare 122 = .ok (.aload_n 0, 1) := by decide +kernel
theorem dX12_readCompare_123 : decode cX12_readCompare 123 = .ok (.iload_n 1, 1) := by decide +kernel
theorem dX12_readCompare_124 : decode cX12_readCompare 124 = .ok (.bipush 16, 2) := by decide +kernel
theorem dX12_readCompare_126 : decode cX12_readCompare 126 = .ok (.isub, 1) := by decide +kernel
theorem dX12_readCompare_127 : decode cX12_readCompare 127 = .ok (.bipush 8, 2) := by decide +kernel
theorem dX12_readCompare_129 : decode cX12_readCompare 129 = .ok (.iadd, 1) := by decide +kernel
theorem dX12_readCompare_130 : decode cX12_readCompare 130 = .ok (.iload_n 2, 1) := by decide +kernel
theorem dX12_readCompare_131 : decode cX12_readCompare 131 = .ok (.aload_n 0, 1) := by decide +kernel
theorem dX12_readCompare_132 : decode cX12_readCompare 132 = .ok (.getfield 155, 3) := by decide +kernel
theorem dX12_readCompare_135 : decode cX12_readCompare 135 = .ok (.iload_n 3, 1) := by decide +kernel
theorem dX12_readCompare_136 : decode cX12_readCompare 136 = .ok (.invokevirtual 358, 3) := by decide +kernel
theorem dX12_readCompare_139 : decode cX12_readCompare 139 = .ok (.putfield 355, 3) := by decide +kernel
theorem dX12_readCompare_142 : decode cX12_readCompare 142 = .ok (.iconst 1, 1) := by decide +kernel
theorem dX12_readCompare_143 : decode cX12_readCompare 143 = .ok (.ireturn, 1) := by decide +kernel
theorem dX12_sentence_0 : decode cX12_sentence 0 = .ok (.aload_n 0, 1) := by decide +kernel
theorem dX12_sentence_1 : decode cX12_sentence 1 = .ok (.sipush 200, 3) := by decide +kernel
theorem dX12_sentence_4 : decode cX12_sentence 4 = .ok (.invokevirtual 235, 3) := by decide +kernel
theorem dX12_sentence_7 : decode cX12_sentence 7 = .ok (.aload_n 0, 1) := by decide +kernel
theorem dX12_sentence_8 : decode cX12_sentence 8 = .ok (.iconst 0, 1) := by decide +kernel
theorem dX12_sentence_9 : decode cX12_sentence 9 = .ok (.putfield 349, 3) := by decide +kernel
theorem dX12_sentence_12 : decode cX12_sentence 12 = .ok (.aload_n 0, 1) := by decide +kernel
theorem dX12_sentence_13 : decode cX12_sentence 13 = .ok (.iconst 0, 1) := by decide +kernel
theorem dX12_sentence_14 : decode cX12_sentence 14 = .ok (.putfield 365, 3) := by decide +kernel
theorem dX12_sentence_17 : decode cX12_sentence 17 = .ok (.aload_n 0, 1) := by decide +kernel
theorem dX12_sentence_18 : decode cX12_sentence 18 = .ok (.iconst 0, 1) := by decide +kernel
theorem dX12_sentence_19 : decode cX12_sentence 19 = .ok (.putfield 368, 3) := by decide +kernel
theorem dX12_sentence_22 : decode cX12_sentence 22 = .ok (.aload_n 0, 1) := by decide +kernel
theorem dX12_sentence_23 : decode cX12_sentence 23 = .ok (.invokevirtual 383, 3) := by decide +kernel
theorem dX12_sentence_26 : decode cX12_sentence 26 = .ok (.ifCond .ne 10, 3) := by decide +kernel
theorem dX12_sentence_29 : decode cX12_sentence 29 = .ok (.iconst (-1), 1) := by decide +kernel
theorem dX12_sentence_30 : decode cX12_sentence 30 = .ok (.aload_n 0, 1) := by decide +kernel
theorem dX12_sentence_31 : decode cX12_sentence 31 = .ok (.getfield 145, 3) := by decide +kernel
theorem dX12_sentence_34 : decode cX12_sentence 34 = .ok (.isub, 1) := by decide +kernel
theorem dX12_sentence_35 : decode cX12_sentence 35 = .ok (.ireturn, 1) := by decide +kernel
theorem dX12_sentence_36 : decode cX12_sentence 36 = .ok (.aload_n 0, 1) := by decide +kernel
theorem dX12_sentence_37 : decode cX12_sentence 37 = .ok (.getfield 104, 3) := by decide +kernel
theorem dX12_sentence_40 : decode cX12_sentence 40 = .ok (.ifCond .eq 16, 3) := by decide +kernel
theorem dX12_sentence_43 : decode cX12_sentence 43 = .ok (.aload_n 0, 1) := by decide +kernel
theorem dX12_sentence_44 : decode cX12_sentence 44 = .ok (.iconst 1, 1) := by decide +kernel
theorem dX12_sentence_45 : decode cX12_sentence 45 = .ok (.invokevirtual 148, 3) := by decide +kernel
theorem dX12_sentence_48 : decode cX12_sentence 48 = .ok (.pop, 1) := by decide +kernel
theorem dX12_sentence_49 : decode cX12_sentence 49 = .ok (.iconst (-1), 1) := by decide +kernel
theorem dX12_sentence_50 : decode cX12_sentence 50 = .ok (.aload_n 0, 1) := by decide +kernel
theorem dX12_sentence_51 : decode cX12_sentence 51 = .ok (.getfield 145, 3) := by decide +kernel
theorem dX12_sentence_54 : decode cX12_sentence 54 = .ok (.isub, 1) := by decide +kernel
theorem dX12_sentence_55 : decode cX12_sentence 55 = .ok (.ireturn, 1) := by decide +kernel
theorem dX12_sentence_56 : decode cX12_sentence 56 = .ok (.aload_n 0, 1) := by decide +kernel
theorem dX12_sentence_57 : decode cX12_sentence 57 = .ok (.getfield 13, 3) := by decide +kernel
theorem dX12_sentence_60 : decode cX12_sentence 60 = .ok (.sipush 170, 3) := by decide +kernel
theorem dX12_sentence_63 : decode cX12_sentence 63 = .ok (.iconst 1, 1) := by decide +kernel
theorem dX12_sentence_64 : decode cX12_sentence 64 = .ok (.iastore, 1) := by decide +kernel
theorem dX12_sentence_65 : decode cX12_sentence 65 = .ok (.aload_n 0, 1) := by decide +kernel
theorem dX12_sentence_66 : decode cX12_sentence 66 = .ok (.getfield 13, 3) := by decide +kernel
theorem dX12_sentence_69 : decode cX12_sentence 69 = .ok (.sipush 171, 3) := by decide +kernel
theorem dX12_sentence_72 : decode cX12_sentence 72 = .ok (.aload_n 0, 1) := by decide +kernel
theorem dX12_sentence_73 : decode cX12_sentence 73 = .ok (.getfield 355, 3) := by decide +kernel
theorem dX12_sentence_76 : decode cX12_sentence 76 = .ok (.iastore, 1) := by decide +kernel
theorem dX12_sentence_77 : decode cX12_sentence 77 = .ok (.iconst 0, 1) := by decide +kernel
theorem dX12_sentence_78 : decode cX12_sentence 78 = .ok (.istore_n 1, 1) := by decide +kernel
theorem dX12_sentence_79 : decode cX12_sentence 79 = .ok (.iload_n 1, 1) := by decide +kernel
theorem dX12_sentence_80 : decode cX12_sentence 80 = .ok (.sipush 240, 3) := by decide +kernel
theorem dX12_sentence_83 : decode cX12_sentence 83 = .ok (.if_icmp .ge 25, 3) := by decide +kernel
theorem dX12_sentence_86 : decode cX12_sentence 86 = .ok (.aload_n 0, 1) := by decide +kernel
theorem dX12_sentence_87 : decode cX12_sentence 87 = .ok (.getfield 13, 3) := by decide +kernel
theorem dX12_sentence_90 : decode cX12_sentence 90 = .ok (.sipush 172, 3) := by decide +kernel
theorem dX12_sentence_93 : decode cX12_sentence 93 = .ok (.iload_n 1, 1) := by decide +kernel
theorem dX12_sentence_94 : decode cX12_sentence 94 = .ok (.iadd, 1) := by decide +kernel
theorem dX12_sentence_95 : decode cX12_sentence 95 = .ok (.aload_n 0, 1) := by decide +kernel
theorem dX12_sentence_96 : decode cX12_sentence 96 = .ok (.getfield 78, 3) := by decide +kernel
theorem dX12_sentence_99 : decode cX12_sentence 99 = .ok (.iload_n 1, 1) := by decide +kernel
theorem dX12_sentence_100 : decode cX12_sentence 100 = .ok (.iaload, 1) := by decide +kernel
theorem dX12_sentence_101 : decode cX12_sentence 101 = .ok (.iastore, 1) := by decide +kernel
theorem dX12_sentence_102 : decode cX12_sentence 102 = .ok (.iinc 1 1, 3) := by decide +kernel
theorem dX12_sentence_105 : decode cX12_sentence 105 = .ok (.goto (-26), 3) := by decide +kernel
theorem dX12_sentence_108 : decode cX12_sentence 108 = .ok (.aload_n 0, 1) := by decide +kernel
theorem dX12_sentence_109 : decode cX12_sentence 109 = .ok (.getfield 365, 3) := by decide +kernel
theorem dX12_sentence_112 : decode cX12_sentence 112 = .ok (.ireturn, 1) := by decide +kernel
theorem dX12_valueOf_0 : decode cX12_valueOf 0 = .ok (.aload_n 0, 1) := by decide +kernel
theorem dX12_valueOf_1 : decode cX12_valueOf 1 = .ok (.iload_n 3, 1) := by decide +kernel
theorem dX12_valueOf_2 : decode cX12_valueOf 2 = .ok (.iload_n 2, 1) := by decide +kernel
theorem dX12_valueOf_3 : decode cX12_valueOf 3 = .ok (.invokevirtual 269, 3) := by decide +kernel
theorem dX12_valueOf_6 : decode cX12_valueOf 6 = .ok (.iload_n 1, 1) := by decide +kernel
theorem dX12_valueOf_7 : decode cX12_valueOf 7 = .ok (.bipush 8, 2) := by decide +kernel
theorem dX12_valueOf_9 : decode cX12_valueOf 9 = .ok (.if_icmp .ne 10, 3) := by decide +kernel
theorem dX12_valueOf_12 : decode cX12_valueOf 12 = .ok (.aload_n 0, 1) := by decide +kernel
theorem dX12_valueOf_13 : decode cX12_valueOf 13 = .ok (.invokevirtual 273, 3) := by decide +kernel
theorem dX12_valueOf_16 : decode cX12_valueOf 16 = .ok (.goto 38, 3) := by decide +kernel
theorem dX12_valueOf_19 : decode cX12_valueOf 19 = .ok (.iload_n 1, 1) := by decide +kernel
theorem dX12_valueOf_20 : decode cX12_valueOf 20 = .ok (.bipush 9, 2) := by decide +kernel
theorem dX12_valueOf_22 : decode cX12_valueOf 22 = .ok (.if_icmp .ne 10, 3) := by decide +kernel
theorem dX12_valueOf_25 : decode cX12_valueOf 25 = .ok (.aload_n 0, 1) := by decide +kernel
theorem dX12_valueOf_26 : decode cX12_valueOf 26 = .ok (.invokevirtual 259, 3) := by decide +kernel
theorem dX12_valueOf_29 : decode cX12_valueOf 29 = .ok (.goto 25, 3) := by decide +kernel
theorem dX12_valueOf_32 : decode cX12_valueOf 32 = .ok (.iload_n 1, 1) := by decide +kernel
theorem dX12_valueOf_33 : decode cX12_valueOf 33 = .ok (.bipush 10, 2) := by decide +kernel
theorem dX12_valueOf_35 : decode cX12_valueOf 35 = .ok (.if_icmp .ne 14, 3) := by decide +kernel
theorem dX12_valueOf_38 : decode cX12_valueOf 38 = .ok (.aload_n 0, 1) := by decide +kernel
theorem dX12_valueOf_39 : decode cX12_valueOf 39 = .ok (.aload_n 0, 1) := by decide +kernel
theorem dX12_valueOf_40 : decode cX12_valueOf 40 = .ok (.getfield 42, 3) := by decide +kernel
theorem dX12_valueOf_43 : decode cX12_valueOf 43 = .ok (.invokevirtual 342, 3) := by decide +kernel
theorem dX12_valueOf_46 : decode cX12_valueOf 46 = .ok (.goto 8, 3) := by decide +kernel
theorem dX12_valueOf_49 : decode cX12_valueOf 49 = .ok (.aload_n 0, 1) := by decide +kernel
theorem dX12_valueOf_50 : decode cX12_valueOf 50 = .ok (.iload_n 3, 1) := by decide +kernel
theorem dX12_valueOf_51 : decode cX12_valueOf 51 = .ok (.invokevirtual 182, 3) := by decide +kernel
theorem dX12_valueOf_54 : decode cX12_valueOf 54 = .ok (.ireturn, 1) := by decide +kernel
theorem dX12_isSo_0 : decode cX12_isSo 0 = .ok (.sipush 172, 3) := by decide +kernel
theorem dX12_isSo_3 : decode cX12_isSo 3 = .ok (.iconst 4, 1) := by decide +kernel
theorem dX12_isSo_4 : decode cX12_isSo 4 = .ok (.iload_n 1, 1) := by decide +kernel
theorem dX12_isSo_5 : decode cX12_isSo 5 = .ok (.imul, 1) := by decide +kernel
theorem dX12_isSo_6 : decode cX12_isSo 6 = .ok (.iadd, 1) := by decide +kernel
theorem dX12_isSo_7 : decode cX12_isSo 7 = .ok (.istore_n 3, 1) := by decide +kernel
theorem dX12_isSo_8 : decode cX12_isSo 8 = .ok (.aload_n 0, 1) := by decide +kernel
theorem dX12_isSo_9 : decode cX12_isSo 9 = .ok (.getfield 13, 3) := by decide +kernel
theorem dX12_isSo_12 : decode cX12_isSo 12 = .ok (.iload_n 3, 1) := by decide +kernel
theorem dX12_isSo_13 : decode cX12_isSo 13 = .ok (.iconst 1, 1) := by decide +kernel
theorem dX12_isSo_14 : decode cX12_isSo 14 = .ok (.iadd, 1) := by decide +kernel
theorem dX12_isSo_15 : decode cX12_isSo 15 = .ok (.iaload, 1) := by decide +kernel
theorem dX12_isSo_16 : decode cX12_isSo 16 = .ok (.istore 4, 2) := by decide +kernel
theorem dX12_isSo_18 : decode cX12_isSo 18 = .ok (.aload_n 0, 1) := by decide +kernel
theorem dX12_isSo_19 : decode cX12_isSo 19 = .ok (.getfield 13, 3) := by decide +kernel
theorem dX12_isSo_22 : decode cX12_isSo 22 = .ok (.iload_n 3, 1) := by decide +kernel
theorem dX12_isSo_23 : decode cX12_isSo 23 = .ok (.iconst 2, 1) := by decide +kernel
theorem dX12_isSo_24 : decode cX12_isSo 24 = .ok (.iadd, 1) := by decide +kernel
theorem dX12_isSo_25 : decode cX12_isSo 25 = .ok (.iaload, 1) := by decide +kernel
theorem dX12_isSo_26 : decode cX12_isSo 26 = .ok (.istore 5, 2) := by decide +kernel
theorem dX12_isSo_28 : decode cX12_isSo 28 = .ok (.aload_n 0, 1) := by decide +kernel
theorem dX12_isSo_29 : decode cX12_isSo 29 = .ok (.getfield 13, 3) := by decide +kernel
theorem dX12_isSo_32 : decode cX12_isSo 32 = .ok (.iload_n 3, 1) := by decide +kernel
theorem dX12_isSo_33 : decode cX12_isSo 33 = .ok (.iaload, 1) := by decide +kernel
theorem dX12_isSo_34 : decode cX12_isSo 34 = .ok (.tableswitch 94 1 3 #[26, 42, 68], 26) := by decide +kernel
theorem dX12_isSo_60 : decode cX12_isSo 60 = .ok (.aload_n 0, 1) := by decide +kernel
theorem dX12_isSo_61 : decode cX12_isSo 61 = .ok (.iload 4, 2) := by decide +kernel
theorem dX12_isSo_63 : decode cX12_isSo 63 = .ok (.iload_n 2, 1) := by decide +kernel
theorem dX12_isSo_64 : decode cX12_isSo 64 = .ok (.invokevirtual 386, 3) := by decide +kernel
theorem dX12_isSo_67 : decode cX12_isSo 67 = .ok (.ifCond .ne 7, 3) := by decide +kernel
theorem dX12_isSo_70 : decode cX12_isSo 70 = .ok (.iconst 1, 1) := by decide +kernel
theorem dX12_isSo_71 : decode cX12_isSo 71 = .ok (.goto 4, 3) := by decide +kernel
theorem dX12_isSo_74 : decode cX12_isSo 74 = .ok (.iconst 0, 1) := by decide +kernel
theorem dX12_isSo_75 : decode cX12_isSo 75 = .ok (.ireturn, 1) := by decide +kernel
theorem dX12_isSo_76 : decode cX12_isSo 76 = .ok (.aload_n 0, 1) := by decide +kernel
theorem dX12_isSo_77 : decode cX12_isSo 77 = .ok (.iload 4, 2) := by decide +kernel
theorem dX12_isSo_79 : decode cX12_isSo 79 = .ok (.iload_n 2, 1) := by decide +kernel
theorem dX12_isSo_80 : decode cX12_isSo 80 = .ok (.invokevirtual 386, 3) := by decide +kernel
theorem dX12_isSo_83 : decode cX12_isSo 83 = .ok (.ifCond .eq 17, 3) := by decide +kernel
theorem dX12_isSo_86 : decode cX12_isSo 86 = .ok (.aload_n 0, 1) := by decide +kernel
theorem dX12_isSo_87 : decode cX12_isSo 87 = .ok (.iload 5, 2) := by decide +kernel
theorem dX12_isSo_89 : decode cX12_isSo 89 = .ok (.iload_n 2, 1) := by decide +kernel
theorem dX12_isSo_90 : decode cX12_isSo 90 = .ok (.invokevirtual 386, 3) := by decide +kernel
theorem dX12_isSo_93 : decode cX12_isSo 93 = .ok (.ifCond .eq 7, 3) := by decide +kernel
theorem dX12_isSo_96 : decode cX12_isSo 96 = .ok (.iconst 1, 1) := by decide +kernel
theorem dX12_isSo_97 : decode cX12_isSo 97 = .ok (.goto 4, 3) := by decide +kernel
theorem dX12_isSo_100 : decode cX12_isSo 100 = .ok (.iconst 0, 1) := by decide +kernel
theorem dX12_isSo_101 : decode cX12_isSo 101 = .ok (.ireturn, 1) := by decide +kernel
theorem dX12_isSo_102 : decode cX12_isSo 102 = .ok (.aload_n 0, 1) := by decide +kernel
theorem dX12_isSo_103 : decode cX12_isSo 103 = .ok (.iload 4, 2) := by decide +kernel
theorem dX12_isSo_105 : decode cX12_isSo 105 = .ok (.iload_n 2, 1) := by decide +kernel
theorem dX12_isSo_106 : decode cX12_isSo 106 = .ok (.invokevirtual 386, 3) := by decide +kernel
theorem dX12_isSo_109 : decode cX12_isSo 109 = .ok (.ifCond .ne 13, 3) := by decide +kernel
theorem dX12_isSo_112 : decode cX12_isSo 112 = .ok (.aload_n 0, 1) := by decide +kernel
theorem dX12_isSo_113 : decode cX12_isSo 113 = .ok (.iload 5, 2) := by decide +kernel
theorem dX12_isSo_115 : decode cX12_isSo 115 = .ok (.iload_n 2, 1) := by decide +kernel
theorem dX12_isSo_116 : decode cX12_isSo 116 = .ok (.invokevirtual 386, 3) := by decide +kernel
theorem dX12_isSo_119 : decode cX12_isSo 119 = .ok (.ifCond .eq 7, 3) := by decide +kernel
theorem dX12_isSo_122 : decode cX12_isSo 122 = .ok (.iconst 1, 1) := by decide +kernel
theorem dX12_isSo_123 : decode cX12_isSo 123 = .ok (.goto 4, 3) := by decide +kernel
theorem dX12_isSo_126 : decode cX12_isSo 126 = .ok (.iconst 0, 1) := by decide +kernel
theorem dX12_isSo_127 : decode cX12_isSo 127 = .ok (.ireturn, 1) := by decide +kernel
theorem dX12_isSo_128 : decode cX12_isSo 128 = .ok (.aload_n 0, 1) := by decide +kernel
theorem dX12_isSo_129 : decode cX12_isSo 129 = .ok (.iload_n 3, 1) := by decide +kernel
theorem dX12_isSo_130 : decode cX12_isSo 130 = .ok (.iload_n 2, 1) := by decide +kernel
theorem dX12_isSo_131 : decode cX12_isSo 131 = .ok (.invokevirtual 389, 3) := by decide +kernel
theorem dX12_isSo_134 : decode cX12_isSo 134 = .ok (.ireturn, 1) := by decide +kernel
theorem dX12_isPlain_0 : decode cX12_isPlain 0 = .ok (.aload_n 0, 1) := by decide +kernel
theorem dX12_isPlain_1 : decode cX12_isPlain 1 = .ok (.getfield 13, 3) := by decide +kernel
theorem dX12_isPlain_4 : decode cX12_isPlain 4 = .ok (.iload_n 1, 1) := by decide +kernel
theorem dX12_isPlain_5 : decode cX12_isPlain 5 = .ok (.iconst 1, 1) := by decide +kernel
theorem dX12_isPlain_6 : decode cX12_isPlain 6 = .ok (.iadd, 1) := by decide +kernel
theorem dX12_isPlain_7 : decode cX12_isPlain 7 = .ok (.iaload, 1) := by decide +kernel
theorem dX12_isPlain_8 : decode cX12_isPlain 8 = .ok (.istore_n 3, 1) := by decide +kernel
theorem dX12_isPlain_9 : decode cX12_isPlain 9 = .ok (.aload_n 0, 1) := by decide +kernel
theorem dX12_isPlain_10 : decode cX12_isPlain 10 = .ok (.getfield 13, 3) := by decide +kernel
theorem dX12_isPlain_13 : decode cX12_isPlain 13 = .ok (.iload_n 1, 1) := by decide +kernel
theorem dX12_isPlain_14 : decode cX12_isPlain 14 = .ok (.iconst 2, 1) := by decide +kernel
theorem dX12_isPlain_15 : decode cX12_isPlain 15 = .ok (.iadd, 1) := by decide +kernel
theorem dX12_isPlain_16 : decode cX12_isPlain 16 = .ok (.iaload, 1) := by decide +kernel
theorem dX12_isPlain_17 : decode cX12_isPlain 17 = .ok (.istore 4, 2) := by decide +kernel
theorem dX12_isPlain_19 : decode cX12_isPlain 19 = .ok (.aload_n 0, 1) := by decide +kernel
theorem dX12_isPlain_20 : decode cX12_isPlain 20 = .ok (.iload_n 2, 1) := by decide +kernel
theorem dX12_isPlain_21 : decode cX12_isPlain 21 = .ok (.aload_n 0, 1) := by decide +kernel
theorem dX12_isPlain_22 : decode cX12_isPlain 22 = .ok (.getfield 42, 3) := by decide +kernel
theorem dX12_isPlain_25 : decode cX12_isPlain 25 = .ok (.invokevirtual 265, 3) := by decide +kernel
theorem dX12_isPlain_28 : decode cX12_isPlain 28 = .ok (.aload_n 0, 1) := by decide +kernel
theorem dX12_isPlain_29 : decode cX12_isPlain 29 = .ok (.getfield 13, 3) := by decide +kernel
theorem dX12_isPlain_32 : decode cX12_isPlain 32 = .ok (.iload_n 1, 1) := by decide +kernel
theorem dX12_isPlain_33 : decode cX12_isPlain 33 = .ok (.iaload, 1) := by decide +kernel
theorem dX12_isPlain_34 : decode cX12_isPlain 34 = .ok (.tableswitch 104 4 7 #[30, 36, 45, 61], 30) := by decide +kernel
theorem dX12_isPlain_64 : decode cX12_isPlain 64 = .ok (.aload_n 0, 1) := by decide +kernel
theorem dX12_isPlain_65 : decode cX12_isPlain 65 = .ok (.iload_n 2, 1) := by decide +kernel
theorem dX12_isPlain_66 : decode cX12_isPlain 66 = .ok (.invokevirtual 279, 3) := by decide +kernel
theorem dX12_isPlain_69 : decode cX12_isPlain 69 = .ok (.ireturn, 1) := by decide +kernel
theorem dX12_isPlain_70 : decode cX12_isPlain 70 = .ok (.aload_n 0, 1) := by decide +kernel
theorem dX12_isPlain_71 : decode cX12_isPlain 71 = .ok (.aload_n 0, 1) := by decide +kernel
theorem dX12_isPlain_72 : decode cX12_isPlain 72 = .ok (.getfield 42, 3) := by decide +kernel
theorem dX12_isPlain_75 : decode cX12_isPlain 75 = .ok (.invokevirtual 338, 3) := by decide +kernel
theorem dX12_isPlain_78 : decode cX12_isPlain 78 = .ok (.ireturn, 1) := by decide +kernel
theorem dX12_isPlain_79 : decode cX12_isPlain 79 = .ok (.aload_n 0, 1) := by decide +kernel
theorem dX12_isPlain_80 : decode cX12_isPlain 80 = .ok (.getfield 42, 3) := by decide +kernel
theorem dX12_isPlain_83 : decode cX12_isPlain 83 = .ok (.iload_n 3, 1) := by decide +kernel
theorem dX12_isPlain_84 : decode cX12_isPlain 84 = .ok (.iaload, 1) := by decide +kernel
theorem dX12_isPlain_85 : decode cX12_isPlain 85 = .ok (.iconst (-1), 1) := by decide +kernel
theorem dX12_isPlain_86 : decode cX12_isPlain 86 = .ok (.if_icmp .eq 7, 3) := by decide +kernel
theorem dX12_isPlain_89 : decode cX12_isPlain 89 = .ok (.iconst 1, 1) := by decide +kernel
theorem dX12_isPlain_90 : decode cX12_isPlain 90 = .ok (.goto 4, 3) := by decide +kernel
theorem dX12_isPlain_93 : decode cX12_isPlain 93 = .ok (.iconst 0, 1) := by decide +kernel
theorem dX12_isPlain_94 : decode cX12_isPlain 94 = .ok (.ireturn, 1) := by decide +kernel
theorem dX12_isPlain_95 : decode cX12_isPlain 95 = .ok (.aload_n 0, 1) := by decide +kernel
theorem dX12_isPlain_96 : decode cX12_isPlain 96 = .ok (.getfield 42, 3) := by decide +kernel
theorem dX12_isPlain_99 : decode cX12_isPlain 99 = .ok (.iload_n 3, 1) := by decide +kernel
theorem dX12_isPlain_100 : decode cX12_isPlain 100 = .ok (.iaload, 1) := by decide +kernel
theorem dX12_isPlain_101 : decode cX12_isPlain 101 = .ok (.iconst (-1), 1) := by decide +kernel
theorem dX12_isPlain_102 : decode cX12_isPlain 102 = .ok (.if_icmp .eq 34, 3) := by decide +kernel
theorem dX12_isPlain_105 : decode cX12_isPlain 105 = .ok (.aload_n 0, 1) := by decide +kernel
theorem dX12_isPlain_106 : decode cX12_isPlain 106 = .ok (.getfield 42, 3) := by decide +kernel
theorem dX12_isPlain_109 : decode cX12_isPlain 109 = .ok (.iload 4, 2) := by decide +kernel
theorem dX12_isPlain_111 : decode cX12_isPlain 111 = .ok (.iaload, 1) := by decide +kernel
theorem dX12_isPlain_112 : decode cX12_isPlain 112 = .ok (.iconst (-1), 1) := by decide +kernel
theorem dX12_isPlain_113 : decode cX12_isPlain 113 = .ok (.if_icmp .eq 23, 3) := by decide +kernel
theorem dX12_isPlain_116 : decode cX12_isPlain 116 = .ok (.aload_n 0, 1) := by decide +kernel
theorem dX12_isPlain_117 : decode cX12_isPlain 117 = .ok (.getfield 42, 3) := by decide +kernel
theorem dX12_isPlain_120 : decode cX12_isPlain 120 = .ok (.iload_n 3, 1) := by decide +kernel
theorem dX12_isPlain_121 : decode cX12_isPlain 121 = .ok (.iaload, 1) := by decide +kernel
theorem dX12_isPlain_122 : decode cX12_isPlain 122 = .ok (.aload_n 0, 1) := by decide +kernel
theorem dX12_isPlain_123 : decode cX12_isPlain 123 = .ok (.getfield 42, 3) := by decide +kernel
theorem dX12_isPlain_126 : decode cX12_isPlain 126 = .ok (.iload 4, 2) := by decide +kernel
theorem dX12_isPlain_128 : decode cX12_isPlain 128 = .ok (.iaload, 1) := by decide +kernel
theorem dX12_isPlain_129 : decode cX12_isPlain 129 = .ok (.if_icmp .ge 7, 3) := by decide +kernel
theorem dX12_isPlain_132 : decode cX12_isPlain 132 = .ok (.iconst 1, 1) := by decide +kernel
theorem dX12_isPlain_133 : decode cX12_isPlain 133 = .ok (.goto 4, 3) := by decide +kernel
theorem dX12_isPlain_136 : decode cX12_isPlain 136 = .ok (.iconst 0, 1) := by decide +kernel
theorem dX12_isPlain_137 : decode cX12_isPlain 137 = .ok (.ireturn, 1) := by decide +kernel
theorem dX12_isPlain_138 : decode cX12_isPlain 138 = .ok (.aload_n 0, 1) := by decide +kernel
theorem dX12_isPlain_139 : decode cX12_isPlain 139 = .ok (.aload_n 0, 1) := by decide +kernel
theorem dX12_isPlain_140 : decode cX12_isPlain 140 = .ok (.getfield 13, 3) := by decide +kernel
theorem dX12_isPlain_143 : decode cX12_isPlain 143 = .ok (.iload_n 1, 1) := by decide +kernel
theorem dX12_isPlain_144 : decode cX12_isPlain 144 = .ok (.iaload, 1) := by decide +kernel
theorem dX12_isPlain_145 : decode cX12_isPlain 145 = .ok (.iload_n 3, 1) := by decide +kernel
theorem dX12_isPlain_146 : decode cX12_isPlain 146 = .ok (.iload_n 2, 1) := by decide +kernel
theorem dX12_isPlain_147 : decode cX12_isPlain 147 = .ok (.invokevirtual 392, 3) := by decide +kernel
theorem dX12_isPlain_150 : decode cX12_isPlain 150 = .ok (.istore 5, 2) := by decide +kernel
theorem dX12_isPlain_152 : decode cX12_isPlain 152 = .ok (.aload_n 0, 1) := by decide +kernel
theorem dX12_isPlain_153 : decode cX12_isPlain 153 = .ok (.getfield 13, 3) := by decide +kernel
theorem dX12_isPlain_156 : decode cX12_isPlain 156 = .ok (.iload_n 1, 1) := by decide +kernel
theorem dX12_isPlain_157 : decode cX12_isPlain 157 = .ok (.iconst 3, 1) := by decide +kernel
theorem dX12_isPlain_158 : decode cX12_isPlain 158 = .ok (.iadd, 1) := by decide +kernel
theorem dX12_isPlain_159 : decode cX12_isPlain 159 = .ok (.iaload, 1) := by decide +kernel
theorem dX12_isPlain_160 : decode cX12_isPlain 160 = .ok (.bipush 60, 2) := by decide +kernel
theorem dX12_isPlain_162 : decode cX12_isPlain 162 = .ok (.if_icmp .ne 18, 3) := by decide +kernel
theorem dX12_isPlain_165 : decode cX12_isPlain 165 = .ok (.iload 5, 2) := by decide +kernel
theorem dX12_isPlain_167 : decode cX12_isPlain 167 = .ok (.iload 4, 2) := by decide +kernel
theorem dX12_isPlain_169 : decode cX12_isPlain 169 = .ok (.if_icmp .ge 7, 3) := by decide +kernel
theorem dX12_isPlain_172 : decode cX12_isPlain 172 = .ok (.iconst 1, 1) := by decide +kernel
theorem dX12_isPlain_173 : decode cX12_isPlain 173 = .ok (.goto 47, 3) := by decide +kernel
theorem dX12_isPlain_176 : decode cX12_isPlain 176 = .ok (.iconst 0, 1) := by decide +kernel
theorem dX12_isPlain_177 : decode cX12_isPlain 177 = .ok (.goto 43, 3) := by decide +kernel
theorem dX12_isPlain_180 : decode cX12_isPlain 180 = .ok (.aload_n 0, 1) := by decide +kernel
theorem dX12_isPlain_181 : decode cX12_isPlain 181 = .ok (.getfield 13, 3) := by decide +kernel
theorem dX12_isPlain_184 : decode cX12_isPlain 184 = .ok (.iload_n 1, 1) := by decide +kernel
theorem dX12_isPlain_185 : decode cX12_isPlain 185 = .ok (.iconst 3, 1) := by decide +kernel
theorem dX12_isPlain_186 : decode cX12_isPlain 186 = .ok (.iadd, 1) := by decide +kernel
theorem dX12_isPlain_187 : decode cX12_isPlain 187 = .ok (.iaload, 1) := by decide +kernel
theorem dX12_isPlain_188 : decode cX12_isPlain 188 = .ok (.bipush 61, 2) := by decide +kernel
theorem dX12_isPlain_190 : decode cX12_isPlain 190 = .ok (.if_icmp .ne 18, 3) := by decide +kernel
theorem dX12_isPlain_193 : decode cX12_isPlain 193 = .ok (.iload 5, 2) := by decide +kernel
theorem dX12_isPlain_195 : decode cX12_isPlain 195 = .ok (.iload 4, 2) := by decide +kernel
theorem dX12_isPlain_197 : decode cX12_isPlain 197 = .ok (.if_icmp .ne 7, 3) := by decide +kernel
theorem dX12_isPlain_200 : decode cX12_isPlain 200 = .ok (.iconst 1, 1) := by decide +kernel
theorem dX12_isPlain_201 : decode cX12_isPlain 201 = .ok (.goto 19, 3) := by decide +kernel
theorem dX12_isPlain_204 : decode cX12_isPlain 204 = .ok (.iconst 0, 1) := by decide +kernel
theorem dX12_isPlain_205 : decode cX12_isPlain 205 = .ok (.goto 15, 3) := by decide +kernel
theorem dX12_isPlain_208 : decode cX12_isPlain 208 = .ok (.iload 5, 2) := by decide +kernel
theorem dX12_isPlain_210 : decode cX12_isPlain 210 = .ok (.iload 4, 2) := by decide +kernel
theorem dX12_isPlain_212 : decode cX12_isPlain 212 = .ok (.if_icmp .le 7, 3) := by decide +kernel
theorem dX12_isPlain_215 : decode cX12_isPlain 215 = .ok (.iconst 1, 1) := by decide +kernel
theorem dX12_isPlain_216 : decode cX12_isPlain 216 = .ok (.goto 4, 3) := by decide +kernel
theorem dX12_isPlain_219 : decode cX12_isPlain 219 = .ok (.iconst 0, 1) := by decide +kernel
theorem dX12_isPlain_220 : decode cX12_isPlain 220 = .ok (.ireturn, 1) := by decide +kernel
theorem dX12_said_0 : decode cX12_said 0 = .ok (.aload_n 0, 1) := by decide +kernel
theorem dX12_said_1 : decode cX12_said 1 = .ok (.iconst 0, 1) := by decide +kernel
theorem dX12_said_2 : decode cX12_said 2 = .ok (.putfield 81, 3) := by decide +kernel
theorem dX12_said_5 : decode cX12_said 5 = .ok (.aload_n 0, 1) := by decide +kernel
theorem dX12_said_6 : decode cX12_said 6 = .ok (.invokevirtual 164, 3) := by decide +kernel
theorem dX12_said_9 : decode cX12_said 9 = .ok (.aload_n 0, 1) := by decide +kernel
theorem dX12_said_10 : decode cX12_said 10 = .ok (.getfield 13, 3) := by decide +kernel
theorem dX12_said_13 : decode cX12_said 13 = .ok (.sipush 170, 3) := by decide +kernel
theorem dX12_said_16 : decode cX12_said 16 = .ok (.iaload, 1) := by decide +kernel
theorem dX12_said_17 : decode cX12_said 17 = .ok (.ifCond .ne 5, 3) := by decide +kernel
theorem dX12_said_20 : decode cX12_said 20 = .ok (.iconst (-1), 1) := by decide +kernel
theorem dX12_said_21 : decode cX12_said 21 = .ok (.ireturn, 1) := by decide +kernel
theorem dX12_said_22 : decode cX12_said 22 = .ok (.iconst 0, 1) := by decide +kernel
theorem dX12_said_23 : decode cX12_said 23 = .ok (.istore_n 1, 1) := by decide +kernel
theorem dX12_said_24 : decode cX12_said 24 = .ok (.iconst 0, 1) := by decide +kernel
theorem dX12_said_25 : decode cX12_said 25 = .ok (.istore_n 2, 1) := by decide +kernel
theorem dX12_said_26 : decode cX12_said 26 = .ok (.iload_n 2, 1) := by decide +kernel
theorem dX12_said_27 : decode cX12_said 27 = .ok (.aload_n 0, 1) := by decide +kernel
theorem dX12_said_28 : decode cX12_said 28 = .ok (.invokevirtual 179, 3) := by decide +kernel
theorem dX12_said_31 : decode cX12_said 31 = .ok (.if_icmp .ge 31, 3) := by decide +kernel
theorem dX12_said_34 : decode cX12_said 34 = .ok (.aload_n 0, 1) := by decide +kernel
theorem dX12_said_35 : decode cX12_said 35 = .ok (.aload_n 0, 1) := by decide +kernel
theorem dX12_said_36 : decode cX12_said 36 = .ok (.getfield 13, 3) := by decide +kernel
theorem dX12_said_39 : decode cX12_said 39 = .ok (.sipush 171, 3) := by decide +kernel
theorem dX12_said_42 : decode cX12_said 42 = .ok (.iaload, 1) := by decide +kernel
theorem dX12_said_43 : decode cX12_said 43 = .ok (.iload_n 2, 1) := by decide +kernel
theorem dX12_said_44 : decode cX12_said 44 = .ok (.invokevirtual 386, 3) := by decide +kernel
theorem dX12_said_47 : decode cX12_said 47 = .ok (.ifCond .eq 9, 3) := by decide +kernel
theorem dX12_said_50 : decode cX12_said 50 = .ok (.iload_n 1, 1) := by decide +kernel
theorem dX12_said_51 : decode cX12_said 51 = .ok (.iconst 1, 1) := by decide +kernel
theorem dX12_said_52 : decode cX12_said 52 = .ok (.iload_n 2, 1) := by decide +kernel
theorem dX12_said_53 : decode cX12_said 53 = .ok (.ishl, 1) := by decide +kernel
theorem dX12_said_54 : decode cX12_said 54 = .ok (.ior, 1) := by decide +kernel
theorem dX12_said_55 : decode cX12_said 55 = .ok (.istore_n 1, 1) := by decide +kernel
theorem dX12_said_56 : decode cX12_said 56 = .ok (.iinc 2 1, 3) := by decide +kernel
theorem dX12_said_59 : decode cX12_said 59 = .ok (.goto (-33), 3) := by decide +kernel
theorem dX12_said_62 : decode cX12_said 62 = .ok (.iload_n 1, 1) := by decide +kernel
theorem dX12_said_63 : decode cX12_said 63 = .ok (.ireturn, 1) := by decide +kernel
theorem dX12_image_0 : decode cX12_image 0 = .ok (.aload_n 0, 1) := by decide +kernel
theorem dX12_image_1 : decode cX12_image 1 = .ok (.iconst 0, 1) := by decide +kernel
theorem dX12_image_2 : decode cX12_image 2 = .ok (.putfield 81, 3) := by decide +kernel
theorem dX12_image_5 : decode cX12_image 5 = .ok (.aload_n 0, 1) := by decide +kernel
theorem dX12_image_6 : decode cX12_image 6 = .ok (.invokevirtual 164, 3) := by decide +kernel
theorem dX12_image_9 : decode cX12_image 9 = .ok (.iload_n 1, 1) := by decide +kernel
theorem dX12_image_10 : decode cX12_image 10 = .ok (.iconst 0, 1) := by decide +kernel
theorem dX12_image_11 : decode cX12_image 11 = .ok (.iconst 1, 1) := by decide +kernel
theorem dX12_image_12 : decode cX12_image 12 = .ok (.invokestatic 151, 3) := by decide +kernel
theorem dX12_image_15 : decode cX12_image 15 = .ok (.ifCond .ne 5, 3) := by decide +kernel
theorem dX12_image_18 : decode cX12_image 18 = .ok (.iconst 0, 1) := by decide +kernel
theorem dX12_image_19 : decode cX12_image 19 = .ok (.ireturn, 1) := by decide +kernel
theorem dX12_image_20 : decode cX12_image 20 = .ok (.iconst 0, 1) := by decide +kernel
theorem dX12_image_21 : decode cX12_image 21 = .ok (.istore_n 2, 1) := by decide +kernel
theorem dX12_image_22 : decode cX12_image 22 = .ok (.iload_n 2, 1) := by decide +kernel
theorem dX12_image_23 : decode cX12_image 23 = .ok (.sipush 412, 3) := by decide +kernel
theorem dX12_image_26 : decode cX12_image 26 = .ok (.if_icmp .ge 27, 3) := by decide +kernel
theorem dX12_image_29 : decode cX12_image 29 = .ok (.aload_n 0, 1) := by decide +kernel
theorem dX12_image_30 : decode cX12_image 30 = .ok (.getfield 19, 3) := by decide +kernel
theorem dX12_image_33 : decode cX12_image 33 = .ok (.sipush 412, 3) := by decide +kernel
theorem dX12_image_36 : decode cX12_image 36 = .ok (.iload_n 1, 1) := by decide +kernel
theorem dX12_image_37 : decode cX12_image 37 = .ok (.imul, 1) := by decide +kernel
theorem dX12_image_38 : decode cX12_image 38 = .ok (.iload_n 2, 1) := by decide +kernel
theorem dX12_image_39 : decode cX12_image 39 = .ok (.iadd, 1) := by decide +kernel
theorem dX12_image_40 : decode cX12_image 40 = .ok (.aload_n 0, 1) := by decide +kernel
theorem dX12_image_41 : decode cX12_image 41 = .ok (.getfield 13, 3) := by decide +kernel
theorem dX12_image_44 : decode cX12_image 44 = .ok (.iload_n 2, 1) := by decide +kernel
theorem dX12_image_45 : decode cX12_image 45 = .ok (.iaload, 1) := by decide +kernel
theorem dX12_image_46 : decode cX12_image 46 = .ok (.iastore, 1) := by decide +kernel
theorem dX12_image_47 : decode cX12_image 47 = .ok (.iinc 2 1, 3) := by decide +kernel
theorem dX12_image_50 : decode cX12_image 50 = .ok (.goto (-28), 3) := by decide +kernel
theorem dX12_image_53 : decode cX12_image 53 = .ok (.iconst 0, 1) := by decide +kernel
theorem dX12_image_54 : decode cX12_image 54 = .ok (.istore_n 2, 1) := by decide +kernel
theorem dX12_image_55 : decode cX12_image 55 = .ok (.iload_n 2, 1) := by decide +kernel
theorem dX12_image_56 : decode cX12_image 56 = .ok (.bipush 16, 2) := by decide +kernel
theorem dX12_image_58 : decode cX12_image 58 = .ok (.if_icmp .ge 26, 3) := by decide +kernel
theorem dX12_image_61 : decode cX12_image 61 = .ok (.aload_n 0, 1) := by decide +kernel
theorem dX12_image_62 : decode cX12_image 62 = .ok (.getfield 29, 3) := by decide +kernel
theorem dX12_image_65 : decode cX12_image 65 = .ok (.bipush 16, 2) := by decide +kernel
theorem dX12_image_67 : decode cX12_image 67 = .ok (.iload_n 1, 1) := by decide +kernel
theorem dX12_image_68 : decode cX12_image 68 = .ok (.imul, 1) := by decide +kernel
theorem dX12_image_69 : decode cX12_image 69 = .ok (.iload_n 2, 1) := by decide +kernel
theorem dX12_image_70 : decode cX12_image 70 = .ok (.iadd, 1) := by decide +kernel
theorem dX12_image_71 : decode cX12_image 71 = .ok (.aload_n 0, 1) := by decide +kernel
theorem dX12_image_72 : decode cX12_image 72 = .ok (.getfield 22, 3) := by decide +kernel
theorem dX12_image_75 : decode cX12_image 75 = .ok (.iload_n 2, 1) := by decide +kernel
theorem dX12_image_76 : decode cX12_image 76 = .ok (.laload, 1) := by decide +kernel
theorem dX12_image_77 : decode cX12_image 77 = .ok (.lastore, 1) := by decide +kernel
theorem dX12_image_78 : decode cX12_image 78 = .ok (.iinc 2 1, 3) := by decide +kernel
theorem dX12_image_81 : decode cX12_image 81 = .ok (.goto (-26), 3) := by decide +kernel
theorem dX12_image_84 : decode cX12_image 84 = .ok (.aload_n 0, 1) := by decide +kernel
theorem dX12_image_85 : decode cX12_image 85 = .ok (.getfield 32, 3) := by decide +kernel
theorem dX12_image_88 : decode cX12_image 88 = .ok (.iload_n 1, 1) := by decide +kernel
theorem dX12_image_89 : decode cX12_image 89 = .ok (.iconst 1, 1) := by decide +kernel
theorem dX12_image_90 : decode cX12_image 90 = .ok (.bastore, 1) := by decide +kernel
theorem dX12_image_91 : decode cX12_image 91 = .ok (.iconst 1, 1) := by decide +kernel
theorem dX12_image_92 : decode cX12_image 92 = .ok (.ireturn, 1) := by decide +kernel
theorem dX12_restore_0 : decode cX12_restore 0 = .ok (.aload_n 0, 1) := by decide +kernel
theorem dX12_restore_1 : decode cX12_restore 1 = .ok (.iconst 0, 1) := by decide +kernel
theorem dX12_restore_2 : decode cX12_restore 2 = .ok (.putfield 81, 3) := by decide +kernel
theorem dX12_restore_5 : decode cX12_restore 5 = .ok (.aload_n 0, 1) := by decide +kernel
theorem dX12_restore_6 : decode cX12_restore 6 = .ok (.invokevirtual 164, 3) := by decide +kernel
theorem dX12_restore_9 : decode cX12_restore 9 = .ok (.iload_n 1, 1) := by decide +kernel
theorem dX12_restore_10 : decode cX12_restore 10 = .ok (.iconst 0, 1) := by decide +kernel
theorem dX12_restore_11 : decode cX12_restore 11 = .ok (.iconst 1, 1) := by decide +kernel
theorem dX12_restore_12 : decode cX12_restore 12 = .ok (.invokestatic 151, 3) := by decide +kernel
theorem dX12_restore_15 : decode cX12_restore 15 = .ok (.ifCond .eq 12, 3) := by decide +kernel
theorem dX12_restore_18 : decode cX12_restore 18 = .ok (.aload_n 0, 1) := by decide +kernel
theorem dX12_restore_19 : decode cX12_restore 19 = .ok (.getfield 32, 3) := by decide +kernel
theorem dX12_restore_22 : decode cX12_restore 22 = .ok (.iload_n 1, 1) := by decide +kernel
theorem dX12_restore_23 : decode cX12_restore 23 = .ok (.baload, 1) := by decide +kernel
theorem dX12_restore_24 : decode cX12_restore 24 = .ok (.ifCond .ne 5, 3) := by decide +kernel
theorem dX12_restore_27 : decode cX12_restore 27 = .ok (.iconst 0, 1) := by decide +kernel
theorem dX12_restore_28 : decode cX12_restore 28 = .ok (.ireturn, 1) := by decide +kernel
theorem dX12_restore_29 : decode cX12_restore 29 = .ok (.iconst 0, 1) := by decide +kernel
theorem dX12_restore_30 : decode cX12_restore 30 = .ok (.istore_n 2, 1) := by decide +kernel
theorem dX12_restore_31 : decode cX12_restore 31 = .ok (.iload_n 2, 1) := by decide +kernel
theorem dX12_restore_32 : decode cX12_restore 32 = .ok (.sipush 412, 3) := by decide +kernel
theorem dX12_restore_35 : decode cX12_restore 35 = .ok (.if_icmp .ge 27, 3) := by decide +kernel
theorem dX12_restore_38 : decode cX12_restore 38 = .ok (.aload_n 0, 1) := by decide +kernel
theorem dX12_restore_39 : decode cX12_restore 39 = .ok (.getfield 13, 3) := by decide +kernel
theorem dX12_restore_42 : decode cX12_restore 42 = .ok (.iload_n 2, 1) := by decide +kernel
theorem dX12_restore_43 : decode cX12_restore 43 = .ok (.aload_n 0, 1) := by decide +kernel
theorem dX12_restore_44 : decode cX12_restore 44 = .ok (.getfield 19, 3) := by decide +kernel
theorem dX12_restore_47 : decode cX12_restore 47 = .ok (.sipush 412, 3) := by decide +kernel
theorem dX12_restore_50 : decode cX12_restore 50 = .ok (.iload_n 1, 1) := by decide +kernel
theorem dX12_restore_51 : decode cX12_restore 51 = .ok (.imul, 1) := by decide +kernel
theorem dX12_restore_52 : decode cX12_restore 52 = .ok (.iload_n 2, 1) := by decide +kernel
theorem dX12_restore_53 : decode cX12_restore 53 = .ok (.iadd, 1) := by decide +kernel
theorem dX12_restore_54 : decode cX12_restore 54 = .ok (.iaload, 1) := by decide +kernel
theorem dX12_restore_55 : decode cX12_restore 55 = .ok (.iastore, 1) := by decide +kernel
theorem dX12_restore_56 : decode cX12_restore 56 = .ok (.iinc 2 1, 3) := by decide +kernel
theorem dX12_restore_59 : decode cX12_restore 59 = .ok (.goto (-28), 3) := by decide +kernel
theorem dX12_restore_62 : decode cX12_restore 62 = .ok (.iconst 0, 1) := by decide +kernel
theorem dX12_restore_63 : decode cX12_restore 63 = .ok (.istore_n 2, 1) := by decide +kernel
theorem dX12_restore_64 : decode cX12_restore 64 = .ok (.iload_n 2, 1) := by decide +kernel
theorem dX12_restore_65 : decode cX12_restore 65 = .ok (.bipush 16, 2) := by decide +kernel
theorem dX12_restore_67 : decode cX12_restore 67 = .ok (.if_icmp .ge 26, 3) := by decide +kernel
theorem dX12_restore_70 : decode cX12_restore 70 = .ok (.aload_n 0, 1) := by decide +kernel
theorem dX12_restore_71 : decode cX12_restore 71 = .ok (.getfield 22, 3) := by decide +kernel
theorem dX12_restore_74 : decode cX12_restore 74 = .ok (.iload_n 2, 1) := by decide +kernel
theorem dX12_restore_75 : decode cX12_restore 75 = .ok (.aload_n 0, 1) := by decide +kernel
theorem dX12_restore_76 : decode cX12_restore 76 = .ok (.getfield 29, 3) := by decide +kernel
theorem dX12_restore_79 : decode cX12_restore 79 = .ok (.bipush 16, 2) := by decide +kernel
theorem dX12_restore_81 : decode cX12_restore 81 = .ok (.iload_n 1, 1) := by decide +kernel
theorem dX12_restore_82 : decode cX12_restore 82 = .ok (.imul, 1) := by decide +kernel
theorem dX12_restore_83 : decode cX12_restore 83 = .ok (.iload_n 2, 1) := by decide +kernel
theorem dX12_restore_84 : decode cX12_restore 84 = .ok (.iadd, 1) := by decide +kernel
theorem dX12_restore_85 : decode cX12_restore 85 = .ok (.laload, 1) := by decide +kernel
theorem dX12_restore_86 : decode cX12_restore 86 = .ok (.lastore, 1) := by decide +kernel
theorem dX12_restore_87 : decode cX12_restore 87 = .ok (.iinc 2 1, 3) := by decide +kernel
theorem dX12_restore_90 : decode cX12_restore 90 = .ok (.goto (-26), 3) := by decide +kernel
theorem dX12_restore_93 : decode cX12_restore 93 = .ok (.iconst 1, 1) := by decide +kernel
theorem dX12_restore_94 : decode cX12_restore 94 = .ok (.ireturn, 1) := by decide +kernel
theorem dX12_count_0 : decode cX12_count 0 = .ok (.aload_n 0, 1) := by decide +kernel
theorem dX12_count_1 : decode cX12_count 1 = .ok (.iconst 0, 1) := by decide +kernel
theorem dX12_count_2 : decode cX12_count 2 = .ok (.putfield 81, 3) := by decide +kernel
theorem dX12_count_5 : decode cX12_count 5 = .ok (.aload_n 0, 1) := by decide +kernel
theorem dX12_count_6 : decode cX12_count 6 = .ok (.invokevirtual 164, 3) := by decide +kernel
theorem dX12_count_9 : decode cX12_count 9 = .ok (.iload_n 1, 1) := by decide +kernel
theorem dX12_count_10 : decode cX12_count 10 = .ok (.tableswitch 83 0 6 #[42, 47, 52, 59, 64, 71, 78], 42) := by decide +kernel
theorem dX12_count_52 : decode cX12_count 52 = .ok (.aload_n 0, 1) := by decide +kernel
theorem dX12_count_53 : decode cX12_count 53 = .ok (.invokevirtual 185, 3) := by decide +kernel
theorem dX12_count_56 : decode cX12_count 56 = .ok (.ireturn, 1) := by decide +kernel
theorem dX12_count_57 : decode cX12_count 57 = .ok (.aload_n 0, 1) := by decide +kernel
theorem dX12_count_58 : decode cX12_count 58 = .ok (.invokevirtual 179, 3) := by decide +kernel
theorem dX12_count_61 : decode cX12_count 61 = .ok (.ireturn, 1) := by decide +kernel
theorem dX12_count_62 : decode cX12_count 62 = .ok (.aload_n 0, 1) := by decide +kernel
theorem dX12_count_63 : decode cX12_count 63 = .ok (.getfield 13, 3) := by decide +kernel
theorem dX12_count_66 : decode cX12_count 66 = .ok (.iconst 2, 1) := by decide +kernel
theorem dX12_count_67 : decode cX12_count 67 = .ok (.iaload, 1) := by decide +kernel
theorem dX12_count_68 : decode cX12_count 68 = .ok (.ireturn, 1) := by decide +kernel
theorem dX12_count_69 : decode cX12_count 69 = .ok (.aload_n 0, 1) := by decide +kernel
theorem dX12_count_70 : decode cX12_count 70 = .ok (.invokevirtual 251, 3) := by decide +kernel
theorem dX12_count_73 : decode cX12_count 73 = .ok (.ireturn, 1) := by decide +kernel
theorem dX12_count_74 : decode cX12_count 74 = .ok (.aload_n 0, 1) := by decide +kernel
theorem dX12_count_75 : decode cX12_count 75 = .ok (.getfield 13, 3) := by decide +kernel
theorem dX12_count_78 : decode cX12_count 78 = .ok (.iconst 3, 1) := by decide +kernel
theorem dX12_count_79 : decode cX12_count 79 = .ok (.iaload, 1) := by decide +kernel
theorem dX12_count_80 : decode cX12_count 80 = .ok (.ireturn, 1) := by decide +kernel
theorem dX12_count_81 : decode cX12_count 81 = .ok (.aload_n 0, 1) := by decide +kernel
theorem dX12_count_82 : decode cX12_count 82 = .ok (.getfield 13, 3) := by decide +kernel
theorem dX12_count_85 : decode cX12_count 85 = .ok (.iconst 4, 1) := by decide +kernel
theorem dX12_count_86 : decode cX12_count 86 = .ok (.iaload, 1) := by decide +kernel
theorem dX12_count_87 : decode cX12_count 87 = .ok (.ireturn, 1) := by decide +kernel
theorem dX12_count_88 : decode cX12_count 88 = .ok (.aload_n 0, 1) := by decide +kernel
theorem dX12_count_89 : decode cX12_count 89 = .ok (.getfield 85, 3) := by decide +kernel
theorem dX12_count_92 : decode cX12_count 92 = .ok (.ireturn, 1) := by decide +kernel
theorem dX12_count_93 : decode cX12_count 93 = .ok (.iconst (-1), 1) := by decide +kernel
theorem dX12_count_94 : decode cX12_count 94 = .ok (.ireturn, 1) := by decide +kernel
theorem dJ6_bitCount_0f7a4_0 : decode cJ6_bitCount_0f7a4 0 = .ok (.iload_n 0, 1) := by decide +kernel
theorem dJ6_bitCount_0f7a4_1 : decode cJ6_bitCount_0f7a4 1 = .ok (.iload_n 0, 1) := by decide +kernel
theorem dJ6_bitCount_0f7a4_2 : decode cJ6_bitCount_0f7a4 2 = .ok (.iconst 1, 1) := by decide +kernel
theorem dJ6_bitCount_0f7a4_3 : decode cJ6_bitCount_0f7a4 3 = .ok (.iushr, 1) := by decide +kernel
theorem dJ6_bitCount_0f7a4_4 : decode cJ6_bitCount_0f7a4 4 = .ok (.ldc_w 265, 3) := by decide +kernel
theorem dJ6_bitCount_0f7a4_7 : decode cJ6_bitCount_0f7a4 7 = .ok (.iand, 1) := by decide +kernel
theorem dJ6_bitCount_0f7a4_8 : decode cJ6_bitCount_0f7a4 8 = .ok (.isub, 1) := by decide +kernel
theorem dJ6_bitCount_0f7a4_9 : decode cJ6_bitCount_0f7a4 9 = .ok (.istore_n 0, 1) := by decide +kernel
theorem dJ6_bitCount_0f7a4_10 : decode cJ6_bitCount_0f7a4 10 = .ok (.iload_n 0, 1) := by decide +kernel
theorem dJ6_bitCount_0f7a4_11 : decode cJ6_bitCount_0f7a4 11 = .ok (.ldc_w 266, 3) := by decide +kernel
theorem dJ6_bitCount_0f7a4_14 : decode cJ6_bitCount_0f7a4 14 = .ok (.iand, 1) := by decide +kernel
theorem dJ6_bitCount_0f7a4_15 : decode cJ6_bitCount_0f7a4 15 = .ok (.iload_n 0, 1) := by decide +kernel
theorem dJ6_bitCount_0f7a4_16 : decode cJ6_bitCount_0f7a4 16 = .ok (.iconst 2, 1) := by decide +kernel
theorem dJ6_bitCount_0f7a4_17 : decode cJ6_bitCount_0f7a4 17 = .ok (.iushr, 1) := by decide +kernel
theorem dJ6_bitCount_0f7a4_18 : decode cJ6_bitCount_0f7a4 18 = .ok (.ldc_w 266, 3) := by decide +kernel
theorem dJ6_bitCount_0f7a4_21 : decode cJ6_bitCount_0f7a4 21 = .ok (.iand, 1) := by decide +kernel
theorem dJ6_bitCount_0f7a4_22 : decode cJ6_bitCount_0f7a4 22 = .ok (.iadd, 1) := by decide +kernel
theorem dJ6_bitCount_0f7a4_23 : decode cJ6_bitCount_0f7a4 23 = .ok (.istore_n 0, 1) := by decide +kernel
theorem dJ6_bitCount_0f7a4_24 : decode cJ6_bitCount_0f7a4 24 = .ok (.iload_n 0, 1) := by decide +kernel
theorem dJ6_bitCount_0f7a4_25 : decode cJ6_bitCount_0f7a4 25 = .ok (.iload_n 0, 1) := by decide +kernel
theorem dJ6_bitCount_0f7a4_26 : decode cJ6_bitCount_0f7a4 26 = .ok (.iconst 4, 1) := by decide +kernel
theorem dJ6_bitCount_0f7a4_27 : decode cJ6_bitCount_0f7a4 27 = .ok (.iushr, 1) := by decide +kernel
theorem dJ6_bitCount_0f7a4_28 : decode cJ6_bitCount_0f7a4 28 = .ok (.iadd, 1) := by decide +kernel
theorem dJ6_bitCount_0f7a4_29 : decode cJ6_bitCount_0f7a4 29 = .ok (.ldc_w 267, 3) := by decide +kernel
theorem dJ6_bitCount_0f7a4_32 : decode cJ6_bitCount_0f7a4 32 = .ok (.iand, 1) := by decide +kernel
theorem dJ6_bitCount_0f7a4_33 : decode cJ6_bitCount_0f7a4 33 = .ok (.istore_n 0, 1) := by decide +kernel
theorem dJ6_bitCount_0f7a4_34 : decode cJ6_bitCount_0f7a4 34 = .ok (.iload_n 0, 1) := by decide +kernel
theorem dJ6_bitCount_0f7a4_35 : decode cJ6_bitCount_0f7a4 35 = .ok (.iload_n 0, 1) := by decide +kernel
theorem dJ6_bitCount_0f7a4_36 : decode cJ6_bitCount_0f7a4 36 = .ok (.bipush 8, 2) := by decide +kernel
theorem dJ6_bitCount_0f7a4_38 : decode cJ6_bitCount_0f7a4 38 = .ok (.iushr, 1) := by decide +kernel
theorem dJ6_bitCount_0f7a4_39 : decode cJ6_bitCount_0f7a4 39 = .ok (.iadd, 1) := by decide +kernel
theorem dJ6_bitCount_0f7a4_40 : decode cJ6_bitCount_0f7a4 40 = .ok (.istore_n 0, 1) := by decide +kernel
theorem dJ6_bitCount_0f7a4_41 : decode cJ6_bitCount_0f7a4 41 = .ok (.iload_n 0, 1) := by decide +kernel
theorem dJ6_bitCount_0f7a4_42 : decode cJ6_bitCount_0f7a4 42 = .ok (.iload_n 0, 1) := by decide +kernel
theorem dJ6_bitCount_0f7a4_43 : decode cJ6_bitCount_0f7a4 43 = .ok (.bipush 16, 2) := by decide +kernel
theorem dJ6_bitCount_0f7a4_45 : decode cJ6_bitCount_0f7a4 45 = .ok (.iushr, 1) := by decide +kernel
theorem dJ6_bitCount_0f7a4_46 : decode cJ6_bitCount_0f7a4 46 = .ok (.iadd, 1) := by decide +kernel
theorem dJ6_bitCount_0f7a4_47 : decode cJ6_bitCount_0f7a4 47 = .ok (.istore_n 0, 1) := by decide +kernel
theorem dJ6_bitCount_0f7a4_48 : decode cJ6_bitCount_0f7a4 48 = .ok (.iload_n 0, 1) := by decide +kernel
theorem dJ6_bitCount_0f7a4_49 : decode cJ6_bitCount_0f7a4 49 = .ok (.bipush 63, 2) := by decide +kernel
theorem dJ6_bitCount_0f7a4_51 : decode cJ6_bitCount_0f7a4 51 = .ok (.iand, 1) := by decide +kernel
theorem dJ6_bitCount_0f7a4_52 : decode cJ6_bitCount_0f7a4 52 = .ok (.ireturn, 1) := by decide +kernel
theorem dJ9_max_7cf53_0 : decode cJ9_max_7cf53 0 = .ok (.iload_n 0, 1) := by decide +kernel
theorem dJ9_max_7cf53_1 : decode cJ9_max_7cf53 1 = .ok (.iload_n 1, 1) := by decide +kernel
theorem dJ9_max_7cf53_2 : decode cJ9_max_7cf53 2 = .ok (.if_icmp .lt 7, 3) := by decide +kernel
theorem dJ9_max_7cf53_5 : decode cJ9_max_7cf53 5 = .ok (.iload_n 0, 1) := by decide +kernel
theorem dJ9_max_7cf53_6 : decode cJ9_max_7cf53 6 = .ok (.goto 4, 3) := by decide +kernel
theorem dJ9_max_7cf53_9 : decode cJ9_max_7cf53 9 = .ok (.iload_n 1, 1) := by decide +kernel
theorem dJ9_max_7cf53_10 : decode cJ9_max_7cf53 10 = .ok (.ireturn, 1) := by decide +kernel
theorem dJ9_min_7cf53_0 : decode cJ9_min_7cf53 0 = .ok (.iload_n 0, 1) := by decide +kernel
theorem dJ9_min_7cf53_1 : decode cJ9_min_7cf53 1 = .ok (.iload_n 1, 1) := by decide +kernel
theorem dJ9_min_7cf53_2 : decode cJ9_min_7cf53 2 = .ok (.if_icmp .gt 7, 3) := by decide +kernel
theorem dJ9_min_7cf53_5 : decode cJ9_min_7cf53 5 = .ok (.iload_n 0, 1) := by decide +kernel
theorem dJ9_min_7cf53_6 : decode cJ9_min_7cf53 6 = .ok (.goto 4, 3) := by decide +kernel
theorem dJ9_min_7cf53_9 : decode cJ9_min_7cf53 9 = .ok (.iload_n 1, 1) := by decide +kernel
theorem dJ9_min_7cf53_10 : decode cJ9_min_7cf53 10 = .ok (.ireturn, 1) := by decide +kernel
theorem dJ7_fill_d0a16_0 : decode cJ7_fill_d0a16 0 = .ok (.iconst 0, 1) := by decide +kernel
theorem dJ7_fill_d0a16_1 : decode cJ7_fill_d0a16 1 = .ok (.istore_n 3, 1) := by decide +kernel
theorem dJ7_fill_d0a16_2 : decode cJ7_fill_d0a16 2 = .ok (.aload_n 0, 1) := by decide +kernel
theorem dJ7_fill_d0a16_3 : decode cJ7_fill_d0a16 3 = .ok (.arraylength, 1) := by decide +kernel
theorem dJ7_fill_d0a16_4 : decode cJ7_fill_d0a16 4 = .ok (.istore 4, 2) := by decide +kernel
theorem dJ7_fill_d0a16_6 : decode cJ7_fill_d0a16 6 = .ok (.iload_n 3, 1) := by decide +kernel
theorem dJ7_fill_d0a16_7 : decode cJ7_fill_d0a16 7 = .ok (.iload 4, 2) := by decide +kernel
theorem dJ7_fill_d0a16_9 : decode cJ7_fill_d0a16 9 = .ok (.if_icmp .ge 13, 3) := by decide +kernel
theorem dJ7_fill_d0a16_12 : decode cJ7_fill_d0a16 12 = .ok (.aload_n 0, 1) := by decide +kernel
theorem dJ7_fill_d0a16_13 : decode cJ7_fill_d0a16 13 = .ok (.iload_n 3, 1) := by decide +kernel
theorem dJ7_fill_d0a16_14 : decode cJ7_fill_d0a16 14 = .ok (.lload_n 1, 1) := by decide +kernel
theorem dJ7_fill_d0a16_15 : decode cJ7_fill_d0a16 15 = .ok (.lastore, 1) := by decide +kernel
theorem dJ7_fill_d0a16_16 : decode cJ7_fill_d0a16 16 = .ok (.iinc 3 1, 3) := by decide +kernel
theorem dJ7_fill_d0a16_19 : decode cJ7_fill_d0a16 19 = .ok (.goto (-13), 3) := by decide +kernel
theorem dJ7_fill_d0a16_22 : decode cJ7_fill_d0a16 22 = .ok (.return_, 1) := by decide +kernel
theorem dJ7_fill_53178_0 : decode cJ7_fill_53178 0 = .ok (.iconst 0, 1) := by decide +kernel
theorem dJ7_fill_53178_1 : decode cJ7_fill_53178 1 = .ok (.istore_n 2, 1) := by decide +kernel
theorem dJ7_fill_53178_2 : decode cJ7_fill_53178 2 = .ok (.aload_n 0, 1) := by decide +kernel
theorem dJ7_fill_53178_3 : decode cJ7_fill_53178 3 = .ok (.arraylength, 1) := by decide +kernel
theorem dJ7_fill_53178_4 : decode cJ7_fill_53178 4 = .ok (.istore_n 3, 1) := by decide +kernel
theorem dJ7_fill_53178_5 : decode cJ7_fill_53178 5 = .ok (.iload_n 2, 1) := by decide +kernel
theorem dJ7_fill_53178_6 : decode cJ7_fill_53178 6 = .ok (.iload_n 3, 1) := by decide +kernel
theorem dJ7_fill_53178_7 : decode cJ7_fill_53178 7 = .ok (.if_icmp .ge 13, 3) := by decide +kernel
theorem dJ7_fill_53178_10 : decode cJ7_fill_53178 10 = .ok (.aload_n 0, 1) := by decide +kernel
theorem dJ7_fill_53178_11 : decode cJ7_fill_53178 11 = .ok (.iload_n 2, 1) := by decide +kernel
theorem dJ7_fill_53178_12 : decode cJ7_fill_53178 12 = .ok (.iload_n 1, 1) := by decide +kernel
theorem dJ7_fill_53178_13 : decode cJ7_fill_53178 13 = .ok (.iastore, 1) := by decide +kernel
theorem dJ7_fill_53178_14 : decode cJ7_fill_53178 14 = .ok (.iinc 2 1, 3) := by decide +kernel
theorem dJ7_fill_53178_17 : decode cJ7_fill_53178 17 = .ok (.goto (-12), 3) := by decide +kernel
theorem dJ7_fill_53178_20 : decode cJ7_fill_53178 20 = .ok (.return_, 1) := by decide +kernel
theorem dL_line_0 : decode cL_line 0 = .ok (.aload_n 3, 1) := by decide +kernel
theorem dL_line_1 : decode cL_line 1 = .ok (.iconst 0, 1) := by decide +kernel
theorem dL_line_2 : decode cL_line 2 = .ok (.aload_n 0, 1) := by decide +kernel
theorem dL_line_3 : decode cL_line 3 = .ok (.iload_n 1, 1) := by decide +kernel
theorem dL_line_4 : decode cL_line 4 = .ok (.iload_n 2, 1) := by decide +kernel
theorem dL_line_5 : decode cL_line 5 = .ok (.invokevirtual 7, 3) := by decide +kernel
theorem dL_line_8 : decode cL_line 8 = .ok (.i2l, 1) := by decide +kernel
theorem dL_line_9 : decode cL_line 9 = .ok (.lastore, 1) := by decide +kernel
theorem dL_line_10 : decode cL_line 10 = .ok (.goto 7, 3) := by decide +kernel
theorem dL_line_13 : decode cL_line 13 = .ok (.astore 4, 2) := by decide +kernel
theorem dL_line_15 : decode cL_line 15 = .ok (.iconst 1, 1) := by decide +kernel
theorem dL_line_16 : decode cL_line 16 = .ok (.ireturn, 1) := by decide +kernel
theorem dL_line_17 : decode cL_line 17 = .ok (.iconst 0, 1) := by decide +kernel
theorem dL_line_18 : decode cL_line 18 = .ok (.ireturn, 1) := by decide +kernel
theorem dL_along_0 : decode cL_along 0 = .ok (.aload 4, 2) := by decide +kernel
theorem dL_along_2 : decode cL_along 2 = .ok (.iconst 0, 1) := by decide +kernel
theorem dL_along_3 : decode cL_along 3 = .ok (.aload_n 0, 1) := by decide +kernel
theorem dL_along_4 : decode cL_along 4 = .ok (.iload_n 1, 1) := by decide +kernel
theorem dL_along_5 : decode cL_along 5 = .ok (.iload_n 2, 1) := by decide +kernel
theorem dL_along_6 : decode cL_along 6 = .ok (.iload_n 3, 1) := by decide +kernel
theorem dL_along_7 : decode cL_along 7 = .ok (.invokevirtual 15, 3) := by decide +kernel
theorem dL_along_10 : decode cL_along 10 = .ok (.lastore, 1) := by decide +kernel
theorem dL_along_11 : decode cL_along 11 = .ok (.goto 7, 3) := by decide +kernel
theorem dL_along_14 : decode cL_along 14 = .ok (.astore 5, 2) := by decide +kernel
theorem dL_along_16 : decode cL_along 16 = .ok (.iconst 1, 1) := by decide +kernel
theorem dL_along_17 : decode cL_along 17 = .ok (.ireturn, 1) := by decide +kernel
theorem dL_along_18 : decode cL_along 18 = .ok (.iconst 0, 1) := by decide +kernel
theorem dL_along_19 : decode cL_along 19 = .ok (.ireturn, 1) := by decide +kernel
theorem dL_law_0 : decode cL_law 0 = .ok (.new 8, 3) := by decide +kernel
theorem dL_law_3 : decode cL_law 3 = .ok (.dup, 1) := by decide +kernel
theorem dL_law_4 : decode cL_law 4 = .ok (.invokespecial 19, 3) := by decide +kernel
theorem dL_law_7 : decode cL_law 7 = .ok (.astore_n 1, 1) := by decide +kernel
theorem dL_law_8 : decode cL_law 8 = .ok (.new 20, 3) := by decide +kernel
theorem dL_law_11 : decode cL_law 11 = .ok (.dup, 1) := by decide +kernel
theorem dL_law_12 : decode cL_law 12 = .ok (.invokespecial 22, 3) := by decide +kernel
theorem dL_law_15 : decode cL_law 15 = .ok (.astore_n 2, 1) := by decide +kernel
theorem dL_law_16 : decode cL_law 16 = .ok (.iconst 1, 1) := by decide +kernel
theorem dL_law_17 : decode cL_law 17 = .ok (.newarray .long, 2) := by decide +kernel
theorem dL_law_19 : decode cL_law 19 = .ok (.astore_n 3, 1) := by decide +kernel
theorem dL_law_20 : decode cL_law 20 = .ok (.iconst 0, 1) := by decide +kernel
theorem dL_law_21 : decode cL_law 21 = .ok (.istore 4, 2) := by decide +kernel
theorem dL_law_23 : decode cL_law 23 = .ok (.iload 4, 2) := by decide +kernel
theorem dL_law_25 : decode cL_law 25 = .ok (.aload_n 0, 1) := by decide +kernel
theorem dL_law_26 : decode cL_law 26 = .ok (.arraylength, 1) := by decide +kernel
theorem dL_law_27 : decode cL_law 27 = .ok (.bipush 6, 2) := by decide +kernel
theorem dL_law_29 : decode cL_law 29 = .ok (.isub, 1) := by decide +kernel
theorem dL_law_30 : decode cL_law 30 = .ok (.if_icmp .gt 1456, 3) := by decide +kernel
theorem dL_law_33 : decode cL_law 33 = .ok (.aload_n 0, 1) := by decide +kernel
theorem dL_law_34 : decode cL_law 34 = .ok (.iload 4, 2) := by decide +kernel
theorem dL_law_36 : decode cL_law 36 = .ok (.iaload, 1) := by decide +kernel
theorem dL_law_37 : decode cL_law 37 = .ok (.bipush 63, 2) := by decide +kernel
theorem dL_law_39 : decode cL_law 39 = .ok (.iand, 1) := by decide +kernel
theorem dL_law_40 : decode cL_law 40 = .ok (.tableswitch 1440 0 36 #[164, 237, 262, 275, 288, 356, 381, 394, 431, 480, 517, 566, 627, 652, 689, 702, 727, 752, 802, 863, 877, 914, 963, 988, 1067, 1092, 1117, 1142, 1179, 1204, 1241, 1290, 1339, 1352, 1365, 1390, 1415], 164) := by decide +kernel
theorem dL_law_204 : decode cL_law 204 = .ok (.aload_n 1, 1) := by decide +kernel
theorem dL_law_205 : decode cL_law 205 = .ok (.aload_n 0, 1) := by decide +kernel
theorem dL_law_206 : decode cL_law 206 = .ok (.iload 4, 2) := by decide +kernel
theorem dL_law_208 : decode cL_law 208 = .ok (.iconst 1, 1) := by decide +kernel
theorem dL_law_209 : decode cL_law 209 = .ok (.iadd, 1) := by decide +kernel
theorem dL_law_210 : decode cL_law 210 = .ok (.iaload, 1) := by decide +kernel
theorem dL_law_211 : decode cL_law 211 = .ok (.aload_n 0, 1) := by decide +kernel
theorem dL_law_212 : decode cL_law 212 = .ok (.iload 4, 2) := by decide +kernel
theorem dL_law_214 : decode cL_law 214 = .ok (.iconst 2, 1) := by decide +kernel
theorem dL_law_215 : decode cL_law 215 = .ok (.iadd, 1) := by decide +kernel
theorem dL_law_216 : decode cL_law 216 = .ok (.iaload, 1) := by decide +kernel
theorem dL_law_217 : decode cL_law 217 = .ok (.aload_n 0, 1) := by decide +kernel
theorem dL_law_218 : decode cL_law 218 = .ok (.iload 4, 2) := by decide +kernel
theorem dL_law_220 : decode cL_law 220 = .ok (.iconst 3, 1) := by decide +kernel
theorem dL_law_221 : decode cL_law 221 = .ok (.iadd, 1) := by decide +kernel
theorem dL_law_222 : decode cL_law 222 = .ok (.iaload, 1) := by decide +kernel
theorem dL_law_223 : decode cL_law 223 = .ok (.aload_n 0, 1) := by decide +kernel
theorem dL_law_224 : decode cL_law 224 = .ok (.iload 4, 2) := by decide +kernel
theorem dL_law_226 : decode cL_law 226 = .ok (.iconst 4, 1) := by decide +kernel
theorem dL_law_227 : decode cL_law 227 = .ok (.iadd, 1) := by decide +kernel
theorem dL_law_228 : decode cL_law 228 = .ok (.iaload, 1) := by decide +kernel
theorem dL_law_229 : decode cL_law 229 = .ok (.aload_n 0, 1) := by decide +kernel
theorem dL_law_230 : decode cL_law 230 = .ok (.iload 4, 2) := by decide +kernel
theorem dL_law_232 : decode cL_law 232 = .ok (.iconst 5, 1) := by decide +kernel
theorem dL_law_233 : decode cL_law 233 = .ok (.iadd, 1) := by decide +kernel
theorem dL_law_234 : decode cL_law 234 = .ok (.iaload, 1) := by decide +kernel
theorem dL_law_235 : decode cL_law 235 = .ok (.invokevirtual 23, 3) := by decide +kernel
theorem dL_law_238 : decode cL_law 238 = .ok (.aload_n 2, 1) := by decide +kernel
theorem dL_law_239 : decode cL_law 239 = .ok (.aload_n 0, 1) := by decide +kernel
theorem dL_law_240 : decode cL_law 240 = .ok (.iload 4, 2) := by decide +kernel
theorem dL_law_242 : decode cL_law 242 = .ok (.iconst 1, 1) := by decide +kernel
theorem dL_law_243 : decode cL_law 243 = .ok (.iadd, 1) := by decide +kernel
theorem dL_law_244 : decode cL_law 244 = .ok (.iaload, 1) := by decide +kernel
theorem dL_law_245 : decode cL_law 245 = .ok (.aload_n 0, 1) := by decide +kernel
theorem dL_law_246 : decode cL_law 246 = .ok (.iload 4, 2) := by decide +kernel
theorem dL_law_248 : decode cL_law 248 = .ok (.iconst 2, 1) := by decide +kernel
theorem dL_law_249 : decode cL_law 249 = .ok (.iadd, 1) := by decide +kernel
theorem dL_law_250 : decode cL_law 250 = .ok (.iaload, 1) := by decide +kernel
theorem dL_law_251 : decode cL_law 251 = .ok (.aload_n 0, 1) := by decide +kernel
theorem dL_law_252 : decode cL_law 252 = .ok (.iload 4, 2) := by decide +kernel
theorem dL_law_254 : decode cL_law 254 = .ok (.iconst 3, 1) := by decide +kernel
theorem dL_law_255 : decode cL_law 255 = .ok (.iadd, 1) := by decide +kernel
theorem dL_law_256 : decode cL_law 256 = .ok (.iaload, 1) := by decide +kernel
theorem dL_law_257 : decode cL_law 257 = .ok (.aload_n 0, 1) := by decide +kernel
theorem dL_law_258 : decode cL_law 258 = .ok (.iload 4, 2) := by decide +kernel
theorem dL_law_260 : decode cL_law 260 = .ok (.iconst 4, 1) := by decide +kernel
theorem dL_law_261 : decode cL_law 261 = .ok (.iadd, 1) := by decide +kernel
theorem dL_law_262 : decode cL_law 262 = .ok (.iaload, 1) := by decide +kernel
theorem dL_law_263 : decode cL_law 263 = .ok (.aload_n 0, 1) := by decide +kernel
theorem dL_law_264 : decode cL_law 264 = .ok (.iload 4, 2) := by decide +kernel
theorem dL_law_266 : decode cL_law 266 = .ok (.iconst 5, 1) := by decide +kernel
theorem dL_law_267 : decode cL_law 267 = .ok (.iadd, 1) := by decide +kernel
theorem dL_law_268 : decode cL_law 268 = .ok (.iaload, 1) := by decide +kernel
theorem dL_law_269 : decode cL_law 269 = .ok (.invokevirtual 27, 3) := by decide +kernel
theorem dL_law_272 : decode cL_law 272 = .ok (.if_icmp .eq 1208, 3) := by decide +kernel
theorem dL_law_275 : decode cL_law 275 = .ok (.iconst 0, 1) := by decide +kernel
theorem dL_law_276 : decode cL_law 276 = .ok (.ireturn, 1) := by decide +kernel
theorem dL_law_277 : decode cL_law 277 = .ok (.aload_n 1, 1) := by decide +kernel
theorem dL_law_278 : decode cL_law 278 = .ok (.aload_n 0, 1) := by decide +kernel
theorem dL_law_279 : decode cL_law 279 = .ok (.iload 4, 2) := by decide +kernel
theorem dL_law_281 : decode cL_law 281 = .ok (.iconst 1, 1) := by decide +kernel
theorem dL_law_282 : decode cL_law 282 = .ok (.iadd, 1) := by decide +kernel
theorem dL_law_283 : decode cL_law 283 = .ok (.iaload, 1) := by decide +kernel
theorem dL_law_284 : decode cL_law 284 = .ok (.invokevirtual 28, 3) := by decide +kernel
theorem dL_law_287 : decode cL_law 287 = .ok (.aload_n 2, 1) := by decide +kernel
theorem dL_law_288 : decode cL_law 288 = .ok (.aload_n 0, 1) := by decide +kernel
theorem dL_law_289 : decode cL_law 289 = .ok (.iload 4, 2) := by decide +kernel
theorem dL_law_291 : decode cL_law 291 = .ok (.iconst 1, 1) := by decide +kernel
theorem dL_law_292 : decode cL_law 292 = .ok (.iadd, 1) := by decide +kernel
theorem dL_law_293 : decode cL_law 293 = .ok (.iaload, 1) := by decide +kernel
theorem dL_law_294 : decode cL_law 294 = .ok (.invokevirtual 32, 3) := by decide +kernel
theorem dL_law_297 : decode cL_law 297 = .ok (.if_icmp .eq 1183, 3) := by decide +kernel
theorem dL_law_300 : decode cL_law 300 = .ok (.iconst 0, 1) := by decide +kernel
theorem dL_law_301 : decode cL_law 301 = .ok (.ireturn, 1) := by decide +kernel
theorem dL_law_302 : decode cL_law 302 = .ok (.aload_n 1, 1) := by decide +kernel
theorem dL_law_303 : decode cL_law 303 = .ok (.invokevirtual 33, 3) := by decide +kernel
theorem dL_law_306 : decode cL_law 306 = .ok (.aload_n 2, 1) := by decide +kernel
theorem dL_law_307 : decode cL_law 307 = .ok (.invokevirtual 37, 3) := by decide +kernel
theorem dL_law_310 : decode cL_law 310 = .ok (.if_icmp .eq 1170, 3) := by decide +kernel
theorem dL_law_313 : decode cL_law 313 = .ok (.iconst 0, 1) := by decide +kernel
theorem dL_law_314 : decode cL_law 314 = .ok (.ireturn, 1) := by decide +kernel
theorem dL_law_315 : decode cL_law 315 = .ok (.aload_n 1, 1) := by decide +kernel
theorem dL_law_316 : decode cL_law 316 = .ok (.invokevirtual 38, 3) := by decide +kernel
theorem dL_law_319 : decode cL_law 319 = .ok (.aload_n 2, 1) := by decide +kernel
theorem dL_law_320 : decode cL_law 320 = .ok (.invokevirtual 41, 3) := by decide +kernel
theorem dL_law_323 : decode cL_law 323 = .ok (.if_icmp .eq 1157, 3) := by decide +kernel
theorem dL_law_326 : decode cL_law 326 = .ok (.iconst 0, 1) := by decide +kernel
theorem dL_law_327 : decode cL_law 327 = .ok (.ireturn, 1) := by decide +kernel
theorem dL_law_328 : decode cL_law 328 = .ok (.aload_n 1, 1) := by decide +kernel
theorem dL_law_329 : decode cL_law 329 = .ok (.aload_n 0, 1) := by decide +kernel
theorem dL_law_330 : decode cL_law 330 = .ok (.iload 4, 2) := by decide +kernel
theorem dL_law_332 : decode cL_law 332 = .ok (.iconst 1, 1) := by decide +kernel
theorem dL_law_333 : decode cL_law 333 = .ok (.iadd, 1) := by decide +kernel
theorem dL_law_334 : decode cL_law 334 = .ok (.iaload, 1) := by decide +kernel
theorem dL_law_335 : decode cL_law 335 = .ok (.aload_n 0, 1) := by decide +kernel
theorem dL_law_336 : decode cL_law 336 = .ok (.iload 4, 2) := by decide +kernel
theorem dL_law_338 : decode cL_law 338 = .ok (.iconst 2, 1) := by decide +kernel
theorem dL_law_339 : decode cL_law 339 = .ok (.iadd, 1) := by decide +kernel
theorem dL_law_340 : decode cL_law 340 = .ok (.iaload, 1) := by decide +kernel
theorem dL_law_341 : decode cL_law 341 = .ok (.aload_n 3, 1) := by decide +kernel
theorem dL_law_342 : decode cL_law 342 = .ok (.invokestatic 42, 3) := by decide +kernel
theorem dL_law_345 : decode cL_law 345 = .ok (.istore 5, 2) := by decide +kernel
theorem dL_law_347 : decode cL_law 347 = .ok (.aload_n 2, 1) := by decide +kernel
theorem dL_law_348 : decode cL_law 348 = .ok (.aload_n 0, 1) := by decide +kernel
theorem dL_law_349 : decode cL_law 349 = .ok (.iload 4, 2) := by decide +kernel
theorem dL_law_351 : decode cL_law 351 = .ok (.iconst 1, 1) := by decide +kernel
theorem dL_law_352 : decode cL_law 352 = .ok (.iadd, 1) := by decide +kernel
theorem dL_law_353 : decode cL_law 353 = .ok (.iaload, 1) := by decide +kernel
