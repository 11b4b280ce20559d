theorem dX1_init_0 : decode cX1_init 0 = .ok (.aload_n 0, 1) := by decide +kernel
theorem dX1_init_1 : decode cX1_init 1 = .ok (.invokespecial 3, 3) := by decide +kernel
theorem dX1_init_4 : decode cX1_init 4 = .ok (.return_, 1) := by decide +kernel
theorem dX1_clear_0 : decode cX1_clear 0 = .ok (.aload_n 0, 1) := by decide +kernel
theorem dX1_clear_1 : decode cX1_clear 1 = .ok (.lconst 0, 1) := by decide +kernel
theorem dX1_clear_2 : decode cX1_clear 2 = .ok (.putfield 9, 3) := by decide +kernel
theorem dX1_clear_5 : decode cX1_clear 5 = .ok (.aload_n 0, 1) := by decide +kernel
theorem dX1_clear_6 : decode cX1_clear 6 = .ok (.iconst 0, 1) := by decide +kernel
theorem dX1_clear_7 : decode cX1_clear 7 = .ok (.putfield 15, 3) := by decide +kernel
theorem dX1_clear_10 : decode cX1_clear 10 = .ok (.aload_n 0, 1) := by decide +kernel
theorem dX1_clear_11 : decode cX1_clear 11 = .ok (.iconst 0, 1) := by decide +kernel
theorem dX1_clear_12 : decode cX1_clear 12 = .ok (.putfield 19, 3) := by decide +kernel
theorem dX1_clear_15 : decode cX1_clear 15 = .ok (.aload_n 0, 1) := by decide +kernel
theorem dX1_clear_16 : decode cX1_clear 16 = .ok (.iconst 0, 1) := by decide +kernel
theorem dX1_clear_17 : decode cX1_clear 17 = .ok (.putfield 22, 3) := by decide +kernel
theorem dX1_clear_20 : decode cX1_clear 20 = .ok (.aload_n 0, 1) := by decide +kernel
theorem dX1_clear_21 : decode cX1_clear 21 = .ok (.iconst 0, 1) := by decide +kernel
theorem dX1_clear_22 : decode cX1_clear 22 = .ok (.putfield 25, 3) := by decide +kernel
theorem dX1_clear_25 : decode cX1_clear 25 = .ok (.aload_n 0, 1) := by decide +kernel
theorem dX1_clear_26 : decode cX1_clear 26 = .ok (.iconst 0, 1) := by decide +kernel
theorem dX1_clear_27 : decode cX1_clear 27 = .ok (.putfield 28, 3) := by decide +kernel
theorem dX1_clear_30 : decode cX1_clear 30 = .ok (.return_, 1) := by decide +kernel
theorem dX1_become_0 : decode cX1_become 0 = .ok (.aload_n 0, 1) := by decide +kernel
theorem dX1_become_1 : decode cX1_become 1 = .ok (.aload_n 1, 1) := by decide +kernel
theorem dX1_become_2 : decode cX1_become 2 = .ok (.getfield 9, 3) := by decide +kernel
theorem dX1_become_5 : decode cX1_become 5 = .ok (.putfield 9, 3) := by decide +kernel
theorem dX1_become_8 : decode cX1_become 8 = .ok (.aload_n 0, 1) := by decide +kernel
theorem dX1_become_9 : decode cX1_become 9 = .ok (.aload_n 1, 1) := by decide +kernel
theorem dX1_become_10 : decode cX1_become 10 = .ok (.getfield 15, 3) := by decide +kernel
theorem dX1_become_13 : decode cX1_become 13 = .ok (.putfield 15, 3) := by decide +kernel
theorem dX1_become_16 : decode cX1_become 16 = .ok (.aload_n 0, 1) := by decide +kernel
theorem dX1_become_17 : decode cX1_become 17 = .ok (.aload_n 1, 1) := by decide +kernel
theorem dX1_become_18 : decode cX1_become 18 = .ok (.getfield 19, 3) := by decide +kernel
theorem dX1_become_21 : decode cX1_become 21 = .ok (.putfield 19, 3) := by decide +kernel
theorem dX1_become_24 : decode cX1_become 24 = .ok (.aload_n 0, 1) := by decide +kernel
theorem dX1_become_25 : decode cX1_become 25 = .ok (.aload_n 1, 1) := by decide +kernel
theorem dX1_become_26 : decode cX1_become 26 = .ok (.getfield 22, 3) := by decide +kernel
theorem dX1_become_29 : decode cX1_become 29 = .ok (.putfield 22, 3) := by decide +kernel
theorem dX1_become_32 : decode cX1_become 32 = .ok (.aload_n 0, 1) := by decide +kernel
theorem dX1_become_33 : decode cX1_become 33 = .ok (.aload_n 1, 1) := by decide +kernel
theorem dX1_become_34 : decode cX1_become 34 = .ok (.getfield 25, 3) := by decide +kernel
theorem dX1_become_37 : decode cX1_become 37 = .ok (.putfield 25, 3) := by decide +kernel
theorem dX1_become_40 : decode cX1_become 40 = .ok (.aload_n 0, 1) := by decide +kernel
theorem dX1_become_41 : decode cX1_become 41 = .ok (.aload_n 1, 1) := by decide +kernel
theorem dX1_become_42 : decode cX1_become 42 = .ok (.getfield 28, 3) := by decide +kernel
theorem dX1_become_45 : decode cX1_become 45 = .ok (.putfield 28, 3) := by decide +kernel
theorem dX1_become_48 : decode cX1_become 48 = .ok (.return_, 1) := by decide +kernel
theorem dX1_hasLine_0 : decode cX1_hasLine 0 = .ok (.aload_n 0, 1) := by decide +kernel
theorem dX1_hasLine_1 : decode cX1_hasLine 1 = .ok (.getfield 22, 3) := by decide +kernel
theorem dX1_hasLine_4 : decode cX1_hasLine 4 = .ok (.iload_n 1, 1) := by decide +kernel
theorem dX1_hasLine_5 : decode cX1_hasLine 5 = .ok (.iushr, 1) := by decide +kernel
theorem dX1_hasLine_6 : decode cX1_hasLine 6 = .ok (.iconst 1, 1) := by decide +kernel
theorem dX1_hasLine_7 : decode cX1_hasLine 7 = .ok (.iand, 1) := by decide +kernel
theorem dX1_hasLine_8 : decode cX1_hasLine 8 = .ok (.ifCond .eq 7, 3) := by decide +kernel
theorem dX1_hasLine_11 : decode cX1_hasLine 11 = .ok (.iconst 1, 1) := by decide +kernel
theorem dX1_hasLine_12 : decode cX1_hasLine 12 = .ok (.goto 4, 3) := by decide +kernel
theorem dX1_hasLine_15 : decode cX1_hasLine 15 = .ok (.iconst 0, 1) := by decide +kernel
theorem dX1_hasLine_16 : decode cX1_hasLine 16 = .ok (.ireturn, 1) := by decide +kernel
theorem dX1_append_0 : decode cX1_append 0 = .ok (.iconst 0, 1) := by decide +kernel
theorem dX1_append_1 : decode cX1_append 1 = .ok (.istore_n 2, 1) := by decide +kernel
theorem dX1_append_2 : decode cX1_append 2 = .ok (.iload_n 2, 1) := by decide +kernel
theorem dX1_append_3 : decode cX1_append 3 = .ok (.aload_n 0, 1) := by decide +kernel
theorem dX1_append_4 : decode cX1_append 4 = .ok (.getfield 15, 3) := by decide +kernel
theorem dX1_append_7 : decode cX1_append 7 = .ok (.if_icmp .ge 52, 3) := by decide +kernel
theorem dX1_append_10 : decode cX1_append 10 = .ok (.aload_n 0, 1) := by decide +kernel
theorem dX1_append_11 : decode cX1_append 11 = .ok (.getfield 19, 3) := by decide +kernel
theorem dX1_append_14 : decode cX1_append 14 = .ok (.iload_n 2, 1) := by decide +kernel
theorem dX1_append_15 : decode cX1_append 15 = .ok (.invokestatic 31, 3) := by decide +kernel
theorem dX1_append_18 : decode cX1_append 18 = .ok (.istore_n 3, 1) := by decide +kernel
theorem dX1_append_19 : decode cX1_append 19 = .ok (.iload_n 3, 1) := by decide +kernel
theorem dX1_append_20 : decode cX1_append 20 = .ok (.iload_n 1, 1) := by decide +kernel
theorem dX1_append_21 : decode cX1_append 21 = .ok (.invokestatic 35, 3) := by decide +kernel
theorem dX1_append_24 : decode cX1_append 24 = .ok (.istore 4, 2) := by decide +kernel
theorem dX1_append_26 : decode cX1_append 26 = .ok (.aload_n 0, 1) := by decide +kernel
theorem dX1_append_27 : decode cX1_append 27 = .ok (.dup, 1) := by decide +kernel
theorem dX1_append_28 : decode cX1_append 28 = .ok (.getfield 25, 3) := by decide +kernel
theorem dX1_append_31 : decode cX1_append 31 = .ok (.iload 4, 2) := by decide +kernel
theorem dX1_append_33 : decode cX1_append 33 = .ok (.ior, 1) := by decide +kernel
theorem dX1_append_34 : decode cX1_append 34 = .ok (.putfield 25, 3) := by decide +kernel
theorem dX1_append_37 : decode cX1_append 37 = .ok (.iload_n 3, 1) := by decide +kernel
theorem dX1_append_38 : decode cX1_append 38 = .ok (.iload_n 1, 1) := by decide +kernel
theorem dX1_append_39 : decode cX1_append 39 = .ok (.if_icmp .le 14, 3) := by decide +kernel
theorem dX1_append_42 : decode cX1_append 42 = .ok (.aload_n 0, 1) := by decide +kernel
theorem dX1_append_43 : decode cX1_append 43 = .ok (.dup, 1) := by decide +kernel
theorem dX1_append_44 : decode cX1_append 44 = .ok (.getfield 28, 3) := by decide +kernel
theorem dX1_append_47 : decode cX1_append 47 = .ok (.iload 4, 2) := by decide +kernel
theorem dX1_append_49 : decode cX1_append 49 = .ok (.ior, 1) := by decide +kernel
theorem dX1_append_50 : decode cX1_append 50 = .ok (.putfield 28, 3) := by decide +kernel
theorem dX1_append_53 : decode cX1_append 53 = .ok (.iinc 2 1, 3) := by decide +kernel
theorem dX1_append_56 : decode cX1_append 56 = .ok (.goto (-54), 3) := by decide +kernel
theorem dX1_append_59 : decode cX1_append 59 = .ok (.aload_n 0, 1) := by decide +kernel
theorem dX1_append_60 : decode cX1_append 60 = .ok (.dup, 1) := by decide +kernel
theorem dX1_append_61 : decode cX1_append 61 = .ok (.getfield 19, 3) := by decide +kernel
theorem dX1_append_64 : decode cX1_append 64 = .ok (.iload_n 1, 1) := by decide +kernel
theorem dX1_append_65 : decode cX1_append 65 = .ok (.iconst 4, 1) := by decide +kernel
theorem dX1_append_66 : decode cX1_append 66 = .ok (.aload_n 0, 1) := by decide +kernel
theorem dX1_append_67 : decode cX1_append 67 = .ok (.getfield 15, 3) := by decide +kernel
theorem dX1_append_70 : decode cX1_append 70 = .ok (.imul, 1) := by decide +kernel
theorem dX1_append_71 : decode cX1_append 71 = .ok (.ishl, 1) := by decide +kernel
theorem dX1_append_72 : decode cX1_append 72 = .ok (.ior, 1) := by decide +kernel
theorem dX1_append_73 : decode cX1_append 73 = .ok (.putfield 19, 3) := by decide +kernel
theorem dX1_append_76 : decode cX1_append 76 = .ok (.aload_n 0, 1) := by decide +kernel
theorem dX1_append_77 : decode cX1_append 77 = .ok (.dup, 1) := by decide +kernel
theorem dX1_append_78 : decode cX1_append 78 = .ok (.getfield 22, 3) := by decide +kernel
theorem dX1_append_81 : decode cX1_append 81 = .ok (.iconst 1, 1) := by decide +kernel
theorem dX1_append_82 : decode cX1_append 82 = .ok (.iload_n 1, 1) := by decide +kernel
theorem dX1_append_83 : decode cX1_append 83 = .ok (.ishl, 1) := by decide +kernel
theorem dX1_append_84 : decode cX1_append 84 = .ok (.ior, 1) := by decide +kernel
theorem dX1_append_85 : decode cX1_append 85 = .ok (.putfield 22, 3) := by decide +kernel
theorem dX1_append_88 : decode cX1_append 88 = .ok (.aload_n 0, 1) := by decide +kernel
theorem dX1_append_89 : decode cX1_append 89 = .ok (.dup, 1) := by decide +kernel
theorem dX1_append_90 : decode cX1_append 90 = .ok (.getfield 15, 3) := by decide +kernel
theorem dX1_append_93 : decode cX1_append 93 = .ok (.iconst 1, 1) := by decide +kernel
theorem dX1_append_94 : decode cX1_append 94 = .ok (.iadd, 1) := by decide +kernel
theorem dX1_append_95 : decode cX1_append 95 = .ok (.putfield 15, 3) := by decide +kernel
theorem dX1_append_98 : decode cX1_append 98 = .ok (.return_, 1) := by decide +kernel
theorem dX1_stepsTo_0 : decode cX1_stepsTo 0 = .ok (.aload_n 0, 1) := by decide +kernel
theorem dX1_stepsTo_1 : decode cX1_stepsTo 1 = .ok (.getfield 28, 3) := by decide +kernel
theorem dX1_stepsTo_4 : decode cX1_stepsTo 4 = .ok (.aload_n 1, 1) := by decide +kernel
theorem dX1_stepsTo_5 : decode cX1_stepsTo 5 = .ok (.getfield 28, 3) := by decide +kernel
theorem dX1_stepsTo_8 : decode cX1_stepsTo 8 = .ok (.ixor, 1) := by decide +kernel
theorem dX1_stepsTo_9 : decode cX1_stepsTo 9 = .ok (.aload_n 0, 1) := by decide +kernel
theorem dX1_stepsTo_10 : decode cX1_stepsTo 10 = .ok (.getfield 25, 3) := by decide +kernel
theorem dX1_stepsTo_13 : decode cX1_stepsTo 13 = .ok (.iand, 1) := by decide +kernel
theorem dX1_stepsTo_14 : decode cX1_stepsTo 14 = .ok (.aload_n 1, 1) := by decide +kernel
theorem dX1_stepsTo_15 : decode cX1_stepsTo 15 = .ok (.getfield 25, 3) := by decide +kernel
theorem dX1_stepsTo_18 : decode cX1_stepsTo 18 = .ok (.iand, 1) := by decide +kernel
theorem dX1_stepsTo_19 : decode cX1_stepsTo 19 = .ok (.invokestatic 38, 3) := by decide +kernel
theorem dX1_stepsTo_22 : decode cX1_stepsTo 22 = .ok (.ireturn, 1) := by decide +kernel
theorem dX1_fallenTo_0 : decode cX1_fallenTo 0 = .ok (.aload_n 0, 1) := by decide +kernel
theorem dX1_fallenTo_1 : decode cX1_fallenTo 1 = .ok (.getfield 22, 3) := by decide +kernel
theorem dX1_fallenTo_4 : decode cX1_fallenTo 4 = .ok (.aload_n 1, 1) := by decide +kernel
theorem dX1_fallenTo_5 : decode cX1_fallenTo 5 = .ok (.getfield 22, 3) := by decide +kernel
theorem dX1_fallenTo_8 : decode cX1_fallenTo 8 = .ok (.ixor, 1) := by decide +kernel
theorem dX1_fallenTo_9 : decode cX1_fallenTo 9 = .ok (.invokestatic 38, 3) := by decide +kernel
theorem dX1_fallenTo_12 : decode cX1_fallenTo 12 = .ok (.ireturn, 1) := by decide +kernel
theorem dX1_farTo_0 : decode cX1_farTo 0 = .ok (.aload_n 0, 1) := by decide +kernel
theorem dX1_farTo_1 : decode cX1_farTo 1 = .ok (.aload_n 1, 1) := by decide +kernel
theorem dX1_farTo_2 : decode cX1_farTo 2 = .ok (.invokevirtual 44, 3) := by decide +kernel
theorem dX1_farTo_5 : decode cX1_farTo 5 = .ok (.iconst 3, 1) := by decide +kernel
theorem dX1_farTo_6 : decode cX1_farTo 6 = .ok (.aload_n 0, 1) := by decide +kernel
theorem dX1_farTo_7 : decode cX1_farTo 7 = .ok (.aload_n 1, 1) := by decide +kernel
theorem dX1_farTo_8 : decode cX1_farTo 8 = .ok (.invokevirtual 48, 3) := by decide +kernel
theorem dX1_farTo_11 : decode cX1_farTo 11 = .ok (.imul, 1) := by decide +kernel
theorem dX1_farTo_12 : decode cX1_farTo 12 = .ok (.iadd, 1) := by decide +kernel
theorem dX1_farTo_13 : decode cX1_farTo 13 = .ok (.ireturn, 1) := by decide +kernel
theorem dX1_isAhead_0 : decode cX1_isAhead 0 = .ok (.iload_n 1, 1) := by decide +kernel
theorem dX1_isAhead_1 : decode cX1_isAhead 1 = .ok (.iload_n 2, 1) := by decide +kernel
theorem dX1_isAhead_2 : decode cX1_isAhead 2 = .ok (.if_icmp .eq 19, 3) := by decide +kernel
theorem dX1_isAhead_5 : decode cX1_isAhead 5 = .ok (.aload_n 0, 1) := by decide +kernel
theorem dX1_isAhead_6 : decode cX1_isAhead 6 = .ok (.iload_n 1, 1) := by decide +kernel
theorem dX1_isAhead_7 : decode cX1_isAhead 7 = .ok (.invokevirtual 51, 3) := by decide +kernel
theorem dX1_isAhead_10 : decode cX1_isAhead 10 = .ok (.ifCond .eq 11, 3) := by decide +kernel
theorem dX1_isAhead_13 : decode cX1_isAhead 13 = .ok (.aload_n 0, 1) := by decide +kernel
theorem dX1_isAhead_14 : decode cX1_isAhead 14 = .ok (.iload_n 2, 1) := by decide +kernel
theorem dX1_isAhead_15 : decode cX1_isAhead 15 = .ok (.invokevirtual 51, 3) := by decide +kernel
theorem dX1_isAhead_18 : decode cX1_isAhead 18 = .ok (.ifCond .ne 5, 3) := by decide +kernel
theorem dX1_isAhead_21 : decode cX1_isAhead 21 = .ok (.iconst 0, 1) := by decide +kernel
theorem dX1_isAhead_22 : decode cX1_isAhead 22 = .ok (.ireturn, 1) := by decide +kernel
theorem dX1_isAhead_23 : decode cX1_isAhead 23 = .ok (.aload_n 0, 1) := by decide +kernel
theorem dX1_isAhead_24 : decode cX1_isAhead 24 = .ok (.getfield 28, 3) := by decide +kernel
theorem dX1_isAhead_27 : decode cX1_isAhead 27 = .ok (.iload_n 1, 1) := by decide +kernel
theorem dX1_isAhead_28 : decode cX1_isAhead 28 = .ok (.iload_n 2, 1) := by decide +kernel
theorem dX1_isAhead_29 : decode cX1_isAhead 29 = .ok (.invokestatic 35, 3) := by decide +kernel
theorem dX1_isAhead_32 : decode cX1_isAhead 32 = .ok (.iand, 1) := by decide +kernel
theorem dX1_isAhead_33 : decode cX1_isAhead 33 = .ok (.ifCond .eq 7, 3) := by decide +kernel
theorem dX1_isAhead_36 : decode cX1_isAhead 36 = .ok (.iconst 1, 1) := by decide +kernel
theorem dX1_isAhead_37 : decode cX1_isAhead 37 = .ok (.goto 4, 3) := by decide +kernel
theorem dX1_isAhead_40 : decode cX1_isAhead 40 = .ok (.iconst 0, 1) := by decide +kernel
theorem dX1_isAhead_41 : decode cX1_isAhead 41 = .ok (.iload_n 1, 1) := by decide +kernel
theorem dX1_isAhead_42 : decode cX1_isAhead 42 = .ok (.iload_n 2, 1) := by decide +kernel
theorem dX1_isAhead_43 : decode cX1_isAhead 43 = .ok (.if_icmp .le 7, 3) := by decide +kernel
theorem dX1_isAhead_46 : decode cX1_isAhead 46 = .ok (.iconst 1, 1) := by decide +kernel
theorem dX1_isAhead_47 : decode cX1_isAhead 47 = .ok (.goto 4, 3) := by decide +kernel
theorem dX1_isAhead_50 : decode cX1_isAhead 50 = .ok (.iconst 0, 1) := by decide +kernel
theorem dX1_isAhead_51 : decode cX1_isAhead 51 = .ok (.if_icmp .ne 7, 3) := by decide +kernel
theorem dX1_isAhead_54 : decode cX1_isAhead 54 = .ok (.iconst 1, 1) := by decide +kernel
theorem dX1_isAhead_55 : decode cX1_isAhead 55 = .ok (.goto 4, 3) := by decide +kernel
theorem dX1_isAhead_58 : decode cX1_isAhead 58 = .ok (.iconst 0, 1) := by decide +kernel
theorem dX1_isAhead_59 : decode cX1_isAhead 59 = .ok (.ireturn, 1) := by decide +kernel
theorem dX1_placeOf_0 : decode cX1_placeOf 0 = .ok (.iconst 0, 1) := by decide +kernel
theorem dX1_placeOf_1 : decode cX1_placeOf 1 = .ok (.istore_n 2, 1) := by decide +kernel
theorem dX1_placeOf_2 : decode cX1_placeOf 2 = .ok (.iload_n 2, 1) := by decide +kernel
theorem dX1_placeOf_3 : decode cX1_placeOf 3 = .ok (.aload_n 0, 1) := by decide +kernel
theorem dX1_placeOf_4 : decode cX1_placeOf 4 = .ok (.getfield 15, 3) := by decide +kernel
theorem dX1_placeOf_7 : decode cX1_placeOf 7 = .ok (.if_icmp .ge 23, 3) := by decide +kernel
theorem dX1_placeOf_10 : decode cX1_placeOf 10 = .ok (.aload_n 0, 1) := by decide +kernel
theorem dX1_placeOf_11 : decode cX1_placeOf 11 = .ok (.getfield 19, 3) := by decide +kernel
theorem dX1_placeOf_14 : decode cX1_placeOf 14 = .ok (.iload_n 2, 1) := by decide +kernel
theorem dX1_placeOf_15 : decode cX1_placeOf 15 = .ok (.invokestatic 31, 3) := by decide +kernel
theorem dX1_placeOf_18 : decode cX1_placeOf 18 = .ok (.iload_n 1, 1) := by decide +kernel
theorem dX1_placeOf_19 : decode cX1_placeOf 19 = .ok (.if_icmp .ne 5, 3) := by decide +kernel
theorem dX1_placeOf_22 : decode cX1_placeOf 22 = .ok (.iload_n 2, 1) := by decide +kernel
theorem dX1_placeOf_23 : decode cX1_placeOf 23 = .ok (.ireturn, 1) := by decide +kernel
theorem dX1_placeOf_24 : decode cX1_placeOf 24 = .ok (.iinc 2 1, 3) := by decide +kernel
theorem dX1_placeOf_27 : decode cX1_placeOf 27 = .ok (.goto (-25), 3) := by decide +kernel
theorem dX1_placeOf_30 : decode cX1_placeOf 30 = .ok (.iconst (-1), 1) := by decide +kernel
theorem dX1_placeOf_31 : decode cX1_placeOf 31 = .ok (.ireturn, 1) := by decide +kernel
theorem dX1_pieceEnd_0 : decode cX1_pieceEnd 0 = .ok (.iconst (-1), 1) := by decide +kernel
theorem dX1_pieceEnd_1 : decode cX1_pieceEnd 1 = .ok (.istore_n 3, 1) := by decide +kernel
theorem dX1_pieceEnd_2 : decode cX1_pieceEnd 2 = .ok (.iload_n 2, 1) := by decide +kernel
theorem dX1_pieceEnd_3 : decode cX1_pieceEnd 3 = .ok (.istore 4, 2) := by decide +kernel
theorem dX1_pieceEnd_5 : decode cX1_pieceEnd 5 = .ok (.iload 4, 2) := by decide +kernel
theorem dX1_pieceEnd_7 : decode cX1_pieceEnd 7 = .ok (.aload_n 1, 1) := by decide +kernel
theorem dX1_pieceEnd_8 : decode cX1_pieceEnd 8 = .ok (.getfield 15, 3) := by decide +kernel
theorem dX1_pieceEnd_11 : decode cX1_pieceEnd 11 = .ok (.if_icmp .ge 36, 3) := by decide +kernel
theorem dX1_pieceEnd_14 : decode cX1_pieceEnd 14 = .ok (.aload_n 0, 1) := by decide +kernel
theorem dX1_pieceEnd_15 : decode cX1_pieceEnd 15 = .ok (.aload_n 1, 1) := by decide +kernel
theorem dX1_pieceEnd_16 : decode cX1_pieceEnd 16 = .ok (.getfield 19, 3) := by decide +kernel
theorem dX1_pieceEnd_19 : decode cX1_pieceEnd 19 = .ok (.iload 4, 2) := by decide +kernel
theorem dX1_pieceEnd_21 : decode cX1_pieceEnd 21 = .ok (.invokestatic 31, 3) := by decide +kernel
theorem dX1_pieceEnd_24 : decode cX1_pieceEnd 24 = .ok (.invokevirtual 55, 3) := by decide +kernel
theorem dX1_pieceEnd_27 : decode cX1_pieceEnd 27 = .ok (.istore 5, 2) := by decide +kernel
theorem dX1_pieceEnd_29 : decode cX1_pieceEnd 29 = .ok (.iload 5, 2) := by decide +kernel
theorem dX1_pieceEnd_31 : decode cX1_pieceEnd 31 = .ok (.iload_n 3, 1) := by decide +kernel
theorem dX1_pieceEnd_32 : decode cX1_pieceEnd 32 = .ok (.if_icmp .gt 6, 3) := by decide +kernel
theorem dX1_pieceEnd_35 : decode cX1_pieceEnd 35 = .ok (.iload 4, 2) := by decide +kernel
theorem dX1_pieceEnd_37 : decode cX1_pieceEnd 37 = .ok (.ireturn, 1) := by decide +kernel
theorem dX1_pieceEnd_38 : decode cX1_pieceEnd 38 = .ok (.iload 5, 2) := by decide +kernel
theorem dX1_pieceEnd_40 : decode cX1_pieceEnd 40 = .ok (.istore_n 3, 1) := by decide +kernel
theorem dX1_pieceEnd_41 : decode cX1_pieceEnd 41 = .ok (.iinc 4 1, 3) := by decide +kernel
theorem dX1_pieceEnd_44 : decode cX1_pieceEnd 44 = .ok (.goto (-39), 3) := by decide +kernel
theorem dX1_pieceEnd_47 : decode cX1_pieceEnd 47 = .ok (.aload_n 1, 1) := by decide +kernel
theorem dX1_pieceEnd_48 : decode cX1_pieceEnd 48 = .ok (.getfield 15, 3) := by decide +kernel
theorem dX1_pieceEnd_51 : decode cX1_pieceEnd 51 = .ok (.ireturn, 1) := by decide +kernel
theorem dX2_init_0 : decode cX2_init 0 = .ok (.aload_n 0, 1) := by decide +kernel
theorem dX2_init_1 : decode cX2_init 1 = .ok (.invokespecial 3, 3) := by decide +kernel
theorem dX2_init_4 : decode cX2_init 4 = .ok (.aload_n 0, 1) := by decide +kernel
theorem dX2_init_5 : decode cX2_init 5 = .ok (.getstatic 9, 3) := by decide +kernel
theorem dX2_init_8 : decode cX2_init 8 = .ok (.putfield 15, 3) := by decide +kernel
theorem dX2_init_11 : decode cX2_init 11 = .ok (.aload_n 0, 1) := by decide +kernel
theorem dX2_init_12 : decode cX2_init 12 = .ok (.iconst 1, 1) := by decide +kernel
theorem dX2_init_13 : decode cX2_init 13 = .ok (.putfield 20, 3) := by decide +kernel
theorem dX2_init_16 : decode cX2_init 16 = .ok (.return_, 1) := by decide +kernel
theorem dX2_become_0 : decode cX2_become 0 = .ok (.aload_n 0, 1) := by decide +kernel
theorem dX2_become_1 : decode cX2_become 1 = .ok (.aload_n 1, 1) := by decide +kernel
theorem dX2_become_2 : decode cX2_become 2 = .ok (.getfield 15, 3) := by decide +kernel
theorem dX2_become_5 : decode cX2_become 5 = .ok (.putfield 15, 3) := by decide +kernel
theorem dX2_become_8 : decode cX2_become 8 = .ok (.aload_n 0, 1) := by decide +kernel
theorem dX2_become_9 : decode cX2_become 9 = .ok (.aload_n 1, 1) := by decide +kernel
theorem dX2_become_10 : decode cX2_become 10 = .ok (.getfield 20, 3) := by decide +kernel
theorem dX2_become_13 : decode cX2_become 13 = .ok (.putfield 20, 3) := by decide +kernel
theorem dX2_become_16 : decode cX2_become 16 = .ok (.aload_n 0, 1) := by decide +kernel
theorem dX2_become_17 : decode cX2_become 17 = .ok (.aload_n 1, 1) := by decide +kernel
theorem dX2_become_18 : decode cX2_become 18 = .ok (.getfield 24, 3) := by decide +kernel
theorem dX2_become_21 : decode cX2_become 21 = .ok (.putfield 24, 3) := by decide +kernel
theorem dX2_become_24 : decode cX2_become 24 = .ok (.return_, 1) := by decide +kernel
theorem dX2_mayMake_0 : decode cX2_mayMake 0 = .ok (.aload_n 1, 1) := by decide +kernel
theorem dX2_mayMake_1 : decode cX2_mayMake 1 = .ok (.aload_n 2, 1) := by decide +kernel
theorem dX2_mayMake_2 : decode cX2_mayMake 2 = .ok (.invokevirtual 28, 3) := by decide +kernel
theorem dX2_mayMake_5 : decode cX2_mayMake 5 = .ok (.istore_n 3, 1) := by decide +kernel
theorem dX2_mayMake_6 : decode cX2_mayMake 6 = .ok (.aload_n 1, 1) := by decide +kernel
theorem dX2_mayMake_7 : decode cX2_mayMake 7 = .ok (.getfield 34, 3) := by decide +kernel
theorem dX2_mayMake_10 : decode cX2_mayMake 10 = .ok (.aload_n 2, 1) := by decide +kernel
theorem dX2_mayMake_11 : decode cX2_mayMake 11 = .ok (.getfield 34, 3) := by decide +kernel
theorem dX2_mayMake_14 : decode cX2_mayMake 14 = .ok (.if_icmp .ne 7, 3) := by decide +kernel
theorem dX2_mayMake_17 : decode cX2_mayMake 17 = .ok (.iconst 1, 1) := by decide +kernel
theorem dX2_mayMake_18 : decode cX2_mayMake 18 = .ok (.goto 4, 3) := by decide +kernel
theorem dX2_mayMake_21 : decode cX2_mayMake 21 = .ok (.iconst 0, 1) := by decide +kernel
theorem dX2_mayMake_22 : decode cX2_mayMake 22 = .ok (.istore 4, 2) := by decide +kernel
theorem dX2_mayMake_24 : decode cX2_mayMake 24 = .ok (.getstatic 37, 3) := by decide +kernel
theorem dX2_mayMake_27 : decode cX2_mayMake 27 = .ok (.aload_n 0, 1) := by decide +kernel
theorem dX2_mayMake_28 : decode cX2_mayMake 28 = .ok (.getfield 15, 3) := by decide +kernel
theorem dX2_mayMake_31 : decode cX2_mayMake 31 = .ok (.invokevirtual 43, 3) := by decide +kernel
theorem dX2_mayMake_34 : decode cX2_mayMake 34 = .ok (.iaload, 1) := by decide +kernel
theorem dX2_mayMake_35 : decode cX2_mayMake 35 = .ok (.lookupswitch 60 #[(1, 25), (2, 41)], 25) := by decide +kernel
theorem dX2_mayMake_60 : decode cX2_mayMake 60 = .ok (.iload 4, 2) := by decide +kernel
theorem dX2_mayMake_62 : decode cX2_mayMake 62 = .ok (.ifCond .eq 12, 3) := by decide +kernel
theorem dX2_mayMake_65 : decode cX2_mayMake 65 = .ok (.iload_n 3, 1) := by decide +kernel
theorem dX2_mayMake_66 : decode cX2_mayMake 66 = .ok (.iconst 1, 1) := by decide +kernel
theorem dX2_mayMake_67 : decode cX2_mayMake 67 = .ok (.if_icmp .ne 7, 3) := by decide +kernel
theorem dX2_mayMake_70 : decode cX2_mayMake 70 = .ok (.iconst 1, 1) := by decide +kernel
theorem dX2_mayMake_71 : decode cX2_mayMake 71 = .ok (.goto 4, 3) := by decide +kernel
theorem dX2_mayMake_74 : decode cX2_mayMake 74 = .ok (.iconst 0, 1) := by decide +kernel
theorem dX2_mayMake_75 : decode cX2_mayMake 75 = .ok (.ireturn, 1) := by decide +kernel
theorem dX2_mayMake_76 : decode cX2_mayMake 76 = .ok (.iload 4, 2) := by decide +kernel
theorem dX2_mayMake_78 : decode cX2_mayMake 78 = .ok (.ifCond .eq 15, 3) := by decide +kernel
theorem dX2_mayMake_81 : decode cX2_mayMake 81 = .ok (.iload_n 3, 1) := by decide +kernel
theorem dX2_mayMake_82 : decode cX2_mayMake 82 = .ok (.aload_n 0, 1) := by decide +kernel
theorem dX2_mayMake_83 : decode cX2_mayMake 83 = .ok (.getfield 20, 3) := by decide +kernel
theorem dX2_mayMake_86 : decode cX2_mayMake 86 = .ok (.if_icmp .gt 7, 3) := by decide +kernel
theorem dX2_mayMake_89 : decode cX2_mayMake 89 = .ok (.iconst 1, 1) := by decide +kernel
theorem dX2_mayMake_90 : decode cX2_mayMake 90 = .ok (.goto 4, 3) := by decide +kernel
theorem dX2_mayMake_93 : decode cX2_mayMake 93 = .ok (.iconst 0, 1) := by decide +kernel
theorem dX2_mayMake_94 : decode cX2_mayMake 94 = .ok (.ireturn, 1) := by decide +kernel
theorem dX2_mayMake_95 : decode cX2_mayMake 95 = .ok (.iload_n 3, 1) := by decide +kernel
theorem dX2_mayMake_96 : decode cX2_mayMake 96 = .ok (.ifCond .ne 34, 3) := by decide +kernel
theorem dX2_mayMake_99 : decode cX2_mayMake 99 = .ok (.aload_n 2, 1) := by decide +kernel
theorem dX2_mayMake_100 : decode cX2_mayMake 100 = .ok (.getfield 47, 3) := by decide +kernel
theorem dX2_mayMake_103 : decode cX2_mayMake 103 = .ok (.aload_n 1, 1) := by decide +kernel
theorem dX2_mayMake_104 : decode cX2_mayMake 104 = .ok (.getfield 47, 3) := by decide +kernel
theorem dX2_mayMake_107 : decode cX2_mayMake 107 = .ok (.iconst 1, 1) := by decide +kernel
theorem dX2_mayMake_108 : decode cX2_mayMake 108 = .ok (.isub, 1) := by decide +kernel
theorem dX2_mayMake_109 : decode cX2_mayMake 109 = .ok (.if_icmp .ne 21, 3) := by decide +kernel
theorem dX2_mayMake_112 : decode cX2_mayMake 112 = .ok (.aload_n 2, 1) := by decide +kernel
theorem dX2_mayMake_113 : decode cX2_mayMake 113 = .ok (.getfield 34, 3) := by decide +kernel
theorem dX2_mayMake_116 : decode cX2_mayMake 116 = .ok (.aload_n 1, 1) := by decide +kernel
theorem dX2_mayMake_117 : decode cX2_mayMake 117 = .ok (.getfield 34, 3) := by decide +kernel
theorem dX2_mayMake_120 : decode cX2_mayMake 120 = .ok (.iconst (-1), 1) := by decide +kernel
theorem dX2_mayMake_121 : decode cX2_mayMake 121 = .ok (.ixor, 1) := by decide +kernel
theorem dX2_mayMake_122 : decode cX2_mayMake 122 = .ok (.iand, 1) := by decide +kernel
theorem dX2_mayMake_123 : decode cX2_mayMake 123 = .ok (.ifCond .ne 7, 3) := by decide +kernel
theorem dX2_mayMake_126 : decode cX2_mayMake 126 = .ok (.iconst 1, 1) := by decide +kernel
theorem dX2_mayMake_127 : decode cX2_mayMake 127 = .ok (.goto 4, 3) := by decide +kernel
theorem dX2_mayMake_130 : decode cX2_mayMake 130 = .ok (.iconst 0, 1) := by decide +kernel
theorem dX2_mayMake_131 : decode cX2_mayMake 131 = .ok (.ireturn, 1) := by decide +kernel
theorem dX2_fewestFor_0 : decode cX2_fewestFor 0 = .ok (.getstatic 37, 3) := by decide +kernel
theorem dX2_fewestFor_3 : decode cX2_fewestFor 3 = .ok (.aload_n 0, 1) := by decide +kernel
theorem dX2_fewestFor_4 : decode cX2_fewestFor 4 = .ok (.getfield 15, 3) := by decide +kernel
theorem dX2_fewestFor_7 : decode cX2_fewestFor 7 = .ok (.invokevirtual 43, 3) := by decide +kernel
theorem dX2_fewestFor_10 : decode cX2_fewestFor 10 = .ok (.iaload, 1) := by decide +kernel
theorem dX2_fewestFor_11 : decode cX2_fewestFor 11 = .ok (.lookupswitch 52 #[(1, 25), (2, 27)], 25) := by decide +kernel
theorem dX2_fewestFor_36 : decode cX2_fewestFor 36 = .ok (.iload_n 1, 1) := by decide +kernel
theorem dX2_fewestFor_37 : decode cX2_fewestFor 37 = .ok (.ireturn, 1) := by decide +kernel
theorem dX2_fewestFor_38 : decode cX2_fewestFor 38 = .ok (.aload_n 0, 1) := by decide +kernel
theorem dX2_fewestFor_39 : decode cX2_fewestFor 39 = .ok (.getfield 20, 3) := by decide +kernel
theorem dX2_fewestFor_42 : decode cX2_fewestFor 42 = .ok (.ifCond .le 19, 3) := by decide +kernel
theorem dX2_fewestFor_45 : decode cX2_fewestFor 45 = .ok (.iload_n 1, 1) := by decide +kernel
theorem dX2_fewestFor_46 : decode cX2_fewestFor 46 = .ok (.aload_n 0, 1) := by decide +kernel
theorem dX2_fewestFor_47 : decode cX2_fewestFor 47 = .ok (.getfield 20, 3) := by decide +kernel
theorem dX2_fewestFor_50 : decode cX2_fewestFor 50 = .ok (.iadd, 1) := by decide +kernel
theorem dX2_fewestFor_51 : decode cX2_fewestFor 51 = .ok (.iconst 1, 1) := by decide +kernel
theorem dX2_fewestFor_52 : decode cX2_fewestFor 52 = .ok (.isub, 1) := by decide +kernel
theorem dX2_fewestFor_53 : decode cX2_fewestFor 53 = .ok (.aload_n 0, 1) := by decide +kernel
theorem dX2_fewestFor_54 : decode cX2_fewestFor 54 = .ok (.getfield 20, 3) := by decide +kernel
theorem dX2_fewestFor_57 : decode cX2_fewestFor 57 = .ok (.idiv, 1) := by decide +kernel
theorem dX2_fewestFor_58 : decode cX2_fewestFor 58 = .ok (.goto 4, 3) := by decide +kernel
theorem dX2_fewestFor_61 : decode cX2_fewestFor 61 = .ok (.iconst (-1), 1) := by decide +kernel
theorem dX2_fewestFor_62 : decode cX2_fewestFor 62 = .ok (.ireturn, 1) := by decide +kernel
theorem dX2_fewestFor_63 : decode cX2_fewestFor 63 = .ok (.iload_n 1, 1) := by decide +kernel
theorem dX2_fewestFor_64 : decode cX2_fewestFor 64 = .ok (.ifCond .ne 7, 3) := by decide +kernel
theorem dX2_fewestFor_67 : decode cX2_fewestFor 67 = .ok (.iconst 0, 1) := by decide +kernel
theorem dX2_fewestFor_68 : decode cX2_fewestFor 68 = .ok (.goto 4, 3) := by decide +kernel
theorem dX2_fewestFor_71 : decode cX2_fewestFor 71 = .ok (.iconst (-1), 1) := by decide +kernel
theorem dX2_fewestFor_72 : decode cX2_fewestFor 72 = .ok (.ireturn, 1) := by decide +kernel
theorem dX2_mayTake_0 : decode cX2_mayTake 0 = .ok (.getstatic 37, 3) := by decide +kernel
theorem dX2_mayTake_3 : decode cX2_mayTake 3 = .ok (.aload_n 0, 1) := by decide +kernel
theorem dX2_mayTake_4 : decode cX2_mayTake 4 = .ok (.getfield 15, 3) := by decide +kernel
theorem dX2_mayTake_7 : decode cX2_mayTake 7 = .ok (.invokevirtual 43, 3) := by decide +kernel
theorem dX2_mayTake_10 : decode cX2_mayTake 10 = .ok (.iaload, 1) := by decide +kernel
theorem dX2_mayTake_11 : decode cX2_mayTake 11 = .ok (.lookupswitch 59 #[(1, 25), (2, 44)], 25) := by decide +kernel
theorem dX2_mayTake_36 : decode cX2_mayTake 36 = .ok (.iload_n 2, 1) := by decide +kernel
theorem dX2_mayTake_37 : decode cX2_mayTake 37 = .ok (.iload_n 1, 1) := by decide +kernel
theorem dX2_mayTake_38 : decode cX2_mayTake 38 = .ok (.if_icmp .lt 15, 3) := by decide +kernel
theorem dX2_mayTake_41 : decode cX2_mayTake 41 = .ok (.iload_n 2, 1) := by decide +kernel
theorem dX2_mayTake_42 : decode cX2_mayTake 42 = .ok (.iload_n 1, 1) := by decide +kernel
theorem dX2_mayTake_43 : decode cX2_mayTake 43 = .ok (.isub, 1) := by decide +kernel
theorem dX2_mayTake_44 : decode cX2_mayTake 44 = .ok (.iconst 2, 1) := by decide +kernel
theorem dX2_mayTake_45 : decode cX2_mayTake 45 = .ok (.irem, 1) := by decide +kernel
theorem dX2_mayTake_46 : decode cX2_mayTake 46 = .ok (.ifCond .ne 7, 3) := by decide +kernel
theorem dX2_mayTake_49 : decode cX2_mayTake 49 = .ok (.iconst 1, 1) := by decide +kernel
theorem dX2_mayTake_50 : decode cX2_mayTake 50 = .ok (.goto 4, 3) := by decide +kernel
theorem dX2_mayTake_53 : decode cX2_mayTake 53 = .ok (.iconst 0, 1) := by decide +kernel
theorem dX2_mayTake_54 : decode cX2_mayTake 54 = .ok (.ireturn, 1) := by decide +kernel
theorem dX2_mayTake_55 : decode cX2_mayTake 55 = .ok (.iload_n 2, 1) := by decide +kernel
theorem dX2_mayTake_56 : decode cX2_mayTake 56 = .ok (.aload_n 0, 1) := by decide +kernel
theorem dX2_mayTake_57 : decode cX2_mayTake 57 = .ok (.iload_n 1, 1) := by decide +kernel
theorem dX2_mayTake_58 : decode cX2_mayTake 58 = .ok (.invokevirtual 50, 3) := by decide +kernel
theorem dX2_mayTake_61 : decode cX2_mayTake 61 = .ok (.if_icmp .lt 7, 3) := by decide +kernel
theorem dX2_mayTake_64 : decode cX2_mayTake 64 = .ok (.iconst 1, 1) := by decide +kernel
theorem dX2_mayTake_65 : decode cX2_mayTake 65 = .ok (.goto 4, 3) := by decide +kernel
theorem dX2_mayTake_68 : decode cX2_mayTake 68 = .ok (.iconst 0, 1) := by decide +kernel
theorem dX2_mayTake_69 : decode cX2_mayTake 69 = .ok (.ireturn, 1) := by decide +kernel
theorem dX2_mayTake_70 : decode cX2_mayTake 70 = .ok (.iload_n 2, 1) := by decide +kernel
theorem dX2_mayTake_71 : decode cX2_mayTake 71 = .ok (.ifCond .ne 11, 3) := by decide +kernel
theorem dX2_mayTake_74 : decode cX2_mayTake 74 = .ok (.iload_n 1, 1) := by decide +kernel
theorem dX2_mayTake_75 : decode cX2_mayTake 75 = .ok (.ifCond .ne 7, 3) := by decide +kernel
theorem dX2_mayTake_78 : decode cX2_mayTake 78 = .ok (.iconst 1, 1) := by decide +kernel
theorem dX2_mayTake_79 : decode cX2_mayTake 79 = .ok (.goto 4, 3) := by decide +kernel
theorem dX2_mayTake_82 : decode cX2_mayTake 82 = .ok (.iconst 0, 1) := by decide +kernel
theorem dX2_mayTake_83 : decode cX2_mayTake 83 = .ok (.ireturn, 1) := by decide +kernel
theorem dX3_init_0 : decode cX3_init 0 = .ok (.aload_n 0, 1) := by decide +kernel
theorem dX3_init_1 : decode cX3_init 1 = .ok (.invokespecial 3, 3) := by decide +kernel
theorem dX3_init_4 : decode cX3_init 4 = .ok (.aload_n 0, 1) := by decide +kernel
theorem dX3_init_5 : decode cX3_init 5 = .ok (.bipush 10, 2) := by decide +kernel
theorem dX3_init_7 : decode cX3_init 7 = .ok (.newarray .int, 2) := by decide +kernel
theorem dX3_init_9 : decode cX3_init 9 = .ok (.putfield 11, 3) := by decide +kernel
theorem dX3_init_12 : decode cX3_init 12 = .ok (.aload_n 0, 1) := by decide +kernel
theorem dX3_init_13 : decode cX3_init 13 = .ok (.bipush 10, 2) := by decide +kernel
theorem dX3_init_15 : decode cX3_init 15 = .ok (.newarray .int, 2) := by decide +kernel
theorem dX3_init_17 : decode cX3_init 17 = .ok (.putfield 15, 3) := by decide +kernel
theorem dX3_init_20 : decode cX3_init 20 = .ok (.aload_n 0, 1) := by decide +kernel
theorem dX3_init_21 : decode cX3_init 21 = .ok (.bipush 100, 2) := by decide +kernel
theorem dX3_init_23 : decode cX3_init 23 = .ok (.newarray .int, 2) := by decide +kernel
theorem dX3_init_25 : decode cX3_init 25 = .ok (.putfield 18, 3) := by decide +kernel
theorem dX3_init_28 : decode cX3_init 28 = .ok (.aload_n 0, 1) := by decide +kernel
theorem dX3_init_29 : decode cX3_init 29 = .ok (.bipush 10, 2) := by decide +kernel
theorem dX3_init_31 : decode cX3_init 31 = .ok (.newarray .int, 2) := by decide +kernel
theorem dX3_init_33 : decode cX3_init 33 = .ok (.putfield 21, 3) := by decide +kernel
theorem dX3_init_36 : decode cX3_init 36 = .ok (.aload_n 0, 1) := by decide +kernel
theorem dX3_init_37 : decode cX3_init 37 = .ok (.bipush 10, 2) := by decide +kernel
theorem dX3_init_39 : decode cX3_init 39 = .ok (.newarray .int, 2) := by decide +kernel
theorem dX3_init_41 : decode cX3_init 41 = .ok (.putfield 24, 3) := by decide +kernel
theorem dX3_init_44 : decode cX3_init 44 = .ok (.aload_n 0, 1) := by decide +kernel
theorem dX3_init_45 : decode cX3_init 45 = .ok (.bipush 10, 2) := by decide +kernel
theorem dX3_init_47 : decode cX3_init 47 = .ok (.newarray .boolean, 2) := by decide +kernel
theorem dX3_init_49 : decode cX3_init 49 = .ok (.putfield 27, 3) := by decide +kernel
theorem dX3_init_52 : decode cX3_init 52 = .ok (.return_, 1) := by decide +kernel
theorem dX3_open_0 : decode cX3_open 0 = .ok (.aload_n 0, 1) := by decide +kernel
theorem dX3_open_1 : decode cX3_open 1 = .ok (.iconst 0, 1) := by decide +kernel
theorem dX3_open_2 : decode cX3_open 2 = .ok (.putfield 31, 3) := by decide +kernel
theorem dX3_open_5 : decode cX3_open 5 = .ok (.return_, 1) := by decide +kernel
theorem dX3_admit_0 : decode cX3_admit 0 = .ok (.aload_n 0, 1) := by decide +kernel
theorem dX3_admit_1 : decode cX3_admit 1 = .ok (.getfield 31, 3) := by decide +kernel
theorem dX3_admit_4 : decode cX3_admit 4 = .ok (.bipush 9, 2) := by decide +kernel
theorem dX3_admit_6 : decode cX3_admit 6 = .ok (.if_icmp .ge 23, 3) := by decide +kernel
theorem dX3_admit_9 : decode cX3_admit 9 = .ok (.aload_n 0, 1) := by decide +kernel
theorem dX3_admit_10 : decode cX3_admit 10 = .ok (.getfield 11, 3) := by decide +kernel
theorem dX3_admit_13 : decode cX3_admit 13 = .ok (.aload_n 0, 1) := by decide +kernel
theorem dX3_admit_14 : decode cX3_admit 14 = .ok (.getfield 31, 3) := by decide +kernel
theorem dX3_admit_17 : decode cX3_admit 17 = .ok (.iload_n 1, 1) := by decide +kernel
theorem dX3_admit_18 : decode cX3_admit 18 = .ok (.iastore, 1) := by decide +kernel
theorem dX3_admit_19 : decode cX3_admit 19 = .ok (.aload_n 0, 1) := by decide +kernel
theorem dX3_admit_20 : decode cX3_admit 20 = .ok (.dup, 1) := by decide +kernel
theorem dX3_admit_21 : decode cX3_admit 21 = .ok (.getfield 31, 3) := by decide +kernel
theorem dX3_admit_24 : decode cX3_admit 24 = .ok (.iconst 1, 1) := by decide +kernel
theorem dX3_admit_25 : decode cX3_admit 25 = .ok (.iadd, 1) := by decide +kernel
theorem dX3_admit_26 : decode cX3_admit 26 = .ok (.putfield 31, 3) := by decide +kernel
theorem dX3_admit_29 : decode cX3_admit 29 = .ok (.return_, 1) := by decide +kernel
theorem dX3_measure_0 : decode cX3_measure 0 = .ok (.iconst 0, 1) := by decide +kernel
theorem dX3_measure_1 : decode cX3_measure 1 = .ok (.istore_n 2, 1) := by decide +kernel
theorem dX3_measure_2 : decode cX3_measure 2 = .ok (.iload_n 2, 1) := by decide +kernel
theorem dX3_measure_3 : decode cX3_measure 3 = .ok (.aload_n 0, 1) := by decide +kernel
theorem dX3_measure_4 : decode cX3_measure 4 = .ok (.getfield 31, 3) := by decide +kernel
theorem dX3_measure_7 : decode cX3_measure 7 = .ok (.if_icmp .ge 80, 3) := by decide +kernel
theorem dX3_measure_10 : decode cX3_measure 10 = .ok (.iload_n 2, 1) := by decide +kernel
theorem dX3_measure_11 : decode cX3_measure 11 = .ok (.bipush 9, 2) := by decide +kernel
theorem dX3_measure_13 : decode cX3_measure 13 = .ok (.if_icmp .ge 74, 3) := by decide +kernel
theorem dX3_measure_16 : decode cX3_measure 16 = .ok (.aload_n 1, 1) := by decide +kernel
theorem dX3_measure_17 : decode cX3_measure 17 = .ok (.aload_n 0, 1) := by decide +kernel
theorem dX3_measure_18 : decode cX3_measure 18 = .ok (.getfield 11, 3) := by decide +kernel
theorem dX3_measure_21 : decode cX3_measure 21 = .ok (.iload_n 2, 1) := by decide +kernel
theorem dX3_measure_22 : decode cX3_measure 22 = .ok (.iaload, 1) := by decide +kernel
theorem dX3_measure_23 : decode cX3_measure 23 = .ok (.invokevirtual 35, 3) := by decide +kernel
theorem dX3_measure_26 : decode cX3_measure 26 = .ok (.astore_n 3, 1) := by decide +kernel
theorem dX3_measure_27 : decode cX3_measure 27 = .ok (.aload_n 3, 1) := by decide +kernel
theorem dX3_measure_28 : decode cX3_measure 28 = .ok (.ifnonnull 5, 3) := by decide +kernel
theorem dX3_measure_31 : decode cX3_measure 31 = .ok (.iconst 0, 1) := by decide +kernel
theorem dX3_measure_32 : decode cX3_measure 32 = .ok (.ireturn, 1) := by decide +kernel
theorem dX3_measure_33 : decode cX3_measure 33 = .ok (.iconst 0, 1) := by decide +kernel
theorem dX3_measure_34 : decode cX3_measure 34 = .ok (.istore 4, 2) := by decide +kernel
theorem dX3_measure_36 : decode cX3_measure 36 = .ok (.iload 4, 2) := by decide +kernel
theorem dX3_measure_38 : decode cX3_measure 38 = .ok (.iload_n 2, 1) := by decide +kernel
theorem dX3_measure_39 : decode cX3_measure 39 = .ok (.if_icmp .ge 42, 3) := by decide +kernel
theorem dX3_measure_42 : decode cX3_measure 42 = .ok (.aload_n 1, 1) := by decide +kernel
theorem dX3_measure_43 : decode cX3_measure 43 = .ok (.aload_n 0, 1) := by decide +kernel
theorem dX3_measure_44 : decode cX3_measure 44 = .ok (.getfield 11, 3) := by decide +kernel
theorem dX3_measure_47 : decode cX3_measure 47 = .ok (.iload 4, 2) := by decide +kernel
theorem dX3_measure_49 : decode cX3_measure 49 = .ok (.iaload, 1) := by decide +kernel
theorem dX3_measure_50 : decode cX3_measure 50 = .ok (.invokevirtual 35, 3) := by decide +kernel
theorem dX3_measure_53 : decode cX3_measure 53 = .ok (.astore 5, 2) := by decide +kernel
theorem dX3_measure_55 : decode cX3_measure 55 = .ok (.aload 5, 2) := by decide +kernel
theorem dX3_measure_57 : decode cX3_measure 57 = .ok (.ifnonnull 5, 3) := by decide +kernel
theorem dX3_measure_60 : decode cX3_measure 60 = .ok (.iconst 0, 1) := by decide +kernel
theorem dX3_measure_61 : decode cX3_measure 61 = .ok (.ireturn, 1) := by decide +kernel
theorem dX3_measure_62 : decode cX3_measure 62 = .ok (.aload_n 0, 1) := by decide +kernel
theorem dX3_measure_63 : decode cX3_measure 63 = .ok (.iload_n 2, 1) := by decide +kernel
theorem dX3_measure_64 : decode cX3_measure 64 = .ok (.iload 4, 2) := by decide +kernel
theorem dX3_measure_66 : decode cX3_measure 66 = .ok (.aload_n 3, 1) := by decide +kernel
theorem dX3_measure_67 : decode cX3_measure 67 = .ok (.aload 5, 2) := by decide +kernel
theorem dX3_measure_69 : decode cX3_measure 69 = .ok (.invokevirtual 41, 3) := by decide +kernel
theorem dX3_measure_72 : decode cX3_measure 72 = .ok (.invokevirtual 47, 3) := by decide +kernel
theorem dX3_measure_75 : decode cX3_measure 75 = .ok (.iinc 4 1, 3) := by decide +kernel
theorem dX3_measure_78 : decode cX3_measure 78 = .ok (.goto (-42), 3) := by decide +kernel
theorem dX3_measure_81 : decode cX3_measure 81 = .ok (.iinc 2 1, 3) := by decide +kernel
theorem dX3_measure_84 : decode cX3_measure 84 = .ok (.goto (-82), 3) := by decide +kernel
theorem dX3_measure_87 : decode cX3_measure 87 = .ok (.iconst 1, 1) := by decide +kernel
theorem dX3_measure_88 : decode cX3_measure 88 = .ok (.ireturn, 1) := by decide +kernel
theorem dX3_settle_0 : decode cX3_settle 0 = .ok (.aload_n 0, 1) := by decide +kernel
theorem dX3_settle_1 : decode cX3_settle 1 = .ok (.aload_n 0, 1) := by decide +kernel
theorem dX3_settle_2 : decode cX3_settle 2 = .ok (.getfield 31, 3) := by decide +kernel
theorem dX3_settle_5 : decode cX3_settle 5 = .ok (.invokevirtual 51, 3) := by decide +kernel
theorem dX3_settle_8 : decode cX3_settle 8 = .ok (.istore_n 1, 1) := by decide +kernel
theorem dX3_settle_9 : decode cX3_settle 9 = .ok (.iconst 0, 1) := by decide +kernel
theorem dX3_settle_10 : decode cX3_settle 10 = .ok (.istore_n 2, 1) := by decide +kernel
theorem dX3_settle_11 : decode cX3_settle 11 = .ok (.iload_n 2, 1) := by decide +kernel
theorem dX3_settle_12 : decode cX3_settle 12 = .ok (.aload_n 0, 1) := by decide +kernel
theorem dX3_settle_13 : decode cX3_settle 13 = .ok (.getfield 31, 3) := by decide +kernel
theorem dX3_settle_16 : decode cX3_settle 16 = .ok (.if_icmp .ge 39, 3) := by decide +kernel
theorem dX3_settle_19 : decode cX3_settle 19 = .ok (.iload_n 2, 1) := by decide +kernel
theorem dX3_settle_20 : decode cX3_settle 20 = .ok (.bipush 9, 2) := by decide +kernel
theorem dX3_settle_22 : decode cX3_settle 22 = .ok (.if_icmp .ge 33, 3) := by decide +kernel
theorem dX3_settle_25 : decode cX3_settle 25 = .ok (.aload_n 0, 1) := by decide +kernel
theorem dX3_settle_26 : decode cX3_settle 26 = .ok (.getfield 15, 3) := by decide +kernel
theorem dX3_settle_29 : decode cX3_settle 29 = .ok (.iload_n 2, 1) := by decide +kernel
theorem dX3_settle_30 : decode cX3_settle 30 = .ok (.iload_n 2, 1) := by decide +kernel
theorem dX3_settle_31 : decode cX3_settle 31 = .ok (.ifCond .ne 7, 3) := by decide +kernel
theorem dX3_settle_34 : decode cX3_settle 34 = .ok (.iconst (-1), 1) := by decide +kernel
theorem dX3_settle_35 : decode cX3_settle 35 = .ok (.goto 13, 3) := by decide +kernel
theorem dX3_settle_38 : decode cX3_settle 38 = .ok (.aload_n 0, 1) := by decide +kernel
theorem dX3_settle_39 : decode cX3_settle 39 = .ok (.aload_n 0, 1) := by decide +kernel
theorem dX3_settle_40 : decode cX3_settle 40 = .ok (.getfield 21, 3) := by decide +kernel
theorem dX3_settle_43 : decode cX3_settle 43 = .ok (.iload_n 2, 1) := by decide +kernel
theorem dX3_settle_44 : decode cX3_settle 44 = .ok (.iaload, 1) := by decide +kernel
theorem dX3_settle_45 : decode cX3_settle 45 = .ok (.invokevirtual 55, 3) := by decide +kernel
theorem dX3_settle_48 : decode cX3_settle 48 = .ok (.iastore, 1) := by decide +kernel
theorem dX3_settle_49 : decode cX3_settle 49 = .ok (.iinc 2 1, 3) := by decide +kernel
theorem dX3_settle_52 : decode cX3_settle 52 = .ok (.goto (-41), 3) := by decide +kernel
theorem dX3_settle_55 : decode cX3_settle 55 = .ok (.iload_n 1, 1) := by decide +kernel
theorem dX3_settle_56 : decode cX3_settle 56 = .ok (.ireturn, 1) := by decide +kernel
theorem dX3_sourceOf_0 : decode cX3_sourceOf 0 = .ok (.iload_n 1, 1) := by decide +kernel
theorem dX3_sourceOf_1 : decode cX3_sourceOf 1 = .ok (.ifCond .lt 26, 3) := by decide +kernel
theorem dX3_sourceOf_4 : decode cX3_sourceOf 4 = .ok (.iload_n 1, 1) := by decide +kernel
theorem dX3_sourceOf_5 : decode cX3_sourceOf 5 = .ok (.aload_n 0, 1) := by decide +kernel
theorem dX3_sourceOf_6 : decode cX3_sourceOf 6 = .ok (.getfield 31, 3) := by decide +kernel
theorem dX3_sourceOf_9 : decode cX3_sourceOf 9 = .ok (.if_icmp .ge 18, 3) := by decide +kernel
theorem dX3_sourceOf_12 : decode cX3_sourceOf 12 = .ok (.iload_n 1, 1) := by decide +kernel
theorem dX3_sourceOf_13 : decode cX3_sourceOf 13 = .ok (.bipush 10, 2) := by decide +kernel
theorem dX3_sourceOf_15 : decode cX3_sourceOf 15 = .ok (.if_icmp .ge 12, 3) := by decide +kernel
theorem dX3_sourceOf_18 : decode cX3_sourceOf 18 = .ok (.aload_n 0, 1) := by decide +kernel
theorem dX3_sourceOf_19 : decode cX3_sourceOf 19 = .ok (.getfield 15, 3) := by decide +kernel
theorem dX3_sourceOf_22 : decode cX3_sourceOf 22 = .ok (.iload_n 1, 1) := by decide +kernel
theorem dX3_sourceOf_23 : decode cX3_sourceOf 23 = .ok (.iaload, 1) := by decide +kernel
theorem dX3_sourceOf_24 : decode cX3_sourceOf 24 = .ok (.goto 4, 3) := by decide +kernel
theorem dX3_sourceOf_27 : decode cX3_sourceOf 27 = .ok (.iconst (-1), 1) := by decide +kernel
theorem dX3_sourceOf_28 : decode cX3_sourceOf 28 = .ok (.ireturn, 1) := by decide +kernel
theorem dX3_spanWith_0 : decode cX3_spanWith 0 = .ok (.iconst 0, 1) := by decide +kernel
theorem dX3_spanWith_1 : decode cX3_spanWith 1 = .ok (.istore 4, 2) := by decide +kernel
theorem dX3_spanWith_3 : decode cX3_spanWith 3 = .ok (.iload 4, 2) := by decide +kernel
theorem dX3_spanWith_5 : decode cX3_spanWith 5 = .ok (.aload_n 0, 1) := by decide +kernel
theorem dX3_spanWith_6 : decode cX3_spanWith 6 = .ok (.getfield 31, 3) := by decide +kernel
theorem dX3_spanWith_9 : decode cX3_spanWith 9 = .ok (.if_icmp .ge 55, 3) := by decide +kernel
theorem dX3_spanWith_12 : decode cX3_spanWith 12 = .ok (.iload 4, 2) := by decide +kernel
theorem dX3_spanWith_14 : decode cX3_spanWith 14 = .ok (.bipush 9, 2) := by decide +kernel
theorem dX3_spanWith_16 : decode cX3_spanWith 16 = .ok (.if_icmp .ge 48, 3) := by decide +kernel
theorem dX3_spanWith_19 : decode cX3_spanWith 19 = .ok (.aload_n 1, 1) := by decide +kernel
theorem dX3_spanWith_20 : decode cX3_spanWith 20 = .ok (.aload_n 0, 1) := by decide +kernel
theorem dX3_spanWith_21 : decode cX3_spanWith 21 = .ok (.getfield 11, 3) := by decide +kernel
theorem dX3_spanWith_24 : decode cX3_spanWith 24 = .ok (.iload 4, 2) := by decide +kernel
theorem dX3_spanWith_26 : decode cX3_spanWith 26 = .ok (.iaload, 1) := by decide +kernel
theorem dX3_spanWith_27 : decode cX3_spanWith 27 = .ok (.invokevirtual 35, 3) := by decide +kernel
theorem dX3_spanWith_30 : decode cX3_spanWith 30 = .ok (.astore 5, 2) := by decide +kernel
theorem dX3_spanWith_32 : decode cX3_spanWith 32 = .ok (.aload_n 0, 1) := by decide +kernel
theorem dX3_spanWith_33 : decode cX3_spanWith 33 = .ok (.aload_n 0, 1) := by decide +kernel
theorem dX3_spanWith_34 : decode cX3_spanWith 34 = .ok (.getfield 31, 3) := by decide +kernel
theorem dX3_spanWith_37 : decode cX3_spanWith 37 = .ok (.iload 4, 2) := by decide +kernel
theorem dX3_spanWith_39 : decode cX3_spanWith 39 = .ok (.aload 5, 2) := by decide +kernel
theorem dX3_spanWith_41 : decode cX3_spanWith 41 = .ok (.ifnonnull 7, 3) := by decide +kernel
theorem dX3_spanWith_44 : decode cX3_spanWith 44 = .ok (.iconst 0, 1) := by decide +kernel
theorem dX3_spanWith_45 : decode cX3_spanWith 45 = .ok (.goto 10, 3) := by decide +kernel
theorem dX3_spanWith_48 : decode cX3_spanWith 48 = .ok (.aload_n 2, 1) := by decide +kernel
theorem dX3_spanWith_49 : decode cX3_spanWith 49 = .ok (.iload_n 3, 1) := by decide +kernel
theorem dX3_spanWith_50 : decode cX3_spanWith 50 = .ok (.aload 5, 2) := by decide +kernel
theorem dX3_spanWith_52 : decode cX3_spanWith 52 = .ok (.invokevirtual 58, 3) := by decide +kernel
theorem dX3_spanWith_55 : decode cX3_spanWith 55 = .ok (.invokevirtual 47, 3) := by decide +kernel
theorem dX3_spanWith_58 : decode cX3_spanWith 58 = .ok (.iinc 4 1, 3) := by decide +kernel
theorem dX3_spanWith_61 : decode cX3_spanWith 61 = .ok (.goto (-58), 3) := by decide +kernel
theorem dX3_spanWith_64 : decode cX3_spanWith 64 = .ok (.aload_n 0, 1) := by decide +kernel
theorem dX3_spanWith_65 : decode cX3_spanWith 65 = .ok (.aload_n 0, 1) := by decide +kernel
theorem dX3_spanWith_66 : decode cX3_spanWith 66 = .ok (.getfield 31, 3) := by decide +kernel
theorem dX3_spanWith_69 : decode cX3_spanWith 69 = .ok (.iconst 1, 1) := by decide +kernel
theorem dX3_spanWith_70 : decode cX3_spanWith 70 = .ok (.iadd, 1) := by decide +kernel
theorem dX3_spanWith_71 : decode cX3_spanWith 71 = .ok (.invokevirtual 51, 3) := by decide +kernel
theorem dX3_spanWith_74 : decode cX3_spanWith 74 = .ok (.ireturn, 1) := by decide +kernel
theorem dX3_span_0 : decode cX3_span 0 = .ok (.aload_n 0, 1) := by decide +kernel
theorem dX3_span_1 : decode cX3_span 1 = .ok (.getfield 24, 3) := by decide +kernel
theorem dX3_span_4 : decode cX3_span 4 = .ok (.ldc 63, 2) := by decide +kernel
theorem dX3_span_6 : decode cX3_span 6 = .ok (.invokestatic 64, 3) := by decide +kernel
theorem dX3_span_9 : decode cX3_span 9 = .ok (.iconst 0, 1) := by decide +kernel
theorem dX3_span_10 : decode cX3_span 10 = .ok (.istore_n 2, 1) := by decide +kernel
theorem dX3_span_11 : decode cX3_span 11 = .ok (.iload_n 2, 1) := by decide +kernel
theorem dX3_span_12 : decode cX3_span 12 = .ok (.bipush 10, 2) := by decide +kernel
theorem dX3_span_14 : decode cX3_span 14 = .ok (.if_icmp .ge 23, 3) := by decide +kernel
theorem dX3_span_17 : decode cX3_span 17 = .ok (.aload_n 0, 1) := by decide +kernel
theorem dX3_span_18 : decode cX3_span 18 = .ok (.getfield 27, 3) := by decide +kernel
theorem dX3_span_21 : decode cX3_span 21 = .ok (.iload_n 2, 1) := by decide +kernel
theorem dX3_span_22 : decode cX3_span 22 = .ok (.iconst 0, 1) := by decide +kernel
theorem dX3_span_23 : decode cX3_span 23 = .ok (.bastore, 1) := by decide +kernel
theorem dX3_span_24 : decode cX3_span 24 = .ok (.aload_n 0, 1) := by decide +kernel
theorem dX3_span_25 : decode cX3_span 25 = .ok (.getfield 21, 3) := by decide +kernel
theorem dX3_span_28 : decode cX3_span 28 = .ok (.iload_n 2, 1) := by decide +kernel
theorem dX3_span_29 : decode cX3_span 29 = .ok (.iconst 0, 1) := by decide +kernel
theorem dX3_span_30 : decode cX3_span 30 = .ok (.iastore, 1) := by decide +kernel
theorem dX3_span_31 : decode cX3_span 31 = .ok (.iinc 2 1, 3) := by decide +kernel
theorem dX3_span_34 : decode cX3_span 34 = .ok (.goto (-23), 3) := by decide +kernel
theorem dX3_span_37 : decode cX3_span 37 = .ok (.iconst 0, 1) := by decide +kernel
theorem dX3_span_38 : decode cX3_span 38 = .ok (.istore_n 2, 1) := by decide +kernel
theorem dX3_span_39 : decode cX3_span 39 = .ok (.iconst 0, 1) := by decide +kernel
theorem dX3_span_40 : decode cX3_span 40 = .ok (.istore_n 3, 1) := by decide +kernel
theorem dX3_span_41 : decode cX3_span 41 = .ok (.iconst 1, 1) := by decide +kernel
theorem dX3_span_42 : decode cX3_span 42 = .ok (.istore 4, 2) := by decide +kernel
theorem dX3_span_44 : decode cX3_span 44 = .ok (.iload 4, 2) := by decide +kernel
theorem dX3_span_46 : decode cX3_span 46 = .ok (.iload_n 1, 1) := by decide +kernel
theorem dX3_span_47 : decode cX3_span 47 = .ok (.if_icmp .ge 37, 3) := by decide +kernel
theorem dX3_span_50 : decode cX3_span 50 = .ok (.aload_n 0, 1) := by decide +kernel
theorem dX3_span_51 : decode cX3_span 51 = .ok (.getfield 27, 3) := by decide +kernel
theorem dX3_span_54 : decode cX3_span 54 = .ok (.iload_n 3, 1) := by decide +kernel
theorem dX3_span_55 : decode cX3_span 55 = .ok (.iconst 1, 1) := by decide +kernel
theorem dX3_span_56 : decode cX3_span 56 = .ok (.bastore, 1) := by decide +kernel
theorem dX3_span_57 : decode cX3_span 57 = .ok (.aload_n 0, 1) := by decide +kernel
theorem dX3_span_58 : decode cX3_span 58 = .ok (.iload_n 3, 1) := by decide +kernel
theorem dX3_span_59 : decode cX3_span 59 = .ok (.iload_n 1, 1) := by decide +kernel
theorem dX3_span_60 : decode cX3_span 60 = .ok (.invokevirtual 70, 3) := by decide +kernel
theorem dX3_span_63 : decode cX3_span 63 = .ok (.aload_n 0, 1) := by decide +kernel
theorem dX3_span_64 : decode cX3_span 64 = .ok (.iload_n 1, 1) := by decide +kernel
theorem dX3_span_65 : decode cX3_span 65 = .ok (.invokevirtual 74, 3) := by decide +kernel
theorem dX3_span_68 : decode cX3_span 68 = .ok (.istore_n 3, 1) := by decide +kernel
theorem dX3_span_69 : decode cX3_span 69 = .ok (.iload_n 2, 1) := by decide +kernel
theorem dX3_span_70 : decode cX3_span 70 = .ok (.aload_n 0, 1) := by decide +kernel
theorem dX3_span_71 : decode cX3_span 71 = .ok (.getfield 24, 3) := by decide +kernel
theorem dX3_span_74 : decode cX3_span 74 = .ok (.iload_n 3, 1) := by decide +kernel
theorem dX3_span_75 : decode cX3_span 75 = .ok (.iaload, 1) := by decide +kernel
theorem dX3_span_76 : decode cX3_span 76 = .ok (.iadd, 1) := by decide +kernel
theorem dX3_span_77 : decode cX3_span 77 = .ok (.istore_n 2, 1) := by decide +kernel
theorem dX3_span_78 : decode cX3_span 78 = .ok (.iinc 4 1, 3) := by decide +kernel
theorem dX3_span_81 : decode cX3_span 81 = .ok (.goto (-37), 3) := by decide +kernel
theorem dX3_span_84 : decode cX3_span 84 = .ok (.iload_n 2, 1) := by decide +kernel
theorem dX3_span_85 : decode cX3_span 85 = .ok (.ireturn, 1) := by decide +kernel
theorem dX3_reachFrom_0 : decode cX3_reachFrom 0 = .ok (.iconst 0, 1) := by decide +kernel
theorem dX3_reachFrom_1 : decode cX3_reachFrom 1 = .ok (.istore_n 3, 1) := by decide +kernel
theorem dX3_reachFrom_2 : decode cX3_reachFrom 2 = .ok (.iload_n 3, 1) := by decide +kernel
theorem dX3_reachFrom_3 : decode cX3_reachFrom 3 = .ok (.iload_n 2, 1) := by decide +kernel
theorem dX3_reachFrom_4 : decode cX3_reachFrom 4 = .ok (.if_icmp .ge 63, 3) := by decide +kernel
theorem dX3_reachFrom_7 : decode cX3_reachFrom 7 = .ok (.iload_n 3, 1) := by decide +kernel
theorem dX3_reachFrom_8 : decode cX3_reachFrom 8 = .ok (.bipush 10, 2) := by decide +kernel
theorem dX3_reachFrom_10 : decode cX3_reachFrom 10 = .ok (.if_icmp .ge 57, 3) := by decide +kernel
theorem dX3_reachFrom_13 : decode cX3_reachFrom 13 = .ok (.aload_n 0, 1) := by decide +kernel
theorem dX3_reachFrom_14 : decode cX3_reachFrom 14 = .ok (.getfield 18, 3) := by decide +kernel
theorem dX3_reachFrom_17 : decode cX3_reachFrom 17 = .ok (.iload_n 1, 1) := by decide +kernel
theorem dX3_reachFrom_18 : decode cX3_reachFrom 18 = .ok (.bipush 10, 2) := by decide +kernel
theorem dX3_reachFrom_20 : decode cX3_reachFrom 20 = .ok (.imul, 1) := by decide +kernel
theorem dX3_reachFrom_21 : decode cX3_reachFrom 21 = .ok (.iload_n 3, 1) := by decide +kernel
theorem dX3_reachFrom_22 : decode cX3_reachFrom 22 = .ok (.iadd, 1) := by decide +kernel
theorem dX3_reachFrom_23 : decode cX3_reachFrom 23 = .ok (.iaload, 1) := by decide +kernel
theorem dX3_reachFrom_24 : decode cX3_reachFrom 24 = .ok (.istore 4, 2) := by decide +kernel
theorem dX3_reachFrom_26 : decode cX3_reachFrom 26 = .ok (.aload_n 0, 1) := by decide +kernel
theorem dX3_reachFrom_27 : decode cX3_reachFrom 27 = .ok (.getfield 27, 3) := by decide +kernel
theorem dX3_reachFrom_30 : decode cX3_reachFrom 30 = .ok (.iload_n 3, 1) := by decide +kernel
theorem dX3_reachFrom_31 : decode cX3_reachFrom 31 = .ok (.baload, 1) := by decide +kernel
theorem dX3_reachFrom_32 : decode cX3_reachFrom 32 = .ok (.ifCond .ne 29, 3) := by decide +kernel
theorem dX3_reachFrom_35 : decode cX3_reachFrom 35 = .ok (.iload 4, 2) := by decide +kernel
theorem dX3_reachFrom_37 : decode cX3_reachFrom 37 = .ok (.aload_n 0, 1) := by decide +kernel
theorem dX3_reachFrom_38 : decode cX3_reachFrom 38 = .ok (.getfield 24, 3) := by decide +kernel
theorem dX3_reachFrom_41 : decode cX3_reachFrom 41 = .ok (.iload_n 3, 1) := by decide +kernel
theorem dX3_reachFrom_42 : decode cX3_reachFrom 42 = .ok (.iaload, 1) := by decide +kernel
theorem dX3_reachFrom_43 : decode cX3_reachFrom 43 = .ok (.if_icmp .ge 18, 3) := by decide +kernel
theorem dX3_reachFrom_46 : decode cX3_reachFrom 46 = .ok (.aload_n 0, 1) := by decide +kernel
theorem dX3_reachFrom_47 : decode cX3_reachFrom 47 = .ok (.getfield 24, 3) := by decide +kernel
theorem dX3_reachFrom_50 : decode cX3_reachFrom 50 = .ok (.iload_n 3, 1) := by decide +kernel
theorem dX3_reachFrom_51 : decode cX3_reachFrom 51 = .ok (.iload 4, 2) := by decide +kernel
theorem dX3_reachFrom_53 : decode cX3_reachFrom 53 = .ok (.iastore, 1) := by decide +kernel
theorem dX3_reachFrom_54 : decode cX3_reachFrom 54 = .ok (.aload_n 0, 1) := by decide +kernel
theorem dX3_reachFrom_55 : decode cX3_reachFrom 55 = .ok (.getfield 21, 3) := by decide +kernel
theorem dX3_reachFrom_58 : decode cX3_reachFrom 58 = .ok (.iload_n 3, 1) := by decide +kernel
theorem dX3_reachFrom_59 : decode cX3_reachFrom 59 = .ok (.iload_n 1, 1) := by decide +kernel
theorem dX3_reachFrom_60 : decode cX3_reachFrom 60 = .ok (.iastore, 1) := by decide +kernel
theorem dX3_reachFrom_61 : decode cX3_reachFrom 61 = .ok (.iinc 3 1, 3) := by decide +kernel
theorem dX3_reachFrom_64 : decode cX3_reachFrom 64 = .ok (.goto (-62), 3) := by decide +kernel
theorem dX3_reachFrom_67 : decode cX3_reachFrom 67 = .ok (.return_, 1) := by decide +kernel
theorem dX3_nextToJoin_0 : decode cX3_nextToJoin 0 = .ok (.iconst 0, 1) := by decide +kernel
theorem dX3_nextToJoin_1 : decode cX3_nextToJoin 1 = .ok (.istore_n 2, 1) := by decide +kernel
theorem dX3_nextToJoin_2 : decode cX3_nextToJoin 2 = .ok (.ldc 63, 2) := by decide +kernel
theorem dX3_nextToJoin_4 : decode cX3_nextToJoin 4 = .ok (.istore_n 3, 1) := by decide +kernel
theorem dX3_nextToJoin_5 : decode cX3_nextToJoin 5 = .ok (.iconst 0, 1) := by decide +kernel
theorem dX3_nextToJoin_6 : decode cX3_nextToJoin 6 = .ok (.istore 4, 2) := by decide +kernel
theorem dX3_nextToJoin_8 : decode cX3_nextToJoin 8 = .ok (.iload 4, 2) := by decide +kernel
theorem dX3_nextToJoin_10 : decode cX3_nextToJoin 10 = .ok (.iload_n 1, 1) := by decide +kernel
theorem dX3_nextToJoin_11 : decode cX3_nextToJoin 11 = .ok (.if_icmp .ge 48, 3) := by decide +kernel
theorem dX3_nextToJoin_14 : decode cX3_nextToJoin 14 = .ok (.iload 4, 2) := by decide +kernel
theorem dX3_nextToJoin_16 : decode cX3_nextToJoin 16 = .ok (.bipush 10, 2) := by decide +kernel
theorem dX3_nextToJoin_18 : decode cX3_nextToJoin 18 = .ok (.if_icmp .ge 41, 3) := by decide +kernel
theorem dX3_nextToJoin_21 : decode cX3_nextToJoin 21 = .ok (.aload_n 0, 1) := by decide +kernel
theorem dX3_nextToJoin_22 : decode cX3_nextToJoin 22 = .ok (.getfield 27, 3) := by decide +kernel
theorem dX3_nextToJoin_25 : decode cX3_nextToJoin 25 = .ok (.iload 4, 2) := by decide +kernel
theorem dX3_nextToJoin_27 : decode cX3_nextToJoin 27 = .ok (.baload, 1) := by decide +kernel
theorem dX3_nextToJoin_28 : decode cX3_nextToJoin 28 = .ok (.ifCond .ne 25, 3) := by decide +kernel
theorem dX3_nextToJoin_31 : decode cX3_nextToJoin 31 = .ok (.aload_n 0, 1) := by decide +kernel
theorem dX3_nextToJoin_32 : decode cX3_nextToJoin 32 = .ok (.getfield 24, 3) := by decide +kernel
theorem dX3_nextToJoin_35 : decode cX3_nextToJoin 35 = .ok (.iload 4, 2) := by decide +kernel
theorem dX3_nextToJoin_37 : decode cX3_nextToJoin 37 = .ok (.iaload, 1) := by decide +kernel
theorem dX3_nextToJoin_38 : decode cX3_nextToJoin 38 = .ok (.iload_n 3, 1) := by decide +kernel
theorem dX3_nextToJoin_39 : decode cX3_nextToJoin 39 = .ok (.if_icmp .ge 14, 3) := by decide +kernel
theorem dX3_nextToJoin_42 : decode cX3_nextToJoin 42 = .ok (.aload_n 0, 1) := by decide +kernel
theorem dX3_nextToJoin_43 : decode cX3_nextToJoin 43 = .ok (.getfield 24, 3) := by decide +kernel
theorem dX3_nextToJoin_46 : decode cX3_nextToJoin 46 = .ok (.iload 4, 2) := by decide +kernel
theorem dX3_nextToJoin_48 : decode cX3_nextToJoin 48 = .ok (.iaload, 1) := by decide +kernel
theorem dX3_nextToJoin_49 : decode cX3_nextToJoin 49 = .ok (.istore_n 3, 1) := by decide +kernel
theorem dX3_nextToJoin_50 : decode cX3_nextToJoin 50 = .ok (.iload 4, 2) := by decide +kernel
theorem dX3_nextToJoin_52 : decode cX3_nextToJoin 52 = .ok (.istore_n 2, 1) := by decide +kernel
theorem dX3_nextToJoin_53 : decode cX3_nextToJoin 53 = .ok (.iinc 4 1, 3) := by decide +kernel
theorem dX3_nextToJoin_56 : decode cX3_nextToJoin 56 = .ok (.goto (-48), 3) := by decide +kernel
theorem dX3_nextToJoin_59 : decode cX3_nextToJoin 59 = .ok (.iload_n 2, 1) := by decide +kernel
theorem dX3_nextToJoin_60 : decode cX3_nextToJoin 60 = .ok (.ireturn, 1) := by decide +kernel
theorem dX3_numberAt_0 : decode cX3_numberAt 0 = .ok (.iload_n 1, 1) := by decide +kernel
theorem dX3_numberAt_1 : decode cX3_numberAt 1 = .ok (.ifCond .lt 18, 3) := by decide +kernel
theorem dX3_numberAt_4 : decode cX3_numberAt 4 = .ok (.iload_n 1, 1) := by decide +kernel
theorem dX3_numberAt_5 : decode cX3_numberAt 5 = .ok (.bipush 10, 2) := by decide +kernel
theorem dX3_numberAt_7 : decode cX3_numberAt 7 = .ok (.if_icmp .ge 12, 3) := by decide +kernel
theorem dX3_numberAt_10 : decode cX3_numberAt 10 = .ok (.aload_n 0, 1) := by decide +kernel
theorem dX3_numberAt_11 : decode cX3_numberAt 11 = .ok (.getfield 11, 3) := by decide +kernel
theorem dX3_numberAt_14 : decode cX3_numberAt 14 = .ok (.iload_n 1, 1) := by decide +kernel
theorem dX3_numberAt_15 : decode cX3_numberAt 15 = .ok (.iaload, 1) := by decide +kernel
theorem dX3_numberAt_16 : decode cX3_numberAt 16 = .ok (.goto 4, 3) := by decide +kernel
theorem dX3_numberAt_19 : decode cX3_numberAt 19 = .ok (.iconst (-1), 1) := by decide +kernel
theorem dX3_numberAt_20 : decode cX3_numberAt 20 = .ok (.ireturn, 1) := by decide +kernel
theorem dX3_putFar_0 : decode cX3_putFar 0 = .ok (.iload_n 1, 1) := by decide +kernel
theorem dX3_putFar_1 : decode cX3_putFar 1 = .ok (.ifCond .lt 43, 3) := by decide +kernel
theorem dX3_putFar_4 : decode cX3_putFar 4 = .ok (.iload_n 1, 1) := by decide +kernel
theorem dX3_putFar_5 : decode cX3_putFar 5 = .ok (.bipush 10, 2) := by decide +kernel
theorem dX3_putFar_7 : decode cX3_putFar 7 = .ok (.if_icmp .ge 37, 3) := by decide +kernel
theorem dX3_putFar_10 : decode cX3_putFar 10 = .ok (.iload_n 2, 1) := by decide +kernel
theorem dX3_putFar_11 : decode cX3_putFar 11 = .ok (.ifCond .lt 33, 3) := by decide +kernel
theorem dX3_putFar_14 : decode cX3_putFar 14 = .ok (.iload_n 2, 1) := by decide +kernel
theorem dX3_putFar_15 : decode cX3_putFar 15 = .ok (.bipush 10, 2) := by decide +kernel
theorem dX3_putFar_17 : decode cX3_putFar 17 = .ok (.if_icmp .ge 27, 3) := by decide +kernel
theorem dX3_putFar_20 : decode cX3_putFar 20 = .ok (.aload_n 0, 1) := by decide +kernel
theorem dX3_putFar_21 : decode cX3_putFar 21 = .ok (.getfield 18, 3) := by decide +kernel
theorem dX3_putFar_24 : decode cX3_putFar 24 = .ok (.iload_n 1, 1) := by decide +kernel
theorem dX3_putFar_25 : decode cX3_putFar 25 = .ok (.bipush 10, 2) := by decide +kernel
theorem dX3_putFar_27 : decode cX3_putFar 27 = .ok (.imul, 1) := by decide +kernel
theorem dX3_putFar_28 : decode cX3_putFar 28 = .ok (.iload_n 2, 1) := by decide +kernel
theorem dX3_putFar_29 : decode cX3_putFar 29 = .ok (.iadd, 1) := by decide +kernel
theorem dX3_putFar_30 : decode cX3_putFar 30 = .ok (.iload_n 3, 1) := by decide +kernel
theorem dX3_putFar_31 : decode cX3_putFar 31 = .ok (.iastore, 1) := by decide +kernel
theorem dX3_putFar_32 : decode cX3_putFar 32 = .ok (.aload_n 0, 1) := by decide +kernel
theorem dX3_putFar_33 : decode cX3_putFar 33 = .ok (.getfield 18, 3) := by decide +kernel
theorem dX3_putFar_36 : decode cX3_putFar 36 = .ok (.iload_n 2, 1) := by decide +kernel
theorem dX3_putFar_37 : decode cX3_putFar 37 = .ok (.bipush 10, 2) := by decide +kernel
theorem dX3_putFar_39 : decode cX3_putFar 39 = .ok (.imul, 1) := by decide +kernel
theorem dX3_putFar_40 : decode cX3_putFar 40 = .ok (.iload_n 1, 1) := by decide +kernel
theorem dX3_putFar_41 : decode cX3_putFar 41 = .ok (.iadd, 1) := by decide +kernel
theorem dX3_putFar_42 : decode cX3_putFar 42 = .ok (.iload_n 3, 1) := by decide +kernel
theorem dX3_putFar_43 : decode cX3_putFar 43 = .ok (.iastore, 1) := by decide +kernel
theorem dX3_putFar_44 : decode cX3_putFar 44 = .ok (.return_, 1) := by decide +kernel
theorem dX4_init_0 : decode cX4_init 0 = .ok (.aload_n 0, 1) := by decide +kernel
theorem dX4_init_1 : decode cX4_init 1 = .ok (.invokespecial 3, 3) := by decide +kernel
theorem dX4_init_4 : decode cX4_init 4 = .ok (.aload_n 0, 1) := by decide +kernel
theorem dX4_init_5 : decode cX4_init 5 = .ok (.iconst 4, 1) := by decide +kernel
theorem dX4_init_6 : decode cX4_init 6 = .ok (.putfield 9, 3) := by decide +kernel
theorem dX4_init_9 : decode cX4_init 9 = .ok (.aload_n 0, 1) := by decide +kernel
theorem dX4_init_10 : decode cX4_init 10 = .ok (.bipush 10, 2) := by decide +kernel
theorem dX4_init_12 : decode cX4_init 12 = .ok (.anewarray 15, 3) := by decide +kernel
theorem dX4_init_15 : decode cX4_init 15 = .ok (.putfield 17, 3) := by decide +kernel
theorem dX4_init_18 : decode cX4_init 18 = .ok (.aload_n 0, 1) := by decide +kernel
theorem dX4_init_19 : decode cX4_init 19 = .ok (.bipush 6, 2) := by decide +kernel
theorem dX4_init_21 : decode cX4_init 21 = .ok (.anewarray 21, 3) := by decide +kernel
theorem dX4_init_24 : decode cX4_init 24 = .ok (.putfield 23, 3) := by decide +kernel
theorem dX4_init_27 : decode cX4_init 27 = .ok (.aload_n 0, 1) := by decide +kernel
theorem dX4_init_28 : decode cX4_init 28 = .ok (.bipush 6, 2) := by decide +kernel
theorem dX4_init_30 : decode cX4_init 30 = .ok (.newarray .int, 2) := by decide +kernel
theorem dX4_init_32 : decode cX4_init 32 = .ok (.putfield 27, 3) := by decide +kernel
theorem dX4_init_35 : decode cX4_init 35 = .ok (.aload_n 0, 1) := by decide +kernel
theorem dX4_init_36 : decode cX4_init 36 = .ok (.bipush 12, 2) := by decide +kernel
theorem dX4_init_38 : decode cX4_init 38 = .ok (.newarray .int, 2) := by decide +kernel
theorem dX4_init_40 : decode cX4_init 40 = .ok (.putfield 31, 3) := by decide +kernel
theorem dX4_init_43 : decode cX4_init 43 = .ok (.aload_n 0, 1) := by decide +kernel
theorem dX4_init_44 : decode cX4_init 44 = .ok (.bipush 12, 2) := by decide +kernel
theorem dX4_init_46 : decode cX4_init 46 = .ok (.newarray .int, 2) := by decide +kernel
theorem dX4_init_48 : decode cX4_init 48 = .ok (.putfield 34, 3) := by decide +kernel
theorem dX4_init_51 : decode cX4_init 51 = .ok (.aload_n 0, 1) := by decide +kernel
theorem dX4_init_52 : decode cX4_init 52 = .ok (.bipush 49, 2) := by decide +kernel
theorem dX4_init_54 : decode cX4_init 54 = .ok (.newarray .int, 2) := by decide +kernel
theorem dX4_init_56 : decode cX4_init 56 = .ok (.putfield 37, 3) := by decide +kernel
theorem dX4_init_59 : decode cX4_init 59 = .ok (.aload_n 0, 1) := by decide +kernel
theorem dX4_init_60 : decode cX4_init 60 = .ok (.new 40, 3) := by decide +kernel
theorem dX4_init_63 : decode cX4_init 63 = .ok (.dup, 1) := by decide +kernel
theorem dX4_init_64 : decode cX4_init 64 = .ok (.invokespecial 42, 3) := by decide +kernel
theorem dX4_init_67 : decode cX4_init 67 = .ok (.putfield 43, 3) := by decide +kernel
theorem dX4_init_70 : decode cX4_init 70 = .ok (.iconst 0, 1) := by decide +kernel
theorem dX4_init_71 : decode cX4_init 71 = .ok (.istore_n 1, 1) := by decide +kernel
theorem dX4_init_72 : decode cX4_init 72 = .ok (.iload_n 1, 1) := by decide +kernel
theorem dX4_init_73 : decode cX4_init 73 = .ok (.bipush 10, 2) := by decide +kernel
theorem dX4_init_75 : decode cX4_init 75 = .ok (.if_icmp .ge 22, 3) := by decide +kernel
theorem dX4_init_78 : decode cX4_init 78 = .ok (.aload_n 0, 1) := by decide +kernel
theorem dX4_init_79 : decode cX4_init 79 = .ok (.getfield 17, 3) := by decide +kernel
theorem dX4_init_82 : decode cX4_init 82 = .ok (.iload_n 1, 1) := by decide +kernel
theorem dX4_init_83 : decode cX4_init 83 = .ok (.new 15, 3) := by decide +kernel
theorem dX4_init_86 : decode cX4_init 86 = .ok (.dup, 1) := by decide +kernel
theorem dX4_init_87 : decode cX4_init 87 = .ok (.invokespecial 47, 3) := by decide +kernel
theorem dX4_init_90 : decode cX4_init 90 = .ok (.aastore, 1) := by decide +kernel
theorem dX4_init_91 : decode cX4_init 91 = .ok (.iinc 1 1, 3) := by decide +kernel
theorem dX4_init_94 : decode cX4_init 94 = .ok (.goto (-22), 3) := by decide +kernel
theorem dX4_init_97 : decode cX4_init 97 = .ok (.iconst 0, 1) := by decide +kernel
theorem dX4_init_98 : decode cX4_init 98 = .ok (.istore_n 1, 1) := by decide +kernel
theorem dX4_init_99 : decode cX4_init 99 = .ok (.iload_n 1, 1) := by decide +kernel
theorem dX4_init_100 : decode cX4_init 100 = .ok (.bipush 6, 2) := by decide +kernel
theorem dX4_init_102 : decode cX4_init 102 = .ok (.if_icmp .ge 22, 3) := by decide +kernel
theorem dX4_init_105 : decode cX4_init 105 = .ok (.aload_n 0, 1) := by decide +kernel
theorem dX4_init_106 : decode cX4_init 106 = .ok (.getfield 23, 3) := by decide +kernel
theorem dX4_init_109 : decode cX4_init 109 = .ok (.iload_n 1, 1) := by decide +kernel
theorem dX4_init_110 : decode cX4_init 110 = .ok (.new 21, 3) := by decide +kernel
theorem dX4_init_113 : decode cX4_init 113 = .ok (.dup, 1) := by decide +kernel
theorem dX4_init_114 : decode cX4_init 114 = .ok (.invokespecial 48, 3) := by decide +kernel
theorem dX4_init_117 : decode cX4_init 117 = .ok (.aastore, 1) := by decide +kernel
theorem dX4_init_118 : decode cX4_init 118 = .ok (.iinc 1 1, 3) := by decide +kernel
theorem dX4_init_121 : decode cX4_init 121 = .ok (.goto (-22), 3) := by decide +kernel
theorem dX4_init_124 : decode cX4_init 124 = .ok (.aload_n 0, 1) := by decide +kernel
theorem dX4_init_125 : decode cX4_init 125 = .ok (.getfield 27, 3) := by decide +kernel
theorem dX4_init_128 : decode cX4_init 128 = .ok (.iconst 1, 1) := by decide +kernel
theorem dX4_init_129 : decode cX4_init 129 = .ok (.invokestatic 49, 3) := by decide +kernel
theorem dX4_init_132 : decode cX4_init 132 = .ok (.return_, 1) := by decide +kernel
theorem dX4_clear_0 : decode cX4_clear 0 = .ok (.aload_n 0, 1) := by decide +kernel
theorem dX4_clear_1 : decode cX4_clear 1 = .ok (.iconst 4, 1) := by decide +kernel
theorem dX4_clear_2 : decode cX4_clear 2 = .ok (.putfield 9, 3) := by decide +kernel
theorem dX4_clear_5 : decode cX4_clear 5 = .ok (.aload_n 0, 1) := by decide +kernel
theorem dX4_clear_6 : decode cX4_clear 6 = .ok (.iconst 0, 1) := by decide +kernel
theorem dX4_clear_7 : decode cX4_clear 7 = .ok (.putfield 55, 3) := by decide +kernel
theorem dX4_clear_10 : decode cX4_clear 10 = .ok (.aload_n 0, 1) := by decide +kernel
theorem dX4_clear_11 : decode cX4_clear 11 = .ok (.iconst 0, 1) := by decide +kernel
theorem dX4_clear_12 : decode cX4_clear 12 = .ok (.putfield 58, 3) := by decide +kernel
theorem dX4_clear_15 : decode cX4_clear 15 = .ok (.aload_n 0, 1) := by decide +kernel
theorem dX4_clear_16 : decode cX4_clear 16 = .ok (.getfield 27, 3) := by decide +kernel
theorem dX4_clear_19 : decode cX4_clear 19 = .ok (.iconst 1, 1) := by decide +kernel
theorem dX4_clear_20 : decode cX4_clear 20 = .ok (.invokestatic 49, 3) := by decide +kernel
theorem dX4_clear_23 : decode cX4_clear 23 = .ok (.aload_n 0, 1) := by decide +kernel
theorem dX4_clear_24 : decode cX4_clear 24 = .ok (.iconst 0, 1) := by decide +kernel
theorem dX4_clear_25 : decode cX4_clear 25 = .ok (.putfield 61, 3) := by decide +kernel
theorem dX4_clear_28 : decode cX4_clear 28 = .ok (.aload_n 0, 1) := by decide +kernel
theorem dX4_clear_29 : decode cX4_clear 29 = .ok (.iconst 0, 1) := by decide +kernel
theorem dX4_clear_30 : decode cX4_clear 30 = .ok (.putfield 64, 3) := by decide +kernel
theorem dX4_clear_33 : decode cX4_clear 33 = .ok (.aload_n 0, 1) := by decide +kernel
theorem dX4_clear_34 : decode cX4_clear 34 = .ok (.getfield 37, 3) := by decide +kernel
theorem dX4_clear_37 : decode cX4_clear 37 = .ok (.iconst 0, 1) := by decide +kernel
theorem dX4_clear_38 : decode cX4_clear 38 = .ok (.invokestatic 49, 3) := by decide +kernel
theorem dX4_clear_41 : decode cX4_clear 41 = .ok (.aload_n 0, 1) := by decide +kernel
theorem dX4_clear_42 : decode cX4_clear 42 = .ok (.getfield 43, 3) := by decide +kernel
theorem dX4_clear_45 : decode cX4_clear 45 = .ok (.invokevirtual 67, 3) := by decide +kernel
theorem dX4_clear_48 : decode cX4_clear 48 = .ok (.return_, 1) := by decide +kernel
theorem dX4_become_0 : decode cX4_become 0 = .ok (.aload_n 0, 1) := by decide +kernel
theorem dX4_become_1 : decode cX4_become 1 = .ok (.aload_n 1, 1) := by decide +kernel
theorem dX4_become_2 : decode cX4_become 2 = .ok (.getfield 9, 3) := by decide +kernel
theorem dX4_become_5 : decode cX4_become 5 = .ok (.putfield 9, 3) := by decide +kernel
theorem dX4_become_8 : decode cX4_become 8 = .ok (.aload_n 0, 1) := by decide +kernel
theorem dX4_become_9 : decode cX4_become 9 = .ok (.aload_n 1, 1) := by decide +kernel
theorem dX4_become_10 : decode cX4_become 10 = .ok (.getfield 55, 3) := by decide +kernel
theorem dX4_become_13 : decode cX4_become 13 = .ok (.putfield 55, 3) := by decide +kernel
theorem dX4_become_16 : decode cX4_become 16 = .ok (.iconst 0, 1) := by decide +kernel
theorem dX4_become_17 : decode cX4_become 17 = .ok (.istore_n 2, 1) := by decide +kernel
theorem dX4_become_18 : decode cX4_become 18 = .ok (.iload_n 2, 1) := by decide +kernel
theorem dX4_become_19 : decode cX4_become 19 = .ok (.bipush 10, 2) := by decide +kernel
theorem dX4_become_21 : decode cX4_become 21 = .ok (.if_icmp .ge 24, 3) := by decide +kernel
theorem dX4_become_24 : decode cX4_become 24 = .ok (.aload_n 0, 1) := by decide +kernel
theorem dX4_become_25 : decode cX4_become 25 = .ok (.getfield 17, 3) := by decide +kernel
theorem dX4_become_28 : decode cX4_become 28 = .ok (.iload_n 2, 1) := by decide +kernel
theorem dX4_become_29 : decode cX4_become 29 = .ok (.aaload, 1) := by decide +kernel
theorem dX4_become_30 : decode cX4_become 30 = .ok (.aload_n 1, 1) := by decide +kernel
theorem dX4_become_31 : decode cX4_become 31 = .ok (.getfield 17, 3) := by decide +kernel
theorem dX4_become_34 : decode cX4_become 34 = .ok (.iload_n 2, 1) := by decide +kernel
theorem dX4_become_35 : decode cX4_become 35 = .ok (.aaload, 1) := by decide +kernel
theorem dX4_become_36 : decode cX4_become 36 = .ok (.invokevirtual 70, 3) := by decide +kernel
theorem dX4_become_39 : decode cX4_become 39 = .ok (.iinc 2 1, 3) := by decide +kernel
theorem dX4_become_42 : decode cX4_become 42 = .ok (.goto (-24), 3) := by decide +kernel
theorem dX4_become_45 : decode cX4_become 45 = .ok (.aload_n 0, 1) := by decide +kernel
theorem dX4_become_46 : decode cX4_become 46 = .ok (.aload_n 1, 1) := by decide +kernel
theorem dX4_become_47 : decode cX4_become 47 = .ok (.getfield 58, 3) := by decide +kernel
theorem dX4_become_50 : decode cX4_become 50 = .ok (.putfield 58, 3) := by decide +kernel
theorem dX4_become_53 : decode cX4_become 53 = .ok (.iconst 0, 1) := by decide +kernel
theorem dX4_become_54 : decode cX4_become 54 = .ok (.istore_n 2, 1) := by decide +kernel
theorem dX4_become_55 : decode cX4_become 55 = .ok (.iload_n 2, 1) := by decide +kernel
theorem dX4_become_56 : decode cX4_become 56 = .ok (.bipush 6, 2) := by decide +kernel
theorem dX4_become_58 : decode cX4_become 58 = .ok (.if_icmp .ge 24, 3) := by decide +kernel
theorem dX4_become_61 : decode cX4_become 61 = .ok (.aload_n 0, 1) := by decide +kernel
theorem dX4_become_62 : decode cX4_become 62 = .ok (.getfield 23, 3) := by decide +kernel
theorem dX4_become_65 : decode cX4_become 65 = .ok (.iload_n 2, 1) := by decide +kernel
theorem dX4_become_66 : decode cX4_become 66 = .ok (.aaload, 1) := by decide +kernel
theorem dX4_become_67 : decode cX4_become 67 = .ok (.aload_n 1, 1) := by decide +kernel
theorem dX4_become_68 : decode cX4_become 68 = .ok (.getfield 23, 3) := by decide +kernel
theorem dX4_become_71 : decode cX4_become 71 = .ok (.iload_n 2, 1) := by decide +kernel
theorem dX4_become_72 : decode cX4_become 72 = .ok (.aaload, 1) := by decide +kernel
theorem dX4_become_73 : decode cX4_become 73 = .ok (.invokevirtual 74, 3) := by decide +kernel
theorem dX4_become_76 : decode cX4_become 76 = .ok (.iinc 2 1, 3) := by decide +kernel
theorem dX4_become_79 : decode cX4_become 79 = .ok (.goto (-24), 3) := by decide +kernel
theorem dX4_become_82 : decode cX4_become 82 = .ok (.aload_n 1, 1) := by decide +kernel
theorem dX4_become_83 : decode cX4_become 83 = .ok (.getfield 27, 3) := by decide +kernel
theorem dX4_become_86 : decode cX4_become 86 = .ok (.iconst 0, 1) := by decide +kernel
theorem dX4_become_87 : decode cX4_become 87 = .ok (.aload_n 0, 1) := by decide +kernel
theorem dX4_become_88 : decode cX4_become 88 = .ok (.getfield 27, 3) := by decide +kernel
theorem dX4_become_91 : decode cX4_become 91 = .ok (.iconst 0, 1) := by decide +kernel
theorem dX4_become_92 : decode cX4_become 92 = .ok (.aload_n 0, 1) := by decide +kernel
theorem dX4_become_93 : decode cX4_become 93 = .ok (.getfield 27, 3) := by decide +kernel
theorem dX4_become_96 : decode cX4_become 96 = .ok (.arraylength, 1) := by decide +kernel
theorem dX4_become_97 : decode cX4_become 97 = .ok (.invokestatic 77, 3) := by decide +kernel
theorem dX4_become_100 : decode cX4_become 100 = .ok (.aload_n 0, 1) := by decide +kernel
theorem dX4_become_101 : decode cX4_become 101 = .ok (.aload_n 1, 1) := by decide +kernel
theorem dX4_become_102 : decode cX4_become 102 = .ok (.getfield 61, 3) := by decide +kernel
theorem dX4_become_105 : decode cX4_become 105 = .ok (.putfield 61, 3) := by decide +kernel
theorem dX4_become_108 : decode cX4_become 108 = .ok (.aload_n 1, 1) := by decide +kernel
theorem dX4_become_109 : decode cX4_become 109 = .ok (.getfield 31, 3) := by decide +kernel
theorem dX4_become_112 : decode cX4_become 112 = .ok (.iconst 0, 1) := by decide +kernel
theorem dX4_become_113 : decode cX4_become 113 = .ok (.aload_n 0, 1) := by decide +kernel
theorem dX4_become_114 : decode cX4_become 114 = .ok (.getfield 31, 3) := by decide +kernel
theorem dX4_become_117 : decode cX4_become 117 = .ok (.iconst 0, 1) := by decide +kernel
theorem dX4_become_118 : decode cX4_become 118 = .ok (.bipush 12, 2) := by decide +kernel
theorem dX4_become_120 : decode cX4_become 120 = .ok (.invokestatic 77, 3) := by decide +kernel
theorem dX4_become_123 : decode cX4_become 123 = .ok (.aload_n 1, 1) := by decide +kernel
theorem dX4_become_124 : decode cX4_become 124 = .ok (.getfield 34, 3) := by decide +kernel
theorem dX4_become_127 : decode cX4_become 127 = .ok (.iconst 0, 1) := by decide +kernel
theorem dX4_become_128 : decode cX4_become 128 = .ok (.aload_n 0, 1) := by decide +kernel
theorem dX4_become_129 : decode cX4_become 129 = .ok (.getfield 34, 3) := by decide +kernel
theorem dX4_become_132 : decode cX4_become 132 = .ok (.iconst 0, 1) := by decide +kernel
theorem dX4_become_133 : decode cX4_become 133 = .ok (.bipush 12, 2) := by decide +kernel
theorem dX4_become_135 : decode cX4_become 135 = .ok (.invokestatic 77, 3) := by decide +kernel
theorem dX4_become_138 : decode cX4_become 138 = .ok (.aload_n 0, 1) := by decide +kernel
theorem dX4_become_139 : decode cX4_become 139 = .ok (.aload_n 1, 1) := by decide +kernel
theorem dX4_become_140 : decode cX4_become 140 = .ok (.getfield 64, 3) := by decide +kernel
theorem dX4_become_143 : decode cX4_become 143 = .ok (.putfield 64, 3) := by decide +kernel
theorem dX4_become_146 : decode cX4_become 146 = .ok (.aload_n 1, 1) := by decide +kernel
theorem dX4_become_147 : decode cX4_become 147 = .ok (.getfield 37, 3) := by decide +kernel
theorem dX4_become_150 : decode cX4_become 150 = .ok (.iconst 0, 1) := by decide +kernel
theorem dX4_become_151 : decode cX4_become 151 = .ok (.aload_n 0, 1) := by decide +kernel
theorem dX4_become_152 : decode cX4_become 152 = .ok (.getfield 37, 3) := by decide +kernel
theorem dX4_become_155 : decode cX4_become 155 = .ok (.iconst 0, 1) := by decide +kernel
theorem dX4_become_156 : decode cX4_become 156 = .ok (.aload_n 0, 1) := by decide +kernel
theorem dX4_become_157 : decode cX4_become 157 = .ok (.getfield 37, 3) := by decide +kernel
theorem dX4_become_160 : decode cX4_become 160 = .ok (.arraylength, 1) := by decide +kernel
theorem dX4_become_161 : decode cX4_become 161 = .ok (.invokestatic 77, 3) := by decide +kernel
theorem dX4_become_164 : decode cX4_become 164 = .ok (.aload_n 0, 1) := by decide +kernel
theorem dX4_become_165 : decode cX4_become 165 = .ok (.getfield 43, 3) := by decide +kernel
theorem dX4_become_168 : decode cX4_become 168 = .ok (.aload_n 1, 1) := by decide +kernel
theorem dX4_become_169 : decode cX4_become 169 = .ok (.getfield 43, 3) := by decide +kernel
theorem dX4_become_172 : decode cX4_become 172 = .ok (.invokevirtual 83, 3) := by decide +kernel
theorem dX4_become_175 : decode cX4_become 175 = .ok (.return_, 1) := by decide +kernel
theorem dX4_copyAt_0 : decode cX4_copyAt 0 = .ok (.iload_n 1, 1) := by decide +kernel
theorem dX4_copyAt_1 : decode cX4_copyAt 1 = .ok (.ifCond .lt 26, 3) := by decide +kernel
theorem dX4_copyAt_4 : decode cX4_copyAt 4 = .ok (.iload_n 1, 1) := by decide +kernel
theorem dX4_copyAt_5 : decode cX4_copyAt 5 = .ok (.aload_n 0, 1) := by decide +kernel
theorem dX4_copyAt_6 : decode cX4_copyAt 6 = .ok (.getfield 55, 3) := by decide +kernel
theorem dX4_copyAt_9 : decode cX4_copyAt 9 = .ok (.if_icmp .ge 18, 3) := by decide +kernel
theorem dX4_copyAt_12 : decode cX4_copyAt 12 = .ok (.iload_n 1, 1) := by decide +kernel
theorem dX4_copyAt_13 : decode cX4_copyAt 13 = .ok (.bipush 10, 2) := by decide +kernel
theorem dX4_copyAt_15 : decode cX4_copyAt 15 = .ok (.if_icmp .ge 12, 3) := by decide +kernel
theorem dX4_copyAt_18 : decode cX4_copyAt 18 = .ok (.aload_n 0, 1) := by decide +kernel
theorem dX4_copyAt_19 : decode cX4_copyAt 19 = .ok (.getfield 17, 3) := by decide +kernel
theorem dX4_copyAt_22 : decode cX4_copyAt 22 = .ok (.iload_n 1, 1) := by decide +kernel
theorem dX4_copyAt_23 : decode cX4_copyAt 23 = .ok (.aaload, 1) := by decide +kernel
theorem dX4_copyAt_24 : decode cX4_copyAt 24 = .ok (.goto 4, 3) := by decide +kernel
theorem dX4_copyAt_27 : decode cX4_copyAt 27 = .ok (.aconst_null, 1) := by decide +kernel
theorem dX4_copyAt_28 : decode cX4_copyAt 28 = .ok (.areturn, 1) := by decide +kernel
theorem dX4_wholeAt_0 : decode cX4_wholeAt 0 = .ok (.aload_n 0, 1) := by decide +kernel
theorem dX4_wholeAt_1 : decode cX4_wholeAt 1 = .ok (.iload_n 1, 1) := by decide +kernel
theorem dX4_wholeAt_2 : decode cX4_wholeAt 2 = .ok (.invokevirtual 86, 3) := by decide +kernel
theorem dX4_wholeAt_5 : decode cX4_wholeAt 5 = .ok (.astore_n 2, 1) := by decide +kernel
theorem dX4_wholeAt_6 : decode cX4_wholeAt 6 = .ok (.aload_n 2, 1) := by decide +kernel
theorem dX4_wholeAt_7 : decode cX4_wholeAt 7 = .ok (.ifnull 18, 3) := by decide +kernel
theorem dX4_wholeAt_10 : decode cX4_wholeAt 10 = .ok (.aload_n 2, 1) := by decide +kernel
theorem dX4_wholeAt_11 : decode cX4_wholeAt 11 = .ok (.getfield 90, 3) := by decide +kernel
theorem dX4_wholeAt_14 : decode cX4_wholeAt 14 = .ok (.aload_n 0, 1) := by decide +kernel
theorem dX4_wholeAt_15 : decode cX4_wholeAt 15 = .ok (.getfield 9, 3) := by decide +kernel
theorem dX4_wholeAt_18 : decode cX4_wholeAt 18 = .ok (.if_icmp .ne 7, 3) := by decide +kernel
theorem dX4_wholeAt_21 : decode cX4_wholeAt 21 = .ok (.aload_n 2, 1) := by decide +kernel
theorem dX4_wholeAt_22 : decode cX4_wholeAt 22 = .ok (.goto 4, 3) := by decide +kernel
theorem dX4_wholeAt_25 : decode cX4_wholeAt 25 = .ok (.aconst_null, 1) := by decide +kernel
theorem dX4_wholeAt_26 : decode cX4_wholeAt 26 = .ok (.areturn, 1) := by decide +kernel
theorem dX4_nextCopy_0 : decode cX4_nextCopy 0 = .ok (.aload_n 0, 1) := by decide +kernel
theorem dX4_nextCopy_1 : decode cX4_nextCopy 1 = .ok (.getfield 55, 3) := by decide +kernel
theorem dX4_nextCopy_4 : decode cX4_nextCopy 4 = .ok (.bipush 10, 2) := by decide +kernel
theorem dX4_nextCopy_6 : decode cX4_nextCopy 6 = .ok (.if_icmp .lt 5, 3) := by decide +kernel
theorem dX4_nextCopy_9 : decode cX4_nextCopy 9 = .ok (.aconst_null, 1) := by decide +kernel
theorem dX4_nextCopy_10 : decode cX4_nextCopy 10 = .ok (.areturn, 1) := by decide +kernel
theorem dX4_nextCopy_11 : decode cX4_nextCopy 11 = .ok (.aload_n 0, 1) := by decide +kernel
theorem dX4_nextCopy_12 : decode cX4_nextCopy 12 = .ok (.getfield 17, 3) := by decide +kernel
theorem dX4_nextCopy_15 : decode cX4_nextCopy 15 = .ok (.aload_n 0, 1) := by decide +kernel
theorem dX4_nextCopy_16 : decode cX4_nextCopy 16 = .ok (.getfield 55, 3) := by decide +kernel
theorem dX4_nextCopy_19 : decode cX4_nextCopy 19 = .ok (.aaload, 1) := by decide +kernel
theorem dX4_nextCopy_20 : decode cX4_nextCopy 20 = .ok (.invokevirtual 93, 3) := by decide +kernel
theorem dX4_nextCopy_23 : decode cX4_nextCopy 23 = .ok (.aload_n 0, 1) := by decide +kernel
theorem dX4_nextCopy_24 : decode cX4_nextCopy 24 = .ok (.getfield 17, 3) := by decide +kernel
theorem dX4_nextCopy_27 : decode cX4_nextCopy 27 = .ok (.aload_n 0, 1) := by decide +kernel
theorem dX4_nextCopy_28 : decode cX4_nextCopy 28 = .ok (.getfield 55, 3) := by decide +kernel
theorem dX4_nextCopy_31 : decode cX4_nextCopy 31 = .ok (.aaload, 1) := by decide +kernel
theorem dX4_nextCopy_32 : decode cX4_nextCopy 32 = .ok (.areturn, 1) := by decide +kernel
theorem dX4_deskAt_0 : decode cX4_deskAt 0 = .ok (.iload_n 1, 1) := by decide +kernel
theorem dX4_deskAt_1 : decode cX4_deskAt 1 = .ok (.ifCond .lt 26, 3) := by decide +kernel
theorem dX4_deskAt_4 : decode cX4_deskAt 4 = .ok (.iload_n 1, 1) := by decide +kernel
theorem dX4_deskAt_5 : decode cX4_deskAt 5 = .ok (.aload_n 0, 1) := by decide +kernel
theorem dX4_deskAt_6 : decode cX4_deskAt 6 = .ok (.getfield 58, 3) := by decide +kernel
theorem dX4_deskAt_9 : decode cX4_deskAt 9 = .ok (.if_icmp .ge 18, 3) := by decide +kernel
theorem dX4_deskAt_12 : decode cX4_deskAt 12 = .ok (.iload_n 1, 1) := by decide +kernel
theorem dX4_deskAt_13 : decode cX4_deskAt 13 = .ok (.bipush 6, 2) := by decide +kernel
theorem dX4_deskAt_15 : decode cX4_deskAt 15 = .ok (.if_icmp .ge 12, 3) := by decide +kernel
theorem dX4_deskAt_18 : decode cX4_deskAt 18 = .ok (.aload_n 0, 1) := by decide +kernel
theorem dX4_deskAt_19 : decode cX4_deskAt 19 = .ok (.getfield 23, 3) := by decide +kernel
theorem dX4_deskAt_22 : decode cX4_deskAt 22 = .ok (.iload_n 1, 1) := by decide +kernel
theorem dX4_deskAt_23 : decode cX4_deskAt 23 = .ok (.aaload, 1) := by decide +kernel
theorem dX4_deskAt_24 : decode cX4_deskAt 24 = .ok (.goto 4, 3) := by decide +kernel
theorem dX4_deskAt_27 : decode cX4_deskAt 27 = .ok (.aconst_null, 1) := by decide +kernel
theorem dX4_deskAt_28 : decode cX4_deskAt 28 = .ok (.areturn, 1) := by decide +kernel
theorem dX4_nextDesk_0 : decode cX4_nextDesk 0 = .ok (.aload_n 0, 1) := by decide +kernel
theorem dX4_nextDesk_1 : decode cX4_nextDesk 1 = .ok (.getfield 58, 3) := by decide +kernel
theorem dX4_nextDesk_4 : decode cX4_nextDesk 4 = .ok (.bipush 6, 2) := by decide +kernel
theorem dX4_nextDesk_6 : decode cX4_nextDesk 6 = .ok (.if_icmp .ge 15, 3) := by decide +kernel
theorem dX4_nextDesk_9 : decode cX4_nextDesk 9 = .ok (.aload_n 0, 1) := by decide +kernel
theorem dX4_nextDesk_10 : decode cX4_nextDesk 10 = .ok (.getfield 23, 3) := by decide +kernel
theorem dX4_nextDesk_13 : decode cX4_nextDesk 13 = .ok (.aload_n 0, 1) := by decide +kernel
theorem dX4_nextDesk_14 : decode cX4_nextDesk 14 = .ok (.getfield 58, 3) := by decide +kernel
theorem dX4_nextDesk_17 : decode cX4_nextDesk 17 = .ok (.aaload, 1) := by decide +kernel
theorem dX4_nextDesk_18 : decode cX4_nextDesk 18 = .ok (.goto 4, 3) := by decide +kernel
theorem dX4_nextDesk_21 : decode cX4_nextDesk 21 = .ok (.aconst_null, 1) := by decide +kernel
theorem dX4_nextDesk_22 : decode cX4_nextDesk 22 = .ok (.areturn, 1) := by decide +kernel
theorem dX4_copyNamed_0 : decode cX4_copyNamed 0 = .ok (.iconst 0, 1) := by decide +kernel
theorem dX4_copyNamed_1 : decode cX4_copyNamed 1 = .ok (.istore_n 3, 1) := by decide +kernel
theorem dX4_copyNamed_2 : decode cX4_copyNamed 2 = .ok (.iload_n 3, 1) := by decide +kernel
theorem dX4_copyNamed_3 : decode cX4_copyNamed 3 = .ok (.aload_n 0, 1) := by decide +kernel
theorem dX4_copyNamed_4 : decode cX4_copyNamed 4 = .ok (.getfield 55, 3) := by decide +kernel
theorem dX4_copyNamed_7 : decode cX4_copyNamed 7 = .ok (.if_icmp .ge 31, 3) := by decide +kernel
theorem dX4_copyNamed_10 : decode cX4_copyNamed 10 = .ok (.iload_n 3, 1) := by decide +kernel
theorem dX4_copyNamed_11 : decode cX4_copyNamed 11 = .ok (.bipush 10, 2) := by decide +kernel
theorem dX4_copyNamed_13 : decode cX4_copyNamed 13 = .ok (.if_icmp .ge 25, 3) := by decide +kernel
theorem dX4_copyNamed_16 : decode cX4_copyNamed 16 = .ok (.aload_n 0, 1) := by decide +kernel
theorem dX4_copyNamed_17 : decode cX4_copyNamed 17 = .ok (.getfield 17, 3) := by decide +kernel
theorem dX4_copyNamed_20 : decode cX4_copyNamed 20 = .ok (.iload_n 3, 1) := by decide +kernel
theorem dX4_copyNamed_21 : decode cX4_copyNamed 21 = .ok (.aaload, 1) := by decide +kernel
theorem dX4_copyNamed_22 : decode cX4_copyNamed 22 = .ok (.getfield 94, 3) := by decide +kernel
theorem dX4_copyNamed_25 : decode cX4_copyNamed 25 = .ok (.lload_n 1, 1) := by decide +kernel
theorem dX4_copyNamed_26 : decode cX4_copyNamed 26 = .ok (.lcmp, 1) := by decide +kernel
theorem dX4_copyNamed_27 : decode cX4_copyNamed 27 = .ok (.ifCond .ne 5, 3) := by decide +kernel
theorem dX4_copyNamed_30 : decode cX4_copyNamed 30 = .ok (.iload_n 3, 1) := by decide +kernel
theorem dX4_copyNamed_31 : decode cX4_copyNamed 31 = .ok (.ireturn, 1) := by decide +kernel
theorem dX4_copyNamed_32 : decode cX4_copyNamed 32 = .ok (.iinc 3 1, 3) := by decide +kernel
theorem dX4_copyNamed_35 : decode cX4_copyNamed 35 = .ok (.goto (-33), 3) := by decide +kernel
theorem dX4_copyNamed_38 : decode cX4_copyNamed 38 = .ok (.iconst (-1), 1) := by decide +kernel
theorem dX4_copyNamed_39 : decode cX4_copyNamed 39 = .ok (.ireturn, 1) := by decide +kernel
theorem dX4_isNamed_0 : decode cX4_isNamed 0 = .ok (.iconst 0, 1) := by decide +kernel
theorem dX4_isNamed_1 : decode cX4_isNamed 1 = .ok (.istore_n 3, 1) := by decide +kernel
theorem dX4_isNamed_2 : decode cX4_isNamed 2 = .ok (.iload_n 3, 1) := by decide +kernel
theorem dX4_isNamed_3 : decode cX4_isNamed 3 = .ok (.aload_n 0, 1) := by decide +kernel
theorem dX4_isNamed_4 : decode cX4_isNamed 4 = .ok (.getfield 58, 3) := by decide +kernel
theorem dX4_isNamed_7 : decode cX4_isNamed 7 = .ok (.if_icmp .ge 31, 3) := by decide +kernel
theorem dX4_isNamed_10 : decode cX4_isNamed 10 = .ok (.iload_n 3, 1) := by decide +kernel
theorem dX4_isNamed_11 : decode cX4_isNamed 11 = .ok (.bipush 6, 2) := by decide +kernel
theorem dX4_isNamed_13 : decode cX4_isNamed 13 = .ok (.if_icmp .ge 25, 3) := by decide +kernel
theorem dX4_isNamed_16 : decode cX4_isNamed 16 = .ok (.aload_n 0, 1) := by decide +kernel
theorem dX4_isNamed_17 : decode cX4_isNamed 17 = .ok (.getfield 23, 3) := by decide +kernel
theorem dX4_isNamed_20 : decode cX4_isNamed 20 = .ok (.iload_n 3, 1) := by decide +kernel
theorem dX4_isNamed_21 : decode cX4_isNamed 21 = .ok (.aaload, 1) := by decide +kernel
theorem dX4_isNamed_22 : decode cX4_isNamed 22 = .ok (.getfield 98, 3) := by decide +kernel
theorem dX4_isNamed_25 : decode cX4_isNamed 25 = .ok (.lload_n 1, 1) := by decide +kernel
theorem dX4_isNamed_26 : decode cX4_isNamed 26 = .ok (.lcmp, 1) := by decide +kernel
theorem dX4_isNamed_27 : decode cX4_isNamed 27 = .ok (.ifCond .ne 5, 3) := by decide +kernel
theorem dX4_isNamed_30 : decode cX4_isNamed 30 = .ok (.iconst 1, 1) := by decide +kernel
theorem dX4_isNamed_31 : decode cX4_isNamed 31 = .ok (.ireturn, 1) := by decide +kernel
theorem dX4_isNamed_32 : decode cX4_isNamed 32 = .ok (.iinc 3 1, 3) := by decide +kernel
theorem dX4_isNamed_35 : decode cX4_isNamed 35 = .ok (.goto (-33), 3) := by decide +kernel
theorem dX4_isNamed_38 : decode cX4_isNamed 38 = .ok (.aload_n 0, 1) := by decide +kernel
theorem dX4_isNamed_39 : decode cX4_isNamed 39 = .ok (.lload_n 1, 1) := by decide +kernel
theorem dX4_isNamed_40 : decode cX4_isNamed 40 = .ok (.invokevirtual 99, 3) := by decide +kernel
theorem dX4_isNamed_43 : decode cX4_isNamed 43 = .ok (.iconst (-1), 1) := by decide +kernel
theorem dX4_isNamed_44 : decode cX4_isNamed 44 = .ok (.if_icmp .eq 7, 3) := by decide +kernel
theorem dX4_isNamed_47 : decode cX4_isNamed 47 = .ok (.iconst 1, 1) := by decide +kernel
theorem dX4_isNamed_48 : decode cX4_isNamed 48 = .ok (.goto 4, 3) := by decide +kernel
theorem dX4_isNamed_51 : decode cX4_isNamed 51 = .ok (.iconst 0, 1) := by decide +kernel
theorem dX4_isNamed_52 : decode cX4_isNamed 52 = .ok (.ireturn, 1) := by decide +kernel
theorem dX4_hasSense_0 : decode cX4_hasSense 0 = .ok (.iconst 0, 1) := by decide +kernel
theorem dX4_hasSense_1 : decode cX4_hasSense 1 = .ok (.istore_n 3, 1) := by decide +kernel
theorem dX4_hasSense_2 : decode cX4_hasSense 2 = .ok (.iload_n 3, 1) := by decide +kernel
theorem dX4_hasSense_3 : decode cX4_hasSense 3 = .ok (.aload_n 0, 1) := by decide +kernel
theorem dX4_hasSense_4 : decode cX4_hasSense 4 = .ok (.getfield 61, 3) := by decide +kernel
theorem dX4_hasSense_7 : decode cX4_hasSense 7 = .ok (.if_icmp .ge 37, 3) := by decide +kernel
theorem dX4_hasSense_10 : decode cX4_hasSense 10 = .ok (.iload_n 3, 1) := by decide +kernel
theorem dX4_hasSense_11 : decode cX4_hasSense 11 = .ok (.bipush 12, 2) := by decide +kernel
theorem dX4_hasSense_13 : decode cX4_hasSense 13 = .ok (.if_icmp .ge 31, 3) := by decide +kernel
theorem dX4_hasSense_16 : decode cX4_hasSense 16 = .ok (.aload_n 0, 1) := by decide +kernel
theorem dX4_hasSense_17 : decode cX4_hasSense 17 = .ok (.getfield 31, 3) := by decide +kernel
theorem dX4_hasSense_20 : decode cX4_hasSense 20 = .ok (.iload_n 3, 1) := by decide +kernel
theorem dX4_hasSense_21 : decode cX4_hasSense 21 = .ok (.iaload, 1) := by decide +kernel
theorem dX4_hasSense_22 : decode cX4_hasSense 22 = .ok (.iload_n 1, 1) := by decide +kernel
theorem dX4_hasSense_23 : decode cX4_hasSense 23 = .ok (.if_icmp .ne 15, 3) := by decide +kernel
theorem dX4_hasSense_26 : decode cX4_hasSense 26 = .ok (.aload_n 0, 1) := by decide +kernel
theorem dX4_hasSense_27 : decode cX4_hasSense 27 = .ok (.getfield 34, 3) := by decide +kernel
theorem dX4_hasSense_30 : decode cX4_hasSense 30 = .ok (.iload_n 3, 1) := by decide +kernel
theorem dX4_hasSense_31 : decode cX4_hasSense 31 = .ok (.iaload, 1) := by decide +kernel
theorem dX4_hasSense_32 : decode cX4_hasSense 32 = .ok (.iload_n 2, 1) := by decide +kernel
theorem dX4_hasSense_33 : decode cX4_hasSense 33 = .ok (.if_icmp .ne 5, 3) := by decide +kernel
theorem dX4_hasSense_36 : decode cX4_hasSense 36 = .ok (.iconst 1, 1) := by decide +kernel
theorem dX4_hasSense_37 : decode cX4_hasSense 37 = .ok (.ireturn, 1) := by decide +kernel
theorem dX4_hasSense_38 : decode cX4_hasSense 38 = .ok (.iinc 3 1, 3) := by decide +kernel
theorem dX4_hasSense_41 : decode cX4_hasSense 41 = .ok (.goto (-39), 3) := by decide +kernel
theorem dX4_hasSense_44 : decode cX4_hasSense 44 = .ok (.iconst 0, 1) := by decide +kernel
theorem dX4_hasSense_45 : decode cX4_hasSense 45 = .ok (.ireturn, 1) := by decide +kernel
theorem dX4_putSense_0 : decode cX4_putSense 0 = .ok (.aload_n 0, 1) := by decide +kernel
theorem dX4_putSense_1 : decode cX4_putSense 1 = .ok (.getfield 61, 3) := by decide +kernel
theorem dX4_putSense_4 : decode cX4_putSense 4 = .ok (.bipush 12, 2) := by decide +kernel
theorem dX4_putSense_6 : decode cX4_putSense 6 = .ok (.if_icmp .ge 33, 3) := by decide +kernel
theorem dX4_putSense_9 : decode cX4_putSense 9 = .ok (.aload_n 0, 1) := by decide +kernel
theorem dX4_putSense_10 : decode cX4_putSense 10 = .ok (.getfield 31, 3) := by decide +kernel
theorem dX4_putSense_13 : decode cX4_putSense 13 = .ok (.aload_n 0, 1) := by decide +kernel
theorem dX4_putSense_14 : decode cX4_putSense 14 = .ok (.getfield 61, 3) := by decide +kernel
theorem dX4_putSense_17 : decode cX4_putSense 17 = .ok (.iload_n 1, 1) := by decide +kernel
theorem dX4_putSense_18 : decode cX4_putSense 18 = .ok (.iastore, 1) := by decide +kernel
theorem dX4_putSense_19 : decode cX4_putSense 19 = .ok (.aload_n 0, 1) := by decide +kernel
theorem dX4_putSense_20 : decode cX4_putSense 20 = .ok (.getfield 34, 3) := by decide +kernel
theorem dX4_putSense_23 : decode cX4_putSense 23 = .ok (.aload_n 0, 1) := by decide +kernel
theorem dX4_putSense_24 : decode cX4_putSense 24 = .ok (.getfield 61, 3) := by decide +kernel
theorem dX4_putSense_27 : decode cX4_putSense 27 = .ok (.iload_n 2, 1) := by decide +kernel
theorem dX4_putSense_28 : decode cX4_putSense 28 = .ok (.iastore, 1) := by decide +kernel
theorem dX4_putSense_29 : decode cX4_putSense 29 = .ok (.aload_n 0, 1) := by decide +kernel
theorem dX4_putSense_30 : decode cX4_putSense 30 = .ok (.dup, 1) := by decide +kernel
theorem dX4_putSense_31 : decode cX4_putSense 31 = .ok (.getfield 61, 3) := by decide +kernel
theorem dX4_putSense_34 : decode cX4_putSense 34 = .ok (.iconst 1, 1) := by decide +kernel
theorem dX4_putSense_35 : decode cX4_putSense 35 = .ok (.iadd, 1) := by decide +kernel
theorem dX4_putSense_36 : decode cX4_putSense 36 = .ok (.putfield 61, 3) := by decide +kernel
theorem dX4_putSense_39 : decode cX4_putSense 39 = .ok (.return_, 1) := by decide +kernel
theorem dX4_gainOf_0 : decode cX4_gainOf 0 = .ok (.iload_n 1, 1) := by decide +kernel
theorem dX4_gainOf_1 : decode cX4_gainOf 1 = .ok (.bipush 7, 2) := by decide +kernel
theorem dX4_gainOf_3 : decode cX4_gainOf 3 = .ok (.imul, 1) := by decide +kernel
theorem dX4_gainOf_4 : decode cX4_gainOf 4 = .ok (.iload_n 2, 1) := by decide +kernel
theorem dX4_gainOf_5 : decode cX4_gainOf 5 = .ok (.iadd, 1) := by decide +kernel
theorem dX4_gainOf_6 : decode cX4_gainOf 6 = .ok (.istore_n 3, 1) := by decide +kernel
theorem dX4_gainOf_7 : decode cX4_gainOf 7 = .ok (.iload_n 3, 1) := by decide +kernel
theorem dX4_gainOf_8 : decode cX4_gainOf 8 = .ok (.ifCond .lt 21, 3) := by decide +kernel
theorem dX4_gainOf_11 : decode cX4_gainOf 11 = .ok (.iload_n 3, 1) := by decide +kernel
theorem dX4_gainOf_12 : decode cX4_gainOf 12 = .ok (.aload_n 0, 1) := by decide +kernel
theorem dX4_gainOf_13 : decode cX4_gainOf 13 = .ok (.getfield 37, 3) := by decide +kernel
theorem dX4_gainOf_16 : decode cX4_gainOf 16 = .ok (.arraylength, 1) := by decide +kernel
theorem dX4_gainOf_17 : decode cX4_gainOf 17 = .ok (.if_icmp .ge 12, 3) := by decide +kernel
theorem dX4_gainOf_20 : decode cX4_gainOf 20 = .ok (.aload_n 0, 1) := by decide +kernel
theorem dX4_gainOf_21 : decode cX4_gainOf 21 = .ok (.getfield 37, 3) := by decide +kernel
theorem dX4_gainOf_24 : decode cX4_gainOf 24 = .ok (.iload_n 3, 1) := by decide +kernel
theorem dX4_gainOf_25 : decode cX4_gainOf 25 = .ok (.iaload, 1) := by decide +kernel
theorem dX4_gainOf_26 : decode cX4_gainOf 26 = .ok (.goto 4, 3) := by decide +kernel
theorem dX4_gainOf_29 : decode cX4_gainOf 29 = .ok (.iconst 0, 1) := by decide +kernel
theorem dX4_gainOf_30 : decode cX4_gainOf 30 = .ok (.ireturn, 1) := by decide +kernel
theorem dX4_putRhyme_0 : decode cX4_putRhyme 0 = .ok (.iload_n 1, 1) := by decide +kernel
theorem dX4_putRhyme_1 : decode cX4_putRhyme 1 = .ok (.bipush 7, 2) := by decide +kernel
theorem dX4_putRhyme_3 : decode cX4_putRhyme 3 = .ok (.imul, 1) := by decide +kernel
theorem dX4_putRhyme_4 : decode cX4_putRhyme 4 = .ok (.iload_n 2, 1) := by decide +kernel
theorem dX4_putRhyme_5 : decode cX4_putRhyme 5 = .ok (.iadd, 1) := by decide +kernel
theorem dX4_putRhyme_6 : decode cX4_putRhyme 6 = .ok (.istore 4, 2) := by decide +kernel
theorem dX4_putRhyme_8 : decode cX4_putRhyme 8 = .ok (.iload 4, 2) := by decide +kernel
theorem dX4_putRhyme_10 : decode cX4_putRhyme 10 = .ok (.ifCond .lt 31, 3) := by decide +kernel
theorem dX4_putRhyme_13 : decode cX4_putRhyme 13 = .ok (.iload 4, 2) := by decide +kernel
theorem dX4_putRhyme_15 : decode cX4_putRhyme 15 = .ok (.aload_n 0, 1) := by decide +kernel
theorem dX4_putRhyme_16 : decode cX4_putRhyme 16 = .ok (.getfield 37, 3) := by decide +kernel
theorem dX4_putRhyme_19 : decode cX4_putRhyme 19 = .ok (.arraylength, 1) := by decide +kernel
theorem dX4_putRhyme_20 : decode cX4_putRhyme 20 = .ok (.if_icmp .ge 21, 3) := by decide +kernel
theorem dX4_putRhyme_23 : decode cX4_putRhyme 23 = .ok (.aload_n 0, 1) := by decide +kernel
theorem dX4_putRhyme_24 : decode cX4_putRhyme 24 = .ok (.getfield 37, 3) := by decide +kernel
theorem dX4_putRhyme_27 : decode cX4_putRhyme 27 = .ok (.iload 4, 2) := by decide +kernel
theorem dX4_putRhyme_29 : decode cX4_putRhyme 29 = .ok (.iload_n 3, 1) := by decide +kernel
theorem dX4_putRhyme_30 : decode cX4_putRhyme 30 = .ok (.iastore, 1) := by decide +kernel
theorem dX4_putRhyme_31 : decode cX4_putRhyme 31 = .ok (.aload_n 0, 1) := by decide +kernel
theorem dX4_putRhyme_32 : decode cX4_putRhyme 32 = .ok (.dup, 1) := by decide +kernel
theorem dX4_putRhyme_33 : decode cX4_putRhyme 33 = .ok (.getfield 64, 3) := by decide +kernel
theorem dX4_putRhyme_36 : decode cX4_putRhyme 36 = .ok (.iconst 1, 1) := by decide +kernel
theorem dX4_putRhyme_37 : decode cX4_putRhyme 37 = .ok (.iadd, 1) := by decide +kernel
theorem dX4_putRhyme_38 : decode cX4_putRhyme 38 = .ok (.putfield 64, 3) := by decide +kernel
theorem dX4_putRhyme_41 : decode cX4_putRhyme 41 = .ok (.return_, 1) := by decide +kernel
theorem dX4_keepsSense_0 : decode cX4_keepsSense 0 = .ok (.iconst 0, 1) := by decide +kernel
theorem dX4_keepsSense_1 : decode cX4_keepsSense 1 = .ok (.istore_n 3, 1) := by decide +kernel
theorem dX4_keepsSense_2 : decode cX4_keepsSense 2 = .ok (.iload_n 3, 1) := by decide +kernel
theorem dX4_keepsSense_3 : decode cX4_keepsSense 3 = .ok (.aload_n 0, 1) := by decide +kernel
theorem dX4_keepsSense_4 : decode cX4_keepsSense 4 = .ok (.getfield 61, 3) := by decide +kernel
theorem dX4_keepsSense_7 : decode cX4_keepsSense 7 = .ok (.if_icmp .ge 84, 3) := by decide +kernel
theorem dX4_keepsSense_10 : decode cX4_keepsSense 10 = .ok (.iload_n 3, 1) := by decide +kernel
theorem dX4_keepsSense_11 : decode cX4_keepsSense 11 = .ok (.bipush 12, 2) := by decide +kernel
theorem dX4_keepsSense_13 : decode cX4_keepsSense 13 = .ok (.if_icmp .ge 78, 3) := by decide +kernel
theorem dX4_keepsSense_16 : decode cX4_keepsSense 16 = .ok (.aload_n 0, 1) := by decide +kernel
theorem dX4_keepsSense_17 : decode cX4_keepsSense 17 = .ok (.getfield 31, 3) := by decide +kernel
theorem dX4_keepsSense_20 : decode cX4_keepsSense 20 = .ok (.iload_n 3, 1) := by decide +kernel
theorem dX4_keepsSense_21 : decode cX4_keepsSense 21 = .ok (.iaload, 1) := by decide +kernel
theorem dX4_keepsSense_22 : decode cX4_keepsSense 22 = .ok (.aload_n 0, 1) := by decide +kernel
theorem dX4_keepsSense_23 : decode cX4_keepsSense 23 = .ok (.getfield 34, 3) := by decide +kernel
theorem dX4_keepsSense_26 : decode cX4_keepsSense 26 = .ok (.iload_n 3, 1) := by decide +kernel
theorem dX4_keepsSense_27 : decode cX4_keepsSense 27 = .ok (.iaload, 1) := by decide +kernel
theorem dX4_keepsSense_28 : decode cX4_keepsSense 28 = .ok (.invokestatic 103, 3) := by decide +kernel
theorem dX4_keepsSense_31 : decode cX4_keepsSense 31 = .ok (.istore 4, 2) := by decide +kernel
theorem dX4_keepsSense_33 : decode cX4_keepsSense 33 = .ok (.iload_n 1, 1) := by decide +kernel
theorem dX4_keepsSense_34 : decode cX4_keepsSense 34 = .ok (.iload 4, 2) := by decide +kernel
theorem dX4_keepsSense_36 : decode cX4_keepsSense 36 = .ok (.iand, 1) := by decide +kernel
theorem dX4_keepsSense_37 : decode cX4_keepsSense 37 = .ok (.ifCond .eq 7, 3) := by decide +kernel
theorem dX4_keepsSense_40 : decode cX4_keepsSense 40 = .ok (.iconst 1, 1) := by decide +kernel
theorem dX4_keepsSense_41 : decode cX4_keepsSense 41 = .ok (.goto 4, 3) := by decide +kernel
theorem dX4_keepsSense_44 : decode cX4_keepsSense 44 = .ok (.iconst 0, 1) := by decide +kernel
theorem dX4_keepsSense_45 : decode cX4_keepsSense 45 = .ok (.istore 5, 2) := by decide +kernel
theorem dX4_keepsSense_47 : decode cX4_keepsSense 47 = .ok (.aload_n 0, 1) := by decide +kernel
theorem dX4_keepsSense_48 : decode cX4_keepsSense 48 = .ok (.getfield 31, 3) := by decide +kernel
theorem dX4_keepsSense_51 : decode cX4_keepsSense 51 = .ok (.iload_n 3, 1) := by decide +kernel
theorem dX4_keepsSense_52 : decode cX4_keepsSense 52 = .ok (.iaload, 1) := by decide +kernel
theorem dX4_keepsSense_53 : decode cX4_keepsSense 53 = .ok (.aload_n 0, 1) := by decide +kernel
theorem dX4_keepsSense_54 : decode cX4_keepsSense 54 = .ok (.getfield 34, 3) := by decide +kernel
theorem dX4_keepsSense_57 : decode cX4_keepsSense 57 = .ok (.iload_n 3, 1) := by decide +kernel
theorem dX4_keepsSense_58 : decode cX4_keepsSense 58 = .ok (.iaload, 1) := by decide +kernel
theorem dX4_keepsSense_59 : decode cX4_keepsSense 59 = .ok (.if_icmp .le 7, 3) := by decide +kernel
theorem dX4_keepsSense_62 : decode cX4_keepsSense 62 = .ok (.iconst 1, 1) := by decide +kernel
theorem dX4_keepsSense_63 : decode cX4_keepsSense 63 = .ok (.goto 4, 3) := by decide +kernel
theorem dX4_keepsSense_66 : decode cX4_keepsSense 66 = .ok (.iconst 0, 1) := by decide +kernel
theorem dX4_keepsSense_67 : decode cX4_keepsSense 67 = .ok (.istore 6, 2) := by decide +kernel
theorem dX4_keepsSense_69 : decode cX4_keepsSense 69 = .ok (.iload_n 2, 1) := by decide +kernel
theorem dX4_keepsSense_70 : decode cX4_keepsSense 70 = .ok (.iload 4, 2) := by decide +kernel
theorem dX4_keepsSense_72 : decode cX4_keepsSense 72 = .ok (.iand, 1) := by decide +kernel
theorem dX4_keepsSense_73 : decode cX4_keepsSense 73 = .ok (.ifCond .eq 12, 3) := by decide +kernel
theorem dX4_keepsSense_76 : decode cX4_keepsSense 76 = .ok (.iload 5, 2) := by decide +kernel
theorem dX4_keepsSense_78 : decode cX4_keepsSense 78 = .ok (.iload 6, 2) := by decide +kernel
theorem dX4_keepsSense_80 : decode cX4_keepsSense 80 = .ok (.if_icmp .eq 5, 3) := by decide +kernel
theorem dX4_keepsSense_83 : decode cX4_keepsSense 83 = .ok (.iconst 0, 1) := by decide +kernel
theorem dX4_keepsSense_84 : decode cX4_keepsSense 84 = .ok (.ireturn, 1) := by decide +kernel
theorem dX4_keepsSense_85 : decode cX4_keepsSense 85 = .ok (.iinc 3 1, 3) := by decide +kernel
theorem dX4_keepsSense_88 : decode cX4_keepsSense 88 = .ok (.goto (-86), 3) := by decide +kernel
theorem dX4_keepsSense_91 : decode cX4_keepsSense 91 = .ok (.iconst 1, 1) := by decide +kernel
theorem dX4_keepsSense_92 : decode cX4_keepsSense 92 = .ok (.ireturn, 1) := by decide +kernel
theorem dX4_songOf_0 : decode cX4_songOf 0 = .ok (.iconst 0, 1) := by decide +kernel
theorem dX4_songOf_1 : decode cX4_songOf 1 = .ok (.istore_n 3, 1) := by decide +kernel
theorem dX4_songOf_2 : decode cX4_songOf 2 = .ok (.iconst 1, 1) := by decide +kernel
theorem dX4_songOf_3 : decode cX4_songOf 3 = .ok (.istore 4, 2) := by decide +kernel
theorem dX4_songOf_5 : decode cX4_songOf 5 = .ok (.iload 4, 2) := by decide +kernel
theorem dX4_songOf_7 : decode cX4_songOf 7 = .ok (.iload_n 2, 1) := by decide +kernel
theorem dX4_songOf_8 : decode cX4_songOf 8 = .ok (.if_icmp .ge 30, 3) := by decide +kernel
theorem dX4_songOf_11 : decode cX4_songOf 11 = .ok (.iload_n 3, 1) := by decide +kernel
theorem dX4_songOf_12 : decode cX4_songOf 12 = .ok (.aload_n 0, 1) := by decide +kernel
theorem dX4_songOf_13 : decode cX4_songOf 13 = .ok (.iload_n 1, 1) := by decide +kernel
theorem dX4_songOf_14 : decode cX4_songOf 14 = .ok (.iload 4, 2) := by decide +kernel
theorem dX4_songOf_16 : decode cX4_songOf 16 = .ok (.iconst 1, 1) := by decide +kernel
theorem dX4_songOf_17 : decode cX4_songOf 17 = .ok (.isub, 1) := by decide +kernel
theorem dX4_songOf_18 : decode cX4_songOf 18 = .ok (.invokestatic 107, 3) := by decide +kernel
theorem dX4_songOf_21 : decode cX4_songOf 21 = .ok (.iload_n 1, 1) := by decide +kernel
theorem dX4_songOf_22 : decode cX4_songOf 22 = .ok (.iload 4, 2) := by decide +kernel
theorem dX4_songOf_24 : decode cX4_songOf 24 = .ok (.invokestatic 107, 3) := by decide +kernel
theorem dX4_songOf_27 : decode cX4_songOf 27 = .ok (.invokevirtual 110, 3) := by decide +kernel
theorem dX4_songOf_30 : decode cX4_songOf 30 = .ok (.iadd, 1) := by decide +kernel
theorem dX4_songOf_31 : decode cX4_songOf 31 = .ok (.istore_n 3, 1) := by decide +kernel
theorem dX4_songOf_32 : decode cX4_songOf 32 = .ok (.iinc 4 1, 3) := by decide +kernel
theorem dX4_songOf_35 : decode cX4_songOf 35 = .ok (.goto (-30), 3) := by decide +kernel
theorem dX4_songOf_38 : decode cX4_songOf 38 = .ok (.iload_n 3, 1) := by decide +kernel
theorem dX4_songOf_39 : decode cX4_songOf 39 = .ok (.ireturn, 1) := by decide +kernel
theorem dX4_allWeights_0 : decode cX4_allWeights 0 = .ok (.iconst 0, 1) := by decide +kernel
theorem dX4_allWeights_1 : decode cX4_allWeights 1 = .ok (.istore_n 1, 1) := by decide +kernel
theorem dX4_allWeights_2 : decode cX4_allWeights 2 = .ok (.iconst 0, 1) := by decide +kernel
theorem dX4_allWeights_3 : decode cX4_allWeights 3 = .ok (.istore_n 2, 1) := by decide +kernel
theorem dX4_allWeights_4 : decode cX4_allWeights 4 = .ok (.iload_n 2, 1) := by decide +kernel
theorem dX4_allWeights_5 : decode cX4_allWeights 5 = .ok (.aload_n 0, 1) := by decide +kernel
theorem dX4_allWeights_6 : decode cX4_allWeights 6 = .ok (.getfield 9, 3) := by decide +kernel
theorem dX4_allWeights_9 : decode cX4_allWeights 9 = .ok (.iconst 1, 1) := by decide +kernel
theorem dX4_allWeights_10 : decode cX4_allWeights 10 = .ok (.isub, 1) := by decide +kernel
theorem dX4_allWeights_11 : decode cX4_allWeights 11 = .ok (.if_icmp .ge 27, 3) := by decide +kernel
theorem dX4_allWeights_14 : decode cX4_allWeights 14 = .ok (.iload_n 2, 1) := by decide +kernel
theorem dX4_allWeights_15 : decode cX4_allWeights 15 = .ok (.aload_n 0, 1) := by decide +kernel
theorem dX4_allWeights_16 : decode cX4_allWeights 16 = .ok (.getfield 27, 3) := by decide +kernel
theorem dX4_allWeights_19 : decode cX4_allWeights 19 = .ok (.arraylength, 1) := by decide +kernel
theorem dX4_allWeights_20 : decode cX4_allWeights 20 = .ok (.if_icmp .ge 18, 3) := by decide +kernel
theorem dX4_allWeights_23 : decode cX4_allWeights 23 = .ok (.iload_n 1, 1) := by decide +kernel
theorem dX4_allWeights_24 : decode cX4_allWeights 24 = .ok (.aload_n 0, 1) := by decide +kernel
theorem dX4_allWeights_25 : decode cX4_allWeights 25 = .ok (.getfield 27, 3) := by decide +kernel
theorem dX4_allWeights_28 : decode cX4_allWeights 28 = .ok (.iload_n 2, 1) := by decide +kernel
theorem dX4_allWeights_29 : decode cX4_allWeights 29 = .ok (.iaload, 1) := by decide +kernel
theorem dX4_allWeights_30 : decode cX4_allWeights 30 = .ok (.iadd, 1) := by decide +kernel
theorem dX4_allWeights_31 : decode cX4_allWeights 31 = .ok (.istore_n 1, 1) := by decide +kernel
theorem dX4_allWeights_32 : decode cX4_allWeights 32 = .ok (.iinc 2 1, 3) := by decide +kernel
theorem dX4_allWeights_35 : decode cX4_allWeights 35 = .ok (.goto (-31), 3) := by decide +kernel
theorem dX4_allWeights_38 : decode cX4_allWeights 38 = .ok (.iload_n 1, 1) := by decide +kernel
theorem dX4_allWeights_39 : decode cX4_allWeights 39 = .ok (.ireturn, 1) := by decide +kernel
theorem dX4_placeDrawn_0 : decode cX4_placeDrawn 0 = .ok (.iconst 0, 1) := by decide +kernel
theorem dX4_placeDrawn_1 : decode cX4_placeDrawn 1 = .ok (.istore_n 2, 1) := by decide +kernel
theorem dX4_placeDrawn_2 : decode cX4_placeDrawn 2 = .ok (.iconst 0, 1) := by decide +kernel
theorem dX4_placeDrawn_3 : decode cX4_placeDrawn 3 = .ok (.istore_n 3, 1) := by decide +kernel
theorem dX4_placeDrawn_4 : decode cX4_placeDrawn 4 = .ok (.iload_n 3, 1) := by decide +kernel
theorem dX4_placeDrawn_5 : decode cX4_placeDrawn 5 = .ok (.aload_n 0, 1) := by decide +kernel
theorem dX4_placeDrawn_6 : decode cX4_placeDrawn 6 = .ok (.getfield 9, 3) := by decide +kernel
theorem dX4_placeDrawn_9 : decode cX4_placeDrawn 9 = .ok (.iconst 1, 1) := by decide +kernel
theorem dX4_placeDrawn_10 : decode cX4_placeDrawn 10 = .ok (.isub, 1) := by decide +kernel
theorem dX4_placeDrawn_11 : decode cX4_placeDrawn 11 = .ok (.if_icmp .ge 34, 3) := by decide +kernel
theorem dX4_placeDrawn_14 : decode cX4_placeDrawn 14 = .ok (.iload_n 3, 1) := by decide +kernel
theorem dX4_placeDrawn_15 : decode cX4_placeDrawn 15 = .ok (.aload_n 0, 1) := by decide +kernel
theorem dX4_placeDrawn_16 : decode cX4_placeDrawn 16 = .ok (.getfield 27, 3) := by decide +kernel
theorem dX4_placeDrawn_19 : decode cX4_placeDrawn 19 = .ok (.arraylength, 1) := by decide +kernel
theorem dX4_placeDrawn_20 : decode cX4_placeDrawn 20 = .ok (.if_icmp .ge 25, 3) := by decide +kernel
theorem dX4_placeDrawn_23 : decode cX4_placeDrawn 23 = .ok (.iload_n 2, 1) := by decide +kernel
theorem dX4_placeDrawn_24 : decode cX4_placeDrawn 24 = .ok (.aload_n 0, 1) := by decide +kernel
theorem dX4_placeDrawn_25 : decode cX4_placeDrawn 25 = .ok (.getfield 27, 3) := by decide +kernel
theorem dX4_placeDrawn_28 : decode cX4_placeDrawn 28 = .ok (.iload_n 3, 1) := by decide +kernel
theorem dX4_placeDrawn_29 : decode cX4_placeDrawn 29 = .ok (.iaload, 1) := by decide +kernel
theorem dX4_placeDrawn_30 : decode cX4_placeDrawn 30 = .ok (.iadd, 1) := by decide +kernel
theorem dX4_placeDrawn_31 : decode cX4_placeDrawn 31 = .ok (.istore_n 2, 1) := by decide +kernel
theorem dX4_placeDrawn_32 : decode cX4_placeDrawn 32 = .ok (.iload_n 2, 1) := by decide +kernel
theorem dX4_placeDrawn_33 : decode cX4_placeDrawn 33 = .ok (.iload_n 1, 1) := by decide +kernel
theorem dX4_placeDrawn_34 : decode cX4_placeDrawn 34 = .ok (.if_icmp .le 5, 3) := by decide +kernel
theorem dX4_placeDrawn_37 : decode cX4_placeDrawn 37 = .ok (.iload_n 3, 1) := by decide +kernel
theorem dX4_placeDrawn_38 : decode cX4_placeDrawn 38 = .ok (.ireturn, 1) := by decide +kernel
theorem dX4_placeDrawn_39 : decode cX4_placeDrawn 39 = .ok (.iinc 3 1, 3) := by decide +kernel
theorem dX4_placeDrawn_42 : decode cX4_placeDrawn 42 = .ok (.goto (-38), 3) := by decide +kernel
theorem dX4_placeDrawn_45 : decode cX4_placeDrawn 45 = .ok (.iconst 0, 1) := by decide +kernel
theorem dX4_placeDrawn_46 : decode cX4_placeDrawn 46 = .ok (.ireturn, 1) := by decide +kernel
theorem dX5_init_0 : decode cX5_init 0 = .ok (.aload_n 0, 1) := by decide +kernel
theorem dX5_init_1 : decode cX5_init 1 = .ok (.invokespecial 3, 3) := by decide +kernel
theorem dX5_init_4 : decode cX5_init 4 = .ok (.aload_n 0, 1) := by decide +kernel
theorem dX5_init_5 : decode cX5_init 5 = .ok (.aload_n 1, 1) := by decide +kernel
theorem dX5_init_6 : decode cX5_init 6 = .ok (.putfield 9, 3) := by decide +kernel
theorem dX5_init_9 : decode cX5_init 9 = .ok (.return_, 1) := by decide +kernel
theorem dX5_read_0 : decode cX5_read 0 = .ok (.aload_n 0, 1) := by decide +kernel
theorem dX5_read_1 : decode cX5_read 1 = .ok (.aload_n 1, 1) := by decide +kernel
theorem dX5_read_2 : decode cX5_read 2 = .ok (.putfield 15, 3) := by decide +kernel
theorem dX5_read_5 : decode cX5_read 5 = .ok (.aload_n 0, 1) := by decide +kernel
theorem dX5_read_6 : decode cX5_read 6 = .ok (.getfield 15, 3) := by decide +kernel
theorem dX5_read_9 : decode cX5_read 9 = .ok (.invokevirtual 19, 3) := by decide +kernel
theorem dX5_read_12 : decode cX5_read 12 = .ok (.aload_n 0, 1) := by decide +kernel
theorem dX5_read_13 : decode cX5_read 13 = .ok (.iconst 0, 1) := by decide +kernel
theorem dX5_read_14 : decode cX5_read 14 = .ok (.putfield 24, 3) := by decide +kernel
theorem dX5_read_17 : decode cX5_read 17 = .ok (.aload_n 0, 1) := by decide +kernel
theorem dX5_read_18 : decode cX5_read 18 = .ok (.iconst 0, 1) := by decide +kernel
theorem dX5_read_19 : decode cX5_read 19 = .ok (.putfield 28, 3) := by decide +kernel
theorem dX5_read_22 : decode cX5_read 22 = .ok (.iconst 0, 1) := by decide +kernel
theorem dX5_read_23 : decode cX5_read 23 = .ok (.istore_n 2, 1) := by decide +kernel
theorem dX5_read_24 : decode cX5_read 24 = .ok (.iload_n 2, 1) := by decide +kernel
theorem dX5_read_25 : decode cX5_read 25 = .ok (.sipush 740, 3) := by decide +kernel
theorem dX5_read_28 : decode cX5_read 28 = .ok (.if_icmp .gt 42, 3) := by decide +kernel
theorem dX5_read_31 : decode cX5_read 31 = .ok (.aload_n 0, 1) := by decide +kernel
theorem dX5_read_32 : decode cX5_read 32 = .ok (.getfield 9, 3) := by decide +kernel
theorem dX5_read_35 : decode cX5_read 35 = .ok (.getfield 32, 3) := by decide +kernel
theorem dX5_read_38 : decode cX5_read 38 = .ok (.ifCond .ne 5, 3) := by decide +kernel
theorem dX5_read_41 : decode cX5_read 41 = .ok (.iload_n 2, 1) := by decide +kernel
theorem dX5_read_42 : decode cX5_read 42 = .ok (.ireturn, 1) := by decide +kernel
theorem dX5_read_43 : decode cX5_read 43 = .ok (.aload_n 0, 1) := by decide +kernel
theorem dX5_read_44 : decode cX5_read 44 = .ok (.invokevirtual 37, 3) := by decide +kernel
theorem dX5_read_47 : decode cX5_read 47 = .ok (.ifCond .eq 15, 3) := by decide +kernel
theorem dX5_read_50 : decode cX5_read 50 = .ok (.aload_n 0, 1) := by decide +kernel
theorem dX5_read_51 : decode cX5_read 51 = .ok (.getfield 9, 3) := by decide +kernel
theorem dX5_read_54 : decode cX5_read 54 = .ok (.bipush 59, 2) := by decide +kernel
theorem dX5_read_56 : decode cX5_read 56 = .ok (.invokevirtual 41, 3) := by decide +kernel
theorem dX5_read_59 : decode cX5_read 59 = .ok (.ifCond .ne 5, 3) := by decide +kernel
theorem dX5_read_62 : decode cX5_read 62 = .ok (.iconst (-1), 1) := by decide +kernel
theorem dX5_read_63 : decode cX5_read 63 = .ok (.ireturn, 1) := by decide +kernel
theorem dX5_read_64 : decode cX5_read 64 = .ok (.iinc 2 1, 3) := by decide +kernel
theorem dX5_read_67 : decode cX5_read 67 = .ok (.goto (-43), 3) := by decide +kernel
theorem dX5_read_70 : decode cX5_read 70 = .ok (.iconst (-1), 1) := by decide +kernel
theorem dX5_read_71 : decode cX5_read 71 = .ok (.ireturn, 1) := by decide +kernel
theorem dX5_readLine_0 : decode cX5_readLine 0 = .ok (.getstatic 45, 3) := by decide +kernel
theorem dX5_readLine_3 : decode cX5_readLine 3 = .ok (.aload_n 0, 1) := by decide +kernel
theorem dX5_readLine_4 : decode cX5_readLine 4 = .ok (.getfield 9, 3) := by decide +kernel
theorem dX5_readLine_7 : decode cX5_readLine 7 = .ok (.getfield 51, 3) := by decide +kernel
theorem dX5_readLine_10 : decode cX5_readLine 10 = .ok (.invokevirtual 55, 3) := by decide +kernel
theorem dX5_readLine_13 : decode cX5_readLine 13 = .ok (.iaload, 1) := by decide +kernel
theorem dX5_readLine_14 : decode cX5_readLine 14 = .ok (.tableswitch 88 3 8 #[38, 43, 53, 58, 68, 78], 38) := by decide +kernel
theorem dX5_readLine_52 : decode cX5_readLine 52 = .ok (.aload_n 0, 1) := by decide +kernel
theorem dX5_readLine_53 : decode cX5_readLine 53 = .ok (.invokevirtual 61, 3) := by decide +kernel
theorem dX5_readLine_56 : decode cX5_readLine 56 = .ok (.ireturn, 1) := by decide +kernel
theorem dX5_readLine_57 : decode cX5_readLine 57 = .ok (.aload_n 0, 1) := by decide +kernel
theorem dX5_readLine_58 : decode cX5_readLine 58 = .ok (.iconst 1, 1) := by decide +kernel
theorem dX5_readLine_59 : decode cX5_readLine 59 = .ok (.putfield 24, 3) := by decide +kernel
theorem dX5_readLine_62 : decode cX5_readLine 62 = .ok (.aload_n 0, 1) := by decide +kernel
theorem dX5_readLine_63 : decode cX5_readLine 63 = .ok (.invokevirtual 64, 3) := by decide +kernel
theorem dX5_readLine_66 : decode cX5_readLine 66 = .ok (.ireturn, 1) := by decide +kernel
theorem dX5_readLine_67 : decode cX5_readLine 67 = .ok (.aload_n 0, 1) := by decide +kernel
theorem dX5_readLine_68 : decode cX5_readLine 68 = .ok (.invokevirtual 67, 3) := by decide +kernel
theorem dX5_readLine_71 : decode cX5_readLine 71 = .ok (.ireturn, 1) := by decide +kernel
theorem dX5_readLine_72 : decode cX5_readLine 72 = .ok (.aload_n 0, 1) := by decide +kernel
theorem dX5_readLine_73 : decode cX5_readLine 73 = .ok (.iconst 1, 1) := by decide +kernel
theorem dX5_readLine_74 : decode cX5_readLine 74 = .ok (.putfield 24, 3) := by decide +kernel
theorem dX5_readLine_77 : decode cX5_readLine 77 = .ok (.aload_n 0, 1) := by decide +kernel
theorem dX5_readLine_78 : decode cX5_readLine 78 = .ok (.invokevirtual 70, 3) := by decide +kernel
theorem dX5_readLine_81 : decode cX5_readLine 81 = .ok (.ireturn, 1) := by decide +kernel
theorem dX5_readLine_82 : decode cX5_readLine 82 = .ok (.aload_n 0, 1) := by decide +kernel
theorem dX5_readLine_83 : decode cX5_readLine 83 = .ok (.iconst 1, 1) := by decide +kernel
theorem dX5_readLine_84 : decode cX5_readLine 84 = .ok (.putfield 24, 3) := by decide +kernel
theorem dX5_readLine_87 : decode cX5_readLine 87 = .ok (.aload_n 0, 1) := by decide +kernel
theorem dX5_readLine_88 : decode cX5_readLine 88 = .ok (.invokevirtual 73, 3) := by decide +kernel
theorem dX5_readLine_91 : decode cX5_readLine 91 = .ok (.ireturn, 1) := by decide +kernel
theorem dX5_readLine_92 : decode cX5_readLine 92 = .ok (.aload_n 0, 1) := by decide +kernel
theorem dX5_readLine_93 : decode cX5_readLine 93 = .ok (.iconst 1, 1) := by decide +kernel
theorem dX5_readLine_94 : decode cX5_readLine 94 = .ok (.putfield 24, 3) := by decide +kernel
theorem dX5_readLine_97 : decode cX5_readLine 97 = .ok (.aload_n 0, 1) := by decide +kernel
theorem dX5_readLine_98 : decode cX5_readLine 98 = .ok (.invokevirtual 76, 3) := by decide +kernel
theorem dX5_readLine_101 : decode cX5_readLine 101 = .ok (.ireturn, 1) := by decide +kernel
theorem dX5_readLine_102 : decode cX5_readLine 102 = .ok (.aload_n 0, 1) := by decide +kernel
theorem dX5_readLine_103 : decode cX5_readLine 103 = .ok (.getfield 9, 3) := by decide +kernel
theorem dX5_readLine_106 : decode cX5_readLine 106 = .ok (.iconst 1, 1) := by decide +kernel
theorem dX5_readLine_107 : decode cX5_readLine 107 = .ok (.invokevirtual 79, 3) := by decide +kernel
theorem dX5_readLine_110 : decode cX5_readLine 110 = .ok (.ireturn, 1) := by decide +kernel
theorem dX5_readLines_0 : decode cX5_readLines 0 = .ok (.aload_n 0, 1) := by decide +kernel
theorem dX5_readLines_1 : decode cX5_readLines 1 = .ok (.getfield 24, 3) := by decide +kernel
theorem dX5_readLines_4 : decode cX5_readLines 4 = .ok (.ifCond .eq 12, 3) := by decide +kernel
theorem dX5_readLines_7 : decode cX5_readLines 7 = .ok (.aload_n 0, 1) := by decide +kernel
theorem dX5_readLines_8 : decode cX5_readLines 8 = .ok (.getfield 9, 3) := by decide +kernel
theorem dX5_readLines_11 : decode cX5_readLines 11 = .ok (.iconst 3, 1) := by decide +kernel
theorem dX5_readLines_12 : decode cX5_readLines 12 = .ok (.invokevirtual 79, 3) := by decide +kernel
theorem dX5_readLines_15 : decode cX5_readLines 15 = .ok (.ireturn, 1) := by decide +kernel
theorem dX5_readLines_16 : decode cX5_readLines 16 = .ok (.aload_n 0, 1) := by decide +kernel
theorem dX5_readLines_17 : decode cX5_readLines 17 = .ok (.iconst 1, 1) := by decide +kernel
theorem dX5_readLines_18 : decode cX5_readLines 18 = .ok (.putfield 24, 3) := by decide +kernel
theorem dX5_readLines_21 : decode cX5_readLines 21 = .ok (.aload_n 0, 1) := by decide +kernel
theorem dX5_readLines_22 : decode cX5_readLines 22 = .ok (.getfield 9, 3) := by decide +kernel
theorem dX5_readLines_25 : decode cX5_readLines 25 = .ok (.invokevirtual 82, 3) := by decide +kernel
theorem dX5_readLines_28 : decode cX5_readLines 28 = .ok (.aload_n 0, 1) := by decide +kernel
theorem dX5_readLines_29 : decode cX5_readLines 29 = .ok (.getfield 9, 3) := by decide +kernel
theorem dX5_readLines_32 : decode cX5_readLines 32 = .ok (.iconst 2, 1) := by decide +kernel
theorem dX5_readLines_33 : decode cX5_readLines 33 = .ok (.bipush 7, 2) := by decide +kernel
theorem dX5_readLines_35 : decode cX5_readLines 35 = .ok (.invokevirtual 85, 3) := by decide +kernel
theorem dX5_readLines_38 : decode cX5_readLines 38 = .ok (.istore_n 1, 1) := by decide +kernel
theorem dX5_readLines_39 : decode cX5_readLines 39 = .ok (.iload_n 1, 1) := by decide +kernel
theorem dX5_readLines_40 : decode cX5_readLines 40 = .ok (.iconst (-1), 1) := by decide +kernel
theorem dX5_readLines_41 : decode cX5_readLines 41 = .ok (.if_icmp .ne 5, 3) := by decide +kernel
theorem dX5_readLines_44 : decode cX5_readLines 44 = .ok (.iconst 0, 1) := by decide +kernel
theorem dX5_readLines_45 : decode cX5_readLines 45 = .ok (.ireturn, 1) := by decide +kernel
theorem dX5_readLines_46 : decode cX5_readLines 46 = .ok (.aload_n 0, 1) := by decide +kernel
theorem dX5_readLines_47 : decode cX5_readLines 47 = .ok (.getfield 15, 3) := by decide +kernel
theorem dX5_readLines_50 : decode cX5_readLines 50 = .ok (.iload_n 1, 1) := by decide +kernel
theorem dX5_readLines_51 : decode cX5_readLines 51 = .ok (.putfield 89, 3) := by decide +kernel
theorem dX5_readLines_54 : decode cX5_readLines 54 = .ok (.aload_n 0, 1) := by decide +kernel
theorem dX5_readLines_55 : decode cX5_readLines 55 = .ok (.getfield 9, 3) := by decide +kernel
theorem dX5_readLines_58 : decode cX5_readLines 58 = .ok (.invokevirtual 82, 3) := by decide +kernel
theorem dX5_readLines_61 : decode cX5_readLines 61 = .ok (.iconst 1, 1) := by decide +kernel
theorem dX5_readLines_62 : decode cX5_readLines 62 = .ok (.ireturn, 1) := by decide +kernel
theorem dX5_readCopy_0 : decode cX5_readCopy 0 = .ok (.aload_n 0, 1) := by decide +kernel
theorem dX5_readCopy_1 : decode cX5_readCopy 1 = .ok (.getfield 15, 3) := by decide +kernel
theorem dX5_readCopy_4 : decode cX5_readCopy 4 = .ok (.invokevirtual 92, 3) := by decide +kernel
theorem dX5_readCopy_7 : decode cX5_readCopy 7 = .ok (.astore_n 1, 1) := by decide +kernel
theorem dX5_readCopy_8 : decode cX5_readCopy 8 = .ok (.aload_n 1, 1) := by decide +kernel
theorem dX5_readCopy_9 : decode cX5_readCopy 9 = .ok (.ifnonnull 12, 3) := by decide +kernel
theorem dX5_readCopy_12 : decode cX5_readCopy 12 = .ok (.aload_n 0, 1) := by decide +kernel
theorem dX5_readCopy_13 : decode cX5_readCopy 13 = .ok (.getfield 9, 3) := by decide +kernel
theorem dX5_readCopy_16 : decode cX5_readCopy 16 = .ok (.iconst 4, 1) := by decide +kernel
theorem dX5_readCopy_17 : decode cX5_readCopy 17 = .ok (.invokevirtual 79, 3) := by decide +kernel
theorem dX5_readCopy_20 : decode cX5_readCopy 20 = .ok (.ireturn, 1) := by decide +kernel
theorem dX5_readCopy_21 : decode cX5_readCopy 21 = .ok (.aload_n 0, 1) := by decide +kernel
theorem dX5_readCopy_22 : decode cX5_readCopy 22 = .ok (.getfield 9, 3) := by decide +kernel
theorem dX5_readCopy_25 : decode cX5_readCopy 25 = .ok (.invokevirtual 82, 3) := by decide +kernel
theorem dX5_readCopy_28 : decode cX5_readCopy 28 = .ok (.aload_n 0, 1) := by decide +kernel
theorem dX5_readCopy_29 : decode cX5_readCopy 29 = .ok (.invokevirtual 96, 3) := by decide +kernel
theorem dX5_readCopy_32 : decode cX5_readCopy 32 = .ok (.ifCond .ne 5, 3) := by decide +kernel
theorem dX5_readCopy_35 : decode cX5_readCopy 35 = .ok (.iconst 0, 1) := by decide +kernel
theorem dX5_readCopy_36 : decode cX5_readCopy 36 = .ok (.ireturn, 1) := by decide +kernel
theorem dX5_readCopy_37 : decode cX5_readCopy 37 = .ok (.aload_n 1, 1) := by decide +kernel
theorem dX5_readCopy_38 : decode cX5_readCopy 38 = .ok (.aload_n 0, 1) := by decide +kernel
theorem dX5_readCopy_39 : decode cX5_readCopy 39 = .ok (.getfield 9, 3) := by decide +kernel
theorem dX5_readCopy_42 : decode cX5_readCopy 42 = .ok (.getfield 99, 3) := by decide +kernel
theorem dX5_readCopy_45 : decode cX5_readCopy 45 = .ok (.putfield 103, 3) := by decide +kernel
theorem dX5_readCopy_48 : decode cX5_readCopy 48 = .ok (.aload_n 0, 1) := by decide +kernel
theorem dX5_readCopy_49 : decode cX5_readCopy 49 = .ok (.getfield 9, 3) := by decide +kernel
theorem dX5_readCopy_52 : decode cX5_readCopy 52 = .ok (.invokevirtual 82, 3) := by decide +kernel
theorem dX5_readCopy_55 : decode cX5_readCopy 55 = .ok (.aload_n 0, 1) := by decide +kernel
theorem dX5_readCopy_56 : decode cX5_readCopy 56 = .ok (.getfield 9, 3) := by decide +kernel
theorem dX5_readCopy_59 : decode cX5_readCopy 59 = .ok (.getfield 32, 3) := by decide +kernel
theorem dX5_readCopy_62 : decode cX5_readCopy 62 = .ok (.iconst 2, 1) := by decide +kernel
theorem dX5_readCopy_63 : decode cX5_readCopy 63 = .ok (.if_icmp .eq 12, 3) := by decide +kernel
theorem dX5_readCopy_66 : decode cX5_readCopy 66 = .ok (.aload_n 0, 1) := by decide +kernel
theorem dX5_readCopy_67 : decode cX5_readCopy 67 = .ok (.getfield 9, 3) := by decide +kernel
theorem dX5_readCopy_70 : decode cX5_readCopy 70 = .ok (.iconst 1, 1) := by decide +kernel
theorem dX5_readCopy_71 : decode cX5_readCopy 71 = .ok (.invokevirtual 79, 3) := by decide +kernel
theorem dX5_readCopy_74 : decode cX5_readCopy 74 = .ok (.ireturn, 1) := by decide +kernel
theorem dX5_readCopy_75 : decode cX5_readCopy 75 = .ok (.aload_n 0, 1) := by decide +kernel
theorem dX5_readCopy_76 : decode cX5_readCopy 76 = .ok (.aload_n 1, 1) := by decide +kernel
theorem dX5_readCopy_77 : decode cX5_readCopy 77 = .ok (.invokevirtual 108, 3) := by decide +kernel
theorem dX5_readCopy_80 : decode cX5_readCopy 80 = .ok (.ifCond .ne 12, 3) := by decide +kernel
theorem dX5_readCopy_83 : decode cX5_readCopy 83 = .ok (.aload_n 0, 1) := by decide +kernel
theorem dX5_readCopy_84 : decode cX5_readCopy 84 = .ok (.getfield 9, 3) := by decide +kernel
theorem dX5_readCopy_87 : decode cX5_readCopy 87 = .ok (.iconst 2, 1) := by decide +kernel
theorem dX5_readCopy_88 : decode cX5_readCopy 88 = .ok (.invokevirtual 79, 3) := by decide +kernel
theorem dX5_readCopy_91 : decode cX5_readCopy 91 = .ok (.ireturn, 1) := by decide +kernel
theorem dX5_readCopy_92 : decode cX5_readCopy 92 = .ok (.aload_n 0, 1) := by decide +kernel
theorem dX5_readCopy_93 : decode cX5_readCopy 93 = .ok (.getfield 15, 3) := by decide +kernel
theorem dX5_readCopy_96 : decode cX5_readCopy 96 = .ok (.dup, 1) := by decide +kernel
theorem dX5_readCopy_97 : decode cX5_readCopy 97 = .ok (.getfield 112, 3) := by decide +kernel
theorem dX5_readCopy_100 : decode cX5_readCopy 100 = .ok (.iconst 1, 1) := by decide +kernel
theorem dX5_readCopy_101 : decode cX5_readCopy 101 = .ok (.iadd, 1) := by decide +kernel
theorem dX5_readCopy_102 : decode cX5_readCopy 102 = .ok (.putfield 112, 3) := by decide +kernel
theorem dX5_readCopy_105 : decode cX5_readCopy 105 = .ok (.aload_n 0, 1) := by decide +kernel
theorem dX5_readCopy_106 : decode cX5_readCopy 106 = .ok (.getfield 9, 3) := by decide +kernel
theorem dX5_readCopy_109 : decode cX5_readCopy 109 = .ok (.invokevirtual 82, 3) := by decide +kernel
theorem dX5_readCopy_112 : decode cX5_readCopy 112 = .ok (.iconst 1, 1) := by decide +kernel
theorem dX5_readCopy_113 : decode cX5_readCopy 113 = .ok (.ireturn, 1) := by decide +kernel
theorem dX5_spell_0 : decode cX5_spell 0 = .ok (.bipush 30, 2) := by decide +kernel
theorem dX5_spell_2 : decode cX5_spell 2 = .ok (.istore_n 2, 1) := by decide +kernel
theorem dX5_spell_3 : decode cX5_spell 3 = .ok (.iload_n 2, 1) := by decide +kernel
theorem dX5_spell_4 : decode cX5_spell 4 = .ok (.ifCond .lt 58, 3) := by decide +kernel
theorem dX5_spell_7 : decode cX5_spell 7 = .ok (.aload_n 0, 1) := by decide +kernel
theorem dX5_spell_8 : decode cX5_spell 8 = .ok (.getfield 9, 3) := by decide +kernel
theorem dX5_spell_11 : decode cX5_spell 11 = .ok (.getfield 99, 3) := by decide +kernel
theorem dX5_spell_14 : decode cX5_spell 14 = .ok (.iload_n 2, 1) := by decide +kernel
theorem dX5_spell_15 : decode cX5_spell 15 = .ok (.lushr, 1) := by decide +kernel
theorem dX5_spell_16 : decode cX5_spell 16 = .ok (.ldc2_w 115, 3) := by decide +kernel
theorem dX5_spell_19 : decode cX5_spell 19 = .ok (.land, 1) := by decide +kernel
theorem dX5_spell_20 : decode cX5_spell 20 = .ok (.l2i, 1) := by decide +kernel
theorem dX5_spell_21 : decode cX5_spell 21 = .ok (.istore_n 3, 1) := by decide +kernel
theorem dX5_spell_22 : decode cX5_spell 22 = .ok (.iload_n 3, 1) := by decide +kernel
theorem dX5_spell_23 : decode cX5_spell 23 = .ok (.ifCond .le 33, 3) := by decide +kernel
theorem dX5_spell_26 : decode cX5_spell 26 = .ok (.iload_n 3, 1) := by decide +kernel
theorem dX5_spell_27 : decode cX5_spell 27 = .ok (.aload_n 0, 1) := by decide +kernel
theorem dX5_spell_28 : decode cX5_spell 28 = .ok (.getfield 15, 3) := by decide +kernel
theorem dX5_spell_31 : decode cX5_spell 31 = .ok (.getfield 89, 3) := by decide +kernel
theorem dX5_spell_34 : decode cX5_spell 34 = .ok (.if_icmp .gt 13, 3) := by decide +kernel
theorem dX5_spell_37 : decode cX5_spell 37 = .ok (.aload_n 1, 1) := by decide +kernel
theorem dX5_spell_38 : decode cX5_spell 38 = .ok (.iload_n 3, 1) := by decide +kernel
theorem dX5_spell_39 : decode cX5_spell 39 = .ok (.iconst 1, 1) := by decide +kernel
theorem dX5_spell_40 : decode cX5_spell 40 = .ok (.isub, 1) := by decide +kernel
theorem dX5_spell_41 : decode cX5_spell 41 = .ok (.invokevirtual 117, 3) := by decide +kernel
theorem dX5_spell_44 : decode cX5_spell 44 = .ok (.ifCond .eq 5, 3) := by decide +kernel
theorem dX5_spell_47 : decode cX5_spell 47 = .ok (.iconst 0, 1) := by decide +kernel
theorem dX5_spell_48 : decode cX5_spell 48 = .ok (.ireturn, 1) := by decide +kernel
theorem dX5_spell_49 : decode cX5_spell 49 = .ok (.aload_n 1, 1) := by decide +kernel
theorem dX5_spell_50 : decode cX5_spell 50 = .ok (.iload_n 3, 1) := by decide +kernel
theorem dX5_spell_51 : decode cX5_spell 51 = .ok (.iconst 1, 1) := by decide +kernel
theorem dX5_spell_52 : decode cX5_spell 52 = .ok (.isub, 1) := by decide +kernel
theorem dX5_spell_53 : decode cX5_spell 53 = .ok (.invokevirtual 120, 3) := by decide +kernel
theorem dX5_spell_56 : decode cX5_spell 56 = .ok (.iinc 2 (-5), 3) := by decide +kernel
theorem dX5_spell_59 : decode cX5_spell 59 = .ok (.goto (-56), 3) := by decide +kernel
theorem dX5_spell_62 : decode cX5_spell 62 = .ok (.iconst 1, 1) := by decide +kernel
theorem dX5_spell_63 : decode cX5_spell 63 = .ok (.ireturn, 1) := by decide +kernel
theorem dX5_readDesk_0 : decode cX5_readDesk 0 = .ok (.aload_n 0, 1) := by decide +kernel
theorem dX5_readDesk_1 : decode cX5_readDesk 1 = .ok (.getfield 15, 3) := by decide +kernel
theorem dX5_readDesk_4 : decode cX5_readDesk 4 = .ok (.invokevirtual 124, 3) := by decide +kernel
theorem dX5_readDesk_7 : decode cX5_readDesk 7 = .ok (.astore_n 1, 1) := by decide +kernel
theorem dX5_readDesk_8 : decode cX5_readDesk 8 = .ok (.aload_n 1, 1) := by decide +kernel
theorem dX5_readDesk_9 : decode cX5_readDesk 9 = .ok (.ifnonnull 12, 3) := by decide +kernel
theorem dX5_readDesk_12 : decode cX5_readDesk 12 = .ok (.aload_n 0, 1) := by decide +kernel
theorem dX5_readDesk_13 : decode cX5_readDesk 13 = .ok (.getfield 9, 3) := by decide +kernel
theorem dX5_readDesk_16 : decode cX5_readDesk 16 = .ok (.iconst 4, 1) := by decide +kernel
theorem dX5_readDesk_17 : decode cX5_readDesk 17 = .ok (.invokevirtual 79, 3) := by decide +kernel
theorem dX5_readDesk_20 : decode cX5_readDesk 20 = .ok (.ireturn, 1) := by decide +kernel
theorem dX5_readDesk_21 : decode cX5_readDesk 21 = .ok (.aload_n 0, 1) := by decide +kernel
theorem dX5_readDesk_22 : decode cX5_readDesk 22 = .ok (.getfield 9, 3) := by decide +kernel
theorem dX5_readDesk_25 : decode cX5_readDesk 25 = .ok (.invokevirtual 82, 3) := by decide +kernel
theorem dX5_readDesk_28 : decode cX5_readDesk 28 = .ok (.aload_n 0, 1) := by decide +kernel
theorem dX5_readDesk_29 : decode cX5_readDesk 29 = .ok (.invokevirtual 96, 3) := by decide +kernel
theorem dX5_readDesk_32 : decode cX5_readDesk 32 = .ok (.ifCond .ne 5, 3) := by decide +kernel
theorem dX5_readDesk_35 : decode cX5_readDesk 35 = .ok (.iconst 0, 1) := by decide +kernel
theorem dX5_readDesk_36 : decode cX5_readDesk 36 = .ok (.ireturn, 1) := by decide +kernel
theorem dX5_readDesk_37 : decode cX5_readDesk 37 = .ok (.aload_n 1, 1) := by decide +kernel
theorem dX5_readDesk_38 : decode cX5_readDesk 38 = .ok (.aload_n 0, 1) := by decide +kernel
theorem dX5_readDesk_39 : decode cX5_readDesk 39 = .ok (.getfield 9, 3) := by decide +kernel
theorem dX5_readDesk_42 : decode cX5_readDesk 42 = .ok (.getfield 99, 3) := by decide +kernel
theorem dX5_readDesk_45 : decode cX5_readDesk 45 = .ok (.putfield 128, 3) := by decide +kernel
theorem dX5_readDesk_48 : decode cX5_readDesk 48 = .ok (.aload_n 0, 1) := by decide +kernel
theorem dX5_readDesk_49 : decode cX5_readDesk 49 = .ok (.getfield 9, 3) := by decide +kernel
theorem dX5_readDesk_52 : decode cX5_readDesk 52 = .ok (.invokevirtual 82, 3) := by decide +kernel
theorem dX5_readDesk_55 : decode cX5_readDesk 55 = .ok (.aload_n 1, 1) := by decide +kernel
theorem dX5_readDesk_56 : decode cX5_readDesk 56 = .ok (.aload_n 0, 1) := by decide +kernel
theorem dX5_readDesk_57 : decode cX5_readDesk 57 = .ok (.getfield 9, 3) := by decide +kernel
theorem dX5_readDesk_60 : decode cX5_readDesk 60 = .ok (.getfield 51, 3) := by decide +kernel
theorem dX5_readDesk_63 : decode cX5_readDesk 63 = .ok (.putfield 131, 3) := by decide +kernel
theorem dX5_readDesk_66 : decode cX5_readDesk 66 = .ok (.getstatic 45, 3) := by decide +kernel
theorem dX5_readDesk_69 : decode cX5_readDesk 69 = .ok (.aload_n 0, 1) := by decide +kernel
theorem dX5_readDesk_70 : decode cX5_readDesk 70 = .ok (.getfield 9, 3) := by decide +kernel
theorem dX5_readDesk_73 : decode cX5_readDesk 73 = .ok (.getfield 51, 3) := by decide +kernel
theorem dX5_readDesk_76 : decode cX5_readDesk 76 = .ok (.invokevirtual 55, 3) := by decide +kernel
theorem dX5_readDesk_79 : decode cX5_readDesk 79 = .ok (.iaload, 1) := by decide +kernel
theorem dX5_readDesk_80 : decode cX5_readDesk 80 = .ok (.lookupswitch 70 #[(1, 36), (2, 39), (9, 36)], 36) := by decide +kernel
theorem dX5_readDesk_116 : decode cX5_readDesk 116 = .ok (.goto 43, 3) := by decide +kernel
theorem dX5_readDesk_119 : decode cX5_readDesk 119 = .ok (.aload_n 0, 1) := by decide +kernel
theorem dX5_readDesk_120 : decode cX5_readDesk 120 = .ok (.getfield 9, 3) := by decide +kernel
theorem dX5_readDesk_123 : decode cX5_readDesk 123 = .ok (.invokevirtual 82, 3) := by decide +kernel
theorem dX5_readDesk_126 : decode cX5_readDesk 126 = .ok (.aload_n 1, 1) := by decide +kernel
theorem dX5_readDesk_127 : decode cX5_readDesk 127 = .ok (.aload_n 0, 1) := by decide +kernel
theorem dX5_readDesk_128 : decode cX5_readDesk 128 = .ok (.getfield 9, 3) := by decide +kernel
theorem dX5_readDesk_131 : decode cX5_readDesk 131 = .ok (.iconst 1, 1) := by decide +kernel
theorem dX5_readDesk_132 : decode cX5_readDesk 132 = .ok (.bipush 9, 2) := by decide +kernel
theorem dX5_readDesk_134 : decode cX5_readDesk 134 = .ok (.invokevirtual 85, 3) := by decide +kernel
theorem dX5_readDesk_137 : decode cX5_readDesk 137 = .ok (.putfield 134, 3) := by decide +kernel
theorem dX5_readDesk_140 : decode cX5_readDesk 140 = .ok (.aload_n 1, 1) := by decide +kernel
theorem dX5_readDesk_141 : decode cX5_readDesk 141 = .ok (.getfield 134, 3) := by decide +kernel
theorem dX5_readDesk_144 : decode cX5_readDesk 144 = .ok (.iconst (-1), 1) := by decide +kernel
theorem dX5_readDesk_145 : decode cX5_readDesk 145 = .ok (.if_icmp .ne 14, 3) := by decide +kernel
theorem dX5_readDesk_148 : decode cX5_readDesk 148 = .ok (.iconst 0, 1) := by decide +kernel
theorem dX5_readDesk_149 : decode cX5_readDesk 149 = .ok (.ireturn, 1) := by decide +kernel
theorem dX5_readDesk_150 : decode cX5_readDesk 150 = .ok (.aload_n 0, 1) := by decide +kernel
theorem dX5_readDesk_151 : decode cX5_readDesk 151 = .ok (.getfield 9, 3) := by decide +kernel
theorem dX5_readDesk_154 : decode cX5_readDesk 154 = .ok (.iconst 1, 1) := by decide +kernel
theorem dX5_readDesk_155 : decode cX5_readDesk 155 = .ok (.invokevirtual 79, 3) := by decide +kernel
theorem dX5_readDesk_158 : decode cX5_readDesk 158 = .ok (.ireturn, 1) := by decide +kernel
theorem dX5_readDesk_159 : decode cX5_readDesk 159 = .ok (.aload_n 0, 1) := by decide +kernel
theorem dX5_readDesk_160 : decode cX5_readDesk 160 = .ok (.getfield 15, 3) := by decide +kernel
theorem dX5_readDesk_163 : decode cX5_readDesk 163 = .ok (.dup, 1) := by decide +kernel
theorem dX5_readDesk_164 : decode cX5_readDesk 164 = .ok (.getfield 137, 3) := by decide +kernel
theorem dX5_readDesk_167 : decode cX5_readDesk 167 = .ok (.iconst 1, 1) := by decide +kernel
theorem dX5_readDesk_168 : decode cX5_readDesk 168 = .ok (.iadd, 1) := by decide +kernel
theorem dX5_readDesk_169 : decode cX5_readDesk 169 = .ok (.putfield 137, 3) := by decide +kernel
theorem dX5_readDesk_172 : decode cX5_readDesk 172 = .ok (.aload_n 0, 1) := by decide +kernel
theorem dX5_readDesk_173 : decode cX5_readDesk 173 = .ok (.getfield 9, 3) := by decide +kernel
theorem dX5_readDesk_176 : decode cX5_readDesk 176 = .ok (.invokevirtual 82, 3) := by decide +kernel
theorem dX5_readDesk_179 : decode cX5_readDesk 179 = .ok (.iconst 1, 1) := by decide +kernel
theorem dX5_readDesk_180 : decode cX5_readDesk 180 = .ok (.ireturn, 1) := by decide +kernel
theorem dX5_isFreshName_0 : decode cX5_isFreshName 0 = .ok (.aload_n 0, 1) := by decide +kernel
theorem dX5_isFreshName_1 : decode cX5_isFreshName 1 = .ok (.getfield 9, 3) := by decide +kernel
theorem dX5_isFreshName_4 : decode cX5_isFreshName 4 = .ok (.invokevirtual 140, 3) := by decide +kernel
theorem dX5_isFreshName_7 : decode cX5_isFreshName 7 = .ok (.ifCond .ne 12, 3) := by decide +kernel
theorem dX5_isFreshName_10 : decode cX5_isFreshName 10 = .ok (.aload_n 0, 1) := by decide +kernel
theorem dX5_isFreshName_11 : decode cX5_isFreshName 11 = .ok (.getfield 9, 3) := by decide +kernel
theorem dX5_isFreshName_14 : decode cX5_isFreshName 14 = .ok (.iconst 1, 1) := by decide +kernel
theorem dX5_isFreshName_15 : decode cX5_isFreshName 15 = .ok (.invokevirtual 79, 3) := by decide +kernel
theorem dX5_isFreshName_18 : decode cX5_isFreshName 18 = .ok (.ireturn, 1) := by decide +kernel
theorem dX5_isFreshName_19 : decode cX5_isFreshName 19 = .ok (.aload_n 0, 1) := by decide +kernel
theorem dX5_isFreshName_20 : decode cX5_isFreshName 20 = .ok (.getfield 15, 3) := by decide +kernel
theorem dX5_isFreshName_23 : decode cX5_isFreshName 23 = .ok (.aload_n 0, 1) := by decide +kernel
theorem dX5_isFreshName_24 : decode cX5_isFreshName 24 = .ok (.getfield 9, 3) := by decide +kernel
theorem dX5_isFreshName_27 : decode cX5_isFreshName 27 = .ok (.getfield 99, 3) := by decide +kernel
theorem dX5_isFreshName_30 : decode cX5_isFreshName 30 = .ok (.invokevirtual 143, 3) := by decide +kernel
theorem dX5_isFreshName_33 : decode cX5_isFreshName 33 = .ok (.ifCond .eq 12, 3) := by decide +kernel
theorem dX5_isFreshName_36 : decode cX5_isFreshName 36 = .ok (.aload_n 0, 1) := by decide +kernel
theorem dX5_isFreshName_37 : decode cX5_isFreshName 37 = .ok (.getfield 9, 3) := by decide +kernel
theorem dX5_isFreshName_40 : decode cX5_isFreshName 40 = .ok (.iconst 3, 1) := by decide +kernel
theorem dX5_isFreshName_41 : decode cX5_isFreshName 41 = .ok (.invokevirtual 79, 3) := by decide +kernel
theorem dX5_isFreshName_44 : decode cX5_isFreshName 44 = .ok (.ireturn, 1) := by decide +kernel
theorem dX5_isFreshName_45 : decode cX5_isFreshName 45 = .ok (.iconst 1, 1) := by decide +kernel
theorem dX5_isFreshName_46 : decode cX5_isFreshName 46 = .ok (.ireturn, 1) := by decide +kernel
theorem dX5_readLikely_0 : decode cX5_readLikely 0 = .ok (.aload_n 0, 1) := by decide +kernel
theorem dX5_readLikely_1 : decode cX5_readLikely 1 = .ok (.getfield 9, 3) := by decide +kernel
theorem dX5_readLikely_4 : decode cX5_readLikely 4 = .ok (.invokevirtual 82, 3) := by decide +kernel
theorem dX5_readLikely_7 : decode cX5_readLikely 7 = .ok (.aload_n 0, 1) := by decide +kernel
theorem dX5_readLikely_8 : decode cX5_readLikely 8 = .ok (.getfield 9, 3) := by decide +kernel
theorem dX5_readLikely_11 : decode cX5_readLikely 11 = .ok (.iconst 1, 1) := by decide +kernel
theorem dX5_readLikely_12 : decode cX5_readLikely 12 = .ok (.aload_n 0, 1) := by decide +kernel
theorem dX5_readLikely_13 : decode cX5_readLikely 13 = .ok (.getfield 15, 3) := by decide +kernel
theorem dX5_readLikely_16 : decode cX5_readLikely 16 = .ok (.getfield 89, 3) := by decide +kernel
theorem dX5_readLikely_19 : decode cX5_readLikely 19 = .ok (.iconst 1, 1) := by decide +kernel
theorem dX5_readLikely_20 : decode cX5_readLikely 20 = .ok (.isub, 1) := by decide +kernel
theorem dX5_readLikely_21 : decode cX5_readLikely 21 = .ok (.invokevirtual 85, 3) := by decide +kernel
theorem dX5_readLikely_24 : decode cX5_readLikely 24 = .ok (.istore_n 1, 1) := by decide +kernel
theorem dX5_readLikely_25 : decode cX5_readLikely 25 = .ok (.iload_n 1, 1) := by decide +kernel
theorem dX5_readLikely_26 : decode cX5_readLikely 26 = .ok (.iconst (-1), 1) := by decide +kernel
theorem dX5_readLikely_27 : decode cX5_readLikely 27 = .ok (.if_icmp .ne 5, 3) := by decide +kernel
theorem dX5_readLikely_30 : decode cX5_readLikely 30 = .ok (.iconst 0, 1) := by decide +kernel
theorem dX5_readLikely_31 : decode cX5_readLikely 31 = .ok (.ireturn, 1) := by decide +kernel
theorem dX5_readLikely_32 : decode cX5_readLikely 32 = .ok (.aload_n 0, 1) := by decide +kernel
theorem dX5_readLikely_33 : decode cX5_readLikely 33 = .ok (.getfield 28, 3) := by decide +kernel
theorem dX5_readLikely_36 : decode cX5_readLikely 36 = .ok (.iload_n 1, 1) := by decide +kernel
theorem dX5_readLikely_37 : decode cX5_readLikely 37 = .ok (.iushr, 1) := by decide +kernel
theorem dX5_readLikely_38 : decode cX5_readLikely 38 = .ok (.iconst 1, 1) := by decide +kernel
theorem dX5_readLikely_39 : decode cX5_readLikely 39 = .ok (.iand, 1) := by decide +kernel
theorem dX5_readLikely_40 : decode cX5_readLikely 40 = .ok (.ifCond .eq 12, 3) := by decide +kernel
theorem dX5_readLikely_43 : decode cX5_readLikely 43 = .ok (.aload_n 0, 1) := by decide +kernel
theorem dX5_readLikely_44 : decode cX5_readLikely 44 = .ok (.getfield 9, 3) := by decide +kernel
theorem dX5_readLikely_47 : decode cX5_readLikely 47 = .ok (.iconst 3, 1) := by decide +kernel
theorem dX5_readLikely_48 : decode cX5_readLikely 48 = .ok (.invokevirtual 79, 3) := by decide +kernel
theorem dX5_readLikely_51 : decode cX5_readLikely 51 = .ok (.ireturn, 1) := by decide +kernel
theorem dX5_readLikely_52 : decode cX5_readLikely 52 = .ok (.aload_n 0, 1) := by decide +kernel
theorem dX5_readLikely_53 : decode cX5_readLikely 53 = .ok (.getfield 9, 3) := by decide +kernel
theorem dX5_readLikely_56 : decode cX5_readLikely 56 = .ok (.invokevirtual 82, 3) := by decide +kernel
theorem dX5_readLikely_59 : decode cX5_readLikely 59 = .ok (.aload_n 0, 1) := by decide +kernel
theorem dX5_readLikely_60 : decode cX5_readLikely 60 = .ok (.getfield 9, 3) := by decide +kernel
theorem dX5_readLikely_63 : decode cX5_readLikely 63 = .ok (.iconst 0, 1) := by decide +kernel
theorem dX5_readLikely_64 : decode cX5_readLikely 64 = .ok (.bipush 9, 2) := by decide +kernel
theorem dX5_readLikely_66 : decode cX5_readLikely 66 = .ok (.invokevirtual 85, 3) := by decide +kernel
theorem dX5_readLikely_69 : decode cX5_readLikely 69 = .ok (.istore_n 2, 1) := by decide +kernel
theorem dX5_readLikely_70 : decode cX5_readLikely 70 = .ok (.iload_n 2, 1) := by decide +kernel
theorem dX5_readLikely_71 : decode cX5_readLikely 71 = .ok (.iconst (-1), 1) := by decide +kernel
theorem dX5_readLikely_72 : decode cX5_readLikely 72 = .ok (.if_icmp .ne 5, 3) := by decide +kernel
theorem dX5_readLikely_75 : decode cX5_readLikely 75 = .ok (.iconst 0, 1) := by decide +kernel
theorem dX5_readLikely_76 : decode cX5_readLikely 76 = .ok (.ireturn, 1) := by decide +kernel
theorem dX5_readLikely_77 : decode cX5_readLikely 77 = .ok (.aload_n 0, 1) := by decide +kernel
theorem dX5_readLikely_78 : decode cX5_readLikely 78 = .ok (.dup, 1) := by decide +kernel
theorem dX5_readLikely_79 : decode cX5_readLikely 79 = .ok (.getfield 28, 3) := by decide +kernel
theorem dX5_readLikely_82 : decode cX5_readLikely 82 = .ok (.iconst 1, 1) := by decide +kernel
theorem dX5_readLikely_83 : decode cX5_readLikely 83 = .ok (.iload_n 1, 1) := by decide +kernel
theorem dX5_readLikely_84 : decode cX5_readLikely 84 = .ok (.ishl, 1) := by decide +kernel
theorem dX5_readLikely_85 : decode cX5_readLikely 85 = .ok (.ior, 1) := by decide +kernel
theorem dX5_readLikely_86 : decode cX5_readLikely 86 = .ok (.putfield 28, 3) := by decide +kernel
theorem dX5_readLikely_89 : decode cX5_readLikely 89 = .ok (.iload_n 1, 1) := by decide +kernel
theorem dX5_readLikely_90 : decode cX5_readLikely 90 = .ok (.aload_n 0, 1) := by decide +kernel
theorem dX5_readLikely_91 : decode cX5_readLikely 91 = .ok (.getfield 15, 3) := by decide +kernel
theorem dX5_readLikely_94 : decode cX5_readLikely 94 = .ok (.getfield 147, 3) := by decide +kernel
theorem dX5_readLikely_97 : decode cX5_readLikely 97 = .ok (.arraylength, 1) := by decide +kernel
theorem dX5_readLikely_98 : decode cX5_readLikely 98 = .ok (.if_icmp .gt 15, 3) := by decide +kernel
theorem dX5_readLikely_101 : decode cX5_readLikely 101 = .ok (.aload_n 0, 1) := by decide +kernel
theorem dX5_readLikely_102 : decode cX5_readLikely 102 = .ok (.getfield 15, 3) := by decide +kernel
theorem dX5_readLikely_105 : decode cX5_readLikely 105 = .ok (.getfield 147, 3) := by decide +kernel
theorem dX5_readLikely_108 : decode cX5_readLikely 108 = .ok (.iload_n 1, 1) := by decide +kernel
theorem dX5_readLikely_109 : decode cX5_readLikely 109 = .ok (.iconst 1, 1) := by decide +kernel
theorem dX5_readLikely_110 : decode cX5_readLikely 110 = .ok (.isub, 1) := by decide +kernel
theorem dX5_readLikely_111 : decode cX5_readLikely 111 = .ok (.iload_n 2, 1) := by decide +kernel
theorem dX5_readLikely_112 : decode cX5_readLikely 112 = .ok (.iastore, 1) := by decide +kernel
theorem dX5_readLikely_113 : decode cX5_readLikely 113 = .ok (.aload_n 0, 1) := by decide +kernel
theorem dX5_readLikely_114 : decode cX5_readLikely 114 = .ok (.getfield 9, 3) := by decide +kernel
theorem dX5_readLikely_117 : decode cX5_readLikely 117 = .ok (.invokevirtual 82, 3) := by decide +kernel
theorem dX5_readLikely_120 : decode cX5_readLikely 120 = .ok (.iconst 1, 1) := by decide +kernel
theorem dX5_readLikely_121 : decode cX5_readLikely 121 = .ok (.ireturn, 1) := by decide +kernel
theorem dX5_readSense_0 : decode cX5_readSense 0 = .ok (.aload_n 0, 1) := by decide +kernel
theorem dX5_readSense_1 : decode cX5_readSense 1 = .ok (.getfield 15, 3) := by decide +kernel
theorem dX5_readSense_4 : decode cX5_readSense 4 = .ok (.getfield 150, 3) := by decide +kernel
theorem dX5_readSense_7 : decode cX5_readSense 7 = .ok (.bipush 12, 2) := by decide +kernel
theorem dX5_readSense_9 : decode cX5_readSense 9 = .ok (.if_icmp .lt 12, 3) := by decide +kernel
theorem dX5_readSense_12 : decode cX5_readSense 12 = .ok (.aload_n 0, 1) := by decide +kernel
theorem dX5_readSense_13 : decode cX5_readSense 13 = .ok (.getfield 9, 3) := by decide +kernel
theorem dX5_readSense_16 : decode cX5_readSense 16 = .ok (.iconst 4, 1) := by decide +kernel
theorem dX5_readSense_17 : decode cX5_readSense 17 = .ok (.invokevirtual 79, 3) := by decide +kernel
theorem dX5_readSense_20 : decode cX5_readSense 20 = .ok (.ireturn, 1) := by decide +kernel
theorem dX5_readSense_21 : decode cX5_readSense 21 = .ok (.aload_n 0, 1) := by decide +kernel
theorem dX5_readSense_22 : decode cX5_readSense 22 = .ok (.getfield 9, 3) := by decide +kernel
theorem dX5_readSense_25 : decode cX5_readSense 25 = .ok (.invokevirtual 82, 3) := by decide +kernel
theorem dX5_readSense_28 : decode cX5_readSense 28 = .ok (.aload_n 0, 1) := by decide +kernel
theorem dX5_readSense_29 : decode cX5_readSense 29 = .ok (.invokevirtual 153, 3) := by decide +kernel
theorem dX5_readSense_32 : decode cX5_readSense 32 = .ok (.ifCond .ne 5, 3) := by decide +kernel
theorem dX5_readSense_35 : decode cX5_readSense 35 = .ok (.iconst 0, 1) := by decide +kernel
theorem dX5_readSense_36 : decode cX5_readSense 36 = .ok (.ireturn, 1) := by decide +kernel
theorem dX5_readSense_37 : decode cX5_readSense 37 = .ok (.aload_n 0, 1) := by decide +kernel
theorem dX5_readSense_38 : decode cX5_readSense 38 = .ok (.getfield 15, 3) := by decide +kernel
theorem dX5_readSense_41 : decode cX5_readSense 41 = .ok (.aload_n 0, 1) := by decide +kernel
theorem dX5_readSense_42 : decode cX5_readSense 42 = .ok (.getfield 156, 3) := by decide +kernel
theorem dX5_readSense_45 : decode cX5_readSense 45 = .ok (.aload_n 0, 1) := by decide +kernel
theorem dX5_readSense_46 : decode cX5_readSense 46 = .ok (.getfield 159, 3) := by decide +kernel
theorem dX5_readSense_49 : decode cX5_readSense 49 = .ok (.invokevirtual 162, 3) := by decide +kernel
theorem dX5_readSense_52 : decode cX5_readSense 52 = .ok (.ifCond .eq 12, 3) := by decide +kernel
theorem dX5_readSense_55 : decode cX5_readSense 55 = .ok (.aload_n 0, 1) := by decide +kernel
theorem dX5_readSense_56 : decode cX5_readSense 56 = .ok (.getfield 9, 3) := by decide +kernel
theorem dX5_readSense_59 : decode cX5_readSense 59 = .ok (.iconst 3, 1) := by decide +kernel
theorem dX5_readSense_60 : decode cX5_readSense 60 = .ok (.invokevirtual 79, 3) := by decide +kernel
theorem dX5_readSense_63 : decode cX5_readSense 63 = .ok (.ireturn, 1) := by decide +kernel
theorem dX5_readSense_64 : decode cX5_readSense 64 = .ok (.aload_n 0, 1) := by decide +kernel
theorem dX5_readSense_65 : decode cX5_readSense 65 = .ok (.getfield 15, 3) := by decide +kernel
theorem dX5_readSense_68 : decode cX5_readSense 68 = .ok (.aload_n 0, 1) := by decide +kernel
theorem dX5_readSense_69 : decode cX5_readSense 69 = .ok (.getfield 156, 3) := by decide +kernel
theorem dX5_readSense_72 : decode cX5_readSense 72 = .ok (.aload_n 0, 1) := by decide +kernel
theorem dX5_readSense_73 : decode cX5_readSense 73 = .ok (.getfield 159, 3) := by decide +kernel
theorem dX5_readSense_76 : decode cX5_readSense 76 = .ok (.invokevirtual 166, 3) := by decide +kernel
theorem dX5_readSense_79 : decode cX5_readSense 79 = .ok (.aload_n 0, 1) := by decide +kernel
theorem dX5_readSense_80 : decode cX5_readSense 80 = .ok (.getfield 9, 3) := by decide +kernel
theorem dX5_readSense_83 : decode cX5_readSense 83 = .ok (.invokevirtual 82, 3) := by decide +kernel
theorem dX5_readSense_86 : decode cX5_readSense 86 = .ok (.iconst 1, 1) := by decide +kernel
theorem dX5_readSense_87 : decode cX5_readSense 87 = .ok (.ireturn, 1) := by decide +kernel
theorem dX5_readRhyme_0 : decode cX5_readRhyme 0 = .ok (.aload_n 0, 1) := by decide +kernel
theorem dX5_readRhyme_1 : decode cX5_readRhyme 1 = .ok (.getfield 15, 3) := by decide +kernel
theorem dX5_readRhyme_4 : decode cX5_readRhyme 4 = .ok (.getfield 170, 3) := by decide +kernel
theorem dX5_readRhyme_7 : decode cX5_readRhyme 7 = .ok (.bipush 12, 2) := by decide +kernel
theorem dX5_readRhyme_9 : decode cX5_readRhyme 9 = .ok (.if_icmp .lt 12, 3) := by decide +kernel
theorem dX5_readRhyme_12 : decode cX5_readRhyme 12 = .ok (.aload_n 0, 1) := by decide +kernel
theorem dX5_readRhyme_13 : decode cX5_readRhyme 13 = .ok (.getfield 9, 3) := by decide +kernel
theorem dX5_readRhyme_16 : decode cX5_readRhyme 16 = .ok (.iconst 4, 1) := by decide +kernel
theorem dX5_readRhyme_17 : decode cX5_readRhyme 17 = .ok (.invokevirtual 79, 3) := by decide +kernel
theorem dX5_readRhyme_20 : decode cX5_readRhyme 20 = .ok (.ireturn, 1) := by decide +kernel
theorem dX5_readRhyme_21 : decode cX5_readRhyme 21 = .ok (.aload_n 0, 1) := by decide +kernel
theorem dX5_readRhyme_22 : decode cX5_readRhyme 22 = .ok (.getfield 9, 3) := by decide +kernel
theorem dX5_readRhyme_25 : decode cX5_readRhyme 25 = .ok (.invokevirtual 82, 3) := by decide +kernel
theorem dX5_readRhyme_28 : decode cX5_readRhyme 28 = .ok (.aload_n 0, 1) := by decide +kernel
theorem dX5_readRhyme_29 : decode cX5_readRhyme 29 = .ok (.invokevirtual 153, 3) := by decide +kernel
theorem dX5_readRhyme_32 : decode cX5_readRhyme 32 = .ok (.ifCond .ne 5, 3) := by decide +kernel
theorem dX5_readRhyme_35 : decode cX5_readRhyme 35 = .ok (.iconst 0, 1) := by decide +kernel
theorem dX5_readRhyme_36 : decode cX5_readRhyme 36 = .ok (.ireturn, 1) := by decide +kernel
theorem dX5_readRhyme_37 : decode cX5_readRhyme 37 = .ok (.aload_n 0, 1) := by decide +kernel
theorem dX5_readRhyme_38 : decode cX5_readRhyme 38 = .ok (.getfield 15, 3) := by decide +kernel
theorem dX5_readRhyme_41 : decode cX5_readRhyme 41 = .ok (.aload_n 0, 1) := by decide +kernel
theorem dX5_readRhyme_42 : decode cX5_readRhyme 42 = .ok (.getfield 156, 3) := by decide +kernel
theorem dX5_readRhyme_45 : decode cX5_readRhyme 45 = .ok (.aload_n 0, 1) := by decide +kernel
theorem dX5_readRhyme_46 : decode cX5_readRhyme 46 = .ok (.getfield 159, 3) := by decide +kernel
theorem dX5_readRhyme_49 : decode cX5_readRhyme 49 = .ok (.invokevirtual 173, 3) := by decide +kernel
theorem dX5_readRhyme_52 : decode cX5_readRhyme 52 = .ok (.ifCond .eq 12, 3) := by decide +kernel
theorem dX5_readRhyme_55 : decode cX5_readRhyme 55 = .ok (.aload_n 0, 1) := by decide +kernel
theorem dX5_readRhyme_56 : decode cX5_readRhyme 56 = .ok (.getfield 9, 3) := by decide +kernel
theorem dX5_readRhyme_59 : decode cX5_readRhyme 59 = .ok (.iconst 3, 1) := by decide +kernel
theorem dX5_readRhyme_60 : decode cX5_readRhyme 60 = .ok (.invokevirtual 79, 3) := by decide +kernel
theorem dX5_readRhyme_63 : decode cX5_readRhyme 63 = .ok (.ireturn, 1) := by decide +kernel
theorem dX5_readRhyme_64 : decode cX5_readRhyme 64 = .ok (.aload_n 0, 1) := by decide +kernel
theorem dX5_readRhyme_65 : decode cX5_readRhyme 65 = .ok (.getfield 9, 3) := by decide +kernel
theorem dX5_readRhyme_68 : decode cX5_readRhyme 68 = .ok (.invokevirtual 82, 3) := by decide +kernel
theorem dX5_readRhyme_71 : decode cX5_readRhyme 71 = .ok (.aload_n 0, 1) := by decide +kernel
theorem dX5_readRhyme_72 : decode cX5_readRhyme 72 = .ok (.getfield 9, 3) := by decide +kernel
theorem dX5_readRhyme_75 : decode cX5_readRhyme 75 = .ok (.iconst 1, 1) := by decide +kernel
theorem dX5_readRhyme_76 : decode cX5_readRhyme 76 = .ok (.bipush 99, 2) := by decide +kernel
theorem dX5_readRhyme_78 : decode cX5_readRhyme 78 = .ok (.invokevirtual 85, 3) := by decide +kernel
theorem dX5_readRhyme_81 : decode cX5_readRhyme 81 = .ok (.istore_n 1, 1) := by decide +kernel
theorem dX5_readRhyme_82 : decode cX5_readRhyme 82 = .ok (.iload_n 1, 1) := by decide +kernel
theorem dX5_readRhyme_83 : decode cX5_readRhyme 83 = .ok (.iconst (-1), 1) := by decide +kernel
theorem dX5_readRhyme_84 : decode cX5_readRhyme 84 = .ok (.if_icmp .ne 5, 3) := by decide +kernel
theorem dX5_readRhyme_87 : decode cX5_readRhyme 87 = .ok (.iconst 0, 1) := by decide +kernel
theorem dX5_readRhyme_88 : decode cX5_readRhyme 88 = .ok (.ireturn, 1) := by decide +kernel
theorem dX5_readRhyme_89 : decode cX5_readRhyme 89 = .ok (.aload_n 0, 1) := by decide +kernel
theorem dX5_readRhyme_90 : decode cX5_readRhyme 90 = .ok (.getfield 15, 3) := by decide +kernel
theorem dX5_readRhyme_93 : decode cX5_readRhyme 93 = .ok (.aload_n 0, 1) := by decide +kernel
theorem dX5_readRhyme_94 : decode cX5_readRhyme 94 = .ok (.getfield 156, 3) := by decide +kernel
theorem dX5_readRhyme_97 : decode cX5_readRhyme 97 = .ok (.aload_n 0, 1) := by decide +kernel
theorem dX5_readRhyme_98 : decode cX5_readRhyme 98 = .ok (.getfield 159, 3) := by decide +kernel
theorem dX5_readRhyme_101 : decode cX5_readRhyme 101 = .ok (.iload_n 1, 1) := by decide +kernel
theorem dX5_readRhyme_102 : decode cX5_readRhyme 102 = .ok (.invokevirtual 176, 3) := by decide +kernel
theorem dX5_readRhyme_105 : decode cX5_readRhyme 105 = .ok (.aload_n 0, 1) := by decide +kernel
theorem dX5_readRhyme_106 : decode cX5_readRhyme 106 = .ok (.getfield 9, 3) := by decide +kernel
theorem dX5_readRhyme_109 : decode cX5_readRhyme 109 = .ok (.invokevirtual 82, 3) := by decide +kernel
theorem dX5_readRhyme_112 : decode cX5_readRhyme 112 = .ok (.iconst 1, 1) := by decide +kernel
theorem dX5_readRhyme_113 : decode cX5_readRhyme 113 = .ok (.ireturn, 1) := by decide +kernel
theorem dX5_readPair_0 : decode cX5_readPair 0 = .ok (.aload_n 0, 1) := by decide +kernel
theorem dX5_readPair_1 : decode cX5_readPair 1 = .ok (.aload_n 0, 1) := by decide +kernel
theorem dX5_readPair_2 : decode cX5_readPair 2 = .ok (.getfield 9, 3) := by decide +kernel
theorem dX5_readPair_5 : decode cX5_readPair 5 = .ok (.aload_n 0, 1) := by decide +kernel
theorem dX5_readPair_6 : decode cX5_readPair 6 = .ok (.getfield 15, 3) := by decide +kernel
theorem dX5_readPair_9 : decode cX5_readPair 9 = .ok (.getfield 89, 3) := by decide +kernel
theorem dX5_readPair_12 : decode cX5_readPair 12 = .ok (.invokevirtual 180, 3) := by decide +kernel
theorem dX5_readPair_15 : decode cX5_readPair 15 = .ok (.putfield 156, 3) := by decide +kernel
theorem dX5_readPair_18 : decode cX5_readPair 18 = .ok (.aload_n 0, 1) := by decide +kernel
theorem dX5_readPair_19 : decode cX5_readPair 19 = .ok (.getfield 156, 3) := by decide +kernel
theorem dX5_readPair_22 : decode cX5_readPair 22 = .ok (.iconst (-1), 1) := by decide +kernel
theorem dX5_readPair_23 : decode cX5_readPair 23 = .ok (.if_icmp .ne 5, 3) := by decide +kernel
theorem dX5_readPair_26 : decode cX5_readPair 26 = .ok (.iconst 0, 1) := by decide +kernel
theorem dX5_readPair_27 : decode cX5_readPair 27 = .ok (.ireturn, 1) := by decide +kernel
theorem dX5_readPair_28 : decode cX5_readPair 28 = .ok (.aload_n 0, 1) := by decide +kernel
theorem dX5_readPair_29 : decode cX5_readPair 29 = .ok (.getfield 9, 3) := by decide +kernel
theorem dX5_readPair_32 : decode cX5_readPair 32 = .ok (.invokevirtual 82, 3) := by decide +kernel
theorem dX5_readPair_35 : decode cX5_readPair 35 = .ok (.aload_n 0, 1) := by decide +kernel
theorem dX5_readPair_36 : decode cX5_readPair 36 = .ok (.aload_n 0, 1) := by decide +kernel
theorem dX5_readPair_37 : decode cX5_readPair 37 = .ok (.getfield 9, 3) := by decide +kernel
theorem dX5_readPair_40 : decode cX5_readPair 40 = .ok (.aload_n 0, 1) := by decide +kernel
theorem dX5_readPair_41 : decode cX5_readPair 41 = .ok (.getfield 15, 3) := by decide +kernel
theorem dX5_readPair_44 : decode cX5_readPair 44 = .ok (.getfield 89, 3) := by decide +kernel
theorem dX5_readPair_47 : decode cX5_readPair 47 = .ok (.invokevirtual 180, 3) := by decide +kernel
theorem dX5_readPair_50 : decode cX5_readPair 50 = .ok (.putfield 159, 3) := by decide +kernel
theorem dX5_readPair_53 : decode cX5_readPair 53 = .ok (.aload_n 0, 1) := by decide +kernel
theorem dX5_readPair_54 : decode cX5_readPair 54 = .ok (.getfield 159, 3) := by decide +kernel
theorem dX5_readPair_57 : decode cX5_readPair 57 = .ok (.iconst (-1), 1) := by decide +kernel
theorem dX5_readPair_58 : decode cX5_readPair 58 = .ok (.if_icmp .ne 5, 3) := by decide +kernel
theorem dX5_readPair_61 : decode cX5_readPair 61 = .ok (.iconst 0, 1) := by decide +kernel
theorem dX5_readPair_62 : decode cX5_readPair 62 = .ok (.ireturn, 1) := by decide +kernel
theorem dX5_readPair_63 : decode cX5_readPair 63 = .ok (.aload_n 0, 1) := by decide +kernel
theorem dX5_readPair_64 : decode cX5_readPair 64 = .ok (.getfield 156, 3) := by decide +kernel
theorem dX5_readPair_67 : decode cX5_readPair 67 = .ok (.aload_n 0, 1) := by decide +kernel
theorem dX5_readPair_68 : decode cX5_readPair 68 = .ok (.getfield 159, 3) := by decide +kernel
theorem dX5_readPair_71 : decode cX5_readPair 71 = .ok (.if_icmp .ne 14, 3) := by decide +kernel
theorem dX5_readPair_74 : decode cX5_readPair 74 = .ok (.aload_n 0, 1) := by decide +kernel
theorem dX5_readPair_75 : decode cX5_readPair 75 = .ok (.getfield 9, 3) := by decide +kernel
theorem dX5_readPair_78 : decode cX5_readPair 78 = .ok (.iconst 3, 1) := by decide +kernel
theorem dX5_readPair_79 : decode cX5_readPair 79 = .ok (.invokevirtual 79, 3) := by decide +kernel
theorem dX5_readPair_82 : decode cX5_readPair 82 = .ok (.ifCond .eq 7, 3) := by decide +kernel
theorem dX5_readPair_85 : decode cX5_readPair 85 = .ok (.iconst 1, 1) := by decide +kernel
theorem dX5_readPair_86 : decode cX5_readPair 86 = .ok (.goto 4, 3) := by decide +kernel
theorem dX5_readPair_89 : decode cX5_readPair 89 = .ok (.iconst 0, 1) := by decide +kernel
theorem dX5_readPair_90 : decode cX5_readPair 90 = .ok (.ireturn, 1) := by decide +kernel
theorem dX6_init_0 : decode cX6_init 0 = .ok (.aload_n 0, 1) := by decide +kernel
theorem dX6_init_1 : decode cX6_init 1 = .ok (.invokespecial 3, 3) := by decide +kernel
theorem dX6_init_4 : decode cX6_init 4 = .ok (.aload_n 0, 1) := by decide +kernel
theorem dX6_init_5 : decode cX6_init 5 = .ok (.iconst 2, 1) := by decide +kernel
theorem dX6_init_6 : decode cX6_init 6 = .ok (.bipush 7, 2) := by decide +kernel
theorem dX6_init_8 : decode cX6_init 8 = .ok (.iload_n 1, 1) := by decide +kernel
theorem dX6_init_9 : decode cX6_init 9 = .ok (.invokestatic 9, 3) := by decide +kernel
theorem dX6_init_12 : decode cX6_init 12 = .ok (.invokestatic 15, 3) := by decide +kernel
theorem dX6_init_15 : decode cX6_init 15 = .ok (.putfield 18, 3) := by decide +kernel
theorem dX6_init_18 : decode cX6_init 18 = .ok (.aload_n 0, 1) := by decide +kernel
theorem dX6_init_19 : decode cX6_init 19 = .ok (.aload_n 0, 1) := by decide +kernel
theorem dX6_init_20 : decode cX6_init 20 = .ok (.getfield 18, 3) := by decide +kernel
theorem dX6_init_23 : decode cX6_init 23 = .ok (.invokestatic 24, 3) := by decide +kernel
theorem dX6_init_26 : decode cX6_init 26 = .ok (.putfield 28, 3) := by decide +kernel
theorem dX6_init_29 : decode cX6_init 29 = .ok (.aload_n 0, 1) := by decide +kernel
theorem dX6_init_30 : decode cX6_init 30 = .ok (.iconst 1, 1) := by decide +kernel
theorem dX6_init_31 : decode cX6_init 31 = .ok (.aload_n 0, 1) := by decide +kernel
theorem dX6_init_32 : decode cX6_init 32 = .ok (.getfield 18, 3) := by decide +kernel
theorem dX6_init_35 : decode cX6_init 35 = .ok (.aload_n 0, 1) := by decide +kernel
theorem dX6_init_36 : decode cX6_init 36 = .ok (.getfield 18, 3) := by decide +kernel
theorem dX6_init_39 : decode cX6_init 39 = .ok (.iconst 1, 1) := by decide +kernel
theorem dX6_init_40 : decode cX6_init 40 = .ok (.isub, 1) := by decide +kernel
theorem dX6_init_41 : decode cX6_init 41 = .ok (.imul, 1) := by decide +kernel
theorem dX6_init_42 : decode cX6_init 42 = .ok (.iconst 2, 1) := by decide +kernel
theorem dX6_init_43 : decode cX6_init 43 = .ok (.idiv, 1) := by decide +kernel
theorem dX6_init_44 : decode cX6_init 44 = .ok (.ishl, 1) := by decide +kernel
theorem dX6_init_45 : decode cX6_init 45 = .ok (.iconst 1, 1) := by decide +kernel
theorem dX6_init_46 : decode cX6_init 46 = .ok (.isub, 1) := by decide +kernel
theorem dX6_init_47 : decode cX6_init 47 = .ok (.putfield 31, 3) := by decide +kernel
theorem dX6_init_50 : decode cX6_init 50 = .ok (.aload_n 0, 1) := by decide +kernel
theorem dX6_init_51 : decode cX6_init 51 = .ok (.aload_n 0, 1) := by decide +kernel
theorem dX6_init_52 : decode cX6_init 52 = .ok (.getfield 28, 3) := by decide +kernel
theorem dX6_init_55 : decode cX6_init 55 = .ok (.newarray .int, 2) := by decide +kernel
theorem dX6_init_57 : decode cX6_init 57 = .ok (.putfield 34, 3) := by decide +kernel
theorem dX6_init_60 : decode cX6_init 60 = .ok (.aload_n 0, 1) := by decide +kernel
theorem dX6_init_61 : decode cX6_init 61 = .ok (.aload_n 0, 1) := by decide +kernel
theorem dX6_init_62 : decode cX6_init 62 = .ok (.getfield 28, 3) := by decide +kernel
theorem dX6_init_65 : decode cX6_init 65 = .ok (.newarray .int, 2) := by decide +kernel
theorem dX6_init_67 : decode cX6_init 67 = .ok (.putfield 38, 3) := by decide +kernel
theorem dX6_init_70 : decode cX6_init 70 = .ok (.aload_n 0, 1) := by decide +kernel
theorem dX6_init_71 : decode cX6_init 71 = .ok (.aload_n 0, 1) := by decide +kernel
theorem dX6_init_72 : decode cX6_init 72 = .ok (.getfield 28, 3) := by decide +kernel
theorem dX6_init_75 : decode cX6_init 75 = .ok (.aload_n 0, 1) := by decide +kernel
theorem dX6_init_76 : decode cX6_init 76 = .ok (.getfield 18, 3) := by decide +kernel
theorem dX6_init_79 : decode cX6_init 79 = .ok (.iconst 1, 1) := by decide +kernel
theorem dX6_init_80 : decode cX6_init 80 = .ok (.isub, 1) := by decide +kernel
theorem dX6_init_81 : decode cX6_init 81 = .ok (.imul, 1) := by decide +kernel
theorem dX6_init_82 : decode cX6_init 82 = .ok (.newarray .int, 2) := by decide +kernel
theorem dX6_init_84 : decode cX6_init 84 = .ok (.putfield 41, 3) := by decide +kernel
theorem dX6_init_87 : decode cX6_init 87 = .ok (.aload_n 0, 1) := by decide +kernel
theorem dX6_init_88 : decode cX6_init 88 = .ok (.aload_n 0, 1) := by decide +kernel
theorem dX6_init_89 : decode cX6_init 89 = .ok (.getfield 28, 3) := by decide +kernel
theorem dX6_init_92 : decode cX6_init 92 = .ok (.newarray .long, 2) := by decide +kernel
theorem dX6_init_94 : decode cX6_init 94 = .ok (.putfield 44, 3) := by decide +kernel
theorem dX6_init_97 : decode cX6_init 97 = .ok (.aload_n 0, 1) := by decide +kernel
theorem dX6_init_98 : decode cX6_init 98 = .ok (.aload_n 0, 1) := by decide +kernel
theorem dX6_init_99 : decode cX6_init 99 = .ok (.getfield 28, 3) := by decide +kernel
theorem dX6_init_102 : decode cX6_init 102 = .ok (.newarray .long, 2) := by decide +kernel
theorem dX6_init_104 : decode cX6_init 104 = .ok (.putfield 48, 3) := by decide +kernel
theorem dX6_init_107 : decode cX6_init 107 = .ok (.aload_n 0, 1) := by decide +kernel
theorem dX6_init_108 : decode cX6_init 108 = .ok (.aload_n 0, 1) := by decide +kernel
theorem dX6_init_109 : decode cX6_init 109 = .ok (.getfield 28, 3) := by decide +kernel
theorem dX6_init_112 : decode cX6_init 112 = .ok (.newarray .long, 2) := by decide +kernel
theorem dX6_init_114 : decode cX6_init 114 = .ok (.putfield 51, 3) := by decide +kernel
theorem dX6_init_117 : decode cX6_init 117 = .ok (.new 54, 3) := by decide +kernel
theorem dX6_init_120 : decode cX6_init 120 = .ok (.dup, 1) := by decide +kernel
theorem dX6_init_121 : decode cX6_init 121 = .ok (.invokespecial 56, 3) := by decide +kernel
theorem dX6_init_124 : decode cX6_init 124 = .ok (.astore_n 2, 1) := by decide +kernel
theorem dX6_init_125 : decode cX6_init 125 = .ok (.aload_n 0, 1) := by decide +kernel
theorem dX6_init_126 : decode cX6_init 126 = .ok (.getfield 18, 3) := by decide +kernel
theorem dX6_init_129 : decode cX6_init 129 = .ok (.newarray .int, 2) := by decide +kernel
theorem dX6_init_131 : decode cX6_init 131 = .ok (.astore_n 3, 1) := by decide +kernel
theorem dX6_init_132 : decode cX6_init 132 = .ok (.iconst 0, 1) := by decide +kernel
theorem dX6_init_133 : decode cX6_init 133 = .ok (.istore 4, 2) := by decide +kernel
theorem dX6_init_135 : decode cX6_init 135 = .ok (.iload 4, 2) := by decide +kernel
theorem dX6_init_137 : decode cX6_init 137 = .ok (.aload_n 0, 1) := by decide +kernel
theorem dX6_init_138 : decode cX6_init 138 = .ok (.getfield 18, 3) := by decide +kernel
theorem dX6_init_141 : decode cX6_init 141 = .ok (.if_icmp .ge 15, 3) := by decide +kernel
theorem dX6_init_144 : decode cX6_init 144 = .ok (.aload_n 3, 1) := by decide +kernel
theorem dX6_init_145 : decode cX6_init 145 = .ok (.iload 4, 2) := by decide +kernel
theorem dX6_init_147 : decode cX6_init 147 = .ok (.iload 4, 2) := by decide +kernel
theorem dX6_init_149 : decode cX6_init 149 = .ok (.iastore, 1) := by decide +kernel
theorem dX6_init_150 : decode cX6_init 150 = .ok (.iinc 4 1, 3) := by decide +kernel
theorem dX6_init_153 : decode cX6_init 153 = .ok (.goto (-18), 3) := by decide +kernel
theorem dX6_init_156 : decode cX6_init 156 = .ok (.iconst 0, 1) := by decide +kernel
theorem dX6_init_157 : decode cX6_init 157 = .ok (.istore 4, 2) := by decide +kernel
theorem dX6_init_159 : decode cX6_init 159 = .ok (.iload 4, 2) := by decide +kernel
theorem dX6_init_161 : decode cX6_init 161 = .ok (.aload_n 0, 1) := by decide +kernel
theorem dX6_init_162 : decode cX6_init 162 = .ok (.getfield 28, 3) := by decide +kernel
theorem dX6_init_165 : decode cX6_init 165 = .ok (.if_icmp .ge 72, 3) := by decide +kernel
theorem dX6_init_168 : decode cX6_init 168 = .ok (.aload_n 2, 1) := by decide +kernel
theorem dX6_init_169 : decode cX6_init 169 = .ok (.invokevirtual 57, 3) := by decide +kernel
theorem dX6_init_172 : decode cX6_init 172 = .ok (.iconst 0, 1) := by decide +kernel
theorem dX6_init_173 : decode cX6_init 173 = .ok (.istore 5, 2) := by decide +kernel
theorem dX6_init_175 : decode cX6_init 175 = .ok (.iload 5, 2) := by decide +kernel
theorem dX6_init_177 : decode cX6_init 177 = .ok (.aload_n 0, 1) := by decide +kernel
theorem dX6_init_178 : decode cX6_init 178 = .ok (.getfield 18, 3) := by decide +kernel
theorem dX6_init_181 : decode cX6_init 181 = .ok (.if_icmp .ge 17, 3) := by decide +kernel
theorem dX6_init_184 : decode cX6_init 184 = .ok (.aload_n 2, 1) := by decide +kernel
theorem dX6_init_185 : decode cX6_init 185 = .ok (.aload_n 3, 1) := by decide +kernel
theorem dX6_init_186 : decode cX6_init 186 = .ok (.iload 5, 2) := by decide +kernel
theorem dX6_init_188 : decode cX6_init 188 = .ok (.iaload, 1) := by decide +kernel
theorem dX6_init_189 : decode cX6_init 189 = .ok (.invokevirtual 60, 3) := by decide +kernel
theorem dX6_init_192 : decode cX6_init 192 = .ok (.iinc 5 1, 3) := by decide +kernel
theorem dX6_init_195 : decode cX6_init 195 = .ok (.goto (-20), 3) := by decide +kernel
theorem dX6_init_198 : decode cX6_init 198 = .ok (.aload_n 0, 1) := by decide +kernel
theorem dX6_init_199 : decode cX6_init 199 = .ok (.getfield 34, 3) := by decide +kernel
theorem dX6_init_202 : decode cX6_init 202 = .ok (.iload 4, 2) := by decide +kernel
theorem dX6_init_204 : decode cX6_init 204 = .ok (.aload_n 2, 1) := by decide +kernel
theorem dX6_init_205 : decode cX6_init 205 = .ok (.getfield 64, 3) := by decide +kernel
theorem dX6_init_208 : decode cX6_init 208 = .ok (.iastore, 1) := by decide +kernel
theorem dX6_init_209 : decode cX6_init 209 = .ok (.aload_n 0, 1) := by decide +kernel
theorem dX6_init_210 : decode cX6_init 210 = .ok (.getfield 38, 3) := by decide +kernel
theorem dX6_init_213 : decode cX6_init 213 = .ok (.iload 4, 2) := by decide +kernel
theorem dX6_init_215 : decode cX6_init 215 = .ok (.aload_n 2, 1) := by decide +kernel
theorem dX6_init_216 : decode cX6_init 216 = .ok (.getfield 66, 3) := by decide +kernel
theorem dX6_init_219 : decode cX6_init 219 = .ok (.iastore, 1) := by decide +kernel
theorem dX6_init_220 : decode cX6_init 220 = .ok (.aload_n 0, 1) := by decide +kernel
theorem dX6_init_221 : decode cX6_init 221 = .ok (.iload 4, 2) := by decide +kernel
theorem dX6_init_223 : decode cX6_init 223 = .ok (.aload_n 2, 1) := by decide +kernel
theorem dX6_init_224 : decode cX6_init 224 = .ok (.invokevirtual 68, 3) := by decide +kernel
theorem dX6_init_227 : decode cX6_init 227 = .ok (.aload_n 3, 1) := by decide +kernel
theorem dX6_init_228 : decode cX6_init 228 = .ok (.invokestatic 72, 3) := by decide +kernel
theorem dX6_init_231 : decode cX6_init 231 = .ok (.iinc 4 1, 3) := by decide +kernel
theorem dX6_init_234 : decode cX6_init 234 = .ok (.goto (-75), 3) := by decide +kernel
theorem dX6_init_237 : decode cX6_init 237 = .ok (.return_, 1) := by decide +kernel
theorem dX6_has_0 : decode cX6_has 0 = .ok (.iload_n 1, 1) := by decide +kernel
theorem dX6_has_1 : decode cX6_has 1 = .ok (.ifCond .lt 15, 3) := by decide +kernel
theorem dX6_has_4 : decode cX6_has 4 = .ok (.iload_n 1, 1) := by decide +kernel
theorem dX6_has_5 : decode cX6_has 5 = .ok (.aload_n 0, 1) := by decide +kernel
theorem dX6_has_6 : decode cX6_has 6 = .ok (.getfield 28, 3) := by decide +kernel
theorem dX6_has_9 : decode cX6_has 9 = .ok (.if_icmp .ge 7, 3) := by decide +kernel
theorem dX6_has_12 : decode cX6_has 12 = .ok (.iconst 1, 1) := by decide +kernel
theorem dX6_has_13 : decode cX6_has 13 = .ok (.goto 4, 3) := by decide +kernel
theorem dX6_has_16 : decode cX6_has 16 = .ok (.iconst 0, 1) := by decide +kernel
theorem dX6_has_17 : decode cX6_has 17 = .ok (.ireturn, 1) := by decide +kernel
theorem dX6_exchanged_0 : decode cX6_exchanged 0 = .ok (.iload_n 1, 1) := by decide +kernel
theorem dX6_exchanged_1 : decode cX6_exchanged 1 = .ok (.aload_n 0, 1) := by decide +kernel
theorem dX6_exchanged_2 : decode cX6_exchanged 2 = .ok (.getfield 18, 3) := by decide +kernel
theorem dX6_exchanged_5 : decode cX6_exchanged 5 = .ok (.iconst 1, 1) := by decide +kernel
theorem dX6_exchanged_6 : decode cX6_exchanged 6 = .ok (.isub, 1) := by decide +kernel
theorem dX6_exchanged_7 : decode cX6_exchanged 7 = .ok (.imul, 1) := by decide +kernel
theorem dX6_exchanged_8 : decode cX6_exchanged 8 = .ok (.iload_n 2, 1) := by decide +kernel
theorem dX6_exchanged_9 : decode cX6_exchanged 9 = .ok (.iadd, 1) := by decide +kernel
theorem dX6_exchanged_10 : decode cX6_exchanged 10 = .ok (.istore_n 3, 1) := by decide +kernel
theorem dX6_exchanged_11 : decode cX6_exchanged 11 = .ok (.iload_n 3, 1) := by decide +kernel
theorem dX6_exchanged_12 : decode cX6_exchanged 12 = .ok (.ifCond .lt 21, 3) := by decide +kernel
theorem dX6_exchanged_15 : decode cX6_exchanged 15 = .ok (.iload_n 3, 1) := by decide +kernel
theorem dX6_exchanged_16 : decode cX6_exchanged 16 = .ok (.aload_n 0, 1) := by decide +kernel
theorem dX6_exchanged_17 : decode cX6_exchanged 17 = .ok (.getfield 41, 3) := by decide +kernel
theorem dX6_exchanged_20 : decode cX6_exchanged 20 = .ok (.arraylength, 1) := by decide +kernel
theorem dX6_exchanged_21 : decode cX6_exchanged 21 = .ok (.if_icmp .ge 12, 3) := by decide +kernel
theorem dX6_exchanged_24 : decode cX6_exchanged 24 = .ok (.aload_n 0, 1) := by decide +kernel
theorem dX6_exchanged_25 : decode cX6_exchanged 25 = .ok (.getfield 41, 3) := by decide +kernel
theorem dX6_exchanged_28 : decode cX6_exchanged 28 = .ok (.iload_n 3, 1) := by decide +kernel
theorem dX6_exchanged_29 : decode cX6_exchanged 29 = .ok (.iaload, 1) := by decide +kernel
theorem dX6_exchanged_30 : decode cX6_exchanged 30 = .ok (.goto 4, 3) := by decide +kernel
theorem dX6_exchanged_33 : decode cX6_exchanged 33 = .ok (.iload_n 1, 1) := by decide +kernel
theorem dX6_exchanged_34 : decode cX6_exchanged 34 = .ok (.ireturn, 1) := by decide +kernel
theorem dX6_stepsTo_0 : decode cX6_stepsTo 0 = .ok (.aload_n 0, 1) := by decide +kernel
theorem dX6_stepsTo_1 : decode cX6_stepsTo 1 = .ok (.getfield 38, 3) := by decide +kernel
theorem dX6_stepsTo_4 : decode cX6_stepsTo 4 = .ok (.iload_n 1, 1) := by decide +kernel
theorem dX6_stepsTo_5 : decode cX6_stepsTo 5 = .ok (.iaload, 1) := by decide +kernel
theorem dX6_stepsTo_6 : decode cX6_stepsTo 6 = .ok (.aload_n 2, 1) := by decide +kernel
theorem dX6_stepsTo_7 : decode cX6_stepsTo 7 = .ok (.getfield 66, 3) := by decide +kernel
theorem dX6_stepsTo_10 : decode cX6_stepsTo 10 = .ok (.ixor, 1) := by decide +kernel
theorem dX6_stepsTo_11 : decode cX6_stepsTo 11 = .ok (.aload_n 2, 1) := by decide +kernel
theorem dX6_stepsTo_12 : decode cX6_stepsTo 12 = .ok (.getfield 76, 3) := by decide +kernel
theorem dX6_stepsTo_15 : decode cX6_stepsTo 15 = .ok (.iand, 1) := by decide +kernel
theorem dX6_stepsTo_16 : decode cX6_stepsTo 16 = .ok (.invokestatic 79, 3) := by decide +kernel
theorem dX6_stepsTo_19 : decode cX6_stepsTo 19 = .ok (.ireturn, 1) := by decide +kernel
theorem dX6_farTo_0 : decode cX6_farTo 0 = .ok (.aload_n 0, 1) := by decide +kernel
theorem dX6_farTo_1 : decode cX6_farTo 1 = .ok (.iload_n 1, 1) := by decide +kernel
theorem dX6_farTo_2 : decode cX6_farTo 2 = .ok (.aload_n 2, 1) := by decide +kernel
theorem dX6_farTo_3 : decode cX6_farTo 3 = .ok (.invokevirtual 84, 3) := by decide +kernel
theorem dX6_farTo_6 : decode cX6_farTo 6 = .ok (.iconst 3, 1) := by decide +kernel
theorem dX6_farTo_7 : decode cX6_farTo 7 = .ok (.aload_n 0, 1) := by decide +kernel
theorem dX6_farTo_8 : decode cX6_farTo 8 = .ok (.getfield 18, 3) := by decide +kernel
theorem dX6_farTo_11 : decode cX6_farTo 11 = .ok (.aload_n 2, 1) := by decide +kernel
theorem dX6_farTo_12 : decode cX6_farTo 12 = .ok (.getfield 88, 3) := by decide +kernel
theorem dX6_farTo_15 : decode cX6_farTo 15 = .ok (.isub, 1) := by decide +kernel
theorem dX6_farTo_16 : decode cX6_farTo 16 = .ok (.imul, 1) := by decide +kernel
theorem dX6_farTo_17 : decode cX6_farTo 17 = .ok (.iadd, 1) := by decide +kernel
theorem dX6_farTo_18 : decode cX6_farTo 18 = .ok (.ireturn, 1) := by decide +kernel
theorem dX6_numberOf_0 : decode cX6_numberOf 0 = .ok (.iconst 0, 1) := by decide +kernel
theorem dX6_numberOf_1 : decode cX6_numberOf 1 = .ok (.istore_n 2, 1) := by decide +kernel
theorem dX6_numberOf_2 : decode cX6_numberOf 2 = .ok (.iconst 0, 1) := by decide +kernel
theorem dX6_numberOf_3 : decode cX6_numberOf 3 = .ok (.istore_n 3, 1) := by decide +kernel
theorem dX6_numberOf_4 : decode cX6_numberOf 4 = .ok (.iload_n 3, 1) := by decide +kernel
theorem dX6_numberOf_5 : decode cX6_numberOf 5 = .ok (.aload_n 0, 1) := by decide +kernel
theorem dX6_numberOf_6 : decode cX6_numberOf 6 = .ok (.getfield 18, 3) := by decide +kernel
theorem dX6_numberOf_9 : decode cX6_numberOf 9 = .ok (.if_icmp .ge 29, 3) := by decide +kernel
theorem dX6_numberOf_12 : decode cX6_numberOf 12 = .ok (.iload_n 2, 1) := by decide +kernel
theorem dX6_numberOf_13 : decode cX6_numberOf 13 = .ok (.aload_n 1, 1) := by decide +kernel
theorem dX6_numberOf_14 : decode cX6_numberOf 14 = .ok (.iload_n 3, 1) := by decide +kernel
theorem dX6_numberOf_15 : decode cX6_numberOf 15 = .ok (.invokestatic 91, 3) := by decide +kernel
theorem dX6_numberOf_18 : decode cX6_numberOf 18 = .ok (.aload_n 0, 1) := by decide +kernel
theorem dX6_numberOf_19 : decode cX6_numberOf 19 = .ok (.getfield 18, 3) := by decide +kernel
theorem dX6_numberOf_22 : decode cX6_numberOf 22 = .ok (.iconst 1, 1) := by decide +kernel
theorem dX6_numberOf_23 : decode cX6_numberOf 23 = .ok (.isub, 1) := by decide +kernel
theorem dX6_numberOf_24 : decode cX6_numberOf 24 = .ok (.iload_n 3, 1) := by decide +kernel
theorem dX6_numberOf_25 : decode cX6_numberOf 25 = .ok (.isub, 1) := by decide +kernel
theorem dX6_numberOf_26 : decode cX6_numberOf 26 = .ok (.invokestatic 24, 3) := by decide +kernel
theorem dX6_numberOf_29 : decode cX6_numberOf 29 = .ok (.imul, 1) := by decide +kernel
theorem dX6_numberOf_30 : decode cX6_numberOf 30 = .ok (.iadd, 1) := by decide +kernel
theorem dX6_numberOf_31 : decode cX6_numberOf 31 = .ok (.istore_n 2, 1) := by decide +kernel
theorem dX6_numberOf_32 : decode cX6_numberOf 32 = .ok (.iinc 3 1, 3) := by decide +kernel
theorem dX6_numberOf_35 : decode cX6_numberOf 35 = .ok (.goto (-31), 3) := by decide +kernel
theorem dX6_numberOf_38 : decode cX6_numberOf 38 = .ok (.iload_n 2, 1) := by decide +kernel
theorem dX6_numberOf_39 : decode cX6_numberOf 39 = .ok (.ireturn, 1) := by decide +kernel
theorem dX6_spread_0 : decode cX6_spread 0 = .ok (.aload_n 0, 1) := by decide +kernel
theorem dX6_spread_1 : decode cX6_spread 1 = .ok (.getfield 44, 3) := by decide +kernel
theorem dX6_spread_4 : decode cX6_spread 4 = .ok (.lconst 0, 1) := by decide +kernel
theorem dX6_spread_5 : decode cX6_spread 5 = .ok (.invokestatic 95, 3) := by decide +kernel
theorem dX6_spread_8 : decode cX6_spread 8 = .ok (.aload_n 0, 1) := by decide +kernel
theorem dX6_spread_9 : decode cX6_spread 9 = .ok (.iload_n 1, 1) := by decide +kernel
theorem dX6_spread_10 : decode cX6_spread 10 = .ok (.invokevirtual 101, 3) := by decide +kernel
theorem dX6_spread_13 : decode cX6_spread 13 = .ok (.ifCond .ne 4, 3) := by decide +kernel
theorem dX6_spread_16 : decode cX6_spread 16 = .ok (.return_, 1) := by decide +kernel
theorem dX6_spread_17 : decode cX6_spread 17 = .ok (.aload_n 0, 1) := by decide +kernel
theorem dX6_spread_18 : decode cX6_spread 18 = .ok (.getfield 44, 3) := by decide +kernel
theorem dX6_spread_21 : decode cX6_spread 21 = .ok (.iload_n 1, 1) := by decide +kernel
theorem dX6_spread_22 : decode cX6_spread 22 = .ok (.lconst 1, 1) := by decide +kernel
theorem dX6_spread_23 : decode cX6_spread 23 = .ok (.lastore, 1) := by decide +kernel
theorem dX6_spread_24 : decode cX6_spread 24 = .ok (.iconst 0, 1) := by decide +kernel
theorem dX6_spread_25 : decode cX6_spread 25 = .ok (.istore 4, 2) := by decide +kernel
theorem dX6_spread_27 : decode cX6_spread 27 = .ok (.iload 4, 2) := by decide +kernel
theorem dX6_spread_29 : decode cX6_spread 29 = .ok (.iload_n 2, 1) := by decide +kernel
theorem dX6_spread_30 : decode cX6_spread 30 = .ok (.if_icmp .ge 74, 3) := by decide +kernel
theorem dX6_spread_33 : decode cX6_spread 33 = .ok (.aload_n 0, 1) := by decide +kernel
theorem dX6_spread_34 : decode cX6_spread 34 = .ok (.getfield 48, 3) := by decide +kernel
theorem dX6_spread_37 : decode cX6_spread 37 = .ok (.lconst 0, 1) := by decide +kernel
theorem dX6_spread_38 : decode cX6_spread 38 = .ok (.invokestatic 95, 3) := by decide +kernel
theorem dX6_spread_41 : decode cX6_spread 41 = .ok (.iconst 0, 1) := by decide +kernel
theorem dX6_spread_42 : decode cX6_spread 42 = .ok (.istore 5, 2) := by decide +kernel
theorem dX6_spread_44 : decode cX6_spread 44 = .ok (.iload 5, 2) := by decide +kernel
theorem dX6_spread_46 : decode cX6_spread 46 = .ok (.aload_n 0, 1) := by decide +kernel
theorem dX6_spread_47 : decode cX6_spread 47 = .ok (.getfield 28, 3) := by decide +kernel
theorem dX6_spread_50 : decode cX6_spread 50 = .ok (.if_icmp .ge 28, 3) := by decide +kernel
theorem dX6_spread_53 : decode cX6_spread 53 = .ok (.aload_n 0, 1) := by decide +kernel
theorem dX6_spread_54 : decode cX6_spread 54 = .ok (.getfield 44, 3) := by decide +kernel
theorem dX6_spread_57 : decode cX6_spread 57 = .ok (.iload 5, 2) := by decide +kernel
theorem dX6_spread_59 : decode cX6_spread 59 = .ok (.laload, 1) := by decide +kernel
theorem dX6_spread_60 : decode cX6_spread 60 = .ok (.lconst 0, 1) := by decide +kernel
theorem dX6_spread_61 : decode cX6_spread 61 = .ok (.lcmp, 1) := by decide +kernel
theorem dX6_spread_62 : decode cX6_spread 62 = .ok (.ifCond .eq 10, 3) := by decide +kernel
theorem dX6_spread_65 : decode cX6_spread 65 = .ok (.aload_n 0, 1) := by decide +kernel
theorem dX6_spread_66 : decode cX6_spread 66 = .ok (.iload 5, 2) := by decide +kernel
theorem dX6_spread_68 : decode cX6_spread 68 = .ok (.aload_n 3, 1) := by decide +kernel
theorem dX6_spread_69 : decode cX6_spread 69 = .ok (.invokevirtual 105, 3) := by decide +kernel
theorem dX6_spread_72 : decode cX6_spread 72 = .ok (.iinc 5 1, 3) := by decide +kernel
theorem dX6_spread_75 : decode cX6_spread 75 = .ok (.goto (-31), 3) := by decide +kernel
theorem dX6_spread_78 : decode cX6_spread 78 = .ok (.aload_n 0, 1) := by decide +kernel
theorem dX6_spread_79 : decode cX6_spread 79 = .ok (.getfield 44, 3) := by decide +kernel
theorem dX6_spread_82 : decode cX6_spread 82 = .ok (.astore 5, 2) := by decide +kernel
theorem dX6_spread_84 : decode cX6_spread 84 = .ok (.aload_n 0, 1) := by decide +kernel
theorem dX6_spread_85 : decode cX6_spread 85 = .ok (.aload_n 0, 1) := by decide +kernel
theorem dX6_spread_86 : decode cX6_spread 86 = .ok (.getfield 48, 3) := by decide +kernel
theorem dX6_spread_89 : decode cX6_spread 89 = .ok (.putfield 44, 3) := by decide +kernel
theorem dX6_spread_92 : decode cX6_spread 92 = .ok (.aload_n 0, 1) := by decide +kernel
theorem dX6_spread_93 : decode cX6_spread 93 = .ok (.aload 5, 2) := by decide +kernel
theorem dX6_spread_95 : decode cX6_spread 95 = .ok (.putfield 48, 3) := by decide +kernel
theorem dX6_spread_98 : decode cX6_spread 98 = .ok (.iinc 4 1, 3) := by decide +kernel
theorem dX6_spread_101 : decode cX6_spread 101 = .ok (.goto (-74), 3) := by decide +kernel
theorem dX6_spread_104 : decode cX6_spread 104 = .ok (.return_, 1) := by decide +kernel
theorem dX6_keep_0 : decode cX6_keep 0 = .ok (.aload_n 0, 1) := by decide +kernel
theorem dX6_keep_1 : decode cX6_keep 1 = .ok (.getfield 44, 3) := by decide +kernel
theorem dX6_keep_4 : decode cX6_keep 4 = .ok (.iconst 0, 1) := by decide +kernel
theorem dX6_keep_5 : decode cX6_keep 5 = .ok (.aload_n 0, 1) := by decide +kernel
theorem dX6_keep_6 : decode cX6_keep 6 = .ok (.getfield 51, 3) := by decide +kernel
theorem dX6_keep_9 : decode cX6_keep 9 = .ok (.iconst 0, 1) := by decide +kernel
theorem dX6_keep_10 : decode cX6_keep 10 = .ok (.aload_n 0, 1) := by decide +kernel
theorem dX6_keep_11 : decode cX6_keep 11 = .ok (.getfield 28, 3) := by decide +kernel
theorem dX6_keep_14 : decode cX6_keep 14 = .ok (.invokestatic 109, 3) := by decide +kernel
theorem dX6_keep_17 : decode cX6_keep 17 = .ok (.return_, 1) := by decide +kernel
theorem dX6_allWays_0 : decode cX6_allWays 0 = .ok (.lconst 0, 1) := by decide +kernel
theorem dX6_allWays_1 : decode cX6_allWays 1 = .ok (.lstore_n 1, 1) := by decide +kernel
theorem dX6_allWays_2 : decode cX6_allWays 2 = .ok (.iconst 0, 1) := by decide +kernel
theorem dX6_allWays_3 : decode cX6_allWays 3 = .ok (.istore_n 3, 1) := by decide +kernel
theorem dX6_allWays_4 : decode cX6_allWays 4 = .ok (.iload_n 3, 1) := by decide +kernel
theorem dX6_allWays_5 : decode cX6_allWays 5 = .ok (.aload_n 0, 1) := by decide +kernel
theorem dX6_allWays_6 : decode cX6_allWays 6 = .ok (.getfield 28, 3) := by decide +kernel
theorem dX6_allWays_9 : decode cX6_allWays 9 = .ok (.if_icmp .ge 18, 3) := by decide +kernel
theorem dX6_allWays_12 : decode cX6_allWays 12 = .ok (.lload_n 1, 1) := by decide +kernel
theorem dX6_allWays_13 : decode cX6_allWays 13 = .ok (.aload_n 0, 1) := by decide +kernel
theorem dX6_allWays_14 : decode cX6_allWays 14 = .ok (.getfield 44, 3) := by decide +kernel
theorem dX6_allWays_17 : decode cX6_allWays 17 = .ok (.iload_n 3, 1) := by decide +kernel
theorem dX6_allWays_18 : decode cX6_allWays 18 = .ok (.laload, 1) := by decide +kernel
theorem dX6_allWays_19 : decode cX6_allWays 19 = .ok (.ladd, 1) := by decide +kernel
theorem dX6_allWays_20 : decode cX6_allWays 20 = .ok (.lstore_n 1, 1) := by decide +kernel
theorem dX6_allWays_21 : decode cX6_allWays 21 = .ok (.iinc 3 1, 3) := by decide +kernel
theorem dX6_allWays_24 : decode cX6_allWays 24 = .ok (.goto (-20), 3) := by decide +kernel
theorem dX6_allWays_27 : decode cX6_allWays 27 = .ok (.lload_n 1, 1) := by decide +kernel
theorem dX6_allWays_28 : decode cX6_allWays 28 = .ok (.lreturn, 1) := by decide +kernel
theorem dX6_allWaysFar_0 : decode cX6_allWaysFar 0 = .ok (.lconst 0, 1) := by decide +kernel
theorem dX6_allWaysFar_1 : decode cX6_allWaysFar 1 = .ok (.lstore_n 2, 1) := by decide +kernel
theorem dX6_allWaysFar_2 : decode cX6_allWaysFar 2 = .ok (.iconst 0, 1) := by decide +kernel
theorem dX6_allWaysFar_3 : decode cX6_allWaysFar 3 = .ok (.istore 4, 2) := by decide +kernel
theorem dX6_allWaysFar_5 : decode cX6_allWaysFar 5 = .ok (.iload 4, 2) := by decide +kernel
theorem dX6_allWaysFar_7 : decode cX6_allWaysFar 7 = .ok (.aload_n 0, 1) := by decide +kernel
theorem dX6_allWaysFar_8 : decode cX6_allWaysFar 8 = .ok (.getfield 28, 3) := by decide +kernel
theorem dX6_allWaysFar_11 : decode cX6_allWaysFar 11 = .ok (.if_icmp .ge 38, 3) := by decide +kernel
theorem dX6_allWaysFar_14 : decode cX6_allWaysFar 14 = .ok (.lload_n 2, 1) := by decide +kernel
theorem dX6_allWaysFar_15 : decode cX6_allWaysFar 15 = .ok (.aload_n 0, 1) := by decide +kernel
theorem dX6_allWaysFar_16 : decode cX6_allWaysFar 16 = .ok (.getfield 44, 3) := by decide +kernel
theorem dX6_allWaysFar_19 : decode cX6_allWaysFar 19 = .ok (.iload 4, 2) := by decide +kernel
theorem dX6_allWaysFar_21 : decode cX6_allWaysFar 21 = .ok (.laload, 1) := by decide +kernel
theorem dX6_allWaysFar_22 : decode cX6_allWaysFar 22 = .ok (.aload_n 0, 1) := by decide +kernel
theorem dX6_allWaysFar_23 : decode cX6_allWaysFar 23 = .ok (.getfield 38, 3) := by decide +kernel
theorem dX6_allWaysFar_26 : decode cX6_allWaysFar 26 = .ok (.iload 4, 2) := by decide +kernel
theorem dX6_allWaysFar_28 : decode cX6_allWaysFar 28 = .ok (.iaload, 1) := by decide +kernel
theorem dX6_allWaysFar_29 : decode cX6_allWaysFar 29 = .ok (.aload_n 0, 1) := by decide +kernel
theorem dX6_allWaysFar_30 : decode cX6_allWaysFar 30 = .ok (.getfield 38, 3) := by decide +kernel
theorem dX6_allWaysFar_33 : decode cX6_allWaysFar 33 = .ok (.iload_n 1, 1) := by decide +kernel
theorem dX6_allWaysFar_34 : decode cX6_allWaysFar 34 = .ok (.iaload, 1) := by decide +kernel
theorem dX6_allWaysFar_35 : decode cX6_allWaysFar 35 = .ok (.ixor, 1) := by decide +kernel
theorem dX6_allWaysFar_36 : decode cX6_allWaysFar 36 = .ok (.invokestatic 79, 3) := by decide +kernel
theorem dX6_allWaysFar_39 : decode cX6_allWaysFar 39 = .ok (.i2l, 1) := by decide +kernel
theorem dX6_allWaysFar_40 : decode cX6_allWaysFar 40 = .ok (.lmul, 1) := by decide +kernel
theorem dX6_allWaysFar_41 : decode cX6_allWaysFar 41 = .ok (.ladd, 1) := by decide +kernel
theorem dX6_allWaysFar_42 : decode cX6_allWaysFar 42 = .ok (.lstore_n 2, 1) := by decide +kernel
theorem dX6_allWaysFar_43 : decode cX6_allWaysFar 43 = .ok (.iinc 4 1, 3) := by decide +kernel
theorem dX6_allWaysFar_46 : decode cX6_allWaysFar 46 = .ok (.goto (-41), 3) := by decide +kernel
theorem dX6_allWaysFar_49 : decode cX6_allWaysFar 49 = .ok (.lload_n 2, 1) := by decide +kernel
theorem dX6_allWaysFar_50 : decode cX6_allWaysFar 50 = .ok (.lreturn, 1) := by decide +kernel
theorem dX6_marksHold_0 : decode cX6_marksHold 0 = .ok (.iconst 1, 1) := by decide +kernel
theorem dX6_marksHold_1 : decode cX6_marksHold 1 = .ok (.istore_n 3, 1) := by decide +kernel
theorem dX6_marksHold_2 : decode cX6_marksHold 2 = .ok (.iload_n 3, 1) := by decide +kernel
theorem dX6_marksHold_3 : decode cX6_marksHold 3 = .ok (.aload_n 0, 1) := by decide +kernel
theorem dX6_marksHold_4 : decode cX6_marksHold 4 = .ok (.getfield 28, 3) := by decide +kernel
theorem dX6_marksHold_7 : decode cX6_marksHold 7 = .ok (.if_icmp .ge 35, 3) := by decide +kernel
theorem dX6_marksHold_10 : decode cX6_marksHold 10 = .ok (.aload_n 0, 1) := by decide +kernel
theorem dX6_marksHold_11 : decode cX6_marksHold 11 = .ok (.getfield 38, 3) := by decide +kernel
theorem dX6_marksHold_14 : decode cX6_marksHold 14 = .ok (.iload_n 3, 1) := by decide +kernel
theorem dX6_marksHold_15 : decode cX6_marksHold 15 = .ok (.iaload, 1) := by decide +kernel
theorem dX6_marksHold_16 : decode cX6_marksHold 16 = .ok (.invokestatic 79, 3) := by decide +kernel
theorem dX6_marksHold_19 : decode cX6_marksHold 19 = .ok (.iconst 2, 1) := by decide +kernel
theorem dX6_marksHold_20 : decode cX6_marksHold 20 = .ok (.iload_n 2, 1) := by decide +kernel
theorem dX6_marksHold_21 : decode cX6_marksHold 21 = .ok (.imul, 1) := by decide +kernel
theorem dX6_marksHold_22 : decode cX6_marksHold 22 = .ok (.if_icmp .gt 14, 3) := by decide +kernel
theorem dX6_marksHold_25 : decode cX6_marksHold 25 = .ok (.aload_n 0, 1) := by decide +kernel
theorem dX6_marksHold_26 : decode cX6_marksHold 26 = .ok (.aload_n 1, 1) := by decide +kernel
theorem dX6_marksHold_27 : decode cX6_marksHold 27 = .ok (.iload_n 3, 1) := by decide +kernel
theorem dX6_marksHold_28 : decode cX6_marksHold 28 = .ok (.invokevirtual 115, 3) := by decide +kernel
theorem dX6_marksHold_31 : decode cX6_marksHold 31 = .ok (.ifCond .eq 5, 3) := by decide +kernel
theorem dX6_marksHold_34 : decode cX6_marksHold 34 = .ok (.iconst 0, 1) := by decide +kernel
theorem dX6_marksHold_35 : decode cX6_marksHold 35 = .ok (.ireturn, 1) := by decide +kernel
theorem dX6_marksHold_36 : decode cX6_marksHold 36 = .ok (.iinc 3 1, 3) := by decide +kernel
theorem dX6_marksHold_39 : decode cX6_marksHold 39 = .ok (.goto (-37), 3) := by decide +kernel
theorem dX6_marksHold_42 : decode cX6_marksHold 42 = .ok (.iconst 1, 1) := by decide +kernel
theorem dX6_marksHold_43 : decode cX6_marksHold 43 = .ok (.ireturn, 1) := by decide +kernel
theorem dX6_hasLikeMarks_0 : decode cX6_hasLikeMarks 0 = .ok (.iconst 0, 1) := by decide +kernel
theorem dX6_hasLikeMarks_1 : decode cX6_hasLikeMarks 1 = .ok (.istore_n 3, 1) := by decide +kernel
theorem dX6_hasLikeMarks_2 : decode cX6_hasLikeMarks 2 = .ok (.iload_n 3, 1) := by decide +kernel
theorem dX6_hasLikeMarks_3 : decode cX6_hasLikeMarks 3 = .ok (.aload_n 0, 1) := by decide +kernel
theorem dX6_hasLikeMarks_4 : decode cX6_hasLikeMarks 4 = .ok (.getfield 18, 3) := by decide +kernel
theorem dX6_hasLikeMarks_7 : decode cX6_hasLikeMarks 7 = .ok (.if_icmp .ge 46, 3) := by decide +kernel
theorem dX6_hasLikeMarks_10 : decode cX6_hasLikeMarks 10 = .ok (.aload_n 0, 1) := by decide +kernel
theorem dX6_hasLikeMarks_11 : decode cX6_hasLikeMarks 11 = .ok (.getfield 34, 3) := by decide +kernel
theorem dX6_hasLikeMarks_14 : decode cX6_hasLikeMarks 14 = .ok (.iload_n 2, 1) := by decide +kernel
theorem dX6_hasLikeMarks_15 : decode cX6_hasLikeMarks 15 = .ok (.iaload, 1) := by decide +kernel
theorem dX6_hasLikeMarks_16 : decode cX6_hasLikeMarks 16 = .ok (.iload_n 3, 1) := by decide +kernel
theorem dX6_hasLikeMarks_17 : decode cX6_hasLikeMarks 17 = .ok (.invokestatic 119, 3) := by decide +kernel
theorem dX6_hasLikeMarks_20 : decode cX6_hasLikeMarks 20 = .ok (.istore 4, 2) := by decide +kernel
theorem dX6_hasLikeMarks_22 : decode cX6_hasLikeMarks 22 = .ok (.iload_n 3, 1) := by decide +kernel
theorem dX6_hasLikeMarks_23 : decode cX6_hasLikeMarks 23 = .ok (.aload_n 1, 1) := by decide +kernel
theorem dX6_hasLikeMarks_24 : decode cX6_hasLikeMarks 24 = .ok (.arraylength, 1) := by decide +kernel
theorem dX6_hasLikeMarks_25 : decode cX6_hasLikeMarks 25 = .ok (.if_icmp .ge 20, 3) := by decide +kernel
theorem dX6_hasLikeMarks_28 : decode cX6_hasLikeMarks 28 = .ok (.iload 4, 2) := by decide +kernel
theorem dX6_hasLikeMarks_30 : decode cX6_hasLikeMarks 30 = .ok (.aload_n 1, 1) := by decide +kernel
theorem dX6_hasLikeMarks_31 : decode cX6_hasLikeMarks 31 = .ok (.arraylength, 1) := by decide +kernel
theorem dX6_hasLikeMarks_32 : decode cX6_hasLikeMarks 32 = .ok (.if_icmp .ge 13, 3) := by decide +kernel
theorem dX6_hasLikeMarks_35 : decode cX6_hasLikeMarks 35 = .ok (.aload_n 1, 1) := by decide +kernel
theorem dX6_hasLikeMarks_36 : decode cX6_hasLikeMarks 36 = .ok (.iload 4, 2) := by decide +kernel
theorem dX6_hasLikeMarks_38 : decode cX6_hasLikeMarks 38 = .ok (.iaload, 1) := by decide +kernel
theorem dX6_hasLikeMarks_39 : decode cX6_hasLikeMarks 39 = .ok (.aload_n 1, 1) := by decide +kernel
theorem dX6_hasLikeMarks_40 : decode cX6_hasLikeMarks 40 = .ok (.iload_n 3, 1) := by decide +kernel
theorem dX6_hasLikeMarks_41 : decode cX6_hasLikeMarks 41 = .ok (.iaload, 1) := by decide +kernel
theorem dX6_hasLikeMarks_42 : decode cX6_hasLikeMarks 42 = .ok (.if_icmp .eq 5, 3) := by decide +kernel
theorem dX6_hasLikeMarks_45 : decode cX6_hasLikeMarks 45 = .ok (.iconst 0, 1) := by decide +kernel
theorem dX6_hasLikeMarks_46 : decode cX6_hasLikeMarks 46 = .ok (.ireturn, 1) := by decide +kernel
theorem dX6_hasLikeMarks_47 : decode cX6_hasLikeMarks 47 = .ok (.iinc 3 1, 3) := by decide +kernel
theorem dX6_hasLikeMarks_50 : decode cX6_hasLikeMarks 50 = .ok (.goto (-48), 3) := by decide +kernel
theorem dX6_hasLikeMarks_53 : decode cX6_hasLikeMarks 53 = .ok (.iconst 1, 1) := by decide +kernel
theorem dX6_hasLikeMarks_54 : decode cX6_hasLikeMarks 54 = .ok (.ireturn, 1) := by decide +kernel
theorem dX6_passOn_0 : decode cX6_passOn 0 = .ok (.iconst 0, 1) := by decide +kernel
theorem dX6_passOn_1 : decode cX6_passOn 1 = .ok (.istore_n 3, 1) := by decide +kernel
theorem dX6_passOn_2 : decode cX6_passOn 2 = .ok (.iload_n 3, 1) := by decide +kernel
theorem dX6_passOn_3 : decode cX6_passOn 3 = .ok (.aload_n 0, 1) := by decide +kernel
theorem dX6_passOn_4 : decode cX6_passOn 4 = .ok (.getfield 18, 3) := by decide +kernel
theorem dX6_passOn_7 : decode cX6_passOn 7 = .ok (.iconst 1, 1) := by decide +kernel
theorem dX6_passOn_8 : decode cX6_passOn 8 = .ok (.isub, 1) := by decide +kernel
theorem dX6_passOn_9 : decode cX6_passOn 9 = .ok (.if_icmp .ge 53, 3) := by decide +kernel
theorem dX6_passOn_12 : decode cX6_passOn 12 = .ok (.iload_n 3, 1) := by decide +kernel
theorem dX6_passOn_13 : decode cX6_passOn 13 = .ok (.aload_n 2, 1) := by decide +kernel
theorem dX6_passOn_14 : decode cX6_passOn 14 = .ok (.arraylength, 1) := by decide +kernel
theorem dX6_passOn_15 : decode cX6_passOn 15 = .ok (.if_icmp .ge 47, 3) := by decide +kernel
theorem dX6_passOn_18 : decode cX6_passOn 18 = .ok (.aload_n 0, 1) := by decide +kernel
theorem dX6_passOn_19 : decode cX6_passOn 19 = .ok (.iload_n 1, 1) := by decide +kernel
theorem dX6_passOn_20 : decode cX6_passOn 20 = .ok (.iload_n 3, 1) := by decide +kernel
theorem dX6_passOn_21 : decode cX6_passOn 21 = .ok (.invokevirtual 122, 3) := by decide +kernel
theorem dX6_passOn_24 : decode cX6_passOn 24 = .ok (.istore 4, 2) := by decide +kernel
theorem dX6_passOn_26 : decode cX6_passOn 26 = .ok (.aload_n 0, 1) := by decide +kernel
theorem dX6_passOn_27 : decode cX6_passOn 27 = .ok (.iload 4, 2) := by decide +kernel
theorem dX6_passOn_29 : decode cX6_passOn 29 = .ok (.invokevirtual 101, 3) := by decide +kernel
theorem dX6_passOn_32 : decode cX6_passOn 32 = .ok (.ifCond .eq 24, 3) := by decide +kernel
theorem dX6_passOn_35 : decode cX6_passOn 35 = .ok (.aload_n 0, 1) := by decide +kernel
theorem dX6_passOn_36 : decode cX6_passOn 36 = .ok (.getfield 48, 3) := by decide +kernel
theorem dX6_passOn_39 : decode cX6_passOn 39 = .ok (.iload 4, 2) := by decide +kernel
theorem dX6_passOn_41 : decode cX6_passOn 41 = .ok (.dup2, 1) := by decide +kernel
theorem dX6_passOn_42 : decode cX6_passOn 42 = .ok (.laload, 1) := by decide +kernel
theorem dX6_passOn_43 : decode cX6_passOn 43 = .ok (.aload_n 0, 1) := by decide +kernel
theorem dX6_passOn_44 : decode cX6_passOn 44 = .ok (.getfield 44, 3) := by decide +kernel
theorem dX6_passOn_47 : decode cX6_passOn 47 = .ok (.iload_n 1, 1) := by decide +kernel
theorem dX6_passOn_48 : decode cX6_passOn 48 = .ok (.laload, 1) := by decide +kernel
theorem dX6_passOn_49 : decode cX6_passOn 49 = .ok (.aload_n 2, 1) := by decide +kernel
theorem dX6_passOn_50 : decode cX6_passOn 50 = .ok (.iload_n 3, 1) := by decide +kernel
theorem dX6_passOn_51 : decode cX6_passOn 51 = .ok (.iaload, 1) := by decide +kernel
theorem dX6_passOn_52 : decode cX6_passOn 52 = .ok (.i2l, 1) := by decide +kernel
theorem dX6_passOn_53 : decode cX6_passOn 53 = .ok (.lmul, 1) := by decide +kernel
theorem dX6_passOn_54 : decode cX6_passOn 54 = .ok (.ladd, 1) := by decide +kernel
theorem dX6_passOn_55 : decode cX6_passOn 55 = .ok (.lastore, 1) := by decide +kernel
theorem dX6_passOn_56 : decode cX6_passOn 56 = .ok (.iinc 3 1, 3) := by decide +kernel
theorem dX6_passOn_59 : decode cX6_passOn 59 = .ok (.goto (-57), 3) := by decide +kernel
theorem dX6_passOn_62 : decode cX6_passOn 62 = .ok (.return_, 1) := by decide +kernel
theorem dX6_putExchanges_0 : decode cX6_putExchanges 0 = .ok (.iconst 0, 1) := by decide +kernel
theorem dX6_putExchanges_1 : decode cX6_putExchanges 1 = .ok (.istore_n 3, 1) := by decide +kernel
theorem dX6_putExchanges_2 : decode cX6_putExchanges 2 = .ok (.iload_n 3, 1) := by decide +kernel
theorem dX6_putExchanges_3 : decode cX6_putExchanges 3 = .ok (.aload_n 0, 1) := by decide +kernel
theorem dX6_putExchanges_4 : decode cX6_putExchanges 4 = .ok (.getfield 18, 3) := by decide +kernel
theorem dX6_putExchanges_7 : decode cX6_putExchanges 7 = .ok (.iconst 1, 1) := by decide +kernel
theorem dX6_putExchanges_8 : decode cX6_putExchanges 8 = .ok (.isub, 1) := by decide +kernel
theorem dX6_putExchanges_9 : decode cX6_putExchanges 9 = .ok (.if_icmp .ge 137, 3) := by decide +kernel
theorem dX6_putExchanges_12 : decode cX6_putExchanges 12 = .ok (.aload_n 2, 1) := by decide +kernel
theorem dX6_putExchanges_13 : decode cX6_putExchanges 13 = .ok (.iload_n 3, 1) := by decide +kernel
theorem dX6_putExchanges_14 : decode cX6_putExchanges 14 = .ok (.invokestatic 91, 3) := by decide +kernel
theorem dX6_putExchanges_17 : decode cX6_putExchanges 17 = .ok (.istore 4, 2) := by decide +kernel
theorem dX6_putExchanges_19 : decode cX6_putExchanges 19 = .ok (.aload_n 2, 1) := by decide +kernel
theorem dX6_putExchanges_20 : decode cX6_putExchanges 20 = .ok (.iload_n 3, 1) := by decide +kernel
theorem dX6_putExchanges_21 : decode cX6_putExchanges 21 = .ok (.iconst 1, 1) := by decide +kernel
theorem dX6_putExchanges_22 : decode cX6_putExchanges 22 = .ok (.iadd, 1) := by decide +kernel
theorem dX6_putExchanges_23 : decode cX6_putExchanges 23 = .ok (.invokestatic 91, 3) := by decide +kernel
theorem dX6_putExchanges_26 : decode cX6_putExchanges 26 = .ok (.istore 5, 2) := by decide +kernel
theorem dX6_putExchanges_28 : decode cX6_putExchanges 28 = .ok (.aload_n 2, 1) := by decide +kernel
theorem dX6_putExchanges_29 : decode cX6_putExchanges 29 = .ok (.getfield 64, 3) := by decide +kernel
theorem dX6_putExchanges_32 : decode cX6_putExchanges 32 = .ok (.iload_n 3, 1) := by decide +kernel
theorem dX6_putExchanges_33 : decode cX6_putExchanges 33 = .ok (.invokestatic 119, 3) := by decide +kernel
theorem dX6_putExchanges_36 : decode cX6_putExchanges 36 = .ok (.aload_n 2, 1) := by decide +kernel
theorem dX6_putExchanges_37 : decode cX6_putExchanges 37 = .ok (.getfield 64, 3) := by decide +kernel
theorem dX6_putExchanges_40 : decode cX6_putExchanges 40 = .ok (.iload_n 3, 1) := by decide +kernel
theorem dX6_putExchanges_41 : decode cX6_putExchanges 41 = .ok (.iconst 1, 1) := by decide +kernel
theorem dX6_putExchanges_42 : decode cX6_putExchanges 42 = .ok (.iadd, 1) := by decide +kernel
theorem dX6_putExchanges_43 : decode cX6_putExchanges 43 = .ok (.invokestatic 119, 3) := by decide +kernel
theorem dX6_putExchanges_46 : decode cX6_putExchanges 46 = .ok (.if_icmp .le 7, 3) := by decide +kernel
theorem dX6_putExchanges_49 : decode cX6_putExchanges 49 = .ok (.iconst 1, 1) := by decide +kernel
theorem dX6_putExchanges_50 : decode cX6_putExchanges 50 = .ok (.goto 4, 3) := by decide +kernel
theorem dX6_putExchanges_53 : decode cX6_putExchanges 53 = .ok (.iconst 0, 1) := by decide +kernel
theorem dX6_putExchanges_54 : decode cX6_putExchanges 54 = .ok (.istore 6, 2) := by decide +kernel
theorem dX6_putExchanges_56 : decode cX6_putExchanges 56 = .ok (.iload 6, 2) := by decide +kernel
theorem dX6_putExchanges_58 : decode cX6_putExchanges 58 = .ok (.ifCond .eq 8, 3) := by decide +kernel
theorem dX6_putExchanges_61 : decode cX6_putExchanges 61 = .ok (.iload 5, 2) := by decide +kernel
theorem dX6_putExchanges_63 : decode cX6_putExchanges 63 = .ok (.goto 7, 3) := by decide +kernel
theorem dX6_putExchanges_66 : decode cX6_putExchanges 66 = .ok (.iload 5, 2) := by decide +kernel
theorem dX6_putExchanges_68 : decode cX6_putExchanges 68 = .ok (.iconst 1, 1) := by decide +kernel
theorem dX6_putExchanges_69 : decode cX6_putExchanges 69 = .ok (.iadd, 1) := by decide +kernel
theorem dX6_putExchanges_70 : decode cX6_putExchanges 70 = .ok (.istore 7, 2) := by decide +kernel
theorem dX6_putExchanges_72 : decode cX6_putExchanges 72 = .ok (.iload 6, 2) := by decide +kernel
theorem dX6_putExchanges_74 : decode cX6_putExchanges 74 = .ok (.ifCond .eq 10, 3) := by decide +kernel
theorem dX6_putExchanges_77 : decode cX6_putExchanges 77 = .ok (.iload 4, 2) := by decide +kernel
theorem dX6_putExchanges_79 : decode cX6_putExchanges 79 = .ok (.iconst 1, 1) := by decide +kernel
theorem dX6_putExchanges_80 : decode cX6_putExchanges 80 = .ok (.isub, 1) := by decide +kernel
theorem dX6_putExchanges_81 : decode cX6_putExchanges 81 = .ok (.goto 5, 3) := by decide +kernel
theorem dX6_putExchanges_84 : decode cX6_putExchanges 84 = .ok (.iload 4, 2) := by decide +kernel
theorem dX6_putExchanges_86 : decode cX6_putExchanges 86 = .ok (.istore 8, 2) := by decide +kernel
theorem dX6_putExchanges_88 : decode cX6_putExchanges 88 = .ok (.aload_n 0, 1) := by decide +kernel
theorem dX6_putExchanges_89 : decode cX6_putExchanges 89 = .ok (.getfield 41, 3) := by decide +kernel
theorem dX6_putExchanges_92 : decode cX6_putExchanges 92 = .ok (.iload_n 1, 1) := by decide +kernel
theorem dX6_putExchanges_93 : decode cX6_putExchanges 93 = .ok (.aload_n 0, 1) := by decide +kernel
theorem dX6_putExchanges_94 : decode cX6_putExchanges 94 = .ok (.getfield 18, 3) := by decide +kernel
theorem dX6_putExchanges_97 : decode cX6_putExchanges 97 = .ok (.iconst 1, 1) := by decide +kernel
theorem dX6_putExchanges_98 : decode cX6_putExchanges 98 = .ok (.isub, 1) := by decide +kernel
theorem dX6_putExchanges_99 : decode cX6_putExchanges 99 = .ok (.imul, 1) := by decide +kernel
theorem dX6_putExchanges_100 : decode cX6_putExchanges 100 = .ok (.iload_n 3, 1) := by decide +kernel
theorem dX6_putExchanges_101 : decode cX6_putExchanges 101 = .ok (.iadd, 1) := by decide +kernel
theorem dX6_putExchanges_102 : decode cX6_putExchanges 102 = .ok (.iload_n 1, 1) := by decide +kernel
theorem dX6_putExchanges_103 : decode cX6_putExchanges 103 = .ok (.iload 7, 2) := by decide +kernel
theorem dX6_putExchanges_105 : decode cX6_putExchanges 105 = .ok (.iload 4, 2) := by decide +kernel
theorem dX6_putExchanges_107 : decode cX6_putExchanges 107 = .ok (.isub, 1) := by decide +kernel
theorem dX6_putExchanges_108 : decode cX6_putExchanges 108 = .ok (.aload_n 0, 1) := by decide +kernel
theorem dX6_putExchanges_109 : decode cX6_putExchanges 109 = .ok (.getfield 18, 3) := by decide +kernel
theorem dX6_putExchanges_112 : decode cX6_putExchanges 112 = .ok (.iconst 1, 1) := by decide +kernel
theorem dX6_putExchanges_113 : decode cX6_putExchanges 113 = .ok (.isub, 1) := by decide +kernel
theorem dX6_putExchanges_114 : decode cX6_putExchanges 114 = .ok (.iload_n 3, 1) := by decide +kernel
theorem dX6_putExchanges_115 : decode cX6_putExchanges 115 = .ok (.isub, 1) := by decide +kernel
theorem dX6_putExchanges_116 : decode cX6_putExchanges 116 = .ok (.invokestatic 24, 3) := by decide +kernel
theorem dX6_putExchanges_119 : decode cX6_putExchanges 119 = .ok (.imul, 1) := by decide +kernel
theorem dX6_putExchanges_120 : decode cX6_putExchanges 120 = .ok (.iadd, 1) := by decide +kernel
theorem dX6_putExchanges_121 : decode cX6_putExchanges 121 = .ok (.iload 8, 2) := by decide +kernel
theorem dX6_putExchanges_123 : decode cX6_putExchanges 123 = .ok (.iload 5, 2) := by decide +kernel
theorem dX6_putExchanges_125 : decode cX6_putExchanges 125 = .ok (.isub, 1) := by decide +kernel
theorem dX6_putExchanges_126 : decode cX6_putExchanges 126 = .ok (.aload_n 0, 1) := by decide +kernel
theorem dX6_putExchanges_127 : decode cX6_putExchanges 127 = .ok (.getfield 18, 3) := by decide +kernel
theorem dX6_putExchanges_130 : decode cX6_putExchanges 130 = .ok (.iconst 2, 1) := by decide +kernel
theorem dX6_putExchanges_131 : decode cX6_putExchanges 131 = .ok (.isub, 1) := by decide +kernel
theorem dX6_putExchanges_132 : decode cX6_putExchanges 132 = .ok (.iload_n 3, 1) := by decide +kernel
theorem dX6_putExchanges_133 : decode cX6_putExchanges 133 = .ok (.isub, 1) := by decide +kernel
theorem dX6_putExchanges_134 : decode cX6_putExchanges 134 = .ok (.invokestatic 24, 3) := by decide +kernel
theorem dX6_putExchanges_137 : decode cX6_putExchanges 137 = .ok (.imul, 1) := by decide +kernel
theorem dX6_putExchanges_138 : decode cX6_putExchanges 138 = .ok (.iadd, 1) := by decide +kernel
theorem dX6_putExchanges_139 : decode cX6_putExchanges 139 = .ok (.iastore, 1) := by decide +kernel
theorem dX6_putExchanges_140 : decode cX6_putExchanges 140 = .ok (.iinc 3 1, 3) := by decide +kernel
theorem dX6_putExchanges_143 : decode cX6_putExchanges 143 = .ok (.goto (-141), 3) := by decide +kernel
theorem dX6_putExchanges_146 : decode cX6_putExchanges 146 = .ok (.return_, 1) := by decide +kernel
theorem dX6_lowerBehind_0 : decode cX6_lowerBehind 0 = .ok (.iconst 0, 1) := by decide +kernel
theorem dX6_lowerBehind_1 : decode cX6_lowerBehind 1 = .ok (.istore_n 2, 1) := by decide +kernel
theorem dX6_lowerBehind_2 : decode cX6_lowerBehind 2 = .ok (.iload_n 1, 1) := by decide +kernel
theorem dX6_lowerBehind_3 : decode cX6_lowerBehind 3 = .ok (.iconst 1, 1) := by decide +kernel
theorem dX6_lowerBehind_4 : decode cX6_lowerBehind 4 = .ok (.iadd, 1) := by decide +kernel
theorem dX6_lowerBehind_5 : decode cX6_lowerBehind 5 = .ok (.istore_n 3, 1) := by decide +kernel
theorem dX6_lowerBehind_6 : decode cX6_lowerBehind 6 = .ok (.iload_n 3, 1) := by decide +kernel
theorem dX6_lowerBehind_7 : decode cX6_lowerBehind 7 = .ok (.aload_n 0, 1) := by decide +kernel
theorem dX6_lowerBehind_8 : decode cX6_lowerBehind 8 = .ok (.getfield 88, 3) := by decide +kernel
theorem dX6_lowerBehind_11 : decode cX6_lowerBehind 11 = .ok (.if_icmp .ge 31, 3) := by decide +kernel
theorem dX6_lowerBehind_14 : decode cX6_lowerBehind 14 = .ok (.aload_n 0, 1) := by decide +kernel
theorem dX6_lowerBehind_15 : decode cX6_lowerBehind 15 = .ok (.getfield 64, 3) := by decide +kernel
theorem dX6_lowerBehind_18 : decode cX6_lowerBehind 18 = .ok (.iload_n 3, 1) := by decide +kernel
theorem dX6_lowerBehind_19 : decode cX6_lowerBehind 19 = .ok (.invokestatic 119, 3) := by decide +kernel
theorem dX6_lowerBehind_22 : decode cX6_lowerBehind 22 = .ok (.aload_n 0, 1) := by decide +kernel
theorem dX6_lowerBehind_23 : decode cX6_lowerBehind 23 = .ok (.getfield 64, 3) := by decide +kernel
theorem dX6_lowerBehind_26 : decode cX6_lowerBehind 26 = .ok (.iload_n 1, 1) := by decide +kernel
theorem dX6_lowerBehind_27 : decode cX6_lowerBehind 27 = .ok (.invokestatic 119, 3) := by decide +kernel
theorem dX6_lowerBehind_30 : decode cX6_lowerBehind 30 = .ok (.if_icmp .ge 6, 3) := by decide +kernel
theorem dX6_lowerBehind_33 : decode cX6_lowerBehind 33 = .ok (.iinc 2 1, 3) := by decide +kernel
theorem dX6_lowerBehind_36 : decode cX6_lowerBehind 36 = .ok (.iinc 3 1, 3) := by decide +kernel
theorem dX6_lowerBehind_39 : decode cX6_lowerBehind 39 = .ok (.goto (-33), 3) := by decide +kernel
theorem dX6_lowerBehind_42 : decode cX6_lowerBehind 42 = .ok (.iload_n 2, 1) := by decide +kernel
theorem dX6_lowerBehind_43 : decode cX6_lowerBehind 43 = .ok (.ireturn, 1) := by decide +kernel
theorem dX6_rise_0 : decode cX6_rise 0 = .ok (.aload_n 0, 1) := by decide +kernel
theorem dX6_rise_1 : decode cX6_rise 1 = .ok (.arraylength, 1) := by decide +kernel
theorem dX6_rise_2 : decode cX6_rise 2 = .ok (.iconst 2, 1) := by decide +kernel
theorem dX6_rise_3 : decode cX6_rise 3 = .ok (.isub, 1) := by decide +kernel
theorem dX6_rise_4 : decode cX6_rise 4 = .ok (.istore_n 1, 1) := by decide +kernel
theorem dX6_rise_5 : decode cX6_rise 5 = .ok (.iload_n 1, 1) := by decide +kernel
theorem dX6_rise_6 : decode cX6_rise 6 = .ok (.ifCond .lt 20, 3) := by decide +kernel
theorem dX6_rise_9 : decode cX6_rise 9 = .ok (.aload_n 0, 1) := by decide +kernel
theorem dX6_rise_10 : decode cX6_rise 10 = .ok (.iload_n 1, 1) := by decide +kernel
theorem dX6_rise_11 : decode cX6_rise 11 = .ok (.iaload, 1) := by decide +kernel
theorem dX6_rise_12 : decode cX6_rise 12 = .ok (.aload_n 0, 1) := by decide +kernel
theorem dX6_rise_13 : decode cX6_rise 13 = .ok (.iload_n 1, 1) := by decide +kernel
theorem dX6_rise_14 : decode cX6_rise 14 = .ok (.iconst 1, 1) := by decide +kernel
theorem dX6_rise_15 : decode cX6_rise 15 = .ok (.iadd, 1) := by decide +kernel
theorem dX6_rise_16 : decode cX6_rise 16 = .ok (.iaload, 1) := by decide +kernel
theorem dX6_rise_17 : decode cX6_rise 17 = .ok (.if_icmp .le 9, 3) := by decide +kernel
theorem dX6_rise_20 : decode cX6_rise 20 = .ok (.iinc 1 (-1), 3) := by decide +kernel
theorem dX6_rise_23 : decode cX6_rise 23 = .ok (.goto (-18), 3) := by decide +kernel
theorem dX6_rise_26 : decode cX6_rise 26 = .ok (.iload_n 1, 1) := by decide +kernel
theorem dX6_rise_27 : decode cX6_rise 27 = .ok (.ifCond .ge 4, 3) := by decide +kernel
theorem dX6_rise_30 : decode cX6_rise 30 = .ok (.return_, 1) := by decide +kernel
theorem dX6_rise_31 : decode cX6_rise 31 = .ok (.aload_n 0, 1) := by decide +kernel
theorem dX6_rise_32 : decode cX6_rise 32 = .ok (.arraylength, 1) := by decide +kernel
theorem dX6_rise_33 : decode cX6_rise 33 = .ok (.iconst 1, 1) := by decide +kernel
theorem dX6_rise_34 : decode cX6_rise 34 = .ok (.isub, 1) := by decide +kernel
theorem dX6_rise_35 : decode cX6_rise 35 = .ok (.istore_n 2, 1) := by decide +kernel
theorem dX6_rise_36 : decode cX6_rise 36 = .ok (.iload_n 2, 1) := by decide +kernel
theorem dX6_rise_37 : decode cX6_rise 37 = .ok (.iload_n 1, 1) := by decide +kernel
theorem dX6_rise_38 : decode cX6_rise 38 = .ok (.if_icmp .le 18, 3) := by decide +kernel
theorem dX6_rise_41 : decode cX6_rise 41 = .ok (.aload_n 0, 1) := by decide +kernel
theorem dX6_rise_42 : decode cX6_rise 42 = .ok (.iload_n 2, 1) := by decide +kernel
theorem dX6_rise_43 : decode cX6_rise 43 = .ok (.iaload, 1) := by decide +kernel
theorem dX6_rise_44 : decode cX6_rise 44 = .ok (.aload_n 0, 1) := by decide +kernel
theorem dX6_rise_45 : decode cX6_rise 45 = .ok (.iload_n 1, 1) := by decide +kernel
theorem dX6_rise_46 : decode cX6_rise 46 = .ok (.iaload, 1) := by decide +kernel
theorem dX6_rise_47 : decode cX6_rise 47 = .ok (.if_icmp .ge 9, 3) := by decide +kernel
theorem dX6_rise_50 : decode cX6_rise 50 = .ok (.iinc 2 (-1), 3) := by decide +kernel
theorem dX6_rise_53 : decode cX6_rise 53 = .ok (.goto (-17), 3) := by decide +kernel
theorem dX6_rise_56 : decode cX6_rise 56 = .ok (.aload_n 0, 1) := by decide +kernel
theorem dX6_rise_57 : decode cX6_rise 57 = .ok (.iload_n 1, 1) := by decide +kernel
theorem dX6_rise_58 : decode cX6_rise 58 = .ok (.iload_n 2, 1) := by decide +kernel
theorem dX6_rise_59 : decode cX6_rise 59 = .ok (.invokestatic 125, 3) := by decide +kernel
theorem dX6_rise_62 : decode cX6_rise 62 = .ok (.iload_n 1, 1) := by decide +kernel
theorem dX6_rise_63 : decode cX6_rise 63 = .ok (.iconst 1, 1) := by decide +kernel
theorem dX6_rise_64 : decode cX6_rise 64 = .ok (.iadd, 1) := by decide +kernel
theorem dX6_rise_65 : decode cX6_rise 65 = .ok (.istore_n 3, 1) := by decide +kernel
theorem dX6_rise_66 : decode cX6_rise 66 = .ok (.aload_n 0, 1) := by decide +kernel
theorem dX6_rise_67 : decode cX6_rise 67 = .ok (.arraylength, 1) := by decide +kernel
theorem dX6_rise_68 : decode cX6_rise 68 = .ok (.iconst 1, 1) := by decide +kernel
theorem dX6_rise_69 : decode cX6_rise 69 = .ok (.isub, 1) := by decide +kernel
theorem dX6_rise_70 : decode cX6_rise 70 = .ok (.istore 4, 2) := by decide +kernel
theorem dX6_rise_72 : decode cX6_rise 72 = .ok (.iload_n 3, 1) := by decide +kernel
theorem dX6_rise_73 : decode cX6_rise 73 = .ok (.iload 4, 2) := by decide +kernel
theorem dX6_rise_75 : decode cX6_rise 75 = .ok (.if_icmp .ge 19, 3) := by decide +kernel
theorem dX6_rise_78 : decode cX6_rise 78 = .ok (.aload_n 0, 1) := by decide +kernel
theorem dX6_rise_79 : decode cX6_rise 79 = .ok (.iload_n 3, 1) := by decide +kernel
theorem dX6_rise_80 : decode cX6_rise 80 = .ok (.iload 4, 2) := by decide +kernel
theorem dX6_rise_82 : decode cX6_rise 82 = .ok (.invokestatic 125, 3) := by decide +kernel
theorem dX6_rise_85 : decode cX6_rise 85 = .ok (.iinc 3 1, 3) := by decide +kernel
theorem dX6_rise_88 : decode cX6_rise 88 = .ok (.iinc 4 (-1), 3) := by decide +kernel
theorem dX6_rise_91 : decode cX6_rise 91 = .ok (.goto (-19), 3) := by decide +kernel
theorem dX6_rise_94 : decode cX6_rise 94 = .ok (.return_, 1) := by decide +kernel
theorem dX6_exchange_0 : decode cX6_exchange 0 = .ok (.aload_n 0, 1) := by decide +kernel
theorem dX6_exchange_1 : decode cX6_exchange 1 = .ok (.iload_n 1, 1) := by decide +kernel
theorem dX6_exchange_2 : decode cX6_exchange 2 = .ok (.iaload, 1) := by decide +kernel
theorem dX6_exchange_3 : decode cX6_exchange 3 = .ok (.istore_n 3, 1) := by decide +kernel
theorem dX6_exchange_4 : decode cX6_exchange 4 = .ok (.aload_n 0, 1) := by decide +kernel
theorem dX6_exchange_5 : decode cX6_exchange 5 = .ok (.iload_n 1, 1) := by decide +kernel
theorem dX6_exchange_6 : decode cX6_exchange 6 = .ok (.aload_n 0, 1) := by decide +kernel
theorem dX6_exchange_7 : decode cX6_exchange 7 = .ok (.iload_n 2, 1) := by decide +kernel
theorem dX6_exchange_8 : decode cX6_exchange 8 = .ok (.iaload, 1) := by decide +kernel
theorem dX6_exchange_9 : decode cX6_exchange 9 = .ok (.iastore, 1) := by decide +kernel
theorem dX6_exchange_10 : decode cX6_exchange 10 = .ok (.aload_n 0, 1) := by decide +kernel
theorem dX6_exchange_11 : decode cX6_exchange 11 = .ok (.iload_n 2, 1) := by decide +kernel
theorem dX6_exchange_12 : decode cX6_exchange 12 = .ok (.iload_n 3, 1) := by decide +kernel
theorem dX6_exchange_13 : decode cX6_exchange 13 = .ok (.iastore, 1) := by decide +kernel
theorem dX6_exchange_14 : decode cX6_exchange 14 = .ok (.return_, 1) := by decide +kernel
theorem dX7_init_0 : decode cX7_init 0 = .ok (.aload_n 0, 1) := by decide +kernel
theorem dX7_init_1 : decode cX7_init 1 = .ok (.invokespecial 3, 3) := by decide +kernel
theorem dX7_init_4 : decode cX7_init 4 = .ok (.aload_n 0, 1) := by decide +kernel
theorem dX7_init_5 : decode cX7_init 5 = .ok (.bipush 40, 2) := by decide +kernel
theorem dX7_init_7 : decode cX7_init 7 = .ok (.anewarray 11, 3) := by decide +kernel
theorem dX7_init_10 : decode cX7_init 10 = .ok (.putfield 13, 3) := by decide +kernel
theorem dX7_init_13 : decode cX7_init 13 = .ok (.aload_n 0, 1) := by decide +kernel
theorem dX7_init_14 : decode cX7_init 14 = .ok (.bipush 40, 2) := by decide +kernel
theorem dX7_init_16 : decode cX7_init 16 = .ok (.newarray .int, 2) := by decide +kernel
theorem dX7_init_18 : decode cX7_init 18 = .ok (.putfield 17, 3) := by decide +kernel
theorem dX7_init_21 : decode cX7_init 21 = .ok (.aload_n 0, 1) := by decide +kernel
theorem dX7_init_22 : decode cX7_init 22 = .ok (.bipush 40, 2) := by decide +kernel
theorem dX7_init_24 : decode cX7_init 24 = .ok (.newarray .int, 2) := by decide +kernel
theorem dX7_init_26 : decode cX7_init 26 = .ok (.putfield 21, 3) := by decide +kernel
theorem dX7_init_29 : decode cX7_init 29 = .ok (.aload_n 0, 1) := by decide +kernel
theorem dX7_init_30 : decode cX7_init 30 = .ok (.bipush 40, 2) := by decide +kernel
theorem dX7_init_32 : decode cX7_init 32 = .ok (.newarray .int, 2) := by decide +kernel
theorem dX7_init_34 : decode cX7_init 34 = .ok (.putfield 24, 3) := by decide +kernel
theorem dX7_init_37 : decode cX7_init 37 = .ok (.aload_n 0, 1) := by decide +kernel
theorem dX7_init_38 : decode cX7_init 38 = .ok (.bipush 40, 2) := by decide +kernel
theorem dX7_init_40 : decode cX7_init 40 = .ok (.newarray .int, 2) := by decide +kernel
theorem dX7_init_42 : decode cX7_init 42 = .ok (.putfield 27, 3) := by decide +kernel
theorem dX7_init_45 : decode cX7_init 45 = .ok (.iconst 0, 1) := by decide +kernel
theorem dX7_init_46 : decode cX7_init 46 = .ok (.istore_n 1, 1) := by decide +kernel
theorem dX7_init_47 : decode cX7_init 47 = .ok (.iload_n 1, 1) := by decide +kernel
theorem dX7_init_48 : decode cX7_init 48 = .ok (.bipush 40, 2) := by decide +kernel
theorem dX7_init_50 : decode cX7_init 50 = .ok (.if_icmp .ge 18, 3) := by decide +kernel
theorem dX7_init_53 : decode cX7_init 53 = .ok (.aload_n 0, 1) := by decide +kernel
theorem dX7_init_54 : decode cX7_init 54 = .ok (.getfield 13, 3) := by decide +kernel
theorem dX7_init_57 : decode cX7_init 57 = .ok (.iload_n 1, 1) := by decide +kernel
theorem dX7_init_58 : decode cX7_init 58 = .ok (.getstatic 30, 3) := by decide +kernel
theorem dX7_init_61 : decode cX7_init 61 = .ok (.aastore, 1) := by decide +kernel
theorem dX7_init_62 : decode cX7_init 62 = .ok (.iinc 1 1, 3) := by decide +kernel
theorem dX7_init_65 : decode cX7_init 65 = .ok (.goto (-18), 3) := by decide +kernel
theorem dX7_init_68 : decode cX7_init 68 = .ok (.return_, 1) := by decide +kernel
theorem dX7_clear_0 : decode cX7_clear 0 = .ok (.aload_n 0, 1) := by decide +kernel
theorem dX7_clear_1 : decode cX7_clear 1 = .ok (.iconst 0, 1) := by decide +kernel
theorem dX7_clear_2 : decode cX7_clear 2 = .ok (.putfield 34, 3) := by decide +kernel
theorem dX7_clear_5 : decode cX7_clear 5 = .ok (.return_, 1) := by decide +kernel
theorem dX7_become_0 : decode cX7_become 0 = .ok (.aload_n 0, 1) := by decide +kernel
theorem dX7_become_1 : decode cX7_become 1 = .ok (.aload_n 1, 1) := by decide +kernel
theorem dX7_become_2 : decode cX7_become 2 = .ok (.getfield 34, 3) := by decide +kernel
theorem dX7_become_5 : decode cX7_become 5 = .ok (.putfield 34, 3) := by decide +kernel
theorem dX7_become_8 : decode cX7_become 8 = .ok (.iconst 0, 1) := by decide +kernel
theorem dX7_become_9 : decode cX7_become 9 = .ok (.istore_n 2, 1) := by decide +kernel
theorem dX7_become_10 : decode cX7_become 10 = .ok (.iload_n 2, 1) := by decide +kernel
theorem dX7_become_11 : decode cX7_become 11 = .ok (.bipush 40, 2) := by decide +kernel
theorem dX7_become_13 : decode cX7_become 13 = .ok (.if_icmp .ge 69, 3) := by decide +kernel
theorem dX7_become_16 : decode cX7_become 16 = .ok (.aload_n 0, 1) := by decide +kernel
theorem dX7_become_17 : decode cX7_become 17 = .ok (.getfield 13, 3) := by decide +kernel
theorem dX7_become_20 : decode cX7_become 20 = .ok (.iload_n 2, 1) := by decide +kernel
theorem dX7_become_21 : decode cX7_become 21 = .ok (.aload_n 1, 1) := by decide +kernel
theorem dX7_become_22 : decode cX7_become 22 = .ok (.getfield 13, 3) := by decide +kernel
theorem dX7_become_25 : decode cX7_become 25 = .ok (.iload_n 2, 1) := by decide +kernel
theorem dX7_become_26 : decode cX7_become 26 = .ok (.aaload, 1) := by decide +kernel
theorem dX7_become_27 : decode cX7_become 27 = .ok (.aastore, 1) := by decide +kernel
theorem dX7_become_28 : decode cX7_become 28 = .ok (.aload_n 0, 1) := by decide +kernel
theorem dX7_become_29 : decode cX7_become 29 = .ok (.getfield 17, 3) := by decide +kernel
theorem dX7_become_32 : decode cX7_become 32 = .ok (.iload_n 2, 1) := by decide +kernel
theorem dX7_become_33 : decode cX7_become 33 = .ok (.aload_n 1, 1) := by decide +kernel
theorem dX7_become_34 : decode cX7_become 34 = .ok (.getfield 17, 3) := by decide +kernel
theorem dX7_become_37 : decode cX7_become 37 = .ok (.iload_n 2, 1) := by decide +kernel
theorem dX7_become_38 : decode cX7_become 38 = .ok (.iaload, 1) := by decide +kernel
theorem dX7_become_39 : decode cX7_become 39 = .ok (.iastore, 1) := by decide +kernel
theorem dX7_become_40 : decode cX7_become 40 = .ok (.aload_n 0, 1) := by decide +kernel
theorem dX7_become_41 : decode cX7_become 41 = .ok (.getfield 21, 3) := by decide +kernel
theorem dX7_become_44 : decode cX7_become 44 = .ok (.iload_n 2, 1) := by decide +kernel
theorem dX7_become_45 : decode cX7_become 45 = .ok (.aload_n 1, 1) := by decide +kernel
theorem dX7_become_46 : decode cX7_become 46 = .ok (.getfield 21, 3) := by decide +kernel
theorem dX7_become_49 : decode cX7_become 49 = .ok (.iload_n 2, 1) := by decide +kernel
theorem dX7_become_50 : decode cX7_become 50 = .ok (.iaload, 1) := by decide +kernel
theorem dX7_become_51 : decode cX7_become 51 = .ok (.iastore, 1) := by decide +kernel
theorem dX7_become_52 : decode cX7_become 52 = .ok (.aload_n 0, 1) := by decide +kernel
theorem dX7_become_53 : decode cX7_become 53 = .ok (.getfield 24, 3) := by decide +kernel
theorem dX7_become_56 : decode cX7_become 56 = .ok (.iload_n 2, 1) := by decide +kernel
theorem dX7_become_57 : decode cX7_become 57 = .ok (.aload_n 1, 1) := by decide +kernel
theorem dX7_become_58 : decode cX7_become 58 = .ok (.getfield 24, 3) := by decide +kernel
theorem dX7_become_61 : decode cX7_become 61 = .ok (.iload_n 2, 1) := by decide +kernel
theorem dX7_become_62 : decode cX7_become 62 = .ok (.iaload, 1) := by decide +kernel
theorem dX7_become_63 : decode cX7_become 63 = .ok (.iastore, 1) := by decide +kernel
theorem dX7_become_64 : decode cX7_become 64 = .ok (.aload_n 0, 1) := by decide +kernel
theorem dX7_become_65 : decode cX7_become 65 = .ok (.getfield 27, 3) := by decide +kernel
theorem dX7_become_68 : decode cX7_become 68 = .ok (.iload_n 2, 1) := by decide +kernel
theorem dX7_become_69 : decode cX7_become 69 = .ok (.aload_n 1, 1) := by decide +kernel
theorem dX7_become_70 : decode cX7_become 70 = .ok (.getfield 27, 3) := by decide +kernel
theorem dX7_become_73 : decode cX7_become 73 = .ok (.iload_n 2, 1) := by decide +kernel
theorem dX7_become_74 : decode cX7_become 74 = .ok (.iaload, 1) := by decide +kernel
theorem dX7_become_75 : decode cX7_become 75 = .ok (.iastore, 1) := by decide +kernel
theorem dX7_become_76 : decode cX7_become 76 = .ok (.iinc 2 1, 3) := by decide +kernel
theorem dX7_become_79 : decode cX7_become 79 = .ok (.goto (-69), 3) := by decide +kernel
theorem dX7_become_82 : decode cX7_become 82 = .ok (.return_, 1) := by decide +kernel
theorem dX7_putTest_0 : decode cX7_putTest 0 = .ok (.aload_n 0, 1) := by decide +kernel
theorem dX7_putTest_1 : decode cX7_putTest 1 = .ok (.aload_n 1, 1) := by decide +kernel
theorem dX7_putTest_2 : decode cX7_putTest 2 = .ok (.iload_n 2, 1) := by decide +kernel
theorem dX7_putTest_3 : decode cX7_putTest 3 = .ok (.iload_n 3, 1) := by decide +kernel
theorem dX7_putTest_4 : decode cX7_putTest 4 = .ok (.iconst 0, 1) := by decide +kernel
theorem dX7_putTest_5 : decode cX7_putTest 5 = .ok (.iconst 0, 1) := by decide +kernel
theorem dX7_putTest_6 : decode cX7_putTest 6 = .ok (.invokevirtual 38, 3) := by decide +kernel
theorem dX7_putTest_9 : decode cX7_putTest 9 = .ok (.return_, 1) := by decide +kernel
theorem dX7_putMeasure_0 : decode cX7_putMeasure 0 = .ok (.aload_n 0, 1) := by decide +kernel
theorem dX7_putMeasure_1 : decode cX7_putMeasure 1 = .ok (.getfield 34, 3) := by decide +kernel
theorem dX7_putMeasure_4 : decode cX7_putMeasure 4 = .ok (.bipush 40, 2) := by decide +kernel
theorem dX7_putMeasure_6 : decode cX7_putMeasure 6 = .ok (.if_icmp .ge 65, 3) := by decide +kernel
theorem dX7_putMeasure_9 : decode cX7_putMeasure 9 = .ok (.aload_n 0, 1) := by decide +kernel
theorem dX7_putMeasure_10 : decode cX7_putMeasure 10 = .ok (.getfield 13, 3) := by decide +kernel
theorem dX7_putMeasure_13 : decode cX7_putMeasure 13 = .ok (.aload_n 0, 1) := by decide +kernel
theorem dX7_putMeasure_14 : decode cX7_putMeasure 14 = .ok (.getfield 34, 3) := by decide +kernel
theorem dX7_putMeasure_17 : decode cX7_putMeasure 17 = .ok (.aload_n 1, 1) := by decide +kernel
theorem dX7_putMeasure_18 : decode cX7_putMeasure 18 = .ok (.aastore, 1) := by decide +kernel
theorem dX7_putMeasure_19 : decode cX7_putMeasure 19 = .ok (.aload_n 0, 1) := by decide +kernel
theorem dX7_putMeasure_20 : decode cX7_putMeasure 20 = .ok (.getfield 17, 3) := by decide +kernel
theorem dX7_putMeasure_23 : decode cX7_putMeasure 23 = .ok (.aload_n 0, 1) := by decide +kernel
theorem dX7_putMeasure_24 : decode cX7_putMeasure 24 = .ok (.getfield 34, 3) := by decide +kernel
theorem dX7_putMeasure_27 : decode cX7_putMeasure 27 = .ok (.iload_n 2, 1) := by decide +kernel
theorem dX7_putMeasure_28 : decode cX7_putMeasure 28 = .ok (.iastore, 1) := by decide +kernel
theorem dX7_putMeasure_29 : decode cX7_putMeasure 29 = .ok (.aload_n 0, 1) := by decide +kernel
theorem dX7_putMeasure_30 : decode cX7_putMeasure 30 = .ok (.getfield 21, 3) := by decide +kernel
theorem dX7_putMeasure_33 : decode cX7_putMeasure 33 = .ok (.aload_n 0, 1) := by decide +kernel
theorem dX7_putMeasure_34 : decode cX7_putMeasure 34 = .ok (.getfield 34, 3) := by decide +kernel
theorem dX7_putMeasure_37 : decode cX7_putMeasure 37 = .ok (.iload_n 3, 1) := by decide +kernel
theorem dX7_putMeasure_38 : decode cX7_putMeasure 38 = .ok (.iastore, 1) := by decide +kernel
theorem dX7_putMeasure_39 : decode cX7_putMeasure 39 = .ok (.aload_n 0, 1) := by decide +kernel
theorem dX7_putMeasure_40 : decode cX7_putMeasure 40 = .ok (.getfield 24, 3) := by decide +kernel
theorem dX7_putMeasure_43 : decode cX7_putMeasure 43 = .ok (.aload_n 0, 1) := by decide +kernel
theorem dX7_putMeasure_44 : decode cX7_putMeasure 44 = .ok (.getfield 34, 3) := by decide +kernel
theorem dX7_putMeasure_47 : decode cX7_putMeasure 47 = .ok (.iload 4, 2) := by decide +kernel
theorem dX7_putMeasure_49 : decode cX7_putMeasure 49 = .ok (.iastore, 1) := by decide +kernel
theorem dX7_putMeasure_50 : decode cX7_putMeasure 50 = .ok (.aload_n 0, 1) := by decide +kernel
theorem dX7_putMeasure_51 : decode cX7_putMeasure 51 = .ok (.getfield 27, 3) := by decide +kernel
theorem dX7_putMeasure_54 : decode cX7_putMeasure 54 = .ok (.aload_n 0, 1) := by decide +kernel
theorem dX7_putMeasure_55 : decode cX7_putMeasure 55 = .ok (.getfield 34, 3) := by decide +kernel
theorem dX7_putMeasure_58 : decode cX7_putMeasure 58 = .ok (.iload 5, 2) := by decide +kernel
theorem dX7_putMeasure_60 : decode cX7_putMeasure 60 = .ok (.iastore, 1) := by decide +kernel
theorem dX7_putMeasure_61 : decode cX7_putMeasure 61 = .ok (.aload_n 0, 1) := by decide +kernel
theorem dX7_putMeasure_62 : decode cX7_putMeasure 62 = .ok (.dup, 1) := by decide +kernel
theorem dX7_putMeasure_63 : decode cX7_putMeasure 63 = .ok (.getfield 34, 3) := by decide +kernel
theorem dX7_putMeasure_66 : decode cX7_putMeasure 66 = .ok (.iconst 1, 1) := by decide +kernel
theorem dX7_putMeasure_67 : decode cX7_putMeasure 67 = .ok (.iadd, 1) := by decide +kernel
theorem dX7_putMeasure_68 : decode cX7_putMeasure 68 = .ok (.putfield 34, 3) := by decide +kernel
theorem dX7_putMeasure_71 : decode cX7_putMeasure 71 = .ok (.return_, 1) := by decide +kernel
theorem dX7_isTrueOf_0 : decode cX7_isTrueOf 0 = .ok (.iconst 0, 1) := by decide +kernel
theorem dX7_isTrueOf_1 : decode cX7_isTrueOf 1 = .ok (.istore_n 3, 1) := by decide +kernel
theorem dX7_isTrueOf_2 : decode cX7_isTrueOf 2 = .ok (.iconst 0, 1) := by decide +kernel
theorem dX7_isTrueOf_3 : decode cX7_isTrueOf 3 = .ok (.istore 4, 2) := by decide +kernel
theorem dX7_isTrueOf_5 : decode cX7_isTrueOf 5 = .ok (.iload 4, 2) := by decide +kernel
theorem dX7_isTrueOf_7 : decode cX7_isTrueOf 7 = .ok (.aload_n 0, 1) := by decide +kernel
theorem dX7_isTrueOf_8 : decode cX7_isTrueOf 8 = .ok (.getfield 34, 3) := by decide +kernel
theorem dX7_isTrueOf_11 : decode cX7_isTrueOf 11 = .ok (.if_icmp .ge 118, 3) := by decide +kernel
theorem dX7_isTrueOf_14 : decode cX7_isTrueOf 14 = .ok (.iload 4, 2) := by decide +kernel
theorem dX7_isTrueOf_16 : decode cX7_isTrueOf 16 = .ok (.bipush 40, 2) := by decide +kernel
theorem dX7_isTrueOf_18 : decode cX7_isTrueOf 18 = .ok (.if_icmp .ge 111, 3) := by decide +kernel
theorem dX7_isTrueOf_21 : decode cX7_isTrueOf 21 = .ok (.iload_n 3, 1) := by decide +kernel
theorem dX7_isTrueOf_22 : decode cX7_isTrueOf 22 = .ok (.iconst 1, 1) := by decide +kernel
theorem dX7_isTrueOf_23 : decode cX7_isTrueOf 23 = .ok (.iand, 1) := by decide +kernel
theorem dX7_isTrueOf_24 : decode cX7_isTrueOf 24 = .ok (.istore 5, 2) := by decide +kernel
theorem dX7_isTrueOf_26 : decode cX7_isTrueOf 26 = .ok (.getstatic 42, 3) := by decide +kernel
theorem dX7_isTrueOf_29 : decode cX7_isTrueOf 29 = .ok (.aload_n 0, 1) := by decide +kernel
theorem dX7_isTrueOf_30 : decode cX7_isTrueOf 30 = .ok (.getfield 13, 3) := by decide +kernel
theorem dX7_isTrueOf_33 : decode cX7_isTrueOf 33 = .ok (.iload 4, 2) := by decide +kernel
theorem dX7_isTrueOf_35 : decode cX7_isTrueOf 35 = .ok (.aaload, 1) := by decide +kernel
theorem dX7_isTrueOf_36 : decode cX7_isTrueOf 36 = .ok (.invokevirtual 47, 3) := by decide +kernel
theorem dX7_isTrueOf_39 : decode cX7_isTrueOf 39 = .ok (.iaload, 1) := by decide +kernel
theorem dX7_isTrueOf_40 : decode cX7_isTrueOf 40 = .ok (.tableswitch 62 10 12 #[28, 35, 50], 28) := by decide +kernel
theorem dX7_isTrueOf_68 : decode cX7_isTrueOf 68 = .ok (.iload_n 3, 1) := by decide +kernel
theorem dX7_isTrueOf_69 : decode cX7_isTrueOf 69 = .ok (.iconst 1, 1) := by decide +kernel
theorem dX7_isTrueOf_70 : decode cX7_isTrueOf 70 = .ok (.ixor, 1) := by decide +kernel
theorem dX7_isTrueOf_71 : decode cX7_isTrueOf 71 = .ok (.istore_n 3, 1) := by decide +kernel
theorem dX7_isTrueOf_72 : decode cX7_isTrueOf 72 = .ok (.goto 51, 3) := by decide +kernel
theorem dX7_isTrueOf_75 : decode cX7_isTrueOf 75 = .ok (.iload_n 3, 1) := by decide +kernel
theorem dX7_isTrueOf_76 : decode cX7_isTrueOf 76 = .ok (.iconst 1, 1) := by decide +kernel
theorem dX7_isTrueOf_77 : decode cX7_isTrueOf 77 = .ok (.iushr, 1) := by decide +kernel
theorem dX7_isTrueOf_78 : decode cX7_isTrueOf 78 = .ok (.istore_n 3, 1) := by decide +kernel
theorem dX7_isTrueOf_79 : decode cX7_isTrueOf 79 = .ok (.iload_n 3, 1) := by decide +kernel
theorem dX7_isTrueOf_80 : decode cX7_isTrueOf 80 = .ok (.iload 5, 2) := by decide +kernel
theorem dX7_isTrueOf_82 : decode cX7_isTrueOf 82 = .ok (.bipush (-2), 2) := by decide +kernel
theorem dX7_isTrueOf_84 : decode cX7_isTrueOf 84 = .ok (.ior, 1) := by decide +kernel
theorem dX7_isTrueOf_85 : decode cX7_isTrueOf 85 = .ok (.iand, 1) := by decide +kernel
theorem dX7_isTrueOf_86 : decode cX7_isTrueOf 86 = .ok (.istore_n 3, 1) := by decide +kernel
theorem dX7_isTrueOf_87 : decode cX7_isTrueOf 87 = .ok (.goto 36, 3) := by decide +kernel
theorem dX7_isTrueOf_90 : decode cX7_isTrueOf 90 = .ok (.iload_n 3, 1) := by decide +kernel
theorem dX7_isTrueOf_91 : decode cX7_isTrueOf 91 = .ok (.iconst 1, 1) := by decide +kernel
theorem dX7_isTrueOf_92 : decode cX7_isTrueOf 92 = .ok (.iushr, 1) := by decide +kernel
theorem dX7_isTrueOf_93 : decode cX7_isTrueOf 93 = .ok (.istore_n 3, 1) := by decide +kernel
theorem dX7_isTrueOf_94 : decode cX7_isTrueOf 94 = .ok (.iload_n 3, 1) := by decide +kernel
theorem dX7_isTrueOf_95 : decode cX7_isTrueOf 95 = .ok (.iload 5, 2) := by decide +kernel
theorem dX7_isTrueOf_97 : decode cX7_isTrueOf 97 = .ok (.ior, 1) := by decide +kernel
theorem dX7_isTrueOf_98 : decode cX7_isTrueOf 98 = .ok (.istore_n 3, 1) := by decide +kernel
theorem dX7_isTrueOf_99 : decode cX7_isTrueOf 99 = .ok (.goto 24, 3) := by decide +kernel
