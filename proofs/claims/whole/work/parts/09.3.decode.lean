theorem dX5_closePart_40 : decode cX5_closePart 40 = .ok (.aload_n 0, 1) := by decide +kernel
theorem dX5_closePart_41 : decode cX5_closePart 41 = .ok (.getfield 106, 3) := by decide +kernel
theorem dX5_closePart_44 : decode cX5_closePart 44 = .ok (.iconst 1, 1) := by decide +kernel
theorem dX5_closePart_45 : decode cX5_closePart 45 = .ok (.isub, 1) := by decide +kernel
theorem dX5_closePart_46 : decode cX5_closePart 46 = .ok (.iaload, 1) := by decide +kernel
theorem dX5_closePart_47 : decode cX5_closePart 47 = .ok (.iadd, 1) := by decide +kernel
theorem dX5_closePart_48 : decode cX5_closePart 48 = .ok (.invokevirtual 129, 3) := by decide +kernel
theorem dX5_closePart_51 : decode cX5_closePart 51 = .ok (.aload_n 0, 1) := by decide +kernel
theorem dX5_closePart_52 : decode cX5_closePart 52 = .ok (.dup, 1) := by decide +kernel
theorem dX5_closePart_53 : decode cX5_closePart 53 = .ok (.getfield 106, 3) := by decide +kernel
theorem dX5_closePart_56 : decode cX5_closePart 56 = .ok (.iconst 1, 1) := by decide +kernel
theorem dX5_closePart_57 : decode cX5_closePart 57 = .ok (.isub, 1) := by decide +kernel
theorem dX5_closePart_58 : decode cX5_closePart 58 = .ok (.putfield 106, 3) := by decide +kernel
theorem dX5_closePart_61 : decode cX5_closePart 61 = .ok (.goto (-52), 3) := by decide +kernel
theorem dX5_closePart_64 : decode cX5_closePart 64 = .ok (.aload_n 0, 1) := by decide +kernel
theorem dX5_closePart_65 : decode cX5_closePart 65 = .ok (.iconst 0, 1) := by decide +kernel
theorem dX5_closePart_66 : decode cX5_closePart 66 = .ok (.aload_n 0, 1) := by decide +kernel
theorem dX5_closePart_67 : decode cX5_closePart 67 = .ok (.getfield 106, 3) := by decide +kernel
theorem dX5_closePart_70 : decode cX5_closePart 70 = .ok (.iconst 1, 1) := by decide +kernel
theorem dX5_closePart_71 : decode cX5_closePart 71 = .ok (.isub, 1) := by decide +kernel
theorem dX5_closePart_72 : decode cX5_closePart 72 = .ok (.invokestatic 88, 3) := by decide +kernel
theorem dX5_closePart_75 : decode cX5_closePart 75 = .ok (.putfield 106, 3) := by decide +kernel
theorem dX5_closePart_78 : decode cX5_closePart 78 = .ok (.aload_n 0, 1) := by decide +kernel
theorem dX5_closePart_79 : decode cX5_closePart 79 = .ok (.dup, 1) := by decide +kernel
theorem dX5_closePart_80 : decode cX5_closePart 80 = .ok (.getfield 113, 3) := by decide +kernel
theorem dX5_closePart_83 : decode cX5_closePart 83 = .ok (.iconst 1, 1) := by decide +kernel
theorem dX5_closePart_84 : decode cX5_closePart 84 = .ok (.isub, 1) := by decide +kernel
theorem dX5_closePart_85 : decode cX5_closePart 85 = .ok (.putfield 113, 3) := by decide +kernel
theorem dX5_closePart_88 : decode cX5_closePart 88 = .ok (.aload_n 0, 1) := by decide +kernel
theorem dX5_closePart_89 : decode cX5_closePart 89 = .ok (.dup, 1) := by decide +kernel
theorem dX5_closePart_90 : decode cX5_closePart 90 = .ok (.getfield 116, 3) := by decide +kernel
theorem dX5_closePart_93 : decode cX5_closePart 93 = .ok (.iconst 1, 1) := by decide +kernel
theorem dX5_closePart_94 : decode cX5_closePart 94 = .ok (.isub, 1) := by decide +kernel
theorem dX5_closePart_95 : decode cX5_closePart 95 = .ok (.putfield 116, 3) := by decide +kernel
theorem dX5_closePart_98 : decode cX5_closePart 98 = .ok (.aload_n 0, 1) := by decide +kernel
theorem dX5_closePart_99 : decode cX5_closePart 99 = .ok (.invokevirtual 141, 3) := by decide +kernel
theorem dX5_closePart_102 : decode cX5_closePart 102 = .ok (.iconst 1, 1) := by decide +kernel
theorem dX5_closePart_103 : decode cX5_closePart 103 = .ok (.ireturn, 1) := by decide +kernel
theorem dX5_endPart_0 : decode cX5_endPart 0 = .ok (.aload_n 0, 1) := by decide +kernel
theorem dX5_endPart_1 : decode cX5_endPart 1 = .ok (.iconst 0, 1) := by decide +kernel
theorem dX5_endPart_2 : decode cX5_endPart 2 = .ok (.putfield 109, 3) := by decide +kernel
theorem dX5_endPart_5 : decode cX5_endPart 5 = .ok (.aload_n 0, 1) := by decide +kernel
theorem dX5_endPart_6 : decode cX5_endPart 6 = .ok (.getfield 106, 3) := by decide +kernel
theorem dX5_endPart_9 : decode cX5_endPart 9 = .ok (.ifCond .le 61, 3) := by decide +kernel
theorem dX5_endPart_12 : decode cX5_endPart 12 = .ok (.aload_n 0, 1) := by decide +kernel
theorem dX5_endPart_13 : decode cX5_endPart 13 = .ok (.getfield 19, 3) := by decide +kernel
theorem dX5_endPart_16 : decode cX5_endPart 16 = .ok (.aload_n 0, 1) := by decide +kernel
theorem dX5_endPart_17 : decode cX5_endPart 17 = .ok (.getfield 106, 3) := by decide +kernel
theorem dX5_endPart_20 : decode cX5_endPart 20 = .ok (.iconst 1, 1) := by decide +kernel
theorem dX5_endPart_21 : decode cX5_endPart 21 = .ok (.isub, 1) := by decide +kernel
theorem dX5_endPart_22 : decode cX5_endPart 22 = .ok (.iaload, 1) := by decide +kernel
theorem dX5_endPart_23 : decode cX5_endPart 23 = .ok (.bipush 11, 2) := by decide +kernel
theorem dX5_endPart_25 : decode cX5_endPart 25 = .ok (.if_icmp .ne 45, 3) := by decide +kernel
theorem dX5_endPart_28 : decode cX5_endPart 28 = .ok (.aload_n 0, 1) := by decide +kernel
theorem dX5_endPart_29 : decode cX5_endPart 29 = .ok (.sipush 20000, 3) := by decide +kernel
theorem dX5_endPart_32 : decode cX5_endPart 32 = .ok (.aload_n 0, 1) := by decide +kernel
theorem dX5_endPart_33 : decode cX5_endPart 33 = .ok (.getfield 19, 3) := by decide +kernel
theorem dX5_endPart_36 : decode cX5_endPart 36 = .ok (.aload_n 0, 1) := by decide +kernel
theorem dX5_endPart_37 : decode cX5_endPart 37 = .ok (.getfield 106, 3) := by decide +kernel
theorem dX5_endPart_40 : decode cX5_endPart 40 = .ok (.iconst 1, 1) := by decide +kernel
theorem dX5_endPart_41 : decode cX5_endPart 41 = .ok (.isub, 1) := by decide +kernel
theorem dX5_endPart_42 : decode cX5_endPart 42 = .ok (.iaload, 1) := by decide +kernel
theorem dX5_endPart_43 : decode cX5_endPart 43 = .ok (.iadd, 1) := by decide +kernel
theorem dX5_endPart_44 : decode cX5_endPart 44 = .ok (.invokevirtual 129, 3) := by decide +kernel
theorem dX5_endPart_47 : decode cX5_endPart 47 = .ok (.aload_n 0, 1) := by decide +kernel
theorem dX5_endPart_48 : decode cX5_endPart 48 = .ok (.dup, 1) := by decide +kernel
theorem dX5_endPart_49 : decode cX5_endPart 49 = .ok (.getfield 116, 3) := by decide +kernel
theorem dX5_endPart_52 : decode cX5_endPart 52 = .ok (.iconst 1, 1) := by decide +kernel
theorem dX5_endPart_53 : decode cX5_endPart 53 = .ok (.isub, 1) := by decide +kernel
theorem dX5_endPart_54 : decode cX5_endPart 54 = .ok (.putfield 116, 3) := by decide +kernel
theorem dX5_endPart_57 : decode cX5_endPart 57 = .ok (.aload_n 0, 1) := by decide +kernel
theorem dX5_endPart_58 : decode cX5_endPart 58 = .ok (.dup, 1) := by decide +kernel
theorem dX5_endPart_59 : decode cX5_endPart 59 = .ok (.getfield 106, 3) := by decide +kernel
theorem dX5_endPart_62 : decode cX5_endPart 62 = .ok (.iconst 1, 1) := by decide +kernel
theorem dX5_endPart_63 : decode cX5_endPart 63 = .ok (.isub, 1) := by decide +kernel
theorem dX5_endPart_64 : decode cX5_endPart 64 = .ok (.putfield 106, 3) := by decide +kernel
theorem dX5_endPart_67 : decode cX5_endPart 67 = .ok (.goto (-62), 3) := by decide +kernel
theorem dX5_endPart_70 : decode cX5_endPart 70 = .ok (.return_, 1) := by decide +kernel
theorem dX5_takeOperator_0 : decode cX5_takeOperator 0 = .ok (.aload_n 0, 1) := by decide +kernel
theorem dX5_takeOperator_1 : decode cX5_takeOperator 1 = .ok (.getfield 34, 3) := by decide +kernel
theorem dX5_takeOperator_4 : decode cX5_takeOperator 4 = .ok (.invokestatic 144, 3) := by decide +kernel
theorem dX5_takeOperator_7 : decode cX5_takeOperator 7 = .ok (.istore_n 1, 1) := by decide +kernel
theorem dX5_takeOperator_8 : decode cX5_takeOperator 8 = .ok (.iload_n 1, 1) := by decide +kernel
theorem dX5_takeOperator_9 : decode cX5_takeOperator 9 = .ok (.ifCond .ne 5, 3) := by decide +kernel
theorem dX5_takeOperator_12 : decode cX5_takeOperator 12 = .ok (.iconst 0, 1) := by decide +kernel
theorem dX5_takeOperator_13 : decode cX5_takeOperator 13 = .ok (.ireturn, 1) := by decide +kernel
theorem dX5_takeOperator_14 : decode cX5_takeOperator 14 = .ok (.aload_n 0, 1) := by decide +kernel
theorem dX5_takeOperator_15 : decode cX5_takeOperator 15 = .ok (.getfield 106, 3) := by decide +kernel
theorem dX5_takeOperator_18 : decode cX5_takeOperator 18 = .ok (.ifCond .le 78, 3) := by decide +kernel
theorem dX5_takeOperator_21 : decode cX5_takeOperator 21 = .ok (.aload_n 0, 1) := by decide +kernel
theorem dX5_takeOperator_22 : decode cX5_takeOperator 22 = .ok (.getfield 19, 3) := by decide +kernel
theorem dX5_takeOperator_25 : decode cX5_takeOperator 25 = .ok (.aload_n 0, 1) := by decide +kernel
theorem dX5_takeOperator_26 : decode cX5_takeOperator 26 = .ok (.getfield 106, 3) := by decide +kernel
theorem dX5_takeOperator_29 : decode cX5_takeOperator 29 = .ok (.iconst 1, 1) := by decide +kernel
theorem dX5_takeOperator_30 : decode cX5_takeOperator 30 = .ok (.isub, 1) := by decide +kernel
theorem dX5_takeOperator_31 : decode cX5_takeOperator 31 = .ok (.iaload, 1) := by decide +kernel
theorem dX5_takeOperator_32 : decode cX5_takeOperator 32 = .ok (.invokestatic 144, 3) := by decide +kernel
theorem dX5_takeOperator_35 : decode cX5_takeOperator 35 = .ok (.iload_n 1, 1) := by decide +kernel
theorem dX5_takeOperator_36 : decode cX5_takeOperator 36 = .ok (.if_icmp .lt 60, 3) := by decide +kernel
theorem dX5_takeOperator_39 : decode cX5_takeOperator 39 = .ok (.iload_n 1, 1) := by decide +kernel
theorem dX5_takeOperator_40 : decode cX5_takeOperator 40 = .ok (.iconst 2, 1) := by decide +kernel
theorem dX5_takeOperator_41 : decode cX5_takeOperator 41 = .ok (.if_icmp .ne 23, 3) := by decide +kernel
theorem dX5_takeOperator_44 : decode cX5_takeOperator 44 = .ok (.aload_n 0, 1) := by decide +kernel
theorem dX5_takeOperator_45 : decode cX5_takeOperator 45 = .ok (.getfield 19, 3) := by decide +kernel
theorem dX5_takeOperator_48 : decode cX5_takeOperator 48 = .ok (.aload_n 0, 1) := by decide +kernel
theorem dX5_takeOperator_49 : decode cX5_takeOperator 49 = .ok (.getfield 106, 3) := by decide +kernel
theorem dX5_takeOperator_52 : decode cX5_takeOperator 52 = .ok (.iconst 1, 1) := by decide +kernel
theorem dX5_takeOperator_53 : decode cX5_takeOperator 53 = .ok (.isub, 1) := by decide +kernel
theorem dX5_takeOperator_54 : decode cX5_takeOperator 54 = .ok (.iaload, 1) := by decide +kernel
theorem dX5_takeOperator_55 : decode cX5_takeOperator 55 = .ok (.invokestatic 144, 3) := by decide +kernel
theorem dX5_takeOperator_58 : decode cX5_takeOperator 58 = .ok (.iconst 2, 1) := by decide +kernel
theorem dX5_takeOperator_59 : decode cX5_takeOperator 59 = .ok (.if_icmp .ne 5, 3) := by decide +kernel
theorem dX5_takeOperator_62 : decode cX5_takeOperator 62 = .ok (.iconst 0, 1) := by decide +kernel
theorem dX5_takeOperator_63 : decode cX5_takeOperator 63 = .ok (.ireturn, 1) := by decide +kernel
theorem dX5_takeOperator_64 : decode cX5_takeOperator 64 = .ok (.aload_n 0, 1) := by decide +kernel
theorem dX5_takeOperator_65 : decode cX5_takeOperator 65 = .ok (.sipush 20000, 3) := by decide +kernel
theorem dX5_takeOperator_68 : decode cX5_takeOperator 68 = .ok (.aload_n 0, 1) := by decide +kernel
theorem dX5_takeOperator_69 : decode cX5_takeOperator 69 = .ok (.getfield 19, 3) := by decide +kernel
theorem dX5_takeOperator_72 : decode cX5_takeOperator 72 = .ok (.aload_n 0, 1) := by decide +kernel
theorem dX5_takeOperator_73 : decode cX5_takeOperator 73 = .ok (.getfield 106, 3) := by decide +kernel
theorem dX5_takeOperator_76 : decode cX5_takeOperator 76 = .ok (.iconst 1, 1) := by decide +kernel
theorem dX5_takeOperator_77 : decode cX5_takeOperator 77 = .ok (.isub, 1) := by decide +kernel
theorem dX5_takeOperator_78 : decode cX5_takeOperator 78 = .ok (.iaload, 1) := by decide +kernel
theorem dX5_takeOperator_79 : decode cX5_takeOperator 79 = .ok (.iadd, 1) := by decide +kernel
theorem dX5_takeOperator_80 : decode cX5_takeOperator 80 = .ok (.invokevirtual 129, 3) := by decide +kernel
theorem dX5_takeOperator_83 : decode cX5_takeOperator 83 = .ok (.aload_n 0, 1) := by decide +kernel
theorem dX5_takeOperator_84 : decode cX5_takeOperator 84 = .ok (.dup, 1) := by decide +kernel
theorem dX5_takeOperator_85 : decode cX5_takeOperator 85 = .ok (.getfield 106, 3) := by decide +kernel
theorem dX5_takeOperator_88 : decode cX5_takeOperator 88 = .ok (.iconst 1, 1) := by decide +kernel
theorem dX5_takeOperator_89 : decode cX5_takeOperator 89 = .ok (.isub, 1) := by decide +kernel
theorem dX5_takeOperator_90 : decode cX5_takeOperator 90 = .ok (.putfield 106, 3) := by decide +kernel
theorem dX5_takeOperator_93 : decode cX5_takeOperator 93 = .ok (.goto (-79), 3) := by decide +kernel
theorem dX5_takeOperator_96 : decode cX5_takeOperator 96 = .ok (.aload_n 0, 1) := by decide +kernel
theorem dX5_takeOperator_97 : decode cX5_takeOperator 97 = .ok (.invokevirtual 138, 3) := by decide +kernel
theorem dX5_takeOperator_100 : decode cX5_takeOperator 100 = .ok (.aload_n 0, 1) := by decide +kernel
theorem dX5_takeOperator_101 : decode cX5_takeOperator 101 = .ok (.iconst 1, 1) := by decide +kernel
theorem dX5_takeOperator_102 : decode cX5_takeOperator 102 = .ok (.putfield 109, 3) := by decide +kernel
theorem dX5_takeOperator_105 : decode cX5_takeOperator 105 = .ok (.iconst 1, 1) := by decide +kernel
theorem dX5_takeOperator_106 : decode cX5_takeOperator 106 = .ok (.ireturn, 1) := by decide +kernel
theorem dX5_rankOf_0 : decode cX5_rankOf 0 = .ok (.iload_n 0, 1) := by decide +kernel
theorem dX5_rankOf_1 : decode cX5_rankOf 1 = .ok (.lookupswitch 83 #[(9, 75), (10, 75), (42, 81), (43, 79), (45, 79), (47, 81), (60, 77), (61, 77)], 75) := by decide +kernel
theorem dX5_rankOf_76 : decode cX5_rankOf 76 = .ok (.iconst 1, 1) := by decide +kernel
theorem dX5_rankOf_77 : decode cX5_rankOf 77 = .ok (.ireturn, 1) := by decide +kernel
theorem dX5_rankOf_78 : decode cX5_rankOf 78 = .ok (.iconst 2, 1) := by decide +kernel
theorem dX5_rankOf_79 : decode cX5_rankOf 79 = .ok (.ireturn, 1) := by decide +kernel
theorem dX5_rankOf_80 : decode cX5_rankOf 80 = .ok (.iconst 3, 1) := by decide +kernel
theorem dX5_rankOf_81 : decode cX5_rankOf 81 = .ok (.ireturn, 1) := by decide +kernel
theorem dX5_rankOf_82 : decode cX5_rankOf 82 = .ok (.iconst 4, 1) := by decide +kernel
theorem dX5_rankOf_83 : decode cX5_rankOf 83 = .ok (.ireturn, 1) := by decide +kernel
theorem dX5_rankOf_84 : decode cX5_rankOf 84 = .ok (.iconst 0, 1) := by decide +kernel
theorem dX5_rankOf_85 : decode cX5_rankOf 85 = .ok (.ireturn, 1) := by decide +kernel
theorem dX5_pushWaiting_0 : decode cX5_pushWaiting 0 = .ok (.aload_n 0, 1) := by decide +kernel
theorem dX5_pushWaiting_1 : decode cX5_pushWaiting 1 = .ok (.getfield 106, 3) := by decide +kernel
theorem dX5_pushWaiting_4 : decode cX5_pushWaiting 4 = .ok (.aload_n 0, 1) := by decide +kernel
theorem dX5_pushWaiting_5 : decode cX5_pushWaiting 5 = .ok (.getfield 19, 3) := by decide +kernel
theorem dX5_pushWaiting_8 : decode cX5_pushWaiting 8 = .ok (.arraylength, 1) := by decide +kernel
theorem dX5_pushWaiting_9 : decode cX5_pushWaiting 9 = .ok (.if_icmp .ge 26, 3) := by decide +kernel
theorem dX5_pushWaiting_12 : decode cX5_pushWaiting 12 = .ok (.aload_n 0, 1) := by decide +kernel
theorem dX5_pushWaiting_13 : decode cX5_pushWaiting 13 = .ok (.getfield 19, 3) := by decide +kernel
theorem dX5_pushWaiting_16 : decode cX5_pushWaiting 16 = .ok (.aload_n 0, 1) := by decide +kernel
theorem dX5_pushWaiting_17 : decode cX5_pushWaiting 17 = .ok (.getfield 106, 3) := by decide +kernel
theorem dX5_pushWaiting_20 : decode cX5_pushWaiting 20 = .ok (.aload_n 0, 1) := by decide +kernel
theorem dX5_pushWaiting_21 : decode cX5_pushWaiting 21 = .ok (.getfield 34, 3) := by decide +kernel
theorem dX5_pushWaiting_24 : decode cX5_pushWaiting 24 = .ok (.iastore, 1) := by decide +kernel
theorem dX5_pushWaiting_25 : decode cX5_pushWaiting 25 = .ok (.aload_n 0, 1) := by decide +kernel
theorem dX5_pushWaiting_26 : decode cX5_pushWaiting 26 = .ok (.dup, 1) := by decide +kernel
theorem dX5_pushWaiting_27 : decode cX5_pushWaiting 27 = .ok (.getfield 106, 3) := by decide +kernel
theorem dX5_pushWaiting_30 : decode cX5_pushWaiting 30 = .ok (.iconst 1, 1) := by decide +kernel
theorem dX5_pushWaiting_31 : decode cX5_pushWaiting 31 = .ok (.iadd, 1) := by decide +kernel
theorem dX5_pushWaiting_32 : decode cX5_pushWaiting 32 = .ok (.putfield 106, 3) := by decide +kernel
theorem dX5_pushWaiting_35 : decode cX5_pushWaiting 35 = .ok (.return_, 1) := by decide +kernel
theorem dX5_emit_0 : decode cX5_emit 0 = .ok (.aload_n 0, 1) := by decide +kernel
theorem dX5_emit_1 : decode cX5_emit 1 = .ok (.getfield 103, 3) := by decide +kernel
theorem dX5_emit_4 : decode cX5_emit 4 = .ok (.aload_n 0, 1) := by decide +kernel
theorem dX5_emit_5 : decode cX5_emit 5 = .ok (.getfield 15, 3) := by decide +kernel
theorem dX5_emit_8 : decode cX5_emit 8 = .ok (.arraylength, 1) := by decide +kernel
theorem dX5_emit_9 : decode cX5_emit 9 = .ok (.if_icmp .ge 23, 3) := by decide +kernel
theorem dX5_emit_12 : decode cX5_emit 12 = .ok (.aload_n 0, 1) := by decide +kernel
theorem dX5_emit_13 : decode cX5_emit 13 = .ok (.getfield 15, 3) := by decide +kernel
theorem dX5_emit_16 : decode cX5_emit 16 = .ok (.aload_n 0, 1) := by decide +kernel
theorem dX5_emit_17 : decode cX5_emit 17 = .ok (.getfield 103, 3) := by decide +kernel
theorem dX5_emit_20 : decode cX5_emit 20 = .ok (.iload_n 1, 1) := by decide +kernel
theorem dX5_emit_21 : decode cX5_emit 21 = .ok (.iastore, 1) := by decide +kernel
theorem dX5_emit_22 : decode cX5_emit 22 = .ok (.aload_n 0, 1) := by decide +kernel
theorem dX5_emit_23 : decode cX5_emit 23 = .ok (.dup, 1) := by decide +kernel
theorem dX5_emit_24 : decode cX5_emit 24 = .ok (.getfield 103, 3) := by decide +kernel
theorem dX5_emit_27 : decode cX5_emit 27 = .ok (.iconst 1, 1) := by decide +kernel
theorem dX5_emit_28 : decode cX5_emit 28 = .ok (.iadd, 1) := by decide +kernel
theorem dX5_emit_29 : decode cX5_emit 29 = .ok (.putfield 103, 3) := by decide +kernel
theorem dX5_emit_32 : decode cX5_emit 32 = .ok (.return_, 1) := by decide +kernel
theorem dX5_start_0 : decode cX5_start 0 = .ok (.aload_n 0, 1) := by decide +kernel
theorem dX5_start_1 : decode cX5_start 1 = .ok (.iconst 0, 1) := by decide +kernel
theorem dX5_start_2 : decode cX5_start 2 = .ok (.putfield 37, 3) := by decide +kernel
theorem dX5_start_5 : decode cX5_start 5 = .ok (.aload_n 0, 1) := by decide +kernel
theorem dX5_start_6 : decode cX5_start 6 = .ok (.iconst 0, 1) := by decide +kernel
theorem dX5_start_7 : decode cX5_start 7 = .ok (.putfield 147, 3) := by decide +kernel
theorem dX5_start_10 : decode cX5_start 10 = .ok (.aload_n 0, 1) := by decide +kernel
theorem dX5_start_11 : decode cX5_start 11 = .ok (.invokevirtual 55, 3) := by decide +kernel
theorem dX5_start_14 : decode cX5_start 14 = .ok (.return_, 1) := by decide +kernel
theorem dX5_next_0 : decode cX5_next 0 = .ok (.aload_n 0, 1) := by decide +kernel
theorem dX5_next_1 : decode cX5_next 1 = .ok (.getfield 147, 3) := by decide +kernel
theorem dX5_next_4 : decode cX5_next 4 = .ok (.aload_n 0, 1) := by decide +kernel
theorem dX5_next_5 : decode cX5_next 5 = .ok (.getfield 24, 3) := by decide +kernel
theorem dX5_next_8 : decode cX5_next 8 = .ok (.if_icmp .ge 44, 3) := by decide +kernel
theorem dX5_next_11 : decode cX5_next 11 = .ok (.aload_n 0, 1) := by decide +kernel
theorem dX5_next_12 : decode cX5_next 12 = .ok (.getfield 9, 3) := by decide +kernel
theorem dX5_next_15 : decode cX5_next 15 = .ok (.aload_n 0, 1) := by decide +kernel
theorem dX5_next_16 : decode cX5_next 16 = .ok (.getfield 147, 3) := by decide +kernel
theorem dX5_next_19 : decode cX5_next 19 = .ok (.caload, 1) := by decide +kernel
theorem dX5_next_20 : decode cX5_next 20 = .ok (.bipush 10, 2) := by decide +kernel
theorem dX5_next_22 : decode cX5_next 22 = .ok (.if_icmp .eq 17, 3) := by decide +kernel
theorem dX5_next_25 : decode cX5_next 25 = .ok (.aload_n 0, 1) := by decide +kernel
theorem dX5_next_26 : decode cX5_next 26 = .ok (.getfield 9, 3) := by decide +kernel
theorem dX5_next_29 : decode cX5_next 29 = .ok (.aload_n 0, 1) := by decide +kernel
theorem dX5_next_30 : decode cX5_next 30 = .ok (.getfield 147, 3) := by decide +kernel
theorem dX5_next_33 : decode cX5_next 33 = .ok (.caload, 1) := by decide +kernel
theorem dX5_next_34 : decode cX5_next 34 = .ok (.bipush 32, 2) := by decide +kernel
theorem dX5_next_36 : decode cX5_next 36 = .ok (.if_icmp .ne 16, 3) := by decide +kernel
theorem dX5_next_39 : decode cX5_next 39 = .ok (.aload_n 0, 1) := by decide +kernel
theorem dX5_next_40 : decode cX5_next 40 = .ok (.dup, 1) := by decide +kernel
theorem dX5_next_41 : decode cX5_next 41 = .ok (.getfield 147, 3) := by decide +kernel
theorem dX5_next_44 : decode cX5_next 44 = .ok (.iconst 1, 1) := by decide +kernel
theorem dX5_next_45 : decode cX5_next 45 = .ok (.iadd, 1) := by decide +kernel
theorem dX5_next_46 : decode cX5_next 46 = .ok (.putfield 147, 3) := by decide +kernel
theorem dX5_next_49 : decode cX5_next 49 = .ok (.goto (-49), 3) := by decide +kernel
theorem dX5_next_52 : decode cX5_next 52 = .ok (.aload_n 0, 1) := by decide +kernel
theorem dX5_next_53 : decode cX5_next 53 = .ok (.aload_n 0, 1) := by decide +kernel
theorem dX5_next_54 : decode cX5_next 54 = .ok (.getfield 147, 3) := by decide +kernel
theorem dX5_next_57 : decode cX5_next 57 = .ok (.putfield 100, 3) := by decide +kernel
theorem dX5_next_60 : decode cX5_next 60 = .ok (.aload_n 0, 1) := by decide +kernel
theorem dX5_next_61 : decode cX5_next 61 = .ok (.getfield 100, 3) := by decide +kernel
theorem dX5_next_64 : decode cX5_next 64 = .ok (.aload_n 0, 1) := by decide +kernel
theorem dX5_next_65 : decode cX5_next 65 = .ok (.getfield 24, 3) := by decide +kernel
theorem dX5_next_68 : decode cX5_next 68 = .ok (.if_icmp .lt 12, 3) := by decide +kernel
theorem dX5_next_71 : decode cX5_next 71 = .ok (.aload_n 0, 1) := by decide +kernel
theorem dX5_next_72 : decode cX5_next 72 = .ok (.bipush 32, 2) := by decide +kernel
theorem dX5_next_74 : decode cX5_next 74 = .ok (.putfield 34, 3) := by decide +kernel
theorem dX5_next_77 : decode cX5_next 77 = .ok (.goto 92, 3) := by decide +kernel
theorem dX5_next_80 : decode cX5_next 80 = .ok (.aload_n 0, 1) := by decide +kernel
theorem dX5_next_81 : decode cX5_next 81 = .ok (.getfield 9, 3) := by decide +kernel
theorem dX5_next_84 : decode cX5_next 84 = .ok (.aload_n 0, 1) := by decide +kernel
theorem dX5_next_85 : decode cX5_next 85 = .ok (.getfield 100, 3) := by decide +kernel
theorem dX5_next_88 : decode cX5_next 88 = .ok (.caload, 1) := by decide +kernel
theorem dX5_next_89 : decode cX5_next 89 = .ok (.invokestatic 150, 3) := by decide +kernel
theorem dX5_next_92 : decode cX5_next 92 = .ok (.ifCond .eq 10, 3) := by decide +kernel
theorem dX5_next_95 : decode cX5_next 95 = .ok (.aload_n 0, 1) := by decide +kernel
theorem dX5_next_96 : decode cX5_next 96 = .ok (.invokevirtual 154, 3) := by decide +kernel
theorem dX5_next_99 : decode cX5_next 99 = .ok (.goto 70, 3) := by decide +kernel
theorem dX5_next_102 : decode cX5_next 102 = .ok (.aload_n 0, 1) := by decide +kernel
theorem dX5_next_103 : decode cX5_next 103 = .ok (.getfield 9, 3) := by decide +kernel
theorem dX5_next_106 : decode cX5_next 106 = .ok (.aload_n 0, 1) := by decide +kernel
theorem dX5_next_107 : decode cX5_next 107 = .ok (.getfield 100, 3) := by decide +kernel
theorem dX5_next_110 : decode cX5_next 110 = .ok (.caload, 1) := by decide +kernel
theorem dX5_next_111 : decode cX5_next 111 = .ok (.invokestatic 157, 3) := by decide +kernel
theorem dX5_next_114 : decode cX5_next 114 = .ok (.ifCond .eq 10, 3) := by decide +kernel
theorem dX5_next_117 : decode cX5_next 117 = .ok (.aload_n 0, 1) := by decide +kernel
theorem dX5_next_118 : decode cX5_next 118 = .ok (.invokevirtual 160, 3) := by decide +kernel
theorem dX5_next_121 : decode cX5_next 121 = .ok (.goto 48, 3) := by decide +kernel
theorem dX5_next_124 : decode cX5_next 124 = .ok (.aload_n 0, 1) := by decide +kernel
theorem dX5_next_125 : decode cX5_next 125 = .ok (.dup, 1) := by decide +kernel
theorem dX5_next_126 : decode cX5_next 126 = .ok (.getfield 147, 3) := by decide +kernel
theorem dX5_next_129 : decode cX5_next 129 = .ok (.iconst 1, 1) := by decide +kernel
theorem dX5_next_130 : decode cX5_next 130 = .ok (.iadd, 1) := by decide +kernel
theorem dX5_next_131 : decode cX5_next 131 = .ok (.putfield 147, 3) := by decide +kernel
theorem dX5_next_134 : decode cX5_next 134 = .ok (.aload_n 0, 1) := by decide +kernel
theorem dX5_next_135 : decode cX5_next 135 = .ok (.ldc 163, 2) := by decide +kernel
theorem dX5_next_137 : decode cX5_next 137 = .ok (.aload_n 0, 1) := by decide +kernel
theorem dX5_next_138 : decode cX5_next 138 = .ok (.getfield 9, 3) := by decide +kernel
theorem dX5_next_141 : decode cX5_next 141 = .ok (.aload_n 0, 1) := by decide +kernel
theorem dX5_next_142 : decode cX5_next 142 = .ok (.getfield 100, 3) := by decide +kernel
theorem dX5_next_145 : decode cX5_next 145 = .ok (.caload, 1) := by decide +kernel
theorem dX5_next_146 : decode cX5_next 146 = .ok (.invokevirtual 165, 3) := by decide +kernel
theorem dX5_next_149 : decode cX5_next 149 = .ok (.ifCond .lt 15, 3) := by decide +kernel
theorem dX5_next_152 : decode cX5_next 152 = .ok (.aload_n 0, 1) := by decide +kernel
theorem dX5_next_153 : decode cX5_next 153 = .ok (.getfield 9, 3) := by decide +kernel
theorem dX5_next_156 : decode cX5_next 156 = .ok (.aload_n 0, 1) := by decide +kernel
theorem dX5_next_157 : decode cX5_next 157 = .ok (.getfield 100, 3) := by decide +kernel
theorem dX5_next_160 : decode cX5_next 160 = .ok (.caload, 1) := by decide +kernel
theorem dX5_next_161 : decode cX5_next 161 = .ok (.goto 5, 3) := by decide +kernel
theorem dX5_next_164 : decode cX5_next 164 = .ok (.bipush 31, 2) := by decide +kernel
theorem dX5_next_166 : decode cX5_next 166 = .ok (.putfield 34, 3) := by decide +kernel
theorem dX5_next_169 : decode cX5_next 169 = .ok (.return_, 1) := by decide +kernel
theorem dX5_isLetter_0 : decode cX5_isLetter 0 = .ok (.iload_n 0, 1) := by decide +kernel
theorem dX5_isLetter_1 : decode cX5_isLetter 1 = .ok (.bipush 97, 2) := by decide +kernel
theorem dX5_isLetter_3 : decode cX5_isLetter 3 = .ok (.if_icmp .lt 13, 3) := by decide +kernel
theorem dX5_isLetter_6 : decode cX5_isLetter 6 = .ok (.iload_n 0, 1) := by decide +kernel
theorem dX5_isLetter_7 : decode cX5_isLetter 7 = .ok (.bipush 122, 2) := by decide +kernel
theorem dX5_isLetter_9 : decode cX5_isLetter 9 = .ok (.if_icmp .gt 7, 3) := by decide +kernel
theorem dX5_isLetter_12 : decode cX5_isLetter 12 = .ok (.iconst 1, 1) := by decide +kernel
theorem dX5_isLetter_13 : decode cX5_isLetter 13 = .ok (.goto 4, 3) := by decide +kernel
theorem dX5_isLetter_16 : decode cX5_isLetter 16 = .ok (.iconst 0, 1) := by decide +kernel
theorem dX5_isLetter_17 : decode cX5_isLetter 17 = .ok (.ireturn, 1) := by decide +kernel
theorem dX5_isDigit_0 : decode cX5_isDigit 0 = .ok (.iload_n 0, 1) := by decide +kernel
theorem dX5_isDigit_1 : decode cX5_isDigit 1 = .ok (.bipush 48, 2) := by decide +kernel
theorem dX5_isDigit_3 : decode cX5_isDigit 3 = .ok (.if_icmp .lt 13, 3) := by decide +kernel
theorem dX5_isDigit_6 : decode cX5_isDigit 6 = .ok (.iload_n 0, 1) := by decide +kernel
theorem dX5_isDigit_7 : decode cX5_isDigit 7 = .ok (.bipush 57, 2) := by decide +kernel
theorem dX5_isDigit_9 : decode cX5_isDigit 9 = .ok (.if_icmp .gt 7, 3) := by decide +kernel
theorem dX5_isDigit_12 : decode cX5_isDigit 12 = .ok (.iconst 1, 1) := by decide +kernel
theorem dX5_isDigit_13 : decode cX5_isDigit 13 = .ok (.goto 4, 3) := by decide +kernel
theorem dX5_isDigit_16 : decode cX5_isDigit 16 = .ok (.iconst 0, 1) := by decide +kernel
theorem dX5_isDigit_17 : decode cX5_isDigit 17 = .ok (.ireturn, 1) := by decide +kernel
theorem dX5_takeNumber_0 : decode cX5_takeNumber 0 = .ok (.aload_n 0, 1) := by decide +kernel
theorem dX5_takeNumber_1 : decode cX5_takeNumber 1 = .ok (.iconst 0, 1) := by decide +kernel
theorem dX5_takeNumber_2 : decode cX5_takeNumber 2 = .ok (.putfield 97, 3) := by decide +kernel
theorem dX5_takeNumber_5 : decode cX5_takeNumber 5 = .ok (.aload_n 0, 1) := by decide +kernel
theorem dX5_takeNumber_6 : decode cX5_takeNumber 6 = .ok (.getfield 147, 3) := by decide +kernel
theorem dX5_takeNumber_9 : decode cX5_takeNumber 9 = .ok (.aload_n 0, 1) := by decide +kernel
theorem dX5_takeNumber_10 : decode cX5_takeNumber 10 = .ok (.getfield 24, 3) := by decide +kernel
theorem dX5_takeNumber_13 : decode cX5_takeNumber 13 = .ok (.if_icmp .ge 55, 3) := by decide +kernel
theorem dX5_takeNumber_16 : decode cX5_takeNumber 16 = .ok (.aload_n 0, 1) := by decide +kernel
theorem dX5_takeNumber_17 : decode cX5_takeNumber 17 = .ok (.getfield 9, 3) := by decide +kernel
theorem dX5_takeNumber_20 : decode cX5_takeNumber 20 = .ok (.aload_n 0, 1) := by decide +kernel
theorem dX5_takeNumber_21 : decode cX5_takeNumber 21 = .ok (.getfield 147, 3) := by decide +kernel
theorem dX5_takeNumber_24 : decode cX5_takeNumber 24 = .ok (.caload, 1) := by decide +kernel
theorem dX5_takeNumber_25 : decode cX5_takeNumber 25 = .ok (.invokestatic 157, 3) := by decide +kernel
theorem dX5_takeNumber_28 : decode cX5_takeNumber 28 = .ok (.ifCond .eq 40, 3) := by decide +kernel
theorem dX5_takeNumber_31 : decode cX5_takeNumber 31 = .ok (.aload_n 0, 1) := by decide +kernel
theorem dX5_takeNumber_32 : decode cX5_takeNumber 32 = .ok (.aload_n 0, 1) := by decide +kernel
theorem dX5_takeNumber_33 : decode cX5_takeNumber 33 = .ok (.getfield 97, 3) := by decide +kernel
theorem dX5_takeNumber_36 : decode cX5_takeNumber 36 = .ok (.bipush 10, 2) := by decide +kernel
theorem dX5_takeNumber_38 : decode cX5_takeNumber 38 = .ok (.imul, 1) := by decide +kernel
theorem dX5_takeNumber_39 : decode cX5_takeNumber 39 = .ok (.aload_n 0, 1) := by decide +kernel
theorem dX5_takeNumber_40 : decode cX5_takeNumber 40 = .ok (.getfield 9, 3) := by decide +kernel
theorem dX5_takeNumber_43 : decode cX5_takeNumber 43 = .ok (.aload_n 0, 1) := by decide +kernel
theorem dX5_takeNumber_44 : decode cX5_takeNumber 44 = .ok (.getfield 147, 3) := by decide +kernel
theorem dX5_takeNumber_47 : decode cX5_takeNumber 47 = .ok (.caload, 1) := by decide +kernel
theorem dX5_takeNumber_48 : decode cX5_takeNumber 48 = .ok (.bipush 48, 2) := by decide +kernel
theorem dX5_takeNumber_50 : decode cX5_takeNumber 50 = .ok (.isub, 1) := by decide +kernel
theorem dX5_takeNumber_51 : decode cX5_takeNumber 51 = .ok (.iadd, 1) := by decide +kernel
theorem dX5_takeNumber_52 : decode cX5_takeNumber 52 = .ok (.putfield 97, 3) := by decide +kernel
theorem dX5_takeNumber_55 : decode cX5_takeNumber 55 = .ok (.aload_n 0, 1) := by decide +kernel
theorem dX5_takeNumber_56 : decode cX5_takeNumber 56 = .ok (.dup, 1) := by decide +kernel
theorem dX5_takeNumber_57 : decode cX5_takeNumber 57 = .ok (.getfield 147, 3) := by decide +kernel
theorem dX5_takeNumber_60 : decode cX5_takeNumber 60 = .ok (.iconst 1, 1) := by decide +kernel
theorem dX5_takeNumber_61 : decode cX5_takeNumber 61 = .ok (.iadd, 1) := by decide +kernel
theorem dX5_takeNumber_62 : decode cX5_takeNumber 62 = .ok (.putfield 147, 3) := by decide +kernel
theorem dX5_takeNumber_65 : decode cX5_takeNumber 65 = .ok (.goto (-60), 3) := by decide +kernel
theorem dX5_takeNumber_68 : decode cX5_takeNumber 68 = .ok (.aload_n 0, 1) := by decide +kernel
theorem dX5_takeNumber_69 : decode cX5_takeNumber 69 = .ok (.aload_n 0, 1) := by decide +kernel
theorem dX5_takeNumber_70 : decode cX5_takeNumber 70 = .ok (.getfield 147, 3) := by decide +kernel
theorem dX5_takeNumber_73 : decode cX5_takeNumber 73 = .ok (.aload_n 0, 1) := by decide +kernel
theorem dX5_takeNumber_74 : decode cX5_takeNumber 74 = .ok (.getfield 100, 3) := by decide +kernel
theorem dX5_takeNumber_77 : decode cX5_takeNumber 77 = .ok (.isub, 1) := by decide +kernel
theorem dX5_takeNumber_78 : decode cX5_takeNumber 78 = .ok (.iconst 4, 1) := by decide +kernel
theorem dX5_takeNumber_79 : decode cX5_takeNumber 79 = .ok (.if_icmp .le 8, 3) := by decide +kernel
theorem dX5_takeNumber_82 : decode cX5_takeNumber 82 = .ok (.bipush 31, 2) := by decide +kernel
theorem dX5_takeNumber_84 : decode cX5_takeNumber 84 = .ok (.goto 5, 3) := by decide +kernel
theorem dX5_takeNumber_87 : decode cX5_takeNumber 87 = .ok (.bipush 30, 2) := by decide +kernel
theorem dX5_takeNumber_89 : decode cX5_takeNumber 89 = .ok (.putfield 34, 3) := by decide +kernel
theorem dX5_takeNumber_92 : decode cX5_takeNumber 92 = .ok (.return_, 1) := by decide +kernel
theorem dX5_takeWord_0 : decode cX5_takeWord 0 = .ok (.aload_n 0, 1) := by decide +kernel
theorem dX5_takeWord_1 : decode cX5_takeWord 1 = .ok (.getfield 147, 3) := by decide +kernel
theorem dX5_takeWord_4 : decode cX5_takeWord 4 = .ok (.aload_n 0, 1) := by decide +kernel
theorem dX5_takeWord_5 : decode cX5_takeWord 5 = .ok (.getfield 24, 3) := by decide +kernel
theorem dX5_takeWord_8 : decode cX5_takeWord 8 = .ok (.if_icmp .ge 31, 3) := by decide +kernel
theorem dX5_takeWord_11 : decode cX5_takeWord 11 = .ok (.aload_n 0, 1) := by decide +kernel
theorem dX5_takeWord_12 : decode cX5_takeWord 12 = .ok (.getfield 9, 3) := by decide +kernel
theorem dX5_takeWord_15 : decode cX5_takeWord 15 = .ok (.aload_n 0, 1) := by decide +kernel
theorem dX5_takeWord_16 : decode cX5_takeWord 16 = .ok (.getfield 147, 3) := by decide +kernel
theorem dX5_takeWord_19 : decode cX5_takeWord 19 = .ok (.caload, 1) := by decide +kernel
theorem dX5_takeWord_20 : decode cX5_takeWord 20 = .ok (.invokestatic 150, 3) := by decide +kernel
theorem dX5_takeWord_23 : decode cX5_takeWord 23 = .ok (.ifCond .eq 16, 3) := by decide +kernel
theorem dX5_takeWord_26 : decode cX5_takeWord 26 = .ok (.aload_n 0, 1) := by decide +kernel
theorem dX5_takeWord_27 : decode cX5_takeWord 27 = .ok (.dup, 1) := by decide +kernel
theorem dX5_takeWord_28 : decode cX5_takeWord 28 = .ok (.getfield 147, 3) := by decide +kernel
theorem dX5_takeWord_31 : decode cX5_takeWord 31 = .ok (.iconst 1, 1) := by decide +kernel
theorem dX5_takeWord_32 : decode cX5_takeWord 32 = .ok (.iadd, 1) := by decide +kernel
theorem dX5_takeWord_33 : decode cX5_takeWord 33 = .ok (.putfield 147, 3) := by decide +kernel
theorem dX5_takeWord_36 : decode cX5_takeWord 36 = .ok (.goto (-36), 3) := by decide +kernel
theorem dX5_takeWord_39 : decode cX5_takeWord 39 = .ok (.aload_n 0, 1) := by decide +kernel
theorem dX5_takeWord_40 : decode cX5_takeWord 40 = .ok (.bipush 31, 2) := by decide +kernel
theorem dX5_takeWord_42 : decode cX5_takeWord 42 = .ok (.putfield 34, 3) := by decide +kernel
theorem dX5_takeWord_45 : decode cX5_takeWord 45 = .ok (.iconst 0, 1) := by decide +kernel
theorem dX5_takeWord_46 : decode cX5_takeWord 46 = .ok (.istore_n 1, 1) := by decide +kernel
theorem dX5_takeWord_47 : decode cX5_takeWord 47 = .ok (.iload_n 1, 1) := by decide +kernel
theorem dX5_takeWord_48 : decode cX5_takeWord 48 = .ok (.bipush 26, 2) := by decide +kernel
theorem dX5_takeWord_50 : decode cX5_takeWord 50 = .ok (.if_icmp .gt 37, 3) := by decide +kernel
theorem dX5_takeWord_53 : decode cX5_takeWord 53 = .ok (.aload_n 0, 1) := by decide +kernel
theorem dX5_takeWord_54 : decode cX5_takeWord 54 = .ok (.getfield 147, 3) := by decide +kernel
theorem dX5_takeWord_57 : decode cX5_takeWord 57 = .ok (.aload_n 0, 1) := by decide +kernel
theorem dX5_takeWord_58 : decode cX5_takeWord 58 = .ok (.getfield 100, 3) := by decide +kernel
theorem dX5_takeWord_61 : decode cX5_takeWord 61 = .ok (.isub, 1) := by decide +kernel
theorem dX5_takeWord_62 : decode cX5_takeWord 62 = .ok (.bipush 8, 2) := by decide +kernel
theorem dX5_takeWord_64 : decode cX5_takeWord 64 = .ok (.if_icmp .gt 23, 3) := by decide +kernel
theorem dX5_takeWord_67 : decode cX5_takeWord 67 = .ok (.aload_n 0, 1) := by decide +kernel
theorem dX5_takeWord_68 : decode cX5_takeWord 68 = .ok (.iload_n 1, 1) := by decide +kernel
theorem dX5_takeWord_69 : decode cX5_takeWord 69 = .ok (.invokevirtual 170, 3) := by decide +kernel
theorem dX5_takeWord_72 : decode cX5_takeWord 72 = .ok (.ifCond .eq 9, 3) := by decide +kernel
theorem dX5_takeWord_75 : decode cX5_takeWord 75 = .ok (.aload_n 0, 1) := by decide +kernel
theorem dX5_takeWord_76 : decode cX5_takeWord 76 = .ok (.iload_n 1, 1) := by decide +kernel
theorem dX5_takeWord_77 : decode cX5_takeWord 77 = .ok (.putfield 34, 3) := by decide +kernel
theorem dX5_takeWord_80 : decode cX5_takeWord 80 = .ok (.return_, 1) := by decide +kernel
theorem dX5_takeWord_81 : decode cX5_takeWord 81 = .ok (.iinc 1 1, 3) := by decide +kernel
theorem dX5_takeWord_84 : decode cX5_takeWord 84 = .ok (.goto (-37), 3) := by decide +kernel
theorem dX5_takeWord_87 : decode cX5_takeWord 87 = .ok (.return_, 1) := by decide +kernel
theorem dX5_isWord_0 : decode cX5_isWord 0 = .ok (.iconst 0, 1) := by decide +kernel
theorem dX5_isWord_1 : decode cX5_isWord 1 = .ok (.istore_n 2, 1) := by decide +kernel
theorem dX5_isWord_2 : decode cX5_isWord 2 = .ok (.iload_n 2, 1) := by decide +kernel
theorem dX5_isWord_3 : decode cX5_isWord 3 = .ok (.bipush 8, 2) := by decide +kernel
theorem dX5_isWord_5 : decode cX5_isWord 5 = .ok (.if_icmp .ge 56, 3) := by decide +kernel
theorem dX5_isWord_8 : decode cX5_isWord 8 = .ok (.aload_n 0, 1) := by decide +kernel
theorem dX5_isWord_9 : decode cX5_isWord 9 = .ok (.getfield 100, 3) := by decide +kernel
theorem dX5_isWord_12 : decode cX5_isWord 12 = .ok (.iload_n 2, 1) := by decide +kernel
theorem dX5_isWord_13 : decode cX5_isWord 13 = .ok (.iadd, 1) := by decide +kernel
theorem dX5_isWord_14 : decode cX5_isWord 14 = .ok (.aload_n 0, 1) := by decide +kernel
theorem dX5_isWord_15 : decode cX5_isWord 15 = .ok (.getfield 147, 3) := by decide +kernel
theorem dX5_isWord_18 : decode cX5_isWord 18 = .ok (.if_icmp .ge 17, 3) := by decide +kernel
theorem dX5_isWord_21 : decode cX5_isWord 21 = .ok (.aload_n 0, 1) := by decide +kernel
theorem dX5_isWord_22 : decode cX5_isWord 22 = .ok (.getfield 9, 3) := by decide +kernel
theorem dX5_isWord_25 : decode cX5_isWord 25 = .ok (.aload_n 0, 1) := by decide +kernel
theorem dX5_isWord_26 : decode cX5_isWord 26 = .ok (.getfield 100, 3) := by decide +kernel
theorem dX5_isWord_29 : decode cX5_isWord 29 = .ok (.iload_n 2, 1) := by decide +kernel
theorem dX5_isWord_30 : decode cX5_isWord 30 = .ok (.iadd, 1) := by decide +kernel
theorem dX5_isWord_31 : decode cX5_isWord 31 = .ok (.caload, 1) := by decide +kernel
theorem dX5_isWord_32 : decode cX5_isWord 32 = .ok (.goto 5, 3) := by decide +kernel
theorem dX5_isWord_35 : decode cX5_isWord 35 = .ok (.bipush 32, 2) := by decide +kernel
theorem dX5_isWord_37 : decode cX5_isWord 37 = .ok (.istore_n 3, 1) := by decide +kernel
theorem dX5_isWord_38 : decode cX5_isWord 38 = .ok (.ldc 173, 2) := by decide +kernel
theorem dX5_isWord_40 : decode cX5_isWord 40 = .ok (.iload_n 1, 1) := by decide +kernel
theorem dX5_isWord_41 : decode cX5_isWord 41 = .ok (.bipush 8, 2) := by decide +kernel
theorem dX5_isWord_43 : decode cX5_isWord 43 = .ok (.imul, 1) := by decide +kernel
theorem dX5_isWord_44 : decode cX5_isWord 44 = .ok (.iload_n 2, 1) := by decide +kernel
theorem dX5_isWord_45 : decode cX5_isWord 45 = .ok (.iadd, 1) := by decide +kernel
theorem dX5_isWord_46 : decode cX5_isWord 46 = .ok (.invokevirtual 175, 3) := by decide +kernel
theorem dX5_isWord_49 : decode cX5_isWord 49 = .ok (.iload_n 3, 1) := by decide +kernel
theorem dX5_isWord_50 : decode cX5_isWord 50 = .ok (.if_icmp .eq 5, 3) := by decide +kernel
theorem dX5_isWord_53 : decode cX5_isWord 53 = .ok (.iconst 0, 1) := by decide +kernel
theorem dX5_isWord_54 : decode cX5_isWord 54 = .ok (.ireturn, 1) := by decide +kernel
theorem dX5_isWord_55 : decode cX5_isWord 55 = .ok (.iinc 2 1, 3) := by decide +kernel
theorem dX5_isWord_58 : decode cX5_isWord 58 = .ok (.goto (-56), 3) := by decide +kernel
theorem dX5_isWord_61 : decode cX5_isWord 61 = .ok (.iconst 1, 1) := by decide +kernel
theorem dX5_isWord_62 : decode cX5_isWord 62 = .ok (.ireturn, 1) := by decide +kernel
theorem dX6_init_0 : decode cX6_init 0 = .ok (.aload_n 0, 1) := by decide +kernel
theorem dX6_init_1 : decode cX6_init 1 = .ok (.invokespecial 3, 3) := by decide +kernel
theorem dX6_init_4 : decode cX6_init 4 = .ok (.aload_n 0, 1) := by decide +kernel
theorem dX6_init_5 : decode cX6_init 5 = .ok (.bipush 14, 2) := by decide +kernel
theorem dX6_init_7 : decode cX6_init 7 = .ok (.newarray .int, 2) := by decide +kernel
theorem dX6_init_9 : decode cX6_init 9 = .ok (.putfield 9, 3) := by decide +kernel
theorem dX6_init_12 : decode cX6_init 12 = .ok (.aload_n 0, 1) := by decide +kernel
theorem dX6_init_13 : decode cX6_init 13 = .ok (.bipush 64, 2) := by decide +kernel
theorem dX6_init_15 : decode cX6_init 15 = .ok (.newarray .int, 2) := by decide +kernel
theorem dX6_init_17 : decode cX6_init 17 = .ok (.putfield 15, 3) := by decide +kernel
theorem dX6_init_20 : decode cX6_init 20 = .ok (.return_, 1) := by decide +kernel
theorem dX6_setFact_0 : decode cX6_setFact 0 = .ok (.iload_n 1, 1) := by decide +kernel
theorem dX6_setFact_1 : decode cX6_setFact 1 = .ok (.bipush 13, 2) := by decide +kernel
theorem dX6_setFact_3 : decode cX6_setFact 3 = .ok (.if_icmp .lt 19, 3) := by decide +kernel
theorem dX6_setFact_6 : decode cX6_setFact 6 = .ok (.iload_n 1, 1) := by decide +kernel
theorem dX6_setFact_7 : decode cX6_setFact 7 = .ok (.bipush 26, 2) := by decide +kernel
theorem dX6_setFact_9 : decode cX6_setFact 9 = .ok (.if_icmp .gt 13, 3) := by decide +kernel
theorem dX6_setFact_12 : decode cX6_setFact 12 = .ok (.aload_n 0, 1) := by decide +kernel
theorem dX6_setFact_13 : decode cX6_setFact 13 = .ok (.getfield 9, 3) := by decide +kernel
theorem dX6_setFact_16 : decode cX6_setFact 16 = .ok (.iload_n 1, 1) := by decide +kernel
theorem dX6_setFact_17 : decode cX6_setFact 17 = .ok (.bipush 13, 2) := by decide +kernel
theorem dX6_setFact_19 : decode cX6_setFact 19 = .ok (.isub, 1) := by decide +kernel
theorem dX6_setFact_20 : decode cX6_setFact 20 = .ok (.iload_n 2, 1) := by decide +kernel
theorem dX6_setFact_21 : decode cX6_setFact 21 = .ok (.iastore, 1) := by decide +kernel
theorem dX6_setFact_22 : decode cX6_setFact 22 = .ok (.return_, 1) := by decide +kernel
theorem dX6_clear_0 : decode cX6_clear 0 = .ok (.aload_n 0, 1) := by decide +kernel
theorem dX6_clear_1 : decode cX6_clear 1 = .ok (.getfield 9, 3) := by decide +kernel
theorem dX6_clear_4 : decode cX6_clear 4 = .ok (.iconst 0, 1) := by decide +kernel
theorem dX6_clear_5 : decode cX6_clear 5 = .ok (.invokestatic 18, 3) := by decide +kernel
theorem dX6_clear_8 : decode cX6_clear 8 = .ok (.return_, 1) := by decide +kernel
theorem dX6_setOwner_0 : decode cX6_setOwner 0 = .ok (.aload_n 0, 1) := by decide +kernel
theorem dX6_setOwner_1 : decode cX6_setOwner 1 = .ok (.bipush 13, 2) := by decide +kernel
theorem dX6_setOwner_3 : decode cX6_setOwner 3 = .ok (.aload_n 1, 1) := by decide +kernel
theorem dX6_setOwner_4 : decode cX6_setOwner 4 = .ok (.getfield 24, 3) := by decide +kernel
theorem dX6_setOwner_7 : decode cX6_setOwner 7 = .ok (.invokevirtual 30, 3) := by decide +kernel
theorem dX6_setOwner_10 : decode cX6_setOwner 10 = .ok (.aload_n 0, 1) := by decide +kernel
theorem dX6_setOwner_11 : decode cX6_setOwner 11 = .ok (.bipush 14, 2) := by decide +kernel
theorem dX6_setOwner_13 : decode cX6_setOwner 13 = .ok (.aload_n 1, 1) := by decide +kernel
theorem dX6_setOwner_14 : decode cX6_setOwner 14 = .ok (.getfield 34, 3) := by decide +kernel
theorem dX6_setOwner_17 : decode cX6_setOwner 17 = .ok (.invokevirtual 30, 3) := by decide +kernel
theorem dX6_setOwner_20 : decode cX6_setOwner 20 = .ok (.aload_n 0, 1) := by decide +kernel
theorem dX6_setOwner_21 : decode cX6_setOwner 21 = .ok (.bipush 15, 2) := by decide +kernel
theorem dX6_setOwner_23 : decode cX6_setOwner 23 = .ok (.aload_n 1, 1) := by decide +kernel
theorem dX6_setOwner_24 : decode cX6_setOwner 24 = .ok (.getfield 37, 3) := by decide +kernel
theorem dX6_setOwner_27 : decode cX6_setOwner 27 = .ok (.invokevirtual 30, 3) := by decide +kernel
theorem dX6_setOwner_30 : decode cX6_setOwner 30 = .ok (.aload_n 0, 1) := by decide +kernel
theorem dX6_setOwner_31 : decode cX6_setOwner 31 = .ok (.bipush 16, 2) := by decide +kernel
theorem dX6_setOwner_33 : decode cX6_setOwner 33 = .ok (.aload_n 1, 1) := by decide +kernel
theorem dX6_setOwner_34 : decode cX6_setOwner 34 = .ok (.getfield 40, 3) := by decide +kernel
theorem dX6_setOwner_37 : decode cX6_setOwner 37 = .ok (.invokevirtual 30, 3) := by decide +kernel
theorem dX6_setOwner_40 : decode cX6_setOwner 40 = .ok (.aload_n 0, 1) := by decide +kernel
theorem dX6_setOwner_41 : decode cX6_setOwner 41 = .ok (.bipush 17, 2) := by decide +kernel
theorem dX6_setOwner_43 : decode cX6_setOwner 43 = .ok (.aload_n 1, 1) := by decide +kernel
theorem dX6_setOwner_44 : decode cX6_setOwner 44 = .ok (.getfield 43, 3) := by decide +kernel
theorem dX6_setOwner_47 : decode cX6_setOwner 47 = .ok (.invokevirtual 30, 3) := by decide +kernel
theorem dX6_setOwner_50 : decode cX6_setOwner 50 = .ok (.aload_n 0, 1) := by decide +kernel
theorem dX6_setOwner_51 : decode cX6_setOwner 51 = .ok (.bipush 18, 2) := by decide +kernel
theorem dX6_setOwner_53 : decode cX6_setOwner 53 = .ok (.aload_n 1, 1) := by decide +kernel
theorem dX6_setOwner_54 : decode cX6_setOwner 54 = .ok (.getfield 46, 3) := by decide +kernel
theorem dX6_setOwner_57 : decode cX6_setOwner 57 = .ok (.invokevirtual 30, 3) := by decide +kernel
theorem dX6_setOwner_60 : decode cX6_setOwner 60 = .ok (.return_, 1) := by decide +kernel
theorem dX6_reckon_0 : decode cX6_reckon 0 = .ok (.aload_n 1, 1) := by decide +kernel
theorem dX6_reckon_1 : decode cX6_reckon 1 = .ok (.ifnonnull 5, 3) := by decide +kernel
theorem dX6_reckon_4 : decode cX6_reckon 4 = .ok (.iload_n 2, 1) := by decide +kernel
theorem dX6_reckon_5 : decode cX6_reckon 5 = .ok (.ireturn, 1) := by decide +kernel
theorem dX6_reckon_6 : decode cX6_reckon 6 = .ok (.iconst 0, 1) := by decide +kernel
theorem dX6_reckon_7 : decode cX6_reckon 7 = .ok (.istore_n 3, 1) := by decide +kernel
theorem dX6_reckon_8 : decode cX6_reckon 8 = .ok (.iconst 0, 1) := by decide +kernel
theorem dX6_reckon_9 : decode cX6_reckon 9 = .ok (.istore 4, 2) := by decide +kernel
theorem dX6_reckon_11 : decode cX6_reckon 11 = .ok (.iload 4, 2) := by decide +kernel
theorem dX6_reckon_13 : decode cX6_reckon 13 = .ok (.aload_n 1, 1) := by decide +kernel
theorem dX6_reckon_14 : decode cX6_reckon 14 = .ok (.arraylength, 1) := by decide +kernel
theorem dX6_reckon_15 : decode cX6_reckon 15 = .ok (.if_icmp .ge 145, 3) := by decide +kernel
theorem dX6_reckon_18 : decode cX6_reckon 18 = .ok (.aload_n 1, 1) := by decide +kernel
theorem dX6_reckon_19 : decode cX6_reckon 19 = .ok (.iload 4, 2) := by decide +kernel
theorem dX6_reckon_21 : decode cX6_reckon 21 = .ok (.iaload, 1) := by decide +kernel
theorem dX6_reckon_22 : decode cX6_reckon 22 = .ok (.istore 5, 2) := by decide +kernel
theorem dX6_reckon_24 : decode cX6_reckon 24 = .ok (.iload 5, 2) := by decide +kernel
theorem dX6_reckon_26 : decode cX6_reckon 26 = .ok (.sipush 20000, 3) := by decide +kernel
theorem dX6_reckon_29 : decode cX6_reckon 29 = .ok (.if_icmp .ge 47, 3) := by decide +kernel
theorem dX6_reckon_32 : decode cX6_reckon 32 = .ok (.iload_n 3, 1) := by decide +kernel
theorem dX6_reckon_33 : decode cX6_reckon 33 = .ok (.aload_n 0, 1) := by decide +kernel
theorem dX6_reckon_34 : decode cX6_reckon 34 = .ok (.getfield 15, 3) := by decide +kernel
theorem dX6_reckon_37 : decode cX6_reckon 37 = .ok (.arraylength, 1) := by decide +kernel
theorem dX6_reckon_38 : decode cX6_reckon 38 = .ok (.if_icmp .ge 116, 3) := by decide +kernel
theorem dX6_reckon_41 : decode cX6_reckon 41 = .ok (.aload_n 0, 1) := by decide +kernel
theorem dX6_reckon_42 : decode cX6_reckon 42 = .ok (.getfield 15, 3) := by decide +kernel
theorem dX6_reckon_45 : decode cX6_reckon 45 = .ok (.iload_n 3, 1) := by decide +kernel
theorem dX6_reckon_46 : decode cX6_reckon 46 = .ok (.iload 5, 2) := by decide +kernel
theorem dX6_reckon_48 : decode cX6_reckon 48 = .ok (.sipush 10000, 3) := by decide +kernel
theorem dX6_reckon_51 : decode cX6_reckon 51 = .ok (.if_icmp .ge 8, 3) := by decide +kernel
theorem dX6_reckon_54 : decode cX6_reckon 54 = .ok (.iload 5, 2) := by decide +kernel
theorem dX6_reckon_56 : decode cX6_reckon 56 = .ok (.goto 13, 3) := by decide +kernel
theorem dX6_reckon_59 : decode cX6_reckon 59 = .ok (.aload_n 0, 1) := by decide +kernel
theorem dX6_reckon_60 : decode cX6_reckon 60 = .ok (.iload 5, 2) := by decide +kernel
theorem dX6_reckon_62 : decode cX6_reckon 62 = .ok (.sipush 10000, 3) := by decide +kernel
theorem dX6_reckon_65 : decode cX6_reckon 65 = .ok (.isub, 1) := by decide +kernel
theorem dX6_reckon_66 : decode cX6_reckon 66 = .ok (.invokevirtual 49, 3) := by decide +kernel
theorem dX6_reckon_69 : decode cX6_reckon 69 = .ok (.iastore, 1) := by decide +kernel
theorem dX6_reckon_70 : decode cX6_reckon 70 = .ok (.iinc 3 1, 3) := by decide +kernel
theorem dX6_reckon_73 : decode cX6_reckon 73 = .ok (.goto 81, 3) := by decide +kernel
theorem dX6_reckon_76 : decode cX6_reckon 76 = .ok (.iload 5, 2) := by decide +kernel
theorem dX6_reckon_78 : decode cX6_reckon 78 = .ok (.sipush 20011, 3) := by decide +kernel
theorem dX6_reckon_81 : decode cX6_reckon 81 = .ok (.if_icmp .ne 34, 3) := by decide +kernel
theorem dX6_reckon_84 : decode cX6_reckon 84 = .ok (.iload_n 3, 1) := by decide +kernel
theorem dX6_reckon_85 : decode cX6_reckon 85 = .ok (.ifCond .le 69, 3) := by decide +kernel
theorem dX6_reckon_88 : decode cX6_reckon 88 = .ok (.aload_n 0, 1) := by decide +kernel
theorem dX6_reckon_89 : decode cX6_reckon 89 = .ok (.getfield 15, 3) := by decide +kernel
theorem dX6_reckon_92 : decode cX6_reckon 92 = .ok (.iload_n 3, 1) := by decide +kernel
theorem dX6_reckon_93 : decode cX6_reckon 93 = .ok (.iconst 1, 1) := by decide +kernel
theorem dX6_reckon_94 : decode cX6_reckon 94 = .ok (.isub, 1) := by decide +kernel
theorem dX6_reckon_95 : decode cX6_reckon 95 = .ok (.aload_n 0, 1) := by decide +kernel
theorem dX6_reckon_96 : decode cX6_reckon 96 = .ok (.getfield 15, 3) := by decide +kernel
theorem dX6_reckon_99 : decode cX6_reckon 99 = .ok (.iload_n 3, 1) := by decide +kernel
theorem dX6_reckon_100 : decode cX6_reckon 100 = .ok (.iconst 1, 1) := by decide +kernel
theorem dX6_reckon_101 : decode cX6_reckon 101 = .ok (.isub, 1) := by decide +kernel
theorem dX6_reckon_102 : decode cX6_reckon 102 = .ok (.iaload, 1) := by decide +kernel
theorem dX6_reckon_103 : decode cX6_reckon 103 = .ok (.ifCond .ne 7, 3) := by decide +kernel
theorem dX6_reckon_106 : decode cX6_reckon 106 = .ok (.iconst 1, 1) := by decide +kernel
theorem dX6_reckon_107 : decode cX6_reckon 107 = .ok (.goto 4, 3) := by decide +kernel
theorem dX6_reckon_110 : decode cX6_reckon 110 = .ok (.iconst 0, 1) := by decide +kernel
theorem dX6_reckon_111 : decode cX6_reckon 111 = .ok (.iastore, 1) := by decide +kernel
theorem dX6_reckon_112 : decode cX6_reckon 112 = .ok (.goto 42, 3) := by decide +kernel
theorem dX6_reckon_115 : decode cX6_reckon 115 = .ok (.iload_n 3, 1) := by decide +kernel
theorem dX6_reckon_116 : decode cX6_reckon 116 = .ok (.iconst 1, 1) := by decide +kernel
theorem dX6_reckon_117 : decode cX6_reckon 117 = .ok (.if_icmp .le 37, 3) := by decide +kernel
theorem dX6_reckon_120 : decode cX6_reckon 120 = .ok (.iinc 3 (-1), 3) := by decide +kernel
theorem dX6_reckon_123 : decode cX6_reckon 123 = .ok (.aload_n 0, 1) := by decide +kernel
theorem dX6_reckon_124 : decode cX6_reckon 124 = .ok (.getfield 15, 3) := by decide +kernel
theorem dX6_reckon_127 : decode cX6_reckon 127 = .ok (.iload_n 3, 1) := by decide +kernel
theorem dX6_reckon_128 : decode cX6_reckon 128 = .ok (.iconst 1, 1) := by decide +kernel
theorem dX6_reckon_129 : decode cX6_reckon 129 = .ok (.isub, 1) := by decide +kernel
theorem dX6_reckon_130 : decode cX6_reckon 130 = .ok (.iload 5, 2) := by decide +kernel
theorem dX6_reckon_132 : decode cX6_reckon 132 = .ok (.sipush 20000, 3) := by decide +kernel
theorem dX6_reckon_135 : decode cX6_reckon 135 = .ok (.isub, 1) := by decide +kernel
theorem dX6_reckon_136 : decode cX6_reckon 136 = .ok (.aload_n 0, 1) := by decide +kernel
theorem dX6_reckon_137 : decode cX6_reckon 137 = .ok (.getfield 15, 3) := by decide +kernel
theorem dX6_reckon_140 : decode cX6_reckon 140 = .ok (.iload_n 3, 1) := by decide +kernel
theorem dX6_reckon_141 : decode cX6_reckon 141 = .ok (.iconst 1, 1) := by decide +kernel
theorem dX6_reckon_142 : decode cX6_reckon 142 = .ok (.isub, 1) := by decide +kernel
theorem dX6_reckon_143 : decode cX6_reckon 143 = .ok (.iaload, 1) := by decide +kernel
theorem dX6_reckon_144 : decode cX6_reckon 144 = .ok (.aload_n 0, 1) := by decide +kernel
theorem dX6_reckon_145 : decode cX6_reckon 145 = .ok (.getfield 15, 3) := by decide +kernel
theorem dX6_reckon_148 : decode cX6_reckon 148 = .ok (.iload_n 3, 1) := by decide +kernel
theorem dX6_reckon_149 : decode cX6_reckon 149 = .ok (.iaload, 1) := by decide +kernel
theorem dX6_reckon_150 : decode cX6_reckon 150 = .ok (.invokestatic 53, 3) := by decide +kernel
theorem dX6_reckon_153 : decode cX6_reckon 153 = .ok (.iastore, 1) := by decide +kernel
theorem dX6_reckon_154 : decode cX6_reckon 154 = .ok (.iinc 4 1, 3) := by decide +kernel
theorem dX6_reckon_157 : decode cX6_reckon 157 = .ok (.goto (-146), 3) := by decide +kernel
theorem dX6_reckon_160 : decode cX6_reckon 160 = .ok (.iload_n 3, 1) := by decide +kernel
theorem dX6_reckon_161 : decode cX6_reckon 161 = .ok (.ifCond .le 14, 3) := by decide +kernel
theorem dX6_reckon_164 : decode cX6_reckon 164 = .ok (.aload_n 0, 1) := by decide +kernel
theorem dX6_reckon_165 : decode cX6_reckon 165 = .ok (.getfield 15, 3) := by decide +kernel
theorem dX6_reckon_168 : decode cX6_reckon 168 = .ok (.iload_n 3, 1) := by decide +kernel
theorem dX6_reckon_169 : decode cX6_reckon 169 = .ok (.iconst 1, 1) := by decide +kernel
theorem dX6_reckon_170 : decode cX6_reckon 170 = .ok (.isub, 1) := by decide +kernel
theorem dX6_reckon_171 : decode cX6_reckon 171 = .ok (.iaload, 1) := by decide +kernel
theorem dX6_reckon_172 : decode cX6_reckon 172 = .ok (.goto 4, 3) := by decide +kernel
theorem dX6_reckon_175 : decode cX6_reckon 175 = .ok (.iload_n 2, 1) := by decide +kernel
theorem dX6_reckon_176 : decode cX6_reckon 176 = .ok (.ireturn, 1) := by decide +kernel
theorem dX6_factOf_0 : decode cX6_factOf 0 = .ok (.iload_n 1, 1) := by decide +kernel
theorem dX6_factOf_1 : decode cX6_factOf 1 = .ok (.bipush 13, 2) := by decide +kernel
theorem dX6_factOf_3 : decode cX6_factOf 3 = .ok (.if_icmp .lt 21, 3) := by decide +kernel
theorem dX6_factOf_6 : decode cX6_factOf 6 = .ok (.iload_n 1, 1) := by decide +kernel
theorem dX6_factOf_7 : decode cX6_factOf 7 = .ok (.bipush 26, 2) := by decide +kernel
theorem dX6_factOf_9 : decode cX6_factOf 9 = .ok (.if_icmp .gt 15, 3) := by decide +kernel
theorem dX6_factOf_12 : decode cX6_factOf 12 = .ok (.aload_n 0, 1) := by decide +kernel
theorem dX6_factOf_13 : decode cX6_factOf 13 = .ok (.getfield 9, 3) := by decide +kernel
theorem dX6_factOf_16 : decode cX6_factOf 16 = .ok (.iload_n 1, 1) := by decide +kernel
theorem dX6_factOf_17 : decode cX6_factOf 17 = .ok (.bipush 13, 2) := by decide +kernel
theorem dX6_factOf_19 : decode cX6_factOf 19 = .ok (.isub, 1) := by decide +kernel
theorem dX6_factOf_20 : decode cX6_factOf 20 = .ok (.iaload, 1) := by decide +kernel
theorem dX6_factOf_21 : decode cX6_factOf 21 = .ok (.goto 4, 3) := by decide +kernel
theorem dX6_factOf_24 : decode cX6_factOf 24 = .ok (.iconst 0, 1) := by decide +kernel
theorem dX6_factOf_25 : decode cX6_factOf 25 = .ok (.ireturn, 1) := by decide +kernel
theorem dX6_combine_0 : decode cX6_combine 0 = .ok (.iload_n 0, 1) := by decide +kernel
theorem dX6_combine_1 : decode cX6_combine 1 = .ok (.lookupswitch 129 #[(9, 67), (10, 81), (42, 125), (43, 117), (45, 121), (60, 95), (61, 106)], 67) := by decide +kernel
theorem dX6_combine_68 : decode cX6_combine 68 = .ok (.iload_n 1, 1) := by decide +kernel
theorem dX6_combine_69 : decode cX6_combine 69 = .ok (.ifCond .eq 11, 3) := by decide +kernel
theorem dX6_combine_72 : decode cX6_combine 72 = .ok (.iload_n 2, 1) := by decide +kernel
theorem dX6_combine_73 : decode cX6_combine 73 = .ok (.ifCond .eq 7, 3) := by decide +kernel
theorem dX6_combine_76 : decode cX6_combine 76 = .ok (.iconst 1, 1) := by decide +kernel
theorem dX6_combine_77 : decode cX6_combine 77 = .ok (.goto 4, 3) := by decide +kernel
theorem dX6_combine_80 : decode cX6_combine 80 = .ok (.iconst 0, 1) := by decide +kernel
theorem dX6_combine_81 : decode cX6_combine 81 = .ok (.ireturn, 1) := by decide +kernel
theorem dX6_combine_82 : decode cX6_combine 82 = .ok (.iload_n 1, 1) := by decide +kernel
theorem dX6_combine_83 : decode cX6_combine 83 = .ok (.ifCond .ne 7, 3) := by decide +kernel
theorem dX6_combine_86 : decode cX6_combine 86 = .ok (.iload_n 2, 1) := by decide +kernel
theorem dX6_combine_87 : decode cX6_combine 87 = .ok (.ifCond .eq 7, 3) := by decide +kernel
theorem dX6_combine_90 : decode cX6_combine 90 = .ok (.iconst 1, 1) := by decide +kernel
theorem dX6_combine_91 : decode cX6_combine 91 = .ok (.goto 4, 3) := by decide +kernel
theorem dX6_combine_94 : decode cX6_combine 94 = .ok (.iconst 0, 1) := by decide +kernel
theorem dX6_combine_95 : decode cX6_combine 95 = .ok (.ireturn, 1) := by decide +kernel
theorem dX6_combine_96 : decode cX6_combine 96 = .ok (.iload_n 1, 1) := by decide +kernel
theorem dX6_combine_97 : decode cX6_combine 97 = .ok (.iload_n 2, 1) := by decide +kernel
theorem dX6_combine_98 : decode cX6_combine 98 = .ok (.if_icmp .ge 7, 3) := by decide +kernel
theorem dX6_combine_101 : decode cX6_combine 101 = .ok (.iconst 1, 1) := by decide +kernel
theorem dX6_combine_102 : decode cX6_combine 102 = .ok (.goto 4, 3) := by decide +kernel
theorem dX6_combine_105 : decode cX6_combine 105 = .ok (.iconst 0, 1) := by decide +kernel
theorem dX6_combine_106 : decode cX6_combine 106 = .ok (.ireturn, 1) := by decide +kernel
theorem dX6_combine_107 : decode cX6_combine 107 = .ok (.iload_n 1, 1) := by decide +kernel
theorem dX6_combine_108 : decode cX6_combine 108 = .ok (.iload_n 2, 1) := by decide +kernel
theorem dX6_combine_109 : decode cX6_combine 109 = .ok (.if_icmp .ne 7, 3) := by decide +kernel
theorem dX6_combine_112 : decode cX6_combine 112 = .ok (.iconst 1, 1) := by decide +kernel
theorem dX6_combine_113 : decode cX6_combine 113 = .ok (.goto 4, 3) := by decide +kernel
theorem dX6_combine_116 : decode cX6_combine 116 = .ok (.iconst 0, 1) := by decide +kernel
theorem dX6_combine_117 : decode cX6_combine 117 = .ok (.ireturn, 1) := by decide +kernel
theorem dX6_combine_118 : decode cX6_combine 118 = .ok (.iload_n 1, 1) := by decide +kernel
theorem dX6_combine_119 : decode cX6_combine 119 = .ok (.iload_n 2, 1) := by decide +kernel
theorem dX6_combine_120 : decode cX6_combine 120 = .ok (.iadd, 1) := by decide +kernel
theorem dX6_combine_121 : decode cX6_combine 121 = .ok (.ireturn, 1) := by decide +kernel
theorem dX6_combine_122 : decode cX6_combine 122 = .ok (.iload_n 1, 1) := by decide +kernel
theorem dX6_combine_123 : decode cX6_combine 123 = .ok (.iload_n 2, 1) := by decide +kernel
theorem dX6_combine_124 : decode cX6_combine 124 = .ok (.isub, 1) := by decide +kernel
theorem dX6_combine_125 : decode cX6_combine 125 = .ok (.ireturn, 1) := by decide +kernel
theorem dX6_combine_126 : decode cX6_combine 126 = .ok (.iload_n 1, 1) := by decide +kernel
theorem dX6_combine_127 : decode cX6_combine 127 = .ok (.iload_n 2, 1) := by decide +kernel
theorem dX6_combine_128 : decode cX6_combine 128 = .ok (.imul, 1) := by decide +kernel
theorem dX6_combine_129 : decode cX6_combine 129 = .ok (.ireturn, 1) := by decide +kernel
theorem dX6_combine_130 : decode cX6_combine 130 = .ok (.iload_n 2, 1) := by decide +kernel
theorem dX6_combine_131 : decode cX6_combine 131 = .ok (.ifCond .ne 7, 3) := by decide +kernel
theorem dX6_combine_134 : decode cX6_combine 134 = .ok (.iconst 0, 1) := by decide +kernel
theorem dX6_combine_135 : decode cX6_combine 135 = .ok (.goto 6, 3) := by decide +kernel
theorem dX6_combine_138 : decode cX6_combine 138 = .ok (.iload_n 1, 1) := by decide +kernel
theorem dX6_combine_139 : decode cX6_combine 139 = .ok (.iload_n 2, 1) := by decide +kernel
theorem dX6_combine_140 : decode cX6_combine 140 = .ok (.idiv, 1) := by decide +kernel
theorem dX6_combine_141 : decode cX6_combine 141 = .ok (.ireturn, 1) := by decide +kernel
theorem dX7_init_0 : decode cX7_init 0 = .ok (.aload_n 0, 1) := by decide +kernel
theorem dX7_init_1 : decode cX7_init 1 = .ok (.invokespecial 3, 3) := by decide +kernel
theorem dX7_init_4 : decode cX7_init 4 = .ok (.aload_n 0, 1) := by decide +kernel
theorem dX7_init_5 : decode cX7_init 5 = .ok (.sipush 200, 3) := by decide +kernel
theorem dX7_init_8 : decode cX7_init 8 = .ok (.newarray .int, 2) := by decide +kernel
theorem dX7_init_10 : decode cX7_init 10 = .ok (.putfield 11, 3) := by decide +kernel
theorem dX7_init_13 : decode cX7_init 13 = .ok (.aload_n 0, 1) := by decide +kernel
theorem dX7_init_14 : decode cX7_init 14 = .ok (.sipush 200, 3) := by decide +kernel
theorem dX7_init_17 : decode cX7_init 17 = .ok (.newarray .int, 2) := by decide +kernel
theorem dX7_init_19 : decode cX7_init 19 = .ok (.putfield 15, 3) := by decide +kernel
theorem dX7_init_22 : decode cX7_init 22 = .ok (.aload_n 0, 1) := by decide +kernel
theorem dX7_init_23 : decode cX7_init 23 = .ok (.sipush 200, 3) := by decide +kernel
theorem dX7_init_26 : decode cX7_init 26 = .ok (.newarray .int, 2) := by decide +kernel
theorem dX7_init_28 : decode cX7_init 28 = .ok (.putfield 18, 3) := by decide +kernel
theorem dX7_init_31 : decode cX7_init 31 = .ok (.aload_n 0, 1) := by decide +kernel
theorem dX7_init_32 : decode cX7_init 32 = .ok (.sipush 200, 3) := by decide +kernel
theorem dX7_init_35 : decode cX7_init 35 = .ok (.newarray .int, 2) := by decide +kernel
theorem dX7_init_37 : decode cX7_init 37 = .ok (.putfield 21, 3) := by decide +kernel
theorem dX7_init_40 : decode cX7_init 40 = .ok (.return_, 1) := by decide +kernel
theorem dX7_add_0 : decode cX7_add 0 = .ok (.aload_n 0, 1) := by decide +kernel
theorem dX7_add_1 : decode cX7_add 1 = .ok (.getfield 24, 3) := by decide +kernel
theorem dX7_add_4 : decode cX7_add 4 = .ok (.sipush 200, 3) := by decide +kernel
theorem dX7_add_7 : decode cX7_add 7 = .ok (.if_icmp .lt 5, 3) := by decide +kernel
theorem dX7_add_10 : decode cX7_add 10 = .ok (.iconst (-1), 1) := by decide +kernel
theorem dX7_add_11 : decode cX7_add 11 = .ok (.ireturn, 1) := by decide +kernel
theorem dX7_add_12 : decode cX7_add 12 = .ok (.aload_n 0, 1) := by decide +kernel
theorem dX7_add_13 : decode cX7_add 13 = .ok (.getfield 11, 3) := by decide +kernel
theorem dX7_add_16 : decode cX7_add 16 = .ok (.aload_n 0, 1) := by decide +kernel
theorem dX7_add_17 : decode cX7_add 17 = .ok (.getfield 24, 3) := by decide +kernel
theorem dX7_add_20 : decode cX7_add 20 = .ok (.iload_n 1, 1) := by decide +kernel
theorem dX7_add_21 : decode cX7_add 21 = .ok (.iastore, 1) := by decide +kernel
theorem dX7_add_22 : decode cX7_add 22 = .ok (.aload_n 0, 1) := by decide +kernel
theorem dX7_add_23 : decode cX7_add 23 = .ok (.getfield 15, 3) := by decide +kernel
theorem dX7_add_26 : decode cX7_add 26 = .ok (.aload_n 0, 1) := by decide +kernel
theorem dX7_add_27 : decode cX7_add 27 = .ok (.getfield 24, 3) := by decide +kernel
theorem dX7_add_30 : decode cX7_add 30 = .ok (.iload_n 2, 1) := by decide +kernel
theorem dX7_add_31 : decode cX7_add 31 = .ok (.iastore, 1) := by decide +kernel
theorem dX7_add_32 : decode cX7_add 32 = .ok (.aload_n 0, 1) := by decide +kernel
theorem dX7_add_33 : decode cX7_add 33 = .ok (.getfield 18, 3) := by decide +kernel
theorem dX7_add_36 : decode cX7_add 36 = .ok (.aload_n 0, 1) := by decide +kernel
theorem dX7_add_37 : decode cX7_add 37 = .ok (.getfield 24, 3) := by decide +kernel
theorem dX7_add_40 : decode cX7_add 40 = .ok (.iload_n 3, 1) := by decide +kernel
theorem dX7_add_41 : decode cX7_add 41 = .ok (.iastore, 1) := by decide +kernel
theorem dX7_add_42 : decode cX7_add 42 = .ok (.aload_n 0, 1) := by decide +kernel
theorem dX7_add_43 : decode cX7_add 43 = .ok (.getfield 21, 3) := by decide +kernel
theorem dX7_add_46 : decode cX7_add 46 = .ok (.aload_n 0, 1) := by decide +kernel
theorem dX7_add_47 : decode cX7_add 47 = .ok (.getfield 24, 3) := by decide +kernel
theorem dX7_add_50 : decode cX7_add 50 = .ok (.iload 4, 2) := by decide +kernel
theorem dX7_add_52 : decode cX7_add 52 = .ok (.iastore, 1) := by decide +kernel
theorem dX7_add_53 : decode cX7_add 53 = .ok (.aload_n 0, 1) := by decide +kernel
theorem dX7_add_54 : decode cX7_add 54 = .ok (.dup, 1) := by decide +kernel
theorem dX7_add_55 : decode cX7_add 55 = .ok (.getfield 24, 3) := by decide +kernel
theorem dX7_add_58 : decode cX7_add 58 = .ok (.dup_x1, 1) := by decide +kernel
theorem dX7_add_59 : decode cX7_add 59 = .ok (.iconst 1, 1) := by decide +kernel
theorem dX7_add_60 : decode cX7_add 60 = .ok (.iadd, 1) := by decide +kernel
theorem dX7_add_61 : decode cX7_add 61 = .ok (.putfield 24, 3) := by decide +kernel
theorem dX7_add_64 : decode cX7_add 64 = .ok (.ireturn, 1) := by decide +kernel
theorem dX7_sumUp_0 : decode cX7_sumUp 0 = .ok (.iconst 0, 1) := by decide +kernel
theorem dX7_sumUp_1 : decode cX7_sumUp 1 = .ok (.istore_n 3, 1) := by decide +kernel
theorem dX7_sumUp_2 : decode cX7_sumUp 2 = .ok (.aload_n 0, 1) := by decide +kernel
theorem dX7_sumUp_3 : decode cX7_sumUp 3 = .ok (.iconst 0, 1) := by decide +kernel
theorem dX7_sumUp_4 : decode cX7_sumUp 4 = .ok (.putfield 28, 3) := by decide +kernel
theorem dX7_sumUp_7 : decode cX7_sumUp 7 = .ok (.aload_n 0, 1) := by decide +kernel
theorem dX7_sumUp_8 : decode cX7_sumUp 8 = .ok (.sipush 9999, 3) := by decide +kernel
theorem dX7_sumUp_11 : decode cX7_sumUp 11 = .ok (.putfield 31, 3) := by decide +kernel
theorem dX7_sumUp_14 : decode cX7_sumUp 14 = .ok (.iconst 0, 1) := by decide +kernel
theorem dX7_sumUp_15 : decode cX7_sumUp 15 = .ok (.istore 4, 2) := by decide +kernel
theorem dX7_sumUp_17 : decode cX7_sumUp 17 = .ok (.iload 4, 2) := by decide +kernel
theorem dX7_sumUp_19 : decode cX7_sumUp 19 = .ok (.aload_n 0, 1) := by decide +kernel
theorem dX7_sumUp_20 : decode cX7_sumUp 20 = .ok (.getfield 24, 3) := by decide +kernel
theorem dX7_sumUp_23 : decode cX7_sumUp 23 = .ok (.if_icmp .ge 97, 3) := by decide +kernel
theorem dX7_sumUp_26 : decode cX7_sumUp 26 = .ok (.aload_n 0, 1) := by decide +kernel
theorem dX7_sumUp_27 : decode cX7_sumUp 27 = .ok (.getfield 11, 3) := by decide +kernel
theorem dX7_sumUp_30 : decode cX7_sumUp 30 = .ok (.iload 4, 2) := by decide +kernel
theorem dX7_sumUp_32 : decode cX7_sumUp 32 = .ok (.iaload, 1) := by decide +kernel
theorem dX7_sumUp_33 : decode cX7_sumUp 33 = .ok (.iload_n 1, 1) := by decide +kernel
theorem dX7_sumUp_34 : decode cX7_sumUp 34 = .ok (.if_icmp .ne 80, 3) := by decide +kernel
theorem dX7_sumUp_37 : decode cX7_sumUp 37 = .ok (.aload_n 0, 1) := by decide +kernel
theorem dX7_sumUp_38 : decode cX7_sumUp 38 = .ok (.getfield 15, 3) := by decide +kernel
theorem dX7_sumUp_41 : decode cX7_sumUp 41 = .ok (.iload 4, 2) := by decide +kernel
theorem dX7_sumUp_43 : decode cX7_sumUp 43 = .ok (.iaload, 1) := by decide +kernel
theorem dX7_sumUp_44 : decode cX7_sumUp 44 = .ok (.iload_n 2, 1) := by decide +kernel
theorem dX7_sumUp_45 : decode cX7_sumUp 45 = .ok (.if_icmp .gt 69, 3) := by decide +kernel
theorem dX7_sumUp_48 : decode cX7_sumUp 48 = .ok (.aload_n 0, 1) := by decide +kernel
theorem dX7_sumUp_49 : decode cX7_sumUp 49 = .ok (.iload_n 3, 1) := by decide +kernel
theorem dX7_sumUp_50 : decode cX7_sumUp 50 = .ok (.ifCond .eq 20, 3) := by decide +kernel
theorem dX7_sumUp_53 : decode cX7_sumUp 53 = .ok (.aload_n 0, 1) := by decide +kernel
theorem dX7_sumUp_54 : decode cX7_sumUp 54 = .ok (.getfield 28, 3) := by decide +kernel
theorem dX7_sumUp_57 : decode cX7_sumUp 57 = .ok (.aload_n 0, 1) := by decide +kernel
theorem dX7_sumUp_58 : decode cX7_sumUp 58 = .ok (.getfield 18, 3) := by decide +kernel
theorem dX7_sumUp_61 : decode cX7_sumUp 61 = .ok (.iload 4, 2) := by decide +kernel
theorem dX7_sumUp_63 : decode cX7_sumUp 63 = .ok (.iaload, 1) := by decide +kernel
theorem dX7_sumUp_64 : decode cX7_sumUp 64 = .ok (.invokestatic 34, 3) := by decide +kernel
theorem dX7_sumUp_67 : decode cX7_sumUp 67 = .ok (.goto 10, 3) := by decide +kernel
theorem dX7_sumUp_70 : decode cX7_sumUp 70 = .ok (.aload_n 0, 1) := by decide +kernel
theorem dX7_sumUp_71 : decode cX7_sumUp 71 = .ok (.getfield 18, 3) := by decide +kernel
theorem dX7_sumUp_74 : decode cX7_sumUp 74 = .ok (.iload 4, 2) := by decide +kernel
theorem dX7_sumUp_76 : decode cX7_sumUp 76 = .ok (.iaload, 1) := by decide +kernel
theorem dX7_sumUp_77 : decode cX7_sumUp 77 = .ok (.putfield 28, 3) := by decide +kernel
theorem dX7_sumUp_80 : decode cX7_sumUp 80 = .ok (.aload_n 0, 1) := by decide +kernel
theorem dX7_sumUp_81 : decode cX7_sumUp 81 = .ok (.iload_n 3, 1) := by decide +kernel
theorem dX7_sumUp_82 : decode cX7_sumUp 82 = .ok (.ifCond .eq 20, 3) := by decide +kernel
theorem dX7_sumUp_85 : decode cX7_sumUp 85 = .ok (.aload_n 0, 1) := by decide +kernel
theorem dX7_sumUp_86 : decode cX7_sumUp 86 = .ok (.getfield 31, 3) := by decide +kernel
theorem dX7_sumUp_89 : decode cX7_sumUp 89 = .ok (.aload_n 0, 1) := by decide +kernel
theorem dX7_sumUp_90 : decode cX7_sumUp 90 = .ok (.getfield 21, 3) := by decide +kernel
theorem dX7_sumUp_93 : decode cX7_sumUp 93 = .ok (.iload 4, 2) := by decide +kernel
theorem dX7_sumUp_95 : decode cX7_sumUp 95 = .ok (.iaload, 1) := by decide +kernel
theorem dX7_sumUp_96 : decode cX7_sumUp 96 = .ok (.invokestatic 40, 3) := by decide +kernel
theorem dX7_sumUp_99 : decode cX7_sumUp 99 = .ok (.goto 10, 3) := by decide +kernel
theorem dX7_sumUp_102 : decode cX7_sumUp 102 = .ok (.aload_n 0, 1) := by decide +kernel
theorem dX7_sumUp_103 : decode cX7_sumUp 103 = .ok (.getfield 21, 3) := by decide +kernel
theorem dX7_sumUp_106 : decode cX7_sumUp 106 = .ok (.iload 4, 2) := by decide +kernel
theorem dX7_sumUp_108 : decode cX7_sumUp 108 = .ok (.iaload, 1) := by decide +kernel
theorem dX7_sumUp_109 : decode cX7_sumUp 109 = .ok (.putfield 31, 3) := by decide +kernel
theorem dX7_sumUp_112 : decode cX7_sumUp 112 = .ok (.iconst 1, 1) := by decide +kernel
theorem dX7_sumUp_113 : decode cX7_sumUp 113 = .ok (.istore_n 3, 1) := by decide +kernel
theorem dX7_sumUp_114 : decode cX7_sumUp 114 = .ok (.iinc 4 1, 3) := by decide +kernel
theorem dX7_sumUp_117 : decode cX7_sumUp 117 = .ok (.goto (-100), 3) := by decide +kernel
theorem dX7_sumUp_120 : decode cX7_sumUp 120 = .ok (.return_, 1) := by decide +kernel
theorem dX8_init_0 : decode cX8_init 0 = .ok (.aload_n 0, 1) := by decide +kernel
theorem dX8_init_1 : decode cX8_init 1 = .ok (.invokespecial 3, 3) := by decide +kernel
theorem dX8_init_4 : decode cX8_init 4 = .ok (.aload_n 0, 1) := by decide +kernel
theorem dX8_init_5 : decode cX8_init 5 = .ok (.bipush 60, 2) := by decide +kernel
theorem dX8_init_7 : decode cX8_init 7 = .ok (.newarray .int, 2) := by decide +kernel
theorem dX8_init_9 : decode cX8_init 9 = .ok (.putfield 11, 3) := by decide +kernel
theorem dX8_init_12 : decode cX8_init 12 = .ok (.aload_n 0, 1) := by decide +kernel
theorem dX8_init_13 : decode cX8_init 13 = .ok (.bipush 60, 2) := by decide +kernel
theorem dX8_init_15 : decode cX8_init 15 = .ok (.newarray .int, 2) := by decide +kernel
theorem dX8_init_17 : decode cX8_init 17 = .ok (.putfield 15, 3) := by decide +kernel
theorem dX8_init_20 : decode cX8_init 20 = .ok (.aload_n 0, 1) := by decide +kernel
theorem dX8_init_21 : decode cX8_init 21 = .ok (.bipush 60, 2) := by decide +kernel
theorem dX8_init_23 : decode cX8_init 23 = .ok (.newarray .int, 2) := by decide +kernel
theorem dX8_init_25 : decode cX8_init 25 = .ok (.putfield 18, 3) := by decide +kernel
theorem dX8_init_28 : decode cX8_init 28 = .ok (.aload_n 0, 1) := by decide +kernel
theorem dX8_init_29 : decode cX8_init 29 = .ok (.bipush 60, 2) := by decide +kernel
theorem dX8_init_31 : decode cX8_init 31 = .ok (.newarray .int, 2) := by decide +kernel
theorem dX8_init_33 : decode cX8_init 33 = .ok (.putfield 21, 3) := by decide +kernel
theorem dX8_init_36 : decode cX8_init 36 = .ok (.return_, 1) := by decide +kernel
theorem dX8_add_0 : decode cX8_add 0 = .ok (.aload_n 0, 1) := by decide +kernel
theorem dX8_add_1 : decode cX8_add 1 = .ok (.getfield 24, 3) := by decide +kernel
theorem dX8_add_4 : decode cX8_add 4 = .ok (.bipush 60, 2) := by decide +kernel
theorem dX8_add_6 : decode cX8_add 6 = .ok (.if_icmp .lt 5, 3) := by decide +kernel
theorem dX8_add_9 : decode cX8_add 9 = .ok (.iconst (-1), 1) := by decide +kernel
theorem dX8_add_10 : decode cX8_add 10 = .ok (.ireturn, 1) := by decide +kernel
theorem dX8_add_11 : decode cX8_add 11 = .ok (.aload_n 0, 1) := by decide +kernel
theorem dX8_add_12 : decode cX8_add 12 = .ok (.getfield 11, 3) := by decide +kernel
theorem dX8_add_15 : decode cX8_add 15 = .ok (.aload_n 0, 1) := by decide +kernel
theorem dX8_add_16 : decode cX8_add 16 = .ok (.getfield 24, 3) := by decide +kernel
theorem dX8_add_19 : decode cX8_add 19 = .ok (.iload_n 1, 1) := by decide +kernel
theorem dX8_add_20 : decode cX8_add 20 = .ok (.iastore, 1) := by decide +kernel
theorem dX8_add_21 : decode cX8_add 21 = .ok (.aload_n 0, 1) := by decide +kernel
theorem dX8_add_22 : decode cX8_add 22 = .ok (.getfield 15, 3) := by decide +kernel
theorem dX8_add_25 : decode cX8_add 25 = .ok (.aload_n 0, 1) := by decide +kernel
theorem dX8_add_26 : decode cX8_add 26 = .ok (.getfield 24, 3) := by decide +kernel
theorem dX8_add_29 : decode cX8_add 29 = .ok (.iload_n 2, 1) := by decide +kernel
theorem dX8_add_30 : decode cX8_add 30 = .ok (.iastore, 1) := by decide +kernel
theorem dX8_add_31 : decode cX8_add 31 = .ok (.aload_n 0, 1) := by decide +kernel
theorem dX8_add_32 : decode cX8_add 32 = .ok (.getfield 18, 3) := by decide +kernel
theorem dX8_add_35 : decode cX8_add 35 = .ok (.aload_n 0, 1) := by decide +kernel
theorem dX8_add_36 : decode cX8_add 36 = .ok (.getfield 24, 3) := by decide +kernel
theorem dX8_add_39 : decode cX8_add 39 = .ok (.iload_n 3, 1) := by decide +kernel
theorem dX8_add_40 : decode cX8_add 40 = .ok (.iastore, 1) := by decide +kernel
theorem dX8_add_41 : decode cX8_add 41 = .ok (.aload_n 0, 1) := by decide +kernel
theorem dX8_add_42 : decode cX8_add 42 = .ok (.dup, 1) := by decide +kernel
theorem dX8_add_43 : decode cX8_add 43 = .ok (.getfield 24, 3) := by decide +kernel
theorem dX8_add_46 : decode cX8_add 46 = .ok (.dup_x1, 1) := by decide +kernel
theorem dX8_add_47 : decode cX8_add 47 = .ok (.iconst 1, 1) := by decide +kernel
theorem dX8_add_48 : decode cX8_add 48 = .ok (.iadd, 1) := by decide +kernel
theorem dX8_add_49 : decode cX8_add 49 = .ok (.putfield 24, 3) := by decide +kernel
theorem dX8_add_52 : decode cX8_add 52 = .ok (.ireturn, 1) := by decide +kernel
theorem dX8_countBad_0 : decode cX8_countBad 0 = .ok (.iconst 0, 1) := by decide +kernel
theorem dX8_countBad_1 : decode cX8_countBad 1 = .ok (.istore_n 2, 1) := by decide +kernel
theorem dX8_countBad_2 : decode cX8_countBad 2 = .ok (.iconst 0, 1) := by decide +kernel
theorem dX8_countBad_3 : decode cX8_countBad 3 = .ok (.istore_n 3, 1) := by decide +kernel
theorem dX8_countBad_4 : decode cX8_countBad 4 = .ok (.iload_n 3, 1) := by decide +kernel
theorem dX8_countBad_5 : decode cX8_countBad 5 = .ok (.aload_n 0, 1) := by decide +kernel
theorem dX8_countBad_6 : decode cX8_countBad 6 = .ok (.getfield 24, 3) := by decide +kernel
theorem dX8_countBad_9 : decode cX8_countBad 9 = .ok (.if_icmp .ge 56, 3) := by decide +kernel
theorem dX8_countBad_12 : decode cX8_countBad 12 = .ok (.iload_n 1, 1) := by decide +kernel
theorem dX8_countBad_13 : decode cX8_countBad 13 = .ok (.iconst (-1), 1) := by decide +kernel
theorem dX8_countBad_14 : decode cX8_countBad 14 = .ok (.if_icmp .eq 51, 3) := by decide +kernel
theorem dX8_countBad_17 : decode cX8_countBad 17 = .ok (.aload_n 0, 1) := by decide +kernel
theorem dX8_countBad_18 : decode cX8_countBad 18 = .ok (.getfield 15, 3) := by decide +kernel
theorem dX8_countBad_21 : decode cX8_countBad 21 = .ok (.iload_n 3, 1) := by decide +kernel
theorem dX8_countBad_22 : decode cX8_countBad 22 = .ok (.iaload, 1) := by decide +kernel
theorem dX8_countBad_23 : decode cX8_countBad 23 = .ok (.aload_n 0, 1) := by decide +kernel
theorem dX8_countBad_24 : decode cX8_countBad 24 = .ok (.getfield 18, 3) := by decide +kernel
theorem dX8_countBad_27 : decode cX8_countBad 27 = .ok (.iload_n 3, 1) := by decide +kernel
theorem dX8_countBad_28 : decode cX8_countBad 28 = .ok (.iaload, 1) := by decide +kernel
theorem dX8_countBad_29 : decode cX8_countBad 29 = .ok (.isub, 1) := by decide +kernel
theorem dX8_countBad_30 : decode cX8_countBad 30 = .ok (.bipush 100, 2) := by decide +kernel
theorem dX8_countBad_32 : decode cX8_countBad 32 = .ok (.imul, 1) := by decide +kernel
theorem dX8_countBad_33 : decode cX8_countBad 33 = .ok (.aload_n 0, 1) := by decide +kernel
theorem dX8_countBad_34 : decode cX8_countBad 34 = .ok (.getfield 15, 3) := by decide +kernel
theorem dX8_countBad_37 : decode cX8_countBad 37 = .ok (.iload_n 3, 1) := by decide +kernel
theorem dX8_countBad_38 : decode cX8_countBad 38 = .ok (.iaload, 1) := by decide +kernel
theorem dX8_countBad_39 : decode cX8_countBad 39 = .ok (.iload_n 1, 1) := by decide +kernel
theorem dX8_countBad_40 : decode cX8_countBad 40 = .ok (.imul, 1) := by decide +kernel
theorem dX8_countBad_41 : decode cX8_countBad 41 = .ok (.if_icmp .le 18, 3) := by decide +kernel
theorem dX8_countBad_44 : decode cX8_countBad 44 = .ok (.aload_n 0, 1) := by decide +kernel
theorem dX8_countBad_45 : decode cX8_countBad 45 = .ok (.getfield 21, 3) := by decide +kernel
theorem dX8_countBad_48 : decode cX8_countBad 48 = .ok (.iload_n 2, 1) := by decide +kernel
theorem dX8_countBad_49 : decode cX8_countBad 49 = .ok (.aload_n 0, 1) := by decide +kernel
theorem dX8_countBad_50 : decode cX8_countBad 50 = .ok (.getfield 11, 3) := by decide +kernel
theorem dX8_countBad_53 : decode cX8_countBad 53 = .ok (.iload_n 3, 1) := by decide +kernel
theorem dX8_countBad_54 : decode cX8_countBad 54 = .ok (.iaload, 1) := by decide +kernel
theorem dX8_countBad_55 : decode cX8_countBad 55 = .ok (.iastore, 1) := by decide +kernel
theorem dX8_countBad_56 : decode cX8_countBad 56 = .ok (.iinc 2 1, 3) := by decide +kernel
theorem dX8_countBad_59 : decode cX8_countBad 59 = .ok (.iinc 3 1, 3) := by decide +kernel
theorem dX8_countBad_62 : decode cX8_countBad 62 = .ok (.goto (-58), 3) := by decide +kernel
theorem dX8_countBad_65 : decode cX8_countBad 65 = .ok (.iload_n 2, 1) := by decide +kernel
theorem dX8_countBad_66 : decode cX8_countBad 66 = .ok (.ireturn, 1) := by decide +kernel
theorem dX8_inEachFewest_0 : decode cX8_inEachFewest 0 = .ok (.aload_n 0, 1) := by decide +kernel
theorem dX8_inEachFewest_1 : decode cX8_inEachFewest 1 = .ok (.iload_n 1, 1) := by decide +kernel
theorem dX8_inEachFewest_2 : decode cX8_inEachFewest 2 = .ok (.invokevirtual 28, 3) := by decide +kernel
theorem dX8_inEachFewest_5 : decode cX8_inEachFewest 5 = .ok (.istore_n 2, 1) := by decide +kernel
theorem dX8_inEachFewest_6 : decode cX8_inEachFewest 6 = .ok (.iload_n 2, 1) := by decide +kernel
theorem dX8_inEachFewest_7 : decode cX8_inEachFewest 7 = .ok (.iconst 2, 1) := by decide +kernel
theorem dX8_inEachFewest_8 : decode cX8_inEachFewest 8 = .ok (.if_icmp .ge 5, 3) := by decide +kernel
theorem dX8_inEachFewest_11 : decode cX8_inEachFewest 11 = .ok (.iconst 0, 1) := by decide +kernel
theorem dX8_inEachFewest_12 : decode cX8_inEachFewest 12 = .ok (.ireturn, 1) := by decide +kernel
theorem dX8_inEachFewest_13 : decode cX8_inEachFewest 13 = .ok (.bipush 11, 2) := by decide +kernel
theorem dX8_inEachFewest_15 : decode cX8_inEachFewest 15 = .ok (.istore_n 3, 1) := by decide +kernel
theorem dX8_inEachFewest_16 : decode cX8_inEachFewest 16 = .ok (.iconst 0, 1) := by decide +kernel
theorem dX8_inEachFewest_17 : decode cX8_inEachFewest 17 = .ok (.istore 4, 2) := by decide +kernel
theorem dX8_inEachFewest_19 : decode cX8_inEachFewest 19 = .ok (.iconst 1, 1) := by decide +kernel
theorem dX8_inEachFewest_20 : decode cX8_inEachFewest 20 = .ok (.istore 5, 2) := by decide +kernel
theorem dX8_inEachFewest_22 : decode cX8_inEachFewest 22 = .ok (.iload 5, 2) := by decide +kernel
theorem dX8_inEachFewest_24 : decode cX8_inEachFewest 24 = .ok (.sipush 1024, 3) := by decide +kernel
theorem dX8_inEachFewest_27 : decode cX8_inEachFewest 27 = .ok (.if_icmp .ge 53, 3) := by decide +kernel
theorem dX8_inEachFewest_30 : decode cX8_inEachFewest 30 = .ok (.iload 5, 2) := by decide +kernel
theorem dX8_inEachFewest_32 : decode cX8_inEachFewest 32 = .ok (.invokestatic 32, 3) := by decide +kernel
theorem dX8_inEachFewest_35 : decode cX8_inEachFewest 35 = .ok (.istore 6, 2) := by decide +kernel
theorem dX8_inEachFewest_37 : decode cX8_inEachFewest 37 = .ok (.iload 6, 2) := by decide +kernel
theorem dX8_inEachFewest_39 : decode cX8_inEachFewest 39 = .ok (.iload_n 3, 1) := by decide +kernel
theorem dX8_inEachFewest_40 : decode cX8_inEachFewest 40 = .ok (.if_icmp .gt 34, 3) := by decide +kernel
theorem dX8_inEachFewest_43 : decode cX8_inEachFewest 43 = .ok (.aload_n 0, 1) := by decide +kernel
theorem dX8_inEachFewest_44 : decode cX8_inEachFewest 44 = .ok (.iload 5, 2) := by decide +kernel
theorem dX8_inEachFewest_46 : decode cX8_inEachFewest 46 = .ok (.iload_n 2, 1) := by decide +kernel
theorem dX8_inEachFewest_47 : decode cX8_inEachFewest 47 = .ok (.invokevirtual 37, 3) := by decide +kernel
theorem dX8_inEachFewest_50 : decode cX8_inEachFewest 50 = .ok (.ifCond .eq 24, 3) := by decide +kernel
theorem dX8_inEachFewest_53 : decode cX8_inEachFewest 53 = .ok (.iload 6, 2) := by decide +kernel
theorem dX8_inEachFewest_55 : decode cX8_inEachFewest 55 = .ok (.iload_n 3, 1) := by decide +kernel
theorem dX8_inEachFewest_56 : decode cX8_inEachFewest 56 = .ok (.if_icmp .ge 8, 3) := by decide +kernel
theorem dX8_inEachFewest_59 : decode cX8_inEachFewest 59 = .ok (.iload 5, 2) := by decide +kernel
theorem dX8_inEachFewest_61 : decode cX8_inEachFewest 61 = .ok (.goto 8, 3) := by decide +kernel
theorem dX8_inEachFewest_64 : decode cX8_inEachFewest 64 = .ok (.iload 4, 2) := by decide +kernel
theorem dX8_inEachFewest_66 : decode cX8_inEachFewest 66 = .ok (.iload 5, 2) := by decide +kernel
theorem dX8_inEachFewest_68 : decode cX8_inEachFewest 68 = .ok (.iand, 1) := by decide +kernel
theorem dX8_inEachFewest_69 : decode cX8_inEachFewest 69 = .ok (.istore 4, 2) := by decide +kernel
theorem dX8_inEachFewest_71 : decode cX8_inEachFewest 71 = .ok (.iload 6, 2) := by decide +kernel
theorem dX8_inEachFewest_73 : decode cX8_inEachFewest 73 = .ok (.istore_n 3, 1) := by decide +kernel
theorem dX8_inEachFewest_74 : decode cX8_inEachFewest 74 = .ok (.iinc 5 1, 3) := by decide +kernel
theorem dX8_inEachFewest_77 : decode cX8_inEachFewest 77 = .ok (.goto (-55), 3) := by decide +kernel
theorem dX8_inEachFewest_80 : decode cX8_inEachFewest 80 = .ok (.iload 4, 2) := by decide +kernel
theorem dX8_inEachFewest_82 : decode cX8_inEachFewest 82 = .ok (.ireturn, 1) := by decide +kernel
theorem dX8_explains_0 : decode cX8_explains 0 = .ok (.iconst 0, 1) := by decide +kernel
theorem dX8_explains_1 : decode cX8_explains 1 = .ok (.istore_n 3, 1) := by decide +kernel
theorem dX8_explains_2 : decode cX8_explains 2 = .ok (.iload_n 3, 1) := by decide +kernel
theorem dX8_explains_3 : decode cX8_explains 3 = .ok (.iload_n 2, 1) := by decide +kernel
theorem dX8_explains_4 : decode cX8_explains 4 = .ok (.if_icmp .ge 22, 3) := by decide +kernel
theorem dX8_explains_7 : decode cX8_explains 7 = .ok (.aload_n 0, 1) := by decide +kernel
theorem dX8_explains_8 : decode cX8_explains 8 = .ok (.getfield 21, 3) := by decide +kernel
theorem dX8_explains_11 : decode cX8_explains 11 = .ok (.iload_n 3, 1) := by decide +kernel
theorem dX8_explains_12 : decode cX8_explains 12 = .ok (.iaload, 1) := by decide +kernel
theorem dX8_explains_13 : decode cX8_explains 13 = .ok (.iload_n 1, 1) := by decide +kernel
theorem dX8_explains_14 : decode cX8_explains 14 = .ok (.iand, 1) := by decide +kernel
theorem dX8_explains_15 : decode cX8_explains 15 = .ok (.ifCond .ne 5, 3) := by decide +kernel
theorem dX8_explains_18 : decode cX8_explains 18 = .ok (.iconst 0, 1) := by decide +kernel
theorem dX8_explains_19 : decode cX8_explains 19 = .ok (.ireturn, 1) := by decide +kernel
theorem dX8_explains_20 : decode cX8_explains 20 = .ok (.iinc 3 1, 3) := by decide +kernel
theorem dX8_explains_23 : decode cX8_explains 23 = .ok (.goto (-21), 3) := by decide +kernel
theorem dX8_explains_26 : decode cX8_explains 26 = .ok (.iconst 1, 1) := by decide +kernel
theorem dX8_explains_27 : decode cX8_explains 27 = .ok (.ireturn, 1) := by decide +kernel
theorem dX9_init_0 : decode cX9_init 0 = .ok (.aload_n 0, 1) := by decide +kernel
theorem dX9_init_1 : decode cX9_init 1 = .ok (.invokespecial 3, 3) := by decide +kernel
theorem dX9_init_4 : decode cX9_init 4 = .ok (.aload_n 0, 1) := by decide +kernel
theorem dX9_init_5 : decode cX9_init 5 = .ok (.bipush 12, 2) := by decide +kernel
theorem dX9_init_7 : decode cX9_init 7 = .ok (.newarray .int, 2) := by decide +kernel
theorem dX9_init_9 : decode cX9_init 9 = .ok (.putfield 9, 3) := by decide +kernel
theorem dX9_init_12 : decode cX9_init 12 = .ok (.return_, 1) := by decide +kernel
theorem dX9_hasRoom_0 : decode cX9_hasRoom 0 = .ok (.aload_n 0, 1) := by decide +kernel
theorem dX9_hasRoom_1 : decode cX9_hasRoom 1 = .ok (.getfield 15, 3) := by decide +kernel
theorem dX9_hasRoom_4 : decode cX9_hasRoom 4 = .ok (.bipush 8, 2) := by decide +kernel
theorem dX9_hasRoom_6 : decode cX9_hasRoom 6 = .ok (.aload_n 0, 1) := by decide +kernel
theorem dX9_hasRoom_7 : decode cX9_hasRoom 7 = .ok (.getfield 19, 3) := by decide +kernel
theorem dX9_hasRoom_10 : decode cX9_hasRoom 10 = .ok (.imul, 1) := by decide +kernel
theorem dX9_hasRoom_11 : decode cX9_hasRoom 11 = .ok (.isub, 1) := by decide +kernel
theorem dX9_hasRoom_12 : decode cX9_hasRoom 12 = .ok (.bipush 8, 2) := by decide +kernel
theorem dX9_hasRoom_14 : decode cX9_hasRoom 14 = .ok (.if_icmp .lt 19, 3) := by decide +kernel
theorem dX9_hasRoom_17 : decode cX9_hasRoom 17 = .ok (.aload_n 0, 1) := by decide +kernel
theorem dX9_hasRoom_18 : decode cX9_hasRoom 18 = .ok (.getfield 19, 3) := by decide +kernel
theorem dX9_hasRoom_21 : decode cX9_hasRoom 21 = .ok (.aload_n 0, 1) := by decide +kernel
theorem dX9_hasRoom_22 : decode cX9_hasRoom 22 = .ok (.getfield 9, 3) := by decide +kernel
theorem dX9_hasRoom_25 : decode cX9_hasRoom 25 = .ok (.arraylength, 1) := by decide +kernel
theorem dX9_hasRoom_26 : decode cX9_hasRoom 26 = .ok (.if_icmp .ge 7, 3) := by decide +kernel
theorem dX9_hasRoom_29 : decode cX9_hasRoom 29 = .ok (.iconst 1, 1) := by decide +kernel
theorem dX9_hasRoom_30 : decode cX9_hasRoom 30 = .ok (.goto 4, 3) := by decide +kernel
theorem dX9_hasRoom_33 : decode cX9_hasRoom 33 = .ok (.iconst 0, 1) := by decide +kernel
theorem dX9_hasRoom_34 : decode cX9_hasRoom 34 = .ok (.ireturn, 1) := by decide +kernel
theorem dX9_take_0 : decode cX9_take 0 = .ok (.aload_n 0, 1) := by decide +kernel
theorem dX9_take_1 : decode cX9_take 1 = .ok (.getfield 19, 3) := by decide +kernel
theorem dX9_take_4 : decode cX9_take 4 = .ok (.aload_n 0, 1) := by decide +kernel
theorem dX9_take_5 : decode cX9_take 5 = .ok (.getfield 9, 3) := by decide +kernel
theorem dX9_take_8 : decode cX9_take 8 = .ok (.arraylength, 1) := by decide +kernel
theorem dX9_take_9 : decode cX9_take 9 = .ok (.if_icmp .ge 23, 3) := by decide +kernel
theorem dX9_take_12 : decode cX9_take 12 = .ok (.aload_n 0, 1) := by decide +kernel
theorem dX9_take_13 : decode cX9_take 13 = .ok (.getfield 9, 3) := by decide +kernel
theorem dX9_take_16 : decode cX9_take 16 = .ok (.aload_n 0, 1) := by decide +kernel
theorem dX9_take_17 : decode cX9_take 17 = .ok (.getfield 19, 3) := by decide +kernel
theorem dX9_take_20 : decode cX9_take 20 = .ok (.iload_n 1, 1) := by decide +kernel
theorem dX9_take_21 : decode cX9_take 21 = .ok (.iastore, 1) := by decide +kernel
theorem dX9_take_22 : decode cX9_take 22 = .ok (.aload_n 0, 1) := by decide +kernel
theorem dX9_take_23 : decode cX9_take 23 = .ok (.dup, 1) := by decide +kernel
theorem dX9_take_24 : decode cX9_take 24 = .ok (.getfield 19, 3) := by decide +kernel
theorem dX9_take_27 : decode cX9_take 27 = .ok (.iconst 1, 1) := by decide +kernel
theorem dX9_take_28 : decode cX9_take 28 = .ok (.iadd, 1) := by decide +kernel
theorem dX9_take_29 : decode cX9_take 29 = .ok (.putfield 19, 3) := by decide +kernel
theorem dX9_take_32 : decode cX9_take 32 = .ok (.return_, 1) := by decide +kernel
theorem dX9_comesToCity_0 : decode cX9_comesToCity 0 = .ok (.aload_n 0, 1) := by decide +kernel
theorem dX9_comesToCity_1 : decode cX9_comesToCity 1 = .ok (.invokevirtual 22, 3) := by decide +kernel
theorem dX9_comesToCity_4 : decode cX9_comesToCity 4 = .ok (.ifCond .eq 21, 3) := by decide +kernel
theorem dX9_comesToCity_7 : decode cX9_comesToCity 7 = .ok (.aload_n 0, 1) := by decide +kernel
theorem dX9_comesToCity_8 : decode cX9_comesToCity 8 = .ok (.getfield 19, 3) := by decide +kernel
theorem dX9_comesToCity_11 : decode cX9_comesToCity 11 = .ok (.ifCond .le 18, 3) := by decide +kernel
theorem dX9_comesToCity_14 : decode cX9_comesToCity 14 = .ok (.iload_n 2, 1) := by decide +kernel
theorem dX9_comesToCity_15 : decode cX9_comesToCity 15 = .ok (.aload_n 0, 1) := by decide +kernel
theorem dX9_comesToCity_16 : decode cX9_comesToCity 16 = .ok (.getfield 26, 3) := by decide +kernel
theorem dX9_comesToCity_19 : decode cX9_comesToCity 19 = .ok (.isub, 1) := by decide +kernel
theorem dX9_comesToCity_20 : decode cX9_comesToCity 20 = .ok (.bipush 10, 2) := by decide +kernel
theorem dX9_comesToCity_22 : decode cX9_comesToCity 22 = .ok (.if_icmp .lt 7, 3) := by decide +kernel
theorem dX9_comesToCity_25 : decode cX9_comesToCity 25 = .ok (.iconst 1, 1) := by decide +kernel
theorem dX9_comesToCity_26 : decode cX9_comesToCity 26 = .ok (.goto 4, 3) := by decide +kernel
theorem dX9_comesToCity_29 : decode cX9_comesToCity 29 = .ok (.iconst 0, 1) := by decide +kernel
theorem dX9_comesToCity_30 : decode cX9_comesToCity 30 = .ok (.istore_n 3, 1) := by decide +kernel
theorem dX9_comesToCity_31 : decode cX9_comesToCity 31 = .ok (.iload_n 1, 1) := by decide +kernel
theorem dX9_comesToCity_32 : decode cX9_comesToCity 32 = .ok (.iconst 1, 1) := by decide +kernel
theorem dX9_comesToCity_33 : decode cX9_comesToCity 33 = .ok (.if_icmp .ne 27, 3) := by decide +kernel
theorem dX9_comesToCity_36 : decode cX9_comesToCity 36 = .ok (.aload_n 0, 1) := by decide +kernel
theorem dX9_comesToCity_37 : decode cX9_comesToCity 37 = .ok (.getfield 29, 3) := by decide +kernel
theorem dX9_comesToCity_40 : decode cX9_comesToCity 40 = .ok (.ifCond .ne 20, 3) := by decide +kernel
theorem dX9_comesToCity_43 : decode cX9_comesToCity 43 = .ok (.iload_n 3, 1) := by decide +kernel
theorem dX9_comesToCity_44 : decode cX9_comesToCity 44 = .ok (.ifCond .eq 16, 3) := by decide +kernel
theorem dX9_comesToCity_47 : decode cX9_comesToCity 47 = .ok (.aload_n 0, 1) := by decide +kernel
theorem dX9_comesToCity_48 : decode cX9_comesToCity 48 = .ok (.iconst 1, 1) := by decide +kernel
theorem dX9_comesToCity_49 : decode cX9_comesToCity 49 = .ok (.putfield 29, 3) := by decide +kernel
theorem dX9_comesToCity_52 : decode cX9_comesToCity 52 = .ok (.aload_n 0, 1) := by decide +kernel
theorem dX9_comesToCity_53 : decode cX9_comesToCity 53 = .ok (.iconst 4, 1) := by decide +kernel
theorem dX9_comesToCity_54 : decode cX9_comesToCity 54 = .ok (.putfield 32, 3) := by decide +kernel
theorem dX9_comesToCity_57 : decode cX9_comesToCity 57 = .ok (.goto 34, 3) := by decide +kernel
theorem dX9_comesToCity_60 : decode cX9_comesToCity 60 = .ok (.iload_n 1, 1) := by decide +kernel
theorem dX9_comesToCity_61 : decode cX9_comesToCity 61 = .ok (.iconst 2, 1) := by decide +kernel
theorem dX9_comesToCity_62 : decode cX9_comesToCity 62 = .ok (.if_icmp .ne 29, 3) := by decide +kernel
theorem dX9_comesToCity_65 : decode cX9_comesToCity 65 = .ok (.aload_n 0, 1) := by decide +kernel
theorem dX9_comesToCity_66 : decode cX9_comesToCity 66 = .ok (.getfield 29, 3) := by decide +kernel
theorem dX9_comesToCity_69 : decode cX9_comesToCity 69 = .ok (.iconst 2, 1) := by decide +kernel
theorem dX9_comesToCity_70 : decode cX9_comesToCity 70 = .ok (.if_icmp .ne 21, 3) := by decide +kernel
theorem dX9_comesToCity_73 : decode cX9_comesToCity 73 = .ok (.aload_n 0, 1) := by decide +kernel
theorem dX9_comesToCity_74 : decode cX9_comesToCity 74 = .ok (.getfield 26, 3) := by decide +kernel
theorem dX9_comesToCity_77 : decode cX9_comesToCity 77 = .ok (.iload_n 2, 1) := by decide +kernel
theorem dX9_comesToCity_78 : decode cX9_comesToCity 78 = .ok (.if_icmp .ge 13, 3) := by decide +kernel
theorem dX9_comesToCity_81 : decode cX9_comesToCity 81 = .ok (.aload_n 0, 1) := by decide +kernel
theorem dX9_comesToCity_82 : decode cX9_comesToCity 82 = .ok (.iconst 3, 1) := by decide +kernel
theorem dX9_comesToCity_83 : decode cX9_comesToCity 83 = .ok (.putfield 29, 3) := by decide +kernel
theorem dX9_comesToCity_86 : decode cX9_comesToCity 86 = .ok (.aload_n 0, 1) := by decide +kernel
theorem dX9_comesToCity_87 : decode cX9_comesToCity 87 = .ok (.iconst 4, 1) := by decide +kernel
theorem dX9_comesToCity_88 : decode cX9_comesToCity 88 = .ok (.putfield 32, 3) := by decide +kernel
theorem dX9_comesToCity_91 : decode cX9_comesToCity 91 = .ok (.iload_n 1, 1) := by decide +kernel
theorem dX9_comesToCity_92 : decode cX9_comesToCity 92 = .ok (.iconst 1, 1) := by decide +kernel
theorem dX9_comesToCity_93 : decode cX9_comesToCity 93 = .ok (.if_icmp .ne 11, 3) := by decide +kernel
theorem dX9_comesToCity_96 : decode cX9_comesToCity 96 = .ok (.aload_n 0, 1) := by decide +kernel
theorem dX9_comesToCity_97 : decode cX9_comesToCity 97 = .ok (.getfield 29, 3) := by decide +kernel
theorem dX9_comesToCity_100 : decode cX9_comesToCity 100 = .ok (.iconst 1, 1) := by decide +kernel
theorem dX9_comesToCity_101 : decode cX9_comesToCity 101 = .ok (.if_icmp .eq 16, 3) := by decide +kernel
theorem dX9_comesToCity_104 : decode cX9_comesToCity 104 = .ok (.iload_n 1, 1) := by decide +kernel
theorem dX9_comesToCity_105 : decode cX9_comesToCity 105 = .ok (.iconst 2, 1) := by decide +kernel
theorem dX9_comesToCity_106 : decode cX9_comesToCity 106 = .ok (.if_icmp .ne 15, 3) := by decide +kernel
theorem dX9_comesToCity_109 : decode cX9_comesToCity 109 = .ok (.aload_n 0, 1) := by decide +kernel
theorem dX9_comesToCity_110 : decode cX9_comesToCity 110 = .ok (.getfield 29, 3) := by decide +kernel
theorem dX9_comesToCity_113 : decode cX9_comesToCity 113 = .ok (.iconst 3, 1) := by decide +kernel
theorem dX9_comesToCity_114 : decode cX9_comesToCity 114 = .ok (.if_icmp .ne 7, 3) := by decide +kernel
theorem dX9_comesToCity_117 : decode cX9_comesToCity 117 = .ok (.iconst 1, 1) := by decide +kernel
theorem dX9_comesToCity_118 : decode cX9_comesToCity 118 = .ok (.goto 4, 3) := by decide +kernel
theorem dX9_comesToCity_121 : decode cX9_comesToCity 121 = .ok (.iconst 0, 1) := by decide +kernel
theorem dX9_comesToCity_122 : decode cX9_comesToCity 122 = .ok (.istore 4, 2) := by decide +kernel
theorem dX9_comesToCity_124 : decode cX9_comesToCity 124 = .ok (.iload 4, 2) := by decide +kernel
theorem dX9_comesToCity_126 : decode cX9_comesToCity 126 = .ok (.ifCond .ne 5, 3) := by decide +kernel
theorem dX9_comesToCity_129 : decode cX9_comesToCity 129 = .ok (.iconst 0, 1) := by decide +kernel
theorem dX9_comesToCity_130 : decode cX9_comesToCity 130 = .ok (.ireturn, 1) := by decide +kernel
theorem dX9_comesToCity_131 : decode cX9_comesToCity 131 = .ok (.aload_n 0, 1) := by decide +kernel
theorem dX9_comesToCity_132 : decode cX9_comesToCity 132 = .ok (.dup, 1) := by decide +kernel
theorem dX9_comesToCity_133 : decode cX9_comesToCity 133 = .ok (.getfield 32, 3) := by decide +kernel
theorem dX9_comesToCity_136 : decode cX9_comesToCity 136 = .ok (.iconst 1, 1) := by decide +kernel
theorem dX9_comesToCity_137 : decode cX9_comesToCity 137 = .ok (.isub, 1) := by decide +kernel
theorem dX9_comesToCity_138 : decode cX9_comesToCity 138 = .ok (.putfield 32, 3) := by decide +kernel
theorem dX9_comesToCity_141 : decode cX9_comesToCity 141 = .ok (.aload_n 0, 1) := by decide +kernel
theorem dX9_comesToCity_142 : decode cX9_comesToCity 142 = .ok (.getfield 32, 3) := by decide +kernel
theorem dX9_comesToCity_145 : decode cX9_comesToCity 145 = .ok (.ifCond .le 5, 3) := by decide +kernel
theorem dX9_comesToCity_148 : decode cX9_comesToCity 148 = .ok (.iconst 0, 1) := by decide +kernel
theorem dX9_comesToCity_149 : decode cX9_comesToCity 149 = .ok (.ireturn, 1) := by decide +kernel
theorem dX9_comesToCity_150 : decode cX9_comesToCity 150 = .ok (.aload_n 0, 1) := by decide +kernel
theorem dX9_comesToCity_151 : decode cX9_comesToCity 151 = .ok (.aload_n 0, 1) := by decide +kernel
theorem dX9_comesToCity_152 : decode cX9_comesToCity 152 = .ok (.getfield 29, 3) := by decide +kernel
theorem dX9_comesToCity_155 : decode cX9_comesToCity 155 = .ok (.iconst 1, 1) := by decide +kernel
theorem dX9_comesToCity_156 : decode cX9_comesToCity 156 = .ok (.if_icmp .ne 7, 3) := by decide +kernel
theorem dX9_comesToCity_159 : decode cX9_comesToCity 159 = .ok (.iconst 2, 1) := by decide +kernel
theorem dX9_comesToCity_160 : decode cX9_comesToCity 160 = .ok (.goto 4, 3) := by decide +kernel
theorem dX9_comesToCity_163 : decode cX9_comesToCity 163 = .ok (.iconst 0, 1) := by decide +kernel
theorem dX9_comesToCity_164 : decode cX9_comesToCity 164 = .ok (.putfield 29, 3) := by decide +kernel
theorem dX9_comesToCity_167 : decode cX9_comesToCity 167 = .ok (.aload_n 0, 1) := by decide +kernel
theorem dX9_comesToCity_168 : decode cX9_comesToCity 168 = .ok (.iload_n 2, 1) := by decide +kernel
theorem dX9_comesToCity_169 : decode cX9_comesToCity 169 = .ok (.putfield 26, 3) := by decide +kernel
theorem dX9_comesToCity_172 : decode cX9_comesToCity 172 = .ok (.aload_n 0, 1) := by decide +kernel
theorem dX9_comesToCity_173 : decode cX9_comesToCity 173 = .ok (.getfield 29, 3) := by decide +kernel
theorem dX9_comesToCity_176 : decode cX9_comesToCity 176 = .ok (.iconst 2, 1) := by decide +kernel
theorem dX9_comesToCity_177 : decode cX9_comesToCity 177 = .ok (.if_icmp .ne 7, 3) := by decide +kernel
theorem dX9_comesToCity_180 : decode cX9_comesToCity 180 = .ok (.iconst 1, 1) := by decide +kernel
theorem dX9_comesToCity_181 : decode cX9_comesToCity 181 = .ok (.goto 4, 3) := by decide +kernel
theorem dX9_comesToCity_184 : decode cX9_comesToCity 184 = .ok (.iconst 0, 1) := by decide +kernel
theorem dX9_comesToCity_185 : decode cX9_comesToCity 185 = .ok (.ireturn, 1) := by decide +kernel
theorem dX9_copyFrom_0 : decode cX9_copyFrom 0 = .ok (.aload_n 0, 1) := by decide +kernel
theorem dX9_copyFrom_1 : decode cX9_copyFrom 1 = .ok (.aload_n 1, 1) := by decide +kernel
theorem dX9_copyFrom_2 : decode cX9_copyFrom 2 = .ok (.getfield 15, 3) := by decide +kernel
theorem dX9_copyFrom_5 : decode cX9_copyFrom 5 = .ok (.putfield 15, 3) := by decide +kernel
theorem dX9_copyFrom_8 : decode cX9_copyFrom 8 = .ok (.aload_n 0, 1) := by decide +kernel
theorem dX9_copyFrom_9 : decode cX9_copyFrom 9 = .ok (.aload_n 1, 1) := by decide +kernel
theorem dX9_copyFrom_10 : decode cX9_copyFrom 10 = .ok (.getfield 35, 3) := by decide +kernel
theorem dX9_copyFrom_13 : decode cX9_copyFrom 13 = .ok (.putfield 35, 3) := by decide +kernel
theorem dX9_copyFrom_16 : decode cX9_copyFrom 16 = .ok (.aload_n 0, 1) := by decide +kernel
theorem dX9_copyFrom_17 : decode cX9_copyFrom 17 = .ok (.aload_n 1, 1) := by decide +kernel
theorem dX9_copyFrom_18 : decode cX9_copyFrom 18 = .ok (.getfield 29, 3) := by decide +kernel
theorem dX9_copyFrom_21 : decode cX9_copyFrom 21 = .ok (.putfield 29, 3) := by decide +kernel
theorem dX9_copyFrom_24 : decode cX9_copyFrom 24 = .ok (.aload_n 0, 1) := by decide +kernel
theorem dX9_copyFrom_25 : decode cX9_copyFrom 25 = .ok (.aload_n 1, 1) := by decide +kernel
theorem dX9_copyFrom_26 : decode cX9_copyFrom 26 = .ok (.getfield 32, 3) := by decide +kernel
theorem dX9_copyFrom_29 : decode cX9_copyFrom 29 = .ok (.putfield 32, 3) := by decide +kernel
theorem dX9_copyFrom_32 : decode cX9_copyFrom 32 = .ok (.aload_n 0, 1) := by decide +kernel
theorem dX9_copyFrom_33 : decode cX9_copyFrom 33 = .ok (.aload_n 1, 1) := by decide +kernel
theorem dX9_copyFrom_34 : decode cX9_copyFrom 34 = .ok (.getfield 26, 3) := by decide +kernel
theorem dX9_copyFrom_37 : decode cX9_copyFrom 37 = .ok (.putfield 26, 3) := by decide +kernel
theorem dX9_copyFrom_40 : decode cX9_copyFrom 40 = .ok (.aload_n 0, 1) := by decide +kernel
theorem dX9_copyFrom_41 : decode cX9_copyFrom 41 = .ok (.aload_n 1, 1) := by decide +kernel
theorem dX9_copyFrom_42 : decode cX9_copyFrom 42 = .ok (.getfield 19, 3) := by decide +kernel
theorem dX9_copyFrom_45 : decode cX9_copyFrom 45 = .ok (.putfield 19, 3) := by decide +kernel
theorem dX9_copyFrom_48 : decode cX9_copyFrom 48 = .ok (.aload_n 1, 1) := by decide +kernel
theorem dX9_copyFrom_49 : decode cX9_copyFrom 49 = .ok (.getfield 9, 3) := by decide +kernel
theorem dX9_copyFrom_52 : decode cX9_copyFrom 52 = .ok (.iconst 0, 1) := by decide +kernel
theorem dX9_copyFrom_53 : decode cX9_copyFrom 53 = .ok (.aload_n 0, 1) := by decide +kernel
theorem dX9_copyFrom_54 : decode cX9_copyFrom 54 = .ok (.getfield 9, 3) := by decide +kernel
theorem dX9_copyFrom_57 : decode cX9_copyFrom 57 = .ok (.iconst 0, 1) := by decide +kernel
theorem dX9_copyFrom_58 : decode cX9_copyFrom 58 = .ok (.aload_n 0, 1) := by decide +kernel
theorem dX9_copyFrom_59 : decode cX9_copyFrom 59 = .ok (.getfield 9, 3) := by decide +kernel
theorem dX9_copyFrom_62 : decode cX9_copyFrom 62 = .ok (.arraylength, 1) := by decide +kernel
theorem dX9_copyFrom_63 : decode cX9_copyFrom 63 = .ok (.invokestatic 38, 3) := by decide +kernel
theorem dX9_copyFrom_66 : decode cX9_copyFrom 66 = .ok (.return_, 1) := by decide +kernel
theorem dX10_init_0 : decode cX10_init 0 = .ok (.aload_n 0, 1) := by decide +kernel
theorem dX10_init_1 : decode cX10_init 1 = .ok (.invokespecial 3, 3) := by decide +kernel
theorem dX10_init_4 : decode cX10_init 4 = .ok (.aload_n 0, 1) := by decide +kernel
theorem dX10_init_5 : decode cX10_init 5 = .ok (.bipush 10, 2) := by decide +kernel
theorem dX10_init_7 : decode cX10_init 7 = .ok (.anewarray 9, 3) := by decide +kernel
theorem dX10_init_10 : decode cX10_init 10 = .ok (.putfield 11, 3) := by decide +kernel
theorem dX10_init_13 : decode cX10_init 13 = .ok (.aload_n 0, 1) := by decide +kernel
theorem dX10_init_14 : decode cX10_init 14 = .ok (.bipush 8, 2) := by decide +kernel
theorem dX10_init_16 : decode cX10_init 16 = .ok (.anewarray 17, 3) := by decide +kernel
theorem dX10_init_19 : decode cX10_init 19 = .ok (.putfield 19, 3) := by decide +kernel
theorem dX10_init_22 : decode cX10_init 22 = .ok (.aload_n 0, 1) := by decide +kernel
theorem dX10_init_23 : decode cX10_init 23 = .ok (.iconst 2, 1) := by decide +kernel
theorem dX10_init_24 : decode cX10_init 24 = .ok (.putfield 23, 3) := by decide +kernel
theorem dX10_init_27 : decode cX10_init 27 = .ok (.aload_n 0, 1) := by decide +kernel
theorem dX10_init_28 : decode cX10_init 28 = .ok (.new 27, 3) := by decide +kernel
theorem dX10_init_31 : decode cX10_init 31 = .ok (.dup, 1) := by decide +kernel
theorem dX10_init_32 : decode cX10_init 32 = .ok (.invokespecial 29, 3) := by decide +kernel
theorem dX10_init_35 : decode cX10_init 35 = .ok (.putfield 30, 3) := by decide +kernel
theorem dX10_init_38 : decode cX10_init 38 = .ok (.aload_n 0, 1) := by decide +kernel
theorem dX10_init_39 : decode cX10_init 39 = .ok (.new 34, 3) := by decide +kernel
theorem dX10_init_42 : decode cX10_init 42 = .ok (.dup, 1) := by decide +kernel
theorem dX10_init_43 : decode cX10_init 43 = .ok (.iconst 0, 1) := by decide +kernel
theorem dX10_init_44 : decode cX10_init 44 = .ok (.iconst 0, 1) := by decide +kernel
theorem dX10_init_45 : decode cX10_init 45 = .ok (.invokespecial 36, 3) := by decide +kernel
theorem dX10_init_48 : decode cX10_init 48 = .ok (.putfield 39, 3) := by decide +kernel
theorem dX10_init_51 : decode cX10_init 51 = .ok (.aload_n 0, 1) := by decide +kernel
theorem dX10_init_52 : decode cX10_init 52 = .ok (.aload_n 0, 1) := by decide +kernel
theorem dX10_init_53 : decode cX10_init 53 = .ok (.getfield 39, 3) := by decide +kernel
theorem dX10_init_56 : decode cX10_init 56 = .ok (.putfield 43, 3) := by decide +kernel
theorem dX10_init_59 : decode cX10_init 59 = .ok (.aload_n 0, 1) := by decide +kernel
theorem dX10_init_60 : decode cX10_init 60 = .ok (.iconst (-1), 1) := by decide +kernel
theorem dX10_init_61 : decode cX10_init 61 = .ok (.putfield 46, 3) := by decide +kernel
theorem dX10_init_64 : decode cX10_init 64 = .ok (.aload_n 0, 1) := by decide +kernel
theorem dX10_init_65 : decode cX10_init 65 = .ok (.new 49, 3) := by decide +kernel
theorem dX10_init_68 : decode cX10_init 68 = .ok (.dup, 1) := by decide +kernel
theorem dX10_init_69 : decode cX10_init 69 = .ok (.invokespecial 51, 3) := by decide +kernel
theorem dX10_init_72 : decode cX10_init 72 = .ok (.putfield 52, 3) := by decide +kernel
theorem dX10_init_75 : decode cX10_init 75 = .ok (.aload_n 0, 1) := by decide +kernel
theorem dX10_init_76 : decode cX10_init 76 = .ok (.bipush 8, 2) := by decide +kernel
theorem dX10_init_78 : decode cX10_init 78 = .ok (.newarray .int, 2) := by decide +kernel
theorem dX10_init_80 : decode cX10_init 80 = .ok (.putfield 56, 3) := by decide +kernel
theorem dX10_init_83 : decode cX10_init 83 = .ok (.iconst 0, 1) := by decide +kernel
theorem dX10_init_84 : decode cX10_init 84 = .ok (.istore_n 1, 1) := by decide +kernel
theorem dX10_init_85 : decode cX10_init 85 = .ok (.iload_n 1, 1) := by decide +kernel
theorem dX10_init_86 : decode cX10_init 86 = .ok (.bipush 10, 2) := by decide +kernel
theorem dX10_init_88 : decode cX10_init 88 = .ok (.if_icmp .ge 22, 3) := by decide +kernel
theorem dX10_init_91 : decode cX10_init 91 = .ok (.aload_n 0, 1) := by decide +kernel
theorem dX10_init_92 : decode cX10_init 92 = .ok (.getfield 11, 3) := by decide +kernel
theorem dX10_init_95 : decode cX10_init 95 = .ok (.iload_n 1, 1) := by decide +kernel
theorem dX10_init_96 : decode cX10_init 96 = .ok (.new 9, 3) := by decide +kernel
theorem dX10_init_99 : decode cX10_init 99 = .ok (.dup, 1) := by decide +kernel
theorem dX10_init_100 : decode cX10_init 100 = .ok (.invokespecial 60, 3) := by decide +kernel
theorem dX10_init_103 : decode cX10_init 103 = .ok (.aastore, 1) := by decide +kernel
theorem dX10_init_104 : decode cX10_init 104 = .ok (.iinc 1 1, 3) := by decide +kernel
theorem dX10_init_107 : decode cX10_init 107 = .ok (.goto (-22), 3) := by decide +kernel
theorem dX10_init_110 : decode cX10_init 110 = .ok (.iconst 0, 1) := by decide +kernel
theorem dX10_init_111 : decode cX10_init 111 = .ok (.istore_n 1, 1) := by decide +kernel
theorem dX10_init_112 : decode cX10_init 112 = .ok (.iload_n 1, 1) := by decide +kernel
theorem dX10_init_113 : decode cX10_init 113 = .ok (.bipush 8, 2) := by decide +kernel
theorem dX10_init_115 : decode cX10_init 115 = .ok (.if_icmp .ge 22, 3) := by decide +kernel
theorem dX10_init_118 : decode cX10_init 118 = .ok (.aload_n 0, 1) := by decide +kernel
theorem dX10_init_119 : decode cX10_init 119 = .ok (.getfield 19, 3) := by decide +kernel
theorem dX10_init_122 : decode cX10_init 122 = .ok (.iload_n 1, 1) := by decide +kernel
theorem dX10_init_123 : decode cX10_init 123 = .ok (.new 17, 3) := by decide +kernel
theorem dX10_init_126 : decode cX10_init 126 = .ok (.dup, 1) := by decide +kernel
theorem dX10_init_127 : decode cX10_init 127 = .ok (.invokespecial 61, 3) := by decide +kernel
theorem dX10_init_130 : decode cX10_init 130 = .ok (.aastore, 1) := by decide +kernel
theorem dX10_init_131 : decode cX10_init 131 = .ok (.iinc 1 1, 3) := by decide +kernel
theorem dX10_init_134 : decode cX10_init 134 = .ok (.goto (-22), 3) := by decide +kernel
theorem dX10_init_137 : decode cX10_init 137 = .ok (.return_, 1) := by decide +kernel
theorem dX10_copyFrom_0 : decode cX10_copyFrom 0 = .ok (.aload_n 0, 1) := by decide +kernel
theorem dX10_copyFrom_1 : decode cX10_copyFrom 1 = .ok (.aload_n 1, 1) := by decide +kernel
theorem dX10_copyFrom_2 : decode cX10_copyFrom 2 = .ok (.getfield 62, 3) := by decide +kernel
theorem dX10_copyFrom_5 : decode cX10_copyFrom 5 = .ok (.putfield 62, 3) := by decide +kernel
theorem dX10_copyFrom_8 : decode cX10_copyFrom 8 = .ok (.aload_n 0, 1) := by decide +kernel
theorem dX10_copyFrom_9 : decode cX10_copyFrom 9 = .ok (.aload_n 1, 1) := by decide +kernel
theorem dX10_copyFrom_10 : decode cX10_copyFrom 10 = .ok (.getfield 65, 3) := by decide +kernel
theorem dX10_copyFrom_13 : decode cX10_copyFrom 13 = .ok (.putfield 65, 3) := by decide +kernel
theorem dX10_copyFrom_16 : decode cX10_copyFrom 16 = .ok (.iconst 0, 1) := by decide +kernel
theorem dX10_copyFrom_17 : decode cX10_copyFrom 17 = .ok (.istore_n 2, 1) := by decide +kernel
theorem dX10_copyFrom_18 : decode cX10_copyFrom 18 = .ok (.iload_n 2, 1) := by decide +kernel
theorem dX10_copyFrom_19 : decode cX10_copyFrom 19 = .ok (.aload_n 0, 1) := by decide +kernel
theorem dX10_copyFrom_20 : decode cX10_copyFrom 20 = .ok (.getfield 65, 3) := by decide +kernel
theorem dX10_copyFrom_23 : decode cX10_copyFrom 23 = .ok (.if_icmp .ge 24, 3) := by decide +kernel
theorem dX10_copyFrom_26 : decode cX10_copyFrom 26 = .ok (.aload_n 0, 1) := by decide +kernel
theorem dX10_copyFrom_27 : decode cX10_copyFrom 27 = .ok (.getfield 11, 3) := by decide +kernel
theorem dX10_copyFrom_30 : decode cX10_copyFrom 30 = .ok (.iload_n 2, 1) := by decide +kernel
theorem dX10_copyFrom_31 : decode cX10_copyFrom 31 = .ok (.aaload, 1) := by decide +kernel
theorem dX10_copyFrom_32 : decode cX10_copyFrom 32 = .ok (.aload_n 1, 1) := by decide +kernel
theorem dX10_copyFrom_33 : decode cX10_copyFrom 33 = .ok (.getfield 11, 3) := by decide +kernel
theorem dX10_copyFrom_36 : decode cX10_copyFrom 36 = .ok (.iload_n 2, 1) := by decide +kernel
theorem dX10_copyFrom_37 : decode cX10_copyFrom 37 = .ok (.aaload, 1) := by decide +kernel
theorem dX10_copyFrom_38 : decode cX10_copyFrom 38 = .ok (.invokevirtual 68, 3) := by decide +kernel
theorem dX10_copyFrom_41 : decode cX10_copyFrom 41 = .ok (.iinc 2 1, 3) := by decide +kernel
theorem dX10_copyFrom_44 : decode cX10_copyFrom 44 = .ok (.goto (-26), 3) := by decide +kernel
theorem dX10_copyFrom_47 : decode cX10_copyFrom 47 = .ok (.aload_n 0, 1) := by decide +kernel
theorem dX10_copyFrom_48 : decode cX10_copyFrom 48 = .ok (.aload_n 1, 1) := by decide +kernel
theorem dX10_copyFrom_49 : decode cX10_copyFrom 49 = .ok (.getfield 72, 3) := by decide +kernel
theorem dX10_copyFrom_52 : decode cX10_copyFrom 52 = .ok (.putfield 72, 3) := by decide +kernel
theorem dX10_copyFrom_55 : decode cX10_copyFrom 55 = .ok (.iconst 0, 1) := by decide +kernel
theorem dX10_copyFrom_56 : decode cX10_copyFrom 56 = .ok (.istore_n 2, 1) := by decide +kernel
theorem dX10_copyFrom_57 : decode cX10_copyFrom 57 = .ok (.iload_n 2, 1) := by decide +kernel
theorem dX10_copyFrom_58 : decode cX10_copyFrom 58 = .ok (.aload_n 0, 1) := by decide +kernel
theorem dX10_copyFrom_59 : decode cX10_copyFrom 59 = .ok (.getfield 72, 3) := by decide +kernel
theorem dX10_copyFrom_62 : decode cX10_copyFrom 62 = .ok (.if_icmp .ge 24, 3) := by decide +kernel
theorem dX10_copyFrom_65 : decode cX10_copyFrom 65 = .ok (.aload_n 0, 1) := by decide +kernel
theorem dX10_copyFrom_66 : decode cX10_copyFrom 66 = .ok (.getfield 19, 3) := by decide +kernel
theorem dX10_copyFrom_69 : decode cX10_copyFrom 69 = .ok (.iload_n 2, 1) := by decide +kernel
theorem dX10_copyFrom_70 : decode cX10_copyFrom 70 = .ok (.aaload, 1) := by decide +kernel
theorem dX10_copyFrom_71 : decode cX10_copyFrom 71 = .ok (.aload_n 1, 1) := by decide +kernel
theorem dX10_copyFrom_72 : decode cX10_copyFrom 72 = .ok (.getfield 19, 3) := by decide +kernel
theorem dX10_copyFrom_75 : decode cX10_copyFrom 75 = .ok (.iload_n 2, 1) := by decide +kernel
theorem dX10_copyFrom_76 : decode cX10_copyFrom 76 = .ok (.aaload, 1) := by decide +kernel
theorem dX10_copyFrom_77 : decode cX10_copyFrom 77 = .ok (.invokevirtual 75, 3) := by decide +kernel
theorem dX10_copyFrom_80 : decode cX10_copyFrom 80 = .ok (.iinc 2 1, 3) := by decide +kernel
theorem dX10_copyFrom_83 : decode cX10_copyFrom 83 = .ok (.goto (-26), 3) := by decide +kernel
theorem dX10_copyFrom_86 : decode cX10_copyFrom 86 = .ok (.aload_n 0, 1) := by decide +kernel
theorem dX10_copyFrom_87 : decode cX10_copyFrom 87 = .ok (.aload_n 1, 1) := by decide +kernel
theorem dX10_copyFrom_88 : decode cX10_copyFrom 88 = .ok (.getfield 23, 3) := by decide +kernel
theorem dX10_copyFrom_91 : decode cX10_copyFrom 91 = .ok (.putfield 23, 3) := by decide +kernel
theorem dX10_copyFrom_94 : decode cX10_copyFrom 94 = .ok (.aload_n 0, 1) := by decide +kernel
theorem dX10_copyFrom_95 : decode cX10_copyFrom 95 = .ok (.aload_n 1, 1) := by decide +kernel
theorem dX10_copyFrom_96 : decode cX10_copyFrom 96 = .ok (.getfield 78, 3) := by decide +kernel
theorem dX10_copyFrom_99 : decode cX10_copyFrom 99 = .ok (.putfield 78, 3) := by decide +kernel
theorem dX10_copyFrom_102 : decode cX10_copyFrom 102 = .ok (.aload_n 0, 1) := by decide +kernel
theorem dX10_copyFrom_103 : decode cX10_copyFrom 103 = .ok (.aload_n 1, 1) := by decide +kernel
theorem dX10_copyFrom_104 : decode cX10_copyFrom 104 = .ok (.getfield 81, 3) := by decide +kernel
theorem dX10_copyFrom_107 : decode cX10_copyFrom 107 = .ok (.putfield 81, 3) := by decide +kernel
theorem dX10_copyFrom_110 : decode cX10_copyFrom 110 = .ok (.aload_n 0, 1) := by decide +kernel
theorem dX10_copyFrom_111 : decode cX10_copyFrom 111 = .ok (.getfield 30, 3) := by decide +kernel
theorem dX10_copyFrom_114 : decode cX10_copyFrom 114 = .ok (.aload_n 1, 1) := by decide +kernel
theorem dX10_copyFrom_115 : decode cX10_copyFrom 115 = .ok (.getfield 30, 3) := by decide +kernel
theorem dX10_copyFrom_118 : decode cX10_copyFrom 118 = .ok (.invokevirtual 84, 3) := by decide +kernel
theorem dX10_copyFrom_121 : decode cX10_copyFrom 121 = .ok (.aload_n 0, 1) := by decide +kernel
theorem dX10_copyFrom_122 : decode cX10_copyFrom 122 = .ok (.aload_n 1, 1) := by decide +kernel
theorem dX10_copyFrom_123 : decode cX10_copyFrom 123 = .ok (.getfield 39, 3) := by decide +kernel
theorem dX10_copyFrom_126 : decode cX10_copyFrom 126 = .ok (.putfield 39, 3) := by decide +kernel
theorem dX10_copyFrom_129 : decode cX10_copyFrom 129 = .ok (.aload_n 0, 1) := by decide +kernel
theorem dX10_copyFrom_130 : decode cX10_copyFrom 130 = .ok (.aload_n 1, 1) := by decide +kernel
theorem dX10_copyFrom_131 : decode cX10_copyFrom 131 = .ok (.getfield 43, 3) := by decide +kernel
theorem dX10_copyFrom_134 : decode cX10_copyFrom 134 = .ok (.putfield 43, 3) := by decide +kernel
theorem dX10_copyFrom_137 : decode cX10_copyFrom 137 = .ok (.aload_n 0, 1) := by decide +kernel
theorem dX10_copyFrom_138 : decode cX10_copyFrom 138 = .ok (.aload_n 1, 1) := by decide +kernel
theorem dX10_copyFrom_139 : decode cX10_copyFrom 139 = .ok (.getfield 87, 3) := by decide +kernel
theorem dX10_copyFrom_142 : decode cX10_copyFrom 142 = .ok (.putfield 87, 3) := by decide +kernel
theorem dX10_copyFrom_145 : decode cX10_copyFrom 145 = .ok (.aload_n 0, 1) := by decide +kernel
theorem dX10_copyFrom_146 : decode cX10_copyFrom 146 = .ok (.aload_n 1, 1) := by decide +kernel
theorem dX10_copyFrom_147 : decode cX10_copyFrom 147 = .ok (.getfield 91, 3) := by decide +kernel
theorem dX10_copyFrom_150 : decode cX10_copyFrom 150 = .ok (.putfield 91, 3) := by decide +kernel
theorem dX10_copyFrom_153 : decode cX10_copyFrom 153 = .ok (.aload_n 0, 1) := by decide +kernel
theorem dX10_copyFrom_154 : decode cX10_copyFrom 154 = .ok (.aload_n 1, 1) := by decide +kernel
theorem dX10_copyFrom_155 : decode cX10_copyFrom 155 = .ok (.getfield 94, 3) := by decide +kernel
theorem dX10_copyFrom_158 : decode cX10_copyFrom 158 = .ok (.putfield 94, 3) := by decide +kernel
theorem dX10_copyFrom_161 : decode cX10_copyFrom 161 = .ok (.aload_n 0, 1) := by decide +kernel
theorem dX10_copyFrom_162 : decode cX10_copyFrom 162 = .ok (.iconst (-1), 1) := by decide +kernel
theorem dX10_copyFrom_163 : decode cX10_copyFrom 163 = .ok (.putfield 46, 3) := by decide +kernel
theorem dX10_copyFrom_166 : decode cX10_copyFrom 166 = .ok (.return_, 1) := by decide +kernel
theorem dX10_breakerSet_0 : decode cX10_breakerSet 0 = .ok (.iconst 0, 1) := by decide +kernel
theorem dX10_breakerSet_1 : decode cX10_breakerSet 1 = .ok (.istore_n 1, 1) := by decide +kernel
theorem dX10_breakerSet_2 : decode cX10_breakerSet 2 = .ok (.iconst 0, 1) := by decide +kernel
theorem dX10_breakerSet_3 : decode cX10_breakerSet 3 = .ok (.istore_n 2, 1) := by decide +kernel
theorem dX10_breakerSet_4 : decode cX10_breakerSet 4 = .ok (.iload_n 2, 1) := by decide +kernel
theorem dX10_breakerSet_5 : decode cX10_breakerSet 5 = .ok (.aload_n 0, 1) := by decide +kernel
theorem dX10_breakerSet_6 : decode cX10_breakerSet 6 = .ok (.getfield 65, 3) := by decide +kernel
theorem dX10_breakerSet_9 : decode cX10_breakerSet 9 = .ok (.if_icmp .ge 31, 3) := by decide +kernel
theorem dX10_breakerSet_12 : decode cX10_breakerSet 12 = .ok (.iload_n 1, 1) := by decide +kernel
theorem dX10_breakerSet_13 : decode cX10_breakerSet 13 = .ok (.aload_n 0, 1) := by decide +kernel
theorem dX10_breakerSet_14 : decode cX10_breakerSet 14 = .ok (.getfield 11, 3) := by decide +kernel
theorem dX10_breakerSet_17 : decode cX10_breakerSet 17 = .ok (.iload_n 2, 1) := by decide +kernel
theorem dX10_breakerSet_18 : decode cX10_breakerSet 18 = .ok (.aaload, 1) := by decide +kernel
theorem dX10_breakerSet_19 : decode cX10_breakerSet 19 = .ok (.getfield 97, 3) := by decide +kernel
theorem dX10_breakerSet_22 : decode cX10_breakerSet 22 = .ok (.ifCond .eq 9, 3) := by decide +kernel
theorem dX10_breakerSet_25 : decode cX10_breakerSet 25 = .ok (.iconst 1, 1) := by decide +kernel
theorem dX10_breakerSet_26 : decode cX10_breakerSet 26 = .ok (.iload_n 2, 1) := by decide +kernel
theorem dX10_breakerSet_27 : decode cX10_breakerSet 27 = .ok (.ishl, 1) := by decide +kernel
theorem dX10_breakerSet_28 : decode cX10_breakerSet 28 = .ok (.goto 4, 3) := by decide +kernel
theorem dX10_breakerSet_31 : decode cX10_breakerSet 31 = .ok (.iconst 0, 1) := by decide +kernel
theorem dX10_breakerSet_32 : decode cX10_breakerSet 32 = .ok (.ior, 1) := by decide +kernel
theorem dX10_breakerSet_33 : decode cX10_breakerSet 33 = .ok (.istore_n 1, 1) := by decide +kernel
theorem dX10_breakerSet_34 : decode cX10_breakerSet 34 = .ok (.iinc 2 1, 3) := by decide +kernel
theorem dX10_breakerSet_37 : decode cX10_breakerSet 37 = .ok (.goto (-33), 3) := by decide +kernel
theorem dX10_breakerSet_40 : decode cX10_breakerSet 40 = .ok (.iload_n 1, 1) := by decide +kernel
theorem dX10_breakerSet_41 : decode cX10_breakerSet 41 = .ok (.ireturn, 1) := by decide +kernel
theorem dX10_setBreakers_0 : decode cX10_setBreakers 0 = .ok (.iconst 0, 1) := by decide +kernel
theorem dX10_setBreakers_1 : decode cX10_setBreakers 1 = .ok (.istore_n 2, 1) := by decide +kernel
theorem dX10_setBreakers_2 : decode cX10_setBreakers 2 = .ok (.iload_n 2, 1) := by decide +kernel
theorem dX10_setBreakers_3 : decode cX10_setBreakers 3 = .ok (.aload_n 0, 1) := by decide +kernel
theorem dX10_setBreakers_4 : decode cX10_setBreakers 4 = .ok (.getfield 65, 3) := by decide +kernel
theorem dX10_setBreakers_7 : decode cX10_setBreakers 7 = .ok (.if_icmp .ge 32, 3) := by decide +kernel
theorem dX10_setBreakers_10 : decode cX10_setBreakers 10 = .ok (.aload_n 0, 1) := by decide +kernel
theorem dX10_setBreakers_11 : decode cX10_setBreakers 11 = .ok (.getfield 11, 3) := by decide +kernel
theorem dX10_setBreakers_14 : decode cX10_setBreakers 14 = .ok (.iload_n 2, 1) := by decide +kernel
theorem dX10_setBreakers_15 : decode cX10_setBreakers 15 = .ok (.aaload, 1) := by decide +kernel
theorem dX10_setBreakers_16 : decode cX10_setBreakers 16 = .ok (.iload_n 1, 1) := by decide +kernel
theorem dX10_setBreakers_17 : decode cX10_setBreakers 17 = .ok (.iload_n 2, 1) := by decide +kernel
theorem dX10_setBreakers_18 : decode cX10_setBreakers 18 = .ok (.ishr, 1) := by decide +kernel
theorem dX10_setBreakers_19 : decode cX10_setBreakers 19 = .ok (.iconst 1, 1) := by decide +kernel
theorem dX10_setBreakers_20 : decode cX10_setBreakers 20 = .ok (.iand, 1) := by decide +kernel
theorem dX10_setBreakers_21 : decode cX10_setBreakers 21 = .ok (.iconst 1, 1) := by decide +kernel
theorem dX10_setBreakers_22 : decode cX10_setBreakers 22 = .ok (.if_icmp .ne 7, 3) := by decide +kernel
theorem dX10_setBreakers_25 : decode cX10_setBreakers 25 = .ok (.iconst 1, 1) := by decide +kernel
theorem dX10_setBreakers_26 : decode cX10_setBreakers 26 = .ok (.goto 4, 3) := by decide +kernel
theorem dX10_setBreakers_29 : decode cX10_setBreakers 29 = .ok (.iconst 0, 1) := by decide +kernel
theorem dX10_setBreakers_30 : decode cX10_setBreakers 30 = .ok (.putfield 97, 3) := by decide +kernel
theorem dX10_setBreakers_33 : decode cX10_setBreakers 33 = .ok (.iinc 2 1, 3) := by decide +kernel
theorem dX10_setBreakers_36 : decode cX10_setBreakers 36 = .ok (.goto (-34), 3) := by decide +kernel
theorem dX10_setBreakers_39 : decode cX10_setBreakers 39 = .ok (.return_, 1) := by decide +kernel
theorem dX10_barNow_0 : decode cX10_barNow 0 = .ok (.aload_n 0, 1) := by decide +kernel
theorem dX10_barNow_1 : decode cX10_barNow 1 = .ok (.getfield 87, 3) := by decide +kernel
theorem dX10_barNow_4 : decode cX10_barNow 4 = .ok (.ifnull 14, 3) := by decide +kernel
theorem dX10_barNow_7 : decode cX10_barNow 7 = .ok (.aload_n 0, 1) := by decide +kernel
theorem dX10_barNow_8 : decode cX10_barNow 8 = .ok (.getfield 39, 3) := by decide +kernel
theorem dX10_barNow_11 : decode cX10_barNow 11 = .ok (.iconst 5, 1) := by decide +kernel
theorem dX10_barNow_12 : decode cX10_barNow 12 = .ok (.invokevirtual 101, 3) := by decide +kernel
theorem dX10_barNow_15 : decode cX10_barNow 15 = .ok (.ifCond .eq 7, 3) := by decide +kernel
theorem dX10_barNow_18 : decode cX10_barNow 18 = .ok (.iconst (-1), 1) := by decide +kernel
theorem dX10_barNow_19 : decode cX10_barNow 19 = .ok (.goto 10, 3) := by decide +kernel
theorem dX10_barNow_22 : decode cX10_barNow 22 = .ok (.aload_n 0, 1) := by decide +kernel
theorem dX10_barNow_23 : decode cX10_barNow 23 = .ok (.getfield 87, 3) := by decide +kernel
theorem dX10_barNow_26 : decode cX10_barNow 26 = .ok (.getfield 105, 3) := by decide +kernel
theorem dX10_barNow_29 : decode cX10_barNow 29 = .ok (.ireturn, 1) := by decide +kernel
theorem dX10_fineBy_0 : decode cX10_fineBy 0 = .ok (.aload_n 1, 1) := by decide +kernel
theorem dX10_fineBy_1 : decode cX10_fineBy 1 = .ok (.ifnull 14, 3) := by decide +kernel
theorem dX10_fineBy_4 : decode cX10_fineBy 4 = .ok (.aload_n 0, 1) := by decide +kernel
theorem dX10_fineBy_5 : decode cX10_fineBy 5 = .ok (.getfield 39, 3) := by decide +kernel
theorem dX10_fineBy_8 : decode cX10_fineBy 8 = .ok (.iconst 2, 1) := by decide +kernel
theorem dX10_fineBy_9 : decode cX10_fineBy 9 = .ok (.invokevirtual 101, 3) := by decide +kernel
theorem dX10_fineBy_12 : decode cX10_fineBy 12 = .ok (.ifCond .eq 5, 3) := by decide +kernel
theorem dX10_fineBy_15 : decode cX10_fineBy 15 = .ok (.iconst 0, 1) := by decide +kernel
theorem dX10_fineBy_16 : decode cX10_fineBy 16 = .ok (.ireturn, 1) := by decide +kernel
theorem dX10_fineBy_17 : decode cX10_fineBy 17 = .ok (.aload_n 0, 1) := by decide +kernel
theorem dX10_fineBy_18 : decode cX10_fineBy 18 = .ok (.invokevirtual 110, 3) := by decide +kernel
theorem dX10_fineBy_21 : decode cX10_fineBy 21 = .ok (.aload_n 0, 1) := by decide +kernel
theorem dX10_fineBy_22 : decode cX10_fineBy 22 = .ok (.getfield 52, 3) := by decide +kernel
theorem dX10_fineBy_25 : decode cX10_fineBy 25 = .ok (.aload_n 2, 1) := by decide +kernel
theorem dX10_fineBy_26 : decode cX10_fineBy 26 = .ok (.invokevirtual 113, 3) := by decide +kernel
theorem dX10_fineBy_29 : decode cX10_fineBy 29 = .ok (.aload_n 0, 1) := by decide +kernel
theorem dX10_fineBy_30 : decode cX10_fineBy 30 = .ok (.getfield 52, 3) := by decide +kernel
theorem dX10_fineBy_33 : decode cX10_fineBy 33 = .ok (.bipush 19, 2) := by decide +kernel
theorem dX10_fineBy_35 : decode cX10_fineBy 35 = .ok (.iload_n 3, 1) := by decide +kernel
theorem dX10_fineBy_36 : decode cX10_fineBy 36 = .ok (.invokevirtual 116, 3) := by decide +kernel
theorem dX10_fineBy_39 : decode cX10_fineBy 39 = .ok (.aload_n 0, 1) := by decide +kernel
theorem dX10_fineBy_40 : decode cX10_fineBy 40 = .ok (.getfield 52, 3) := by decide +kernel
theorem dX10_fineBy_43 : decode cX10_fineBy 43 = .ok (.aload_n 1, 1) := by decide +kernel
theorem dX10_fineBy_44 : decode cX10_fineBy 44 = .ok (.getfield 119, 3) := by decide +kernel
theorem dX10_fineBy_47 : decode cX10_fineBy 47 = .ok (.iconst 0, 1) := by decide +kernel
theorem dX10_fineBy_48 : decode cX10_fineBy 48 = .ok (.invokevirtual 122, 3) := by decide +kernel
theorem dX10_fineBy_51 : decode cX10_fineBy 51 = .ok (.invokestatic 126, 3) := by decide +kernel
theorem dX10_fineBy_54 : decode cX10_fineBy 54 = .ok (.ireturn, 1) := by decide +kernel
theorem dX10_passDay_0 : decode cX10_passDay 0 = .ok (.aload_n 0, 1) := by decide +kernel
theorem dX10_passDay_1 : decode cX10_passDay 1 = .ok (.aload_n 0, 1) := by decide +kernel
theorem dX10_passDay_2 : decode cX10_passDay 2 = .ok (.getfield 43, 3) := by decide +kernel
theorem dX10_passDay_5 : decode cX10_passDay 5 = .ok (.putfield 39, 3) := by decide +kernel
theorem dX10_passDay_8 : decode cX10_passDay 8 = .ok (.aload_n 0, 1) := by decide +kernel
theorem dX10_passDay_9 : decode cX10_passDay 9 = .ok (.getfield 62, 3) := by decide +kernel
theorem dX10_passDay_12 : decode cX10_passDay 12 = .ok (.bipush 30, 2) := by decide +kernel
theorem dX10_passDay_14 : decode cX10_passDay 14 = .ok (.irem, 1) := by decide +kernel
theorem dX10_passDay_15 : decode cX10_passDay 15 = .ok (.ifCond .ne 48, 3) := by decide +kernel
theorem dX10_passDay_18 : decode cX10_passDay 18 = .ok (.aload_n 0, 1) := by decide +kernel
theorem dX10_passDay_19 : decode cX10_passDay 19 = .ok (.invokevirtual 130, 3) := by decide +kernel
theorem dX10_passDay_22 : decode cX10_passDay 22 = .ok (.aload_n 0, 1) := by decide +kernel
theorem dX10_passDay_23 : decode cX10_passDay 23 = .ok (.getfield 87, 3) := by decide +kernel
theorem dX10_passDay_26 : decode cX10_passDay 26 = .ok (.ifnull 11, 3) := by decide +kernel
theorem dX10_passDay_29 : decode cX10_passDay 29 = .ok (.aload_n 0, 1) := by decide +kernel
theorem dX10_passDay_30 : decode cX10_passDay 30 = .ok (.aload_n 0, 1) := by decide +kernel
theorem dX10_passDay_31 : decode cX10_passDay 31 = .ok (.invokevirtual 133, 3) := by decide +kernel
theorem dX10_passDay_34 : decode cX10_passDay 34 = .ok (.invokevirtual 137, 3) := by decide +kernel
theorem dX10_passDay_37 : decode cX10_passDay 37 = .ok (.iconst 0, 1) := by decide +kernel
theorem dX10_passDay_38 : decode cX10_passDay 38 = .ok (.istore_n 2, 1) := by decide +kernel
theorem dX10_passDay_39 : decode cX10_passDay 39 = .ok (.iload_n 2, 1) := by decide +kernel
theorem dX10_passDay_40 : decode cX10_passDay 40 = .ok (.aload_n 0, 1) := by decide +kernel
theorem dX10_passDay_41 : decode cX10_passDay 41 = .ok (.getfield 65, 3) := by decide +kernel
theorem dX10_passDay_44 : decode cX10_passDay 44 = .ok (.if_icmp .ge 19, 3) := by decide +kernel
theorem dX10_passDay_47 : decode cX10_passDay 47 = .ok (.aload_n 0, 1) := by decide +kernel
theorem dX10_passDay_48 : decode cX10_passDay 48 = .ok (.getfield 11, 3) := by decide +kernel
theorem dX10_passDay_51 : decode cX10_passDay 51 = .ok (.iload_n 2, 1) := by decide +kernel
theorem dX10_passDay_52 : decode cX10_passDay 52 = .ok (.aaload, 1) := by decide +kernel
theorem dX10_passDay_53 : decode cX10_passDay 53 = .ok (.iconst 0, 1) := by decide +kernel
theorem dX10_passDay_54 : decode cX10_passDay 54 = .ok (.putfield 141, 3) := by decide +kernel
theorem dX10_passDay_57 : decode cX10_passDay 57 = .ok (.iinc 2 1, 3) := by decide +kernel
theorem dX10_passDay_60 : decode cX10_passDay 60 = .ok (.goto (-21), 3) := by decide +kernel
theorem dX10_passDay_63 : decode cX10_passDay 63 = .ok (.iconst 0, 1) := by decide +kernel
theorem dX10_passDay_64 : decode cX10_passDay 64 = .ok (.istore_n 2, 1) := by decide +kernel
theorem dX10_passDay_65 : decode cX10_passDay 65 = .ok (.iload_n 2, 1) := by decide +kernel
theorem dX10_passDay_66 : decode cX10_passDay 66 = .ok (.aload_n 0, 1) := by decide +kernel
theorem dX10_passDay_67 : decode cX10_passDay 67 = .ok (.getfield 65, 3) := by decide +kernel
theorem dX10_passDay_70 : decode cX10_passDay 70 = .ok (.if_icmp .ge 43, 3) := by decide +kernel
theorem dX10_passDay_73 : decode cX10_passDay 73 = .ok (.aload_n 0, 1) := by decide +kernel
theorem dX10_passDay_74 : decode cX10_passDay 74 = .ok (.getfield 11, 3) := by decide +kernel
theorem dX10_passDay_77 : decode cX10_passDay 77 = .ok (.iload_n 2, 1) := by decide +kernel
theorem dX10_passDay_78 : decode cX10_passDay 78 = .ok (.aaload, 1) := by decide +kernel
theorem dX10_passDay_79 : decode cX10_passDay 79 = .ok (.sipush 9999, 3) := by decide +kernel
theorem dX10_passDay_82 : decode cX10_passDay 82 = .ok (.aload_n 0, 1) := by decide +kernel
theorem dX10_passDay_83 : decode cX10_passDay 83 = .ok (.getfield 11, 3) := by decide +kernel
theorem dX10_passDay_86 : decode cX10_passDay 86 = .ok (.iload_n 2, 1) := by decide +kernel
theorem dX10_passDay_87 : decode cX10_passDay 87 = .ok (.aaload, 1) := by decide +kernel
theorem dX10_passDay_88 : decode cX10_passDay 88 = .ok (.getfield 144, 3) := by decide +kernel
theorem dX10_passDay_91 : decode cX10_passDay 91 = .ok (.aload_n 0, 1) := by decide +kernel
theorem dX10_passDay_92 : decode cX10_passDay 92 = .ok (.getfield 11, 3) := by decide +kernel
theorem dX10_passDay_95 : decode cX10_passDay 95 = .ok (.iload_n 2, 1) := by decide +kernel
theorem dX10_passDay_96 : decode cX10_passDay 96 = .ok (.aaload, 1) := by decide +kernel
theorem dX10_passDay_97 : decode cX10_passDay 97 = .ok (.getfield 147, 3) := by decide +kernel
theorem dX10_passDay_100 : decode cX10_passDay 100 = .ok (.iadd, 1) := by decide +kernel
theorem dX10_passDay_101 : decode cX10_passDay 101 = .ok (.invokestatic 150, 3) := by decide +kernel
theorem dX10_passDay_104 : decode cX10_passDay 104 = .ok (.putfield 144, 3) := by decide +kernel
theorem dX10_passDay_107 : decode cX10_passDay 107 = .ok (.iinc 2 1, 3) := by decide +kernel
theorem dX10_passDay_110 : decode cX10_passDay 110 = .ok (.goto (-45), 3) := by decide +kernel
theorem dX10_passDay_113 : decode cX10_passDay 113 = .ok (.aload_n 0, 1) := by decide +kernel
theorem dX10_passDay_114 : decode cX10_passDay 114 = .ok (.invokevirtual 156, 3) := by decide +kernel
theorem dX10_passDay_117 : decode cX10_passDay 117 = .ok (.aload_n 0, 1) := by decide +kernel
theorem dX10_passDay_118 : decode cX10_passDay 118 = .ok (.iload_n 1, 1) := by decide +kernel
theorem dX10_passDay_119 : decode cX10_passDay 119 = .ok (.invokevirtual 159, 3) := by decide +kernel
theorem dX10_passDay_122 : decode cX10_passDay 122 = .ok (.aload_n 0, 1) := by decide +kernel
theorem dX10_passDay_123 : decode cX10_passDay 123 = .ok (.getfield 30, 3) := by decide +kernel
theorem dX10_passDay_126 : decode cX10_passDay 126 = .ok (.iload_n 1, 1) := by decide +kernel
theorem dX10_passDay_127 : decode cX10_passDay 127 = .ok (.iconst 3, 1) := by decide +kernel
theorem dX10_passDay_128 : decode cX10_passDay 128 = .ok (.if_icmp .ne 7, 3) := by decide +kernel
theorem dX10_passDay_131 : decode cX10_passDay 131 = .ok (.iconst 1, 1) := by decide +kernel
theorem dX10_passDay_132 : decode cX10_passDay 132 = .ok (.goto 4, 3) := by decide +kernel
theorem dX10_passDay_135 : decode cX10_passDay 135 = .ok (.iconst 0, 1) := by decide +kernel
theorem dX10_passDay_136 : decode cX10_passDay 136 = .ok (.invokevirtual 162, 3) := by decide +kernel
theorem dX10_passDay_139 : decode cX10_passDay 139 = .ok (.aload_n 0, 1) := by decide +kernel
theorem dX10_passDay_140 : decode cX10_passDay 140 = .ok (.dup, 1) := by decide +kernel
theorem dX10_passDay_141 : decode cX10_passDay 141 = .ok (.getfield 62, 3) := by decide +kernel
theorem dX10_passDay_144 : decode cX10_passDay 144 = .ok (.iconst 1, 1) := by decide +kernel
theorem dX10_passDay_145 : decode cX10_passDay 145 = .ok (.iadd, 1) := by decide +kernel
theorem dX10_passDay_146 : decode cX10_passDay 146 = .ok (.putfield 62, 3) := by decide +kernel
theorem dX10_passDay_149 : decode cX10_passDay 149 = .ok (.aload_n 0, 1) := by decide +kernel
theorem dX10_passDay_150 : decode cX10_passDay 150 = .ok (.getfield 62, 3) := by decide +kernel
theorem dX10_passDay_153 : decode cX10_passDay 153 = .ok (.bipush 30, 2) := by decide +kernel
theorem dX10_passDay_155 : decode cX10_passDay 155 = .ok (.irem, 1) := by decide +kernel
theorem dX10_passDay_156 : decode cX10_passDay 156 = .ok (.ifCond .ne 7, 3) := by decide +kernel
theorem dX10_passDay_159 : decode cX10_passDay 159 = .ok (.aload_n 0, 1) := by decide +kernel
theorem dX10_passDay_160 : decode cX10_passDay 160 = .ok (.invokevirtual 166, 3) := by decide +kernel
theorem dX10_passDay_163 : decode cX10_passDay 163 = .ok (.return_, 1) := by decide +kernel
theorem dX10_renewPact_0 : decode cX10_renewPact 0 = .ok (.aload_n 0, 1) := by decide +kernel
theorem dX10_renewPact_1 : decode cX10_renewPact 1 = .ok (.getfield 91, 3) := by decide +kernel
theorem dX10_renewPact_4 : decode cX10_renewPact 4 = .ok (.ifnull 16, 3) := by decide +kernel
theorem dX10_renewPact_7 : decode cX10_renewPact 7 = .ok (.aload_n 0, 1) := by decide +kernel
theorem dX10_renewPact_8 : decode cX10_renewPact 8 = .ok (.aload_n 0, 1) := by decide +kernel
theorem dX10_renewPact_9 : decode cX10_renewPact 9 = .ok (.getfield 91, 3) := by decide +kernel
theorem dX10_renewPact_12 : decode cX10_renewPact 12 = .ok (.putfield 87, 3) := by decide +kernel
theorem dX10_renewPact_15 : decode cX10_renewPact 15 = .ok (.aload_n 0, 1) := by decide +kernel
theorem dX10_renewPact_16 : decode cX10_renewPact 16 = .ok (.aconst_null, 1) := by decide +kernel
theorem dX10_renewPact_17 : decode cX10_renewPact 17 = .ok (.putfield 91, 3) := by decide +kernel
theorem dX10_renewPact_20 : decode cX10_renewPact 20 = .ok (.aload_n 0, 1) := by decide +kernel
theorem dX10_renewPact_21 : decode cX10_renewPact 21 = .ok (.getfield 87, 3) := by decide +kernel
theorem dX10_renewPact_24 : decode cX10_renewPact 24 = .ok (.ifnonnull 4, 3) := by decide +kernel
theorem dX10_renewPact_27 : decode cX10_renewPact 27 = .ok (.return_, 1) := by decide +kernel
theorem dX10_renewPact_28 : decode cX10_renewPact 28 = .ok (.aload_n 0, 1) := by decide +kernel
theorem dX10_renewPact_29 : decode cX10_renewPact 29 = .ok (.invokevirtual 110, 3) := by decide +kernel
theorem dX10_renewPact_32 : decode cX10_renewPact 32 = .ok (.aload_n 0, 1) := by decide +kernel
theorem dX10_renewPact_33 : decode cX10_renewPact 33 = .ok (.getfield 39, 3) := by decide +kernel
theorem dX10_renewPact_36 : decode cX10_renewPact 36 = .ok (.iconst 3, 1) := by decide +kernel
theorem dX10_renewPact_37 : decode cX10_renewPact 37 = .ok (.invokevirtual 101, 3) := by decide +kernel
theorem dX10_renewPact_40 : decode cX10_renewPact 40 = .ok (.ifCond .eq 7, 3) := by decide +kernel
theorem dX10_renewPact_43 : decode cX10_renewPact 43 = .ok (.iconst 0, 1) := by decide +kernel
theorem dX10_renewPact_44 : decode cX10_renewPact 44 = .ok (.goto 18, 3) := by decide +kernel
theorem dX10_renewPact_47 : decode cX10_renewPact 47 = .ok (.aload_n 0, 1) := by decide +kernel
theorem dX10_renewPact_48 : decode cX10_renewPact 48 = .ok (.getfield 52, 3) := by decide +kernel
theorem dX10_renewPact_51 : decode cX10_renewPact 51 = .ok (.aload_n 0, 1) := by decide +kernel
theorem dX10_renewPact_52 : decode cX10_renewPact 52 = .ok (.getfield 87, 3) := by decide +kernel
theorem dX10_renewPact_55 : decode cX10_renewPact 55 = .ok (.getfield 169, 3) := by decide +kernel
theorem dX10_renewPact_58 : decode cX10_renewPact 58 = .ok (.iconst 0, 1) := by decide +kernel
theorem dX10_renewPact_59 : decode cX10_renewPact 59 = .ok (.invokevirtual 122, 3) := by decide +kernel
theorem dX10_renewPact_62 : decode cX10_renewPact 62 = .ok (.istore_n 1, 1) := by decide +kernel
theorem dX10_renewPact_63 : decode cX10_renewPact 63 = .ok (.iload_n 1, 1) := by decide +kernel
theorem dX10_renewPact_64 : decode cX10_renewPact 64 = .ok (.ifCond .eq 9, 3) := by decide +kernel
theorem dX10_renewPact_67 : decode cX10_renewPact 67 = .ok (.aload_n 0, 1) := by decide +kernel
theorem dX10_renewPact_68 : decode cX10_renewPact 68 = .ok (.aconst_null, 1) := by decide +kernel
theorem dX10_renewPact_69 : decode cX10_renewPact 69 = .ok (.putfield 87, 3) := by decide +kernel
theorem dX10_renewPact_72 : decode cX10_renewPact 72 = .ok (.return_, 1) := by decide +kernel
theorem dX10_renewPact_73 : decode cX10_renewPact 73 = .ok (.aload_n 0, 1) := by decide +kernel
theorem dX10_renewPact_74 : decode cX10_renewPact 74 = .ok (.getfield 52, 3) := by decide +kernel
theorem dX10_renewPact_77 : decode cX10_renewPact 77 = .ok (.aload_n 0, 1) := by decide +kernel
theorem dX10_renewPact_78 : decode cX10_renewPact 78 = .ok (.getfield 39, 3) := by decide +kernel
theorem dX10_renewPact_81 : decode cX10_renewPact 81 = .ok (.iconst 1, 1) := by decide +kernel
theorem dX10_renewPact_82 : decode cX10_renewPact 82 = .ok (.invokevirtual 101, 3) := by decide +kernel
theorem dX10_renewPact_85 : decode cX10_renewPact 85 = .ok (.ifCond .eq 7, 3) := by decide +kernel
theorem dX10_renewPact_88 : decode cX10_renewPact 88 = .ok (.aconst_null, 1) := by decide +kernel
theorem dX10_renewPact_89 : decode cX10_renewPact 89 = .ok (.goto 10, 3) := by decide +kernel
theorem dX10_renewPact_92 : decode cX10_renewPact 92 = .ok (.aload_n 0, 1) := by decide +kernel
theorem dX10_renewPact_93 : decode cX10_renewPact 93 = .ok (.getfield 87, 3) := by decide +kernel
theorem dX10_renewPact_96 : decode cX10_renewPact 96 = .ok (.getfield 172, 3) := by decide +kernel
theorem dX10_renewPact_99 : decode cX10_renewPact 99 = .ok (.sipush 9999, 3) := by decide +kernel
theorem dX10_renewPact_102 : decode cX10_renewPact 102 = .ok (.invokevirtual 122, 3) := by decide +kernel
theorem dX10_renewPact_105 : decode cX10_renewPact 105 = .ok (.istore_n 2, 1) := by decide +kernel
theorem dX10_renewPact_106 : decode cX10_renewPact 106 = .ok (.aload_n 0, 1) := by decide +kernel
theorem dX10_renewPact_107 : decode cX10_renewPact 107 = .ok (.aload_n 0, 1) := by decide +kernel
theorem dX10_renewPact_108 : decode cX10_renewPact 108 = .ok (.getfield 46, 3) := by decide +kernel
theorem dX10_renewPact_111 : decode cX10_renewPact 111 = .ok (.iconst (-1), 1) := by decide +kernel
theorem dX10_renewPact_112 : decode cX10_renewPact 112 = .ok (.if_icmp .eq 10, 3) := by decide +kernel
theorem dX10_renewPact_115 : decode cX10_renewPact 115 = .ok (.aload_n 0, 1) := by decide +kernel
theorem dX10_renewPact_116 : decode cX10_renewPact 116 = .ok (.getfield 46, 3) := by decide +kernel
theorem dX10_renewPact_119 : decode cX10_renewPact 119 = .ok (.goto 7, 3) := by decide +kernel
theorem dX10_renewPact_122 : decode cX10_renewPact 122 = .ok (.iload_n 2, 1) := by decide +kernel
theorem dX10_renewPact_123 : decode cX10_renewPact 123 = .ok (.invokestatic 126, 3) := by decide +kernel
theorem dX10_renewPact_126 : decode cX10_renewPact 126 = .ok (.putfield 94, 3) := by decide +kernel
theorem dX10_renewPact_129 : decode cX10_renewPact 129 = .ok (.return_, 1) := by decide +kernel
theorem dX10_tellFacts_0 : decode cX10_tellFacts 0 = .ok (.iconst 0, 1) := by decide +kernel
theorem dX10_tellFacts_1 : decode cX10_tellFacts 1 = .ok (.istore_n 1, 1) := by decide +kernel
theorem dX10_tellFacts_2 : decode cX10_tellFacts 2 = .ok (.iconst 0, 1) := by decide +kernel
theorem dX10_tellFacts_3 : decode cX10_tellFacts 3 = .ok (.istore_n 2, 1) := by decide +kernel
theorem dX10_tellFacts_4 : decode cX10_tellFacts 4 = .ok (.iload_n 2, 1) := by decide +kernel
theorem dX10_tellFacts_5 : decode cX10_tellFacts 5 = .ok (.aload_n 0, 1) := by decide +kernel
theorem dX10_tellFacts_6 : decode cX10_tellFacts 6 = .ok (.getfield 72, 3) := by decide +kernel
theorem dX10_tellFacts_9 : decode cX10_tellFacts 9 = .ok (.if_icmp .ge 29, 3) := by decide +kernel
theorem dX10_tellFacts_12 : decode cX10_tellFacts 12 = .ok (.iload_n 1, 1) := by decide +kernel
theorem dX10_tellFacts_13 : decode cX10_tellFacts 13 = .ok (.aload_n 0, 1) := by decide +kernel
theorem dX10_tellFacts_14 : decode cX10_tellFacts 14 = .ok (.getfield 19, 3) := by decide +kernel
theorem dX10_tellFacts_17 : decode cX10_tellFacts 17 = .ok (.iload_n 2, 1) := by decide +kernel
theorem dX10_tellFacts_18 : decode cX10_tellFacts 18 = .ok (.aaload, 1) := by decide +kernel
theorem dX10_tellFacts_19 : decode cX10_tellFacts 19 = .ok (.getfield 174, 3) := by decide +kernel
theorem dX10_tellFacts_22 : decode cX10_tellFacts 22 = .ok (.ifCond .ne 7, 3) := by decide +kernel
theorem dX10_tellFacts_25 : decode cX10_tellFacts 25 = .ok (.iconst 1, 1) := by decide +kernel
theorem dX10_tellFacts_26 : decode cX10_tellFacts 26 = .ok (.goto 4, 3) := by decide +kernel
theorem dX10_tellFacts_29 : decode cX10_tellFacts 29 = .ok (.iconst 0, 1) := by decide +kernel
theorem dX10_tellFacts_30 : decode cX10_tellFacts 30 = .ok (.iadd, 1) := by decide +kernel
theorem dX10_tellFacts_31 : decode cX10_tellFacts 31 = .ok (.istore_n 1, 1) := by decide +kernel
theorem dX10_tellFacts_32 : decode cX10_tellFacts 32 = .ok (.iinc 2 1, 3) := by decide +kernel
theorem dX10_tellFacts_35 : decode cX10_tellFacts 35 = .ok (.goto (-31), 3) := by decide +kernel
theorem dX10_tellFacts_38 : decode cX10_tellFacts 38 = .ok (.aload_n 0, 1) := by decide +kernel
theorem dX10_tellFacts_39 : decode cX10_tellFacts 39 = .ok (.getfield 52, 3) := by decide +kernel
theorem dX10_tellFacts_42 : decode cX10_tellFacts 42 = .ok (.invokevirtual 177, 3) := by decide +kernel
theorem dX10_tellFacts_45 : decode cX10_tellFacts 45 = .ok (.aload_n 0, 1) := by decide +kernel
theorem dX10_tellFacts_46 : decode cX10_tellFacts 46 = .ok (.getfield 52, 3) := by decide +kernel
theorem dX10_tellFacts_49 : decode cX10_tellFacts 49 = .ok (.bipush 20, 2) := by decide +kernel
theorem dX10_tellFacts_51 : decode cX10_tellFacts 51 = .ok (.aload_n 0, 1) := by decide +kernel
theorem dX10_tellFacts_52 : decode cX10_tellFacts 52 = .ok (.getfield 30, 3) := by decide +kernel
theorem dX10_tellFacts_55 : decode cX10_tellFacts 55 = .ok (.iconst 0, 1) := by decide +kernel
theorem dX10_tellFacts_56 : decode cX10_tellFacts 56 = .ok (.invokevirtual 180, 3) := by decide +kernel
theorem dX10_tellFacts_59 : decode cX10_tellFacts 59 = .ok (.invokevirtual 116, 3) := by decide +kernel
theorem dX10_tellFacts_62 : decode cX10_tellFacts 62 = .ok (.aload_n 0, 1) := by decide +kernel
theorem dX10_tellFacts_63 : decode cX10_tellFacts 63 = .ok (.getfield 52, 3) := by decide +kernel
theorem dX10_tellFacts_66 : decode cX10_tellFacts 66 = .ok (.bipush 21, 2) := by decide +kernel
theorem dX10_tellFacts_68 : decode cX10_tellFacts 68 = .ok (.aload_n 0, 1) := by decide +kernel
theorem dX10_tellFacts_69 : decode cX10_tellFacts 69 = .ok (.getfield 30, 3) := by decide +kernel
theorem dX10_tellFacts_72 : decode cX10_tellFacts 72 = .ok (.getfield 183, 3) := by decide +kernel
theorem dX10_tellFacts_75 : decode cX10_tellFacts 75 = .ok (.invokevirtual 116, 3) := by decide +kernel
theorem dX10_tellFacts_78 : decode cX10_tellFacts 78 = .ok (.aload_n 0, 1) := by decide +kernel
theorem dX10_tellFacts_79 : decode cX10_tellFacts 79 = .ok (.getfield 52, 3) := by decide +kernel
theorem dX10_tellFacts_82 : decode cX10_tellFacts 82 = .ok (.bipush 22, 2) := by decide +kernel
theorem dX10_tellFacts_84 : decode cX10_tellFacts 84 = .ok (.aload_n 0, 1) := by decide +kernel
theorem dX10_tellFacts_85 : decode cX10_tellFacts 85 = .ok (.getfield 30, 3) := by decide +kernel
theorem dX10_tellFacts_88 : decode cX10_tellFacts 88 = .ok (.getfield 184, 3) := by decide +kernel
theorem dX10_tellFacts_91 : decode cX10_tellFacts 91 = .ok (.invokevirtual 116, 3) := by decide +kernel
theorem dX10_tellFacts_94 : decode cX10_tellFacts 94 = .ok (.aload_n 0, 1) := by decide +kernel
theorem dX10_tellFacts_95 : decode cX10_tellFacts 95 = .ok (.getfield 52, 3) := by decide +kernel
theorem dX10_tellFacts_98 : decode cX10_tellFacts 98 = .ok (.bipush 23, 2) := by decide +kernel
theorem dX10_tellFacts_100 : decode cX10_tellFacts 100 = .ok (.iload_n 1, 1) := by decide +kernel
theorem dX10_tellFacts_101 : decode cX10_tellFacts 101 = .ok (.invokevirtual 116, 3) := by decide +kernel
theorem dX10_tellFacts_104 : decode cX10_tellFacts 104 = .ok (.aload_n 0, 1) := by decide +kernel
theorem dX10_tellFacts_105 : decode cX10_tellFacts 105 = .ok (.getfield 52, 3) := by decide +kernel
theorem dX10_tellFacts_108 : decode cX10_tellFacts 108 = .ok (.bipush 24, 2) := by decide +kernel
theorem dX10_tellFacts_110 : decode cX10_tellFacts 110 = .ok (.aload_n 0, 1) := by decide +kernel
theorem dX10_tellFacts_111 : decode cX10_tellFacts 111 = .ok (.getfield 30, 3) := by decide +kernel
theorem dX10_tellFacts_114 : decode cX10_tellFacts 114 = .ok (.invokevirtual 187, 3) := by decide +kernel
theorem dX10_tellFacts_117 : decode cX10_tellFacts 117 = .ok (.invokevirtual 116, 3) := by decide +kernel
theorem dX10_tellFacts_120 : decode cX10_tellFacts 120 = .ok (.aload_n 0, 1) := by decide +kernel
theorem dX10_tellFacts_121 : decode cX10_tellFacts 121 = .ok (.getfield 52, 3) := by decide +kernel
theorem dX10_tellFacts_124 : decode cX10_tellFacts 124 = .ok (.bipush 25, 2) := by decide +kernel
theorem dX10_tellFacts_126 : decode cX10_tellFacts 126 = .ok (.aload_n 0, 1) := by decide +kernel
theorem dX10_tellFacts_127 : decode cX10_tellFacts 127 = .ok (.getfield 62, 3) := by decide +kernel
theorem dX10_tellFacts_130 : decode cX10_tellFacts 130 = .ok (.bipush 30, 2) := by decide +kernel
theorem dX10_tellFacts_132 : decode cX10_tellFacts 132 = .ok (.idiv, 1) := by decide +kernel
theorem dX10_tellFacts_133 : decode cX10_tellFacts 133 = .ok (.invokevirtual 116, 3) := by decide +kernel
theorem dX10_tellFacts_136 : decode cX10_tellFacts 136 = .ok (.aload_n 0, 1) := by decide +kernel
theorem dX10_tellFacts_137 : decode cX10_tellFacts 137 = .ok (.getfield 52, 3) := by decide +kernel
theorem dX10_tellFacts_140 : decode cX10_tellFacts 140 = .ok (.bipush 26, 2) := by decide +kernel
theorem dX10_tellFacts_142 : decode cX10_tellFacts 142 = .ok (.aload_n 0, 1) := by decide +kernel
theorem dX10_tellFacts_143 : decode cX10_tellFacts 143 = .ok (.invokevirtual 190, 3) := by decide +kernel
theorem dX10_tellFacts_146 : decode cX10_tellFacts 146 = .ok (.invokestatic 193, 3) := by decide +kernel
theorem dX10_tellFacts_149 : decode cX10_tellFacts 149 = .ok (.invokevirtual 116, 3) := by decide +kernel
theorem dX10_tellFacts_152 : decode cX10_tellFacts 152 = .ok (.return_, 1) := by decide +kernel
theorem dX10_limited_0 : decode cX10_limited 0 = .ok (.iconst 0, 1) := by decide +kernel
theorem dX10_limited_1 : decode cX10_limited 1 = .ok (.sipush 9999, 3) := by decide +kernel
theorem dX10_limited_4 : decode cX10_limited 4 = .ok (.iload_n 0, 1) := by decide +kernel
theorem dX10_limited_5 : decode cX10_limited 5 = .ok (.invokestatic 150, 3) := by decide +kernel
theorem dX10_limited_8 : decode cX10_limited 8 = .ok (.invokestatic 198, 3) := by decide +kernel
theorem dX10_limited_11 : decode cX10_limited 11 = .ok (.ireturn, 1) := by decide +kernel
theorem dX10_weighOwners_0 : decode cX10_weighOwners 0 = .ok (.aload_n 0, 1) := by decide +kernel
theorem dX10_weighOwners_1 : decode cX10_weighOwners 1 = .ok (.getfield 39, 3) := by decide +kernel
theorem dX10_weighOwners_4 : decode cX10_weighOwners 4 = .ok (.iconst 0, 1) := by decide +kernel
theorem dX10_weighOwners_5 : decode cX10_weighOwners 5 = .ok (.invokevirtual 101, 3) := by decide +kernel
theorem dX10_weighOwners_8 : decode cX10_weighOwners 8 = .ok (.ifCond .eq 7, 3) := by decide +kernel
theorem dX10_weighOwners_11 : decode cX10_weighOwners 11 = .ok (.aconst_null, 1) := by decide +kernel
theorem dX10_weighOwners_12 : decode cX10_weighOwners 12 = .ok (.goto 10, 3) := by decide +kernel
theorem dX10_weighOwners_15 : decode cX10_weighOwners 15 = .ok (.aload_n 0, 1) := by decide +kernel
theorem dX10_weighOwners_16 : decode cX10_weighOwners 16 = .ok (.getfield 87, 3) := by decide +kernel
theorem dX10_weighOwners_19 : decode cX10_weighOwners 19 = .ok (.getfield 201, 3) := by decide +kernel
theorem dX10_weighOwners_22 : decode cX10_weighOwners 22 = .ok (.astore_n 1, 1) := by decide +kernel
theorem dX10_weighOwners_23 : decode cX10_weighOwners 23 = .ok (.iconst 0, 1) := by decide +kernel
theorem dX10_weighOwners_24 : decode cX10_weighOwners 24 = .ok (.istore_n 2, 1) := by decide +kernel
theorem dX10_weighOwners_25 : decode cX10_weighOwners 25 = .ok (.iconst 0, 1) := by decide +kernel
theorem dX10_weighOwners_26 : decode cX10_weighOwners 26 = .ok (.istore_n 3, 1) := by decide +kernel
theorem dX10_weighOwners_27 : decode cX10_weighOwners 27 = .ok (.iload_n 3, 1) := by decide +kernel
theorem dX10_weighOwners_28 : decode cX10_weighOwners 28 = .ok (.aload_n 0, 1) := by decide +kernel
theorem dX10_weighOwners_29 : decode cX10_weighOwners 29 = .ok (.getfield 65, 3) := by decide +kernel
theorem dX10_weighOwners_32 : decode cX10_weighOwners 32 = .ok (.if_icmp .ge 55, 3) := by decide +kernel
theorem dX10_weighOwners_35 : decode cX10_weighOwners 35 = .ok (.aload_n 0, 1) := by decide +kernel
theorem dX10_weighOwners_36 : decode cX10_weighOwners 36 = .ok (.getfield 52, 3) := by decide +kernel
theorem dX10_weighOwners_39 : decode cX10_weighOwners 39 = .ok (.aload_n 0, 1) := by decide +kernel
theorem dX10_weighOwners_40 : decode cX10_weighOwners 40 = .ok (.getfield 11, 3) := by decide +kernel
theorem dX10_weighOwners_43 : decode cX10_weighOwners 43 = .ok (.iload_n 3, 1) := by decide +kernel
theorem dX10_weighOwners_44 : decode cX10_weighOwners 44 = .ok (.aaload, 1) := by decide +kernel
theorem dX10_weighOwners_45 : decode cX10_weighOwners 45 = .ok (.invokevirtual 113, 3) := by decide +kernel
theorem dX10_weighOwners_48 : decode cX10_weighOwners 48 = .ok (.aload_n 0, 1) := by decide +kernel
theorem dX10_weighOwners_49 : decode cX10_weighOwners 49 = .ok (.getfield 11, 3) := by decide +kernel
theorem dX10_weighOwners_52 : decode cX10_weighOwners 52 = .ok (.iload_n 3, 1) := by decide +kernel
theorem dX10_weighOwners_53 : decode cX10_weighOwners 53 = .ok (.aaload, 1) := by decide +kernel
theorem dX10_weighOwners_54 : decode cX10_weighOwners 54 = .ok (.aload_n 0, 1) := by decide +kernel
theorem dX10_weighOwners_55 : decode cX10_weighOwners 55 = .ok (.getfield 52, 3) := by decide +kernel
theorem dX10_weighOwners_58 : decode cX10_weighOwners 58 = .ok (.aload_n 1, 1) := by decide +kernel
theorem dX10_weighOwners_59 : decode cX10_weighOwners 59 = .ok (.iconst 1, 1) := by decide +kernel
theorem dX10_weighOwners_60 : decode cX10_weighOwners 60 = .ok (.invokevirtual 122, 3) := by decide +kernel
theorem dX10_weighOwners_63 : decode cX10_weighOwners 63 = .ok (.invokestatic 126, 3) := by decide +kernel
theorem dX10_weighOwners_66 : decode cX10_weighOwners 66 = .ok (.putfield 204, 3) := by decide +kernel
theorem dX10_weighOwners_69 : decode cX10_weighOwners 69 = .ok (.iload_n 2, 1) := by decide +kernel
theorem dX10_weighOwners_70 : decode cX10_weighOwners 70 = .ok (.aload_n 0, 1) := by decide +kernel
theorem dX10_weighOwners_71 : decode cX10_weighOwners 71 = .ok (.getfield 11, 3) := by decide +kernel
theorem dX10_weighOwners_74 : decode cX10_weighOwners 74 = .ok (.iload_n 3, 1) := by decide +kernel
theorem dX10_weighOwners_75 : decode cX10_weighOwners 75 = .ok (.aaload, 1) := by decide +kernel
theorem dX10_weighOwners_76 : decode cX10_weighOwners 76 = .ok (.getfield 204, 3) := by decide +kernel
theorem dX10_weighOwners_79 : decode cX10_weighOwners 79 = .ok (.iadd, 1) := by decide +kernel
theorem dX10_weighOwners_80 : decode cX10_weighOwners 80 = .ok (.istore_n 2, 1) := by decide +kernel
theorem dX10_weighOwners_81 : decode cX10_weighOwners 81 = .ok (.iinc 3 1, 3) := by decide +kernel
theorem dX10_weighOwners_84 : decode cX10_weighOwners 84 = .ok (.goto (-57), 3) := by decide +kernel
theorem dX10_weighOwners_87 : decode cX10_weighOwners 87 = .ok (.iload_n 2, 1) := by decide +kernel
theorem dX10_weighOwners_88 : decode cX10_weighOwners 88 = .ok (.ireturn, 1) := by decide +kernel
theorem dX10_divideIssue_0 : decode cX10_divideIssue 0 = .ok (.iload_n 1, 1) := by decide +kernel
theorem dX10_divideIssue_1 : decode cX10_divideIssue 1 = .ok (.ifCond .ne 30, 3) := by decide +kernel
theorem dX10_divideIssue_4 : decode cX10_divideIssue 4 = .ok (.iconst 0, 1) := by decide +kernel
theorem dX10_divideIssue_5 : decode cX10_divideIssue 5 = .ok (.istore_n 2, 1) := by decide +kernel
theorem dX10_divideIssue_6 : decode cX10_divideIssue 6 = .ok (.iload_n 2, 1) := by decide +kernel
theorem dX10_divideIssue_7 : decode cX10_divideIssue 7 = .ok (.aload_n 0, 1) := by decide +kernel
theorem dX10_divideIssue_8 : decode cX10_divideIssue 8 = .ok (.getfield 65, 3) := by decide +kernel
theorem dX10_divideIssue_11 : decode cX10_divideIssue 11 = .ok (.if_icmp .ge 19, 3) := by decide +kernel
theorem dX10_divideIssue_14 : decode cX10_divideIssue 14 = .ok (.aload_n 0, 1) := by decide +kernel
theorem dX10_divideIssue_15 : decode cX10_divideIssue 15 = .ok (.getfield 11, 3) := by decide +kernel
theorem dX10_divideIssue_18 : decode cX10_divideIssue 18 = .ok (.iload_n 2, 1) := by decide +kernel
theorem dX10_divideIssue_19 : decode cX10_divideIssue 19 = .ok (.aaload, 1) := by decide +kernel
theorem dX10_divideIssue_20 : decode cX10_divideIssue 20 = .ok (.iconst 0, 1) := by decide +kernel
theorem dX10_divideIssue_21 : decode cX10_divideIssue 21 = .ok (.putfield 206, 3) := by decide +kernel
theorem dX10_divideIssue_24 : decode cX10_divideIssue 24 = .ok (.iinc 2 1, 3) := by decide +kernel
theorem dX10_divideIssue_27 : decode cX10_divideIssue 27 = .ok (.goto (-21), 3) := by decide +kernel
theorem dX10_divideIssue_30 : decode cX10_divideIssue 30 = .ok (.return_, 1) := by decide +kernel
theorem dX10_divideIssue_31 : decode cX10_divideIssue 31 = .ok (.aload_n 0, 1) := by decide +kernel
theorem dX10_divideIssue_32 : decode cX10_divideIssue 32 = .ok (.getfield 39, 3) := by decide +kernel
theorem dX10_divideIssue_35 : decode cX10_divideIssue 35 = .ok (.iconst 4, 1) := by decide +kernel
theorem dX10_divideIssue_36 : decode cX10_divideIssue 36 = .ok (.invokevirtual 101, 3) := by decide +kernel
theorem dX10_divideIssue_39 : decode cX10_divideIssue 39 = .ok (.ifCond .eq 7, 3) := by decide +kernel
theorem dX10_divideIssue_42 : decode cX10_divideIssue 42 = .ok (.iconst (-1), 1) := by decide +kernel
theorem dX10_divideIssue_43 : decode cX10_divideIssue 43 = .ok (.goto 10, 3) := by decide +kernel
theorem dX10_divideIssue_46 : decode cX10_divideIssue 46 = .ok (.aload_n 0, 1) := by decide +kernel
theorem dX10_divideIssue_47 : decode cX10_divideIssue 47 = .ok (.getfield 87, 3) := by decide +kernel
theorem dX10_divideIssue_50 : decode cX10_divideIssue 50 = .ok (.getfield 209, 3) := by decide +kernel
theorem dX10_divideIssue_53 : decode cX10_divideIssue 53 = .ok (.istore_n 2, 1) := by decide +kernel
theorem dX10_divideIssue_54 : decode cX10_divideIssue 54 = .ok (.aload_n 0, 1) := by decide +kernel
theorem dX10_divideIssue_55 : decode cX10_divideIssue 55 = .ok (.getfield 94, 3) := by decide +kernel
theorem dX10_divideIssue_58 : decode cX10_divideIssue 58 = .ok (.istore_n 3, 1) := by decide +kernel
theorem dX10_divideIssue_59 : decode cX10_divideIssue 59 = .ok (.iconst 0, 1) := by decide +kernel
theorem dX10_divideIssue_60 : decode cX10_divideIssue 60 = .ok (.istore 4, 2) := by decide +kernel
theorem dX10_divideIssue_62 : decode cX10_divideIssue 62 = .ok (.iload 4, 2) := by decide +kernel
theorem dX10_divideIssue_64 : decode cX10_divideIssue 64 = .ok (.aload_n 0, 1) := by decide +kernel
theorem dX10_divideIssue_65 : decode cX10_divideIssue 65 = .ok (.getfield 65, 3) := by decide +kernel
theorem dX10_divideIssue_68 : decode cX10_divideIssue 68 = .ok (.if_icmp .ge 78, 3) := by decide +kernel
theorem dX10_divideIssue_71 : decode cX10_divideIssue 71 = .ok (.aload_n 0, 1) := by decide +kernel
theorem dX10_divideIssue_72 : decode cX10_divideIssue 72 = .ok (.getfield 11, 3) := by decide +kernel
theorem dX10_divideIssue_75 : decode cX10_divideIssue 75 = .ok (.iload 4, 2) := by decide +kernel
theorem dX10_divideIssue_77 : decode cX10_divideIssue 77 = .ok (.aaload, 1) := by decide +kernel
theorem dX10_divideIssue_78 : decode cX10_divideIssue 78 = .ok (.astore 5, 2) := by decide +kernel
theorem dX10_divideIssue_80 : decode cX10_divideIssue 80 = .ok (.aload 5, 2) := by decide +kernel
theorem dX10_divideIssue_82 : decode cX10_divideIssue 82 = .ok (.aload_n 0, 1) := by decide +kernel
theorem dX10_divideIssue_83 : decode cX10_divideIssue 83 = .ok (.getfield 94, 3) := by decide +kernel
theorem dX10_divideIssue_86 : decode cX10_divideIssue 86 = .ok (.aload 5, 2) := by decide +kernel
theorem dX10_divideIssue_88 : decode cX10_divideIssue 88 = .ok (.getfield 204, 3) := by decide +kernel
theorem dX10_divideIssue_91 : decode cX10_divideIssue 91 = .ok (.imul, 1) := by decide +kernel
theorem dX10_divideIssue_92 : decode cX10_divideIssue 92 = .ok (.iload_n 1, 1) := by decide +kernel
theorem dX10_divideIssue_93 : decode cX10_divideIssue 93 = .ok (.idiv, 1) := by decide +kernel
theorem dX10_divideIssue_94 : decode cX10_divideIssue 94 = .ok (.putfield 206, 3) := by decide +kernel
theorem dX10_divideIssue_97 : decode cX10_divideIssue 97 = .ok (.aload 5, 2) := by decide +kernel
theorem dX10_divideIssue_99 : decode cX10_divideIssue 99 = .ok (.aload 5, 2) := by decide +kernel
theorem dX10_divideIssue_101 : decode cX10_divideIssue 101 = .ok (.getfield 204, 3) := by decide +kernel
theorem dX10_divideIssue_104 : decode cX10_divideIssue 104 = .ok (.ifCond .ne 7, 3) := by decide +kernel
theorem dX10_divideIssue_107 : decode cX10_divideIssue 107 = .ok (.iconst (-1), 1) := by decide +kernel
theorem dX10_divideIssue_108 : decode cX10_divideIssue 108 = .ok (.goto 21, 3) := by decide +kernel
theorem dX10_divideIssue_111 : decode cX10_divideIssue 111 = .ok (.aload 5, 2) := by decide +kernel
theorem dX10_divideIssue_113 : decode cX10_divideIssue 113 = .ok (.iload_n 2, 1) := by decide +kernel
theorem dX10_divideIssue_114 : decode cX10_divideIssue 114 = .ok (.aload_n 0, 1) := by decide +kernel
theorem dX10_divideIssue_115 : decode cX10_divideIssue 115 = .ok (.getfield 94, 3) := by decide +kernel
theorem dX10_divideIssue_118 : decode cX10_divideIssue 118 = .ok (.aload 5, 2) := by decide +kernel
theorem dX10_divideIssue_120 : decode cX10_divideIssue 120 = .ok (.getfield 204, 3) := by decide +kernel
theorem dX10_divideIssue_123 : decode cX10_divideIssue 123 = .ok (.imul, 1) := by decide +kernel
theorem dX10_divideIssue_124 : decode cX10_divideIssue 124 = .ok (.iload_n 1, 1) := by decide +kernel
theorem dX10_divideIssue_125 : decode cX10_divideIssue 125 = .ok (.irem, 1) := by decide +kernel
theorem dX10_divideIssue_126 : decode cX10_divideIssue 126 = .ok (.invokestatic 212, 3) := by decide +kernel
theorem dX10_divideIssue_129 : decode cX10_divideIssue 129 = .ok (.putfield 216, 3) := by decide +kernel
theorem dX10_divideIssue_132 : decode cX10_divideIssue 132 = .ok (.iload_n 3, 1) := by decide +kernel
theorem dX10_divideIssue_133 : decode cX10_divideIssue 133 = .ok (.aload 5, 2) := by decide +kernel
theorem dX10_divideIssue_135 : decode cX10_divideIssue 135 = .ok (.getfield 206, 3) := by decide +kernel
theorem dX10_divideIssue_138 : decode cX10_divideIssue 138 = .ok (.isub, 1) := by decide +kernel
theorem dX10_divideIssue_139 : decode cX10_divideIssue 139 = .ok (.istore_n 3, 1) := by decide +kernel
theorem dX10_divideIssue_140 : decode cX10_divideIssue 140 = .ok (.iinc 4 1, 3) := by decide +kernel
theorem dX10_divideIssue_143 : decode cX10_divideIssue 143 = .ok (.goto (-81), 3) := by decide +kernel
theorem dX10_divideIssue_146 : decode cX10_divideIssue 146 = .ok (.aload_n 0, 1) := by decide +kernel
theorem dX10_divideIssue_147 : decode cX10_divideIssue 147 = .ok (.iload_n 3, 1) := by decide +kernel
theorem dX10_divideIssue_148 : decode cX10_divideIssue 148 = .ok (.invokevirtual 219, 3) := by decide +kernel
theorem dX10_divideIssue_151 : decode cX10_divideIssue 151 = .ok (.return_, 1) := by decide +kernel
theorem dX10_claimOf_0 : decode cX10_claimOf 0 = .ok (.iload_n 1, 1) := by decide +kernel
theorem dX10_claimOf_1 : decode cX10_claimOf 1 = .ok (.tableswitch 39 12 14 #[37, 27, 32], 27) := by decide +kernel
theorem dX10_claimOf_28 : decode cX10_claimOf 28 = .ok (.aload_n 0, 1) := by decide +kernel
theorem dX10_claimOf_29 : decode cX10_claimOf 29 = .ok (.getfield 222, 3) := by decide +kernel
theorem dX10_claimOf_32 : decode cX10_claimOf 32 = .ok (.ireturn, 1) := by decide +kernel
theorem dX10_claimOf_33 : decode cX10_claimOf 33 = .ok (.aload_n 0, 1) := by decide +kernel
theorem dX10_claimOf_34 : decode cX10_claimOf 34 = .ok (.getfield 225, 3) := by decide +kernel
theorem dX10_claimOf_37 : decode cX10_claimOf 37 = .ok (.ireturn, 1) := by decide +kernel
theorem dX10_claimOf_38 : decode cX10_claimOf 38 = .ok (.iconst 0, 1) := by decide +kernel
theorem dX10_claimOf_39 : decode cX10_claimOf 39 = .ok (.ireturn, 1) := by decide +kernel
theorem dX10_claimOf_40 : decode cX10_claimOf 40 = .ok (.iload_n 2, 1) := by decide +kernel
theorem dX10_claimOf_41 : decode cX10_claimOf 41 = .ok (.ireturn, 1) := by decide +kernel
theorem dX10_giveRests_0 : decode cX10_giveRests 0 = .ok (.iconst 0, 1) := by decide +kernel
theorem dX10_giveRests_1 : decode cX10_giveRests 1 = .ok (.istore_n 2, 1) := by decide +kernel
theorem dX10_giveRests_2 : decode cX10_giveRests 2 = .ok (.iload_n 2, 1) := by decide +kernel
theorem dX10_giveRests_3 : decode cX10_giveRests 3 = .ok (.iload_n 1, 1) := by decide +kernel
theorem dX10_giveRests_4 : decode cX10_giveRests 4 = .ok (.if_icmp .ge 111, 3) := by decide +kernel
theorem dX10_giveRests_7 : decode cX10_giveRests 7 = .ok (.iload_n 2, 1) := by decide +kernel
theorem dX10_giveRests_8 : decode cX10_giveRests 8 = .ok (.aload_n 0, 1) := by decide +kernel
theorem dX10_giveRests_9 : decode cX10_giveRests 9 = .ok (.getfield 65, 3) := by decide +kernel
theorem dX10_giveRests_12 : decode cX10_giveRests 12 = .ok (.if_icmp .ge 103, 3) := by decide +kernel
theorem dX10_giveRests_15 : decode cX10_giveRests 15 = .ok (.iconst (-1), 1) := by decide +kernel
theorem dX10_giveRests_16 : decode cX10_giveRests 16 = .ok (.istore_n 3, 1) := by decide +kernel
theorem dX10_giveRests_17 : decode cX10_giveRests 17 = .ok (.iconst 0, 1) := by decide +kernel
theorem dX10_giveRests_18 : decode cX10_giveRests 18 = .ok (.istore 4, 2) := by decide +kernel
theorem dX10_giveRests_20 : decode cX10_giveRests 20 = .ok (.iload 4, 2) := by decide +kernel
theorem dX10_giveRests_22 : decode cX10_giveRests 22 = .ok (.aload_n 0, 1) := by decide +kernel
theorem dX10_giveRests_23 : decode cX10_giveRests 23 = .ok (.getfield 65, 3) := by decide +kernel
theorem dX10_giveRests_26 : decode cX10_giveRests 26 = .ok (.if_icmp .ge 52, 3) := by decide +kernel
theorem dX10_giveRests_29 : decode cX10_giveRests 29 = .ok (.aload_n 0, 1) := by decide +kernel
theorem dX10_giveRests_30 : decode cX10_giveRests 30 = .ok (.getfield 11, 3) := by decide +kernel
theorem dX10_giveRests_33 : decode cX10_giveRests 33 = .ok (.iload 4, 2) := by decide +kernel
theorem dX10_giveRests_35 : decode cX10_giveRests 35 = .ok (.aaload, 1) := by decide +kernel
theorem dX10_giveRests_36 : decode cX10_giveRests 36 = .ok (.getfield 216, 3) := by decide +kernel
theorem dX10_giveRests_39 : decode cX10_giveRests 39 = .ok (.ifCond .lt 33, 3) := by decide +kernel
theorem dX10_giveRests_42 : decode cX10_giveRests 42 = .ok (.iload_n 3, 1) := by decide +kernel
theorem dX10_giveRests_43 : decode cX10_giveRests 43 = .ok (.iconst (-1), 1) := by decide +kernel
theorem dX10_giveRests_44 : decode cX10_giveRests 44 = .ok (.if_icmp .eq 25, 3) := by decide +kernel
theorem dX10_giveRests_47 : decode cX10_giveRests 47 = .ok (.aload_n 0, 1) := by decide +kernel
theorem dX10_giveRests_48 : decode cX10_giveRests 48 = .ok (.getfield 11, 3) := by decide +kernel
theorem dX10_giveRests_51 : decode cX10_giveRests 51 = .ok (.iload 4, 2) := by decide +kernel
theorem dX10_giveRests_53 : decode cX10_giveRests 53 = .ok (.aaload, 1) := by decide +kernel
theorem dX10_giveRests_54 : decode cX10_giveRests 54 = .ok (.getfield 216, 3) := by decide +kernel
theorem dX10_giveRests_57 : decode cX10_giveRests 57 = .ok (.aload_n 0, 1) := by decide +kernel
theorem dX10_giveRests_58 : decode cX10_giveRests 58 = .ok (.getfield 11, 3) := by decide +kernel
theorem dX10_giveRests_61 : decode cX10_giveRests 61 = .ok (.iload_n 3, 1) := by decide +kernel
theorem dX10_giveRests_62 : decode cX10_giveRests 62 = .ok (.aaload, 1) := by decide +kernel
theorem dX10_giveRests_63 : decode cX10_giveRests 63 = .ok (.getfield 216, 3) := by decide +kernel
theorem dX10_giveRests_66 : decode cX10_giveRests 66 = .ok (.if_icmp .le 6, 3) := by decide +kernel
theorem dX10_giveRests_69 : decode cX10_giveRests 69 = .ok (.iload 4, 2) := by decide +kernel
theorem dX10_giveRests_71 : decode cX10_giveRests 71 = .ok (.istore_n 3, 1) := by decide +kernel
theorem dX10_giveRests_72 : decode cX10_giveRests 72 = .ok (.iinc 4 1, 3) := by decide +kernel
theorem dX10_giveRests_75 : decode cX10_giveRests 75 = .ok (.goto (-55), 3) := by decide +kernel
theorem dX10_giveRests_78 : decode cX10_giveRests 78 = .ok (.iload_n 3, 1) := by decide +kernel
theorem dX10_giveRests_79 : decode cX10_giveRests 79 = .ok (.iconst (-1), 1) := by decide +kernel
theorem dX10_giveRests_80 : decode cX10_giveRests 80 = .ok (.if_icmp .ne 4, 3) := by decide +kernel
theorem dX10_giveRests_83 : decode cX10_giveRests 83 = .ok (.return_, 1) := by decide +kernel
theorem dX10_giveRests_84 : decode cX10_giveRests 84 = .ok (.aload_n 0, 1) := by decide +kernel
theorem dX10_giveRests_85 : decode cX10_giveRests 85 = .ok (.getfield 11, 3) := by decide +kernel
theorem dX10_giveRests_88 : decode cX10_giveRests 88 = .ok (.iload_n 3, 1) := by decide +kernel
theorem dX10_giveRests_89 : decode cX10_giveRests 89 = .ok (.aaload, 1) := by decide +kernel
theorem dX10_giveRests_90 : decode cX10_giveRests 90 = .ok (.dup, 1) := by decide +kernel
theorem dX10_giveRests_91 : decode cX10_giveRests 91 = .ok (.getfield 206, 3) := by decide +kernel
theorem dX10_giveRests_94 : decode cX10_giveRests 94 = .ok (.iconst 1, 1) := by decide +kernel
theorem dX10_giveRests_95 : decode cX10_giveRests 95 = .ok (.iadd, 1) := by decide +kernel
theorem dX10_giveRests_96 : decode cX10_giveRests 96 = .ok (.putfield 206, 3) := by decide +kernel
theorem dX10_giveRests_99 : decode cX10_giveRests 99 = .ok (.aload_n 0, 1) := by decide +kernel
theorem dX10_giveRests_100 : decode cX10_giveRests 100 = .ok (.getfield 11, 3) := by decide +kernel
theorem dX10_giveRests_103 : decode cX10_giveRests 103 = .ok (.iload_n 3, 1) := by decide +kernel
theorem dX10_giveRests_104 : decode cX10_giveRests 104 = .ok (.aaload, 1) := by decide +kernel
theorem dX10_giveRests_105 : decode cX10_giveRests 105 = .ok (.iconst (-1), 1) := by decide +kernel
theorem dX10_giveRests_106 : decode cX10_giveRests 106 = .ok (.putfield 216, 3) := by decide +kernel
theorem dX10_giveRests_109 : decode cX10_giveRests 109 = .ok (.iinc 2 1, 3) := by decide +kernel
theorem dX10_giveRests_112 : decode cX10_giveRests 112 = .ok (.goto (-110), 3) := by decide +kernel
theorem dX10_giveRests_115 : decode cX10_giveRests 115 = .ok (.return_, 1) := by decide +kernel
theorem dX10_loadShips_0 : decode cX10_loadShips 0 = .ok (.aload_n 0, 1) := by decide +kernel
theorem dX10_loadShips_1 : decode cX10_loadShips 1 = .ok (.invokevirtual 228, 3) := by decide +kernel
theorem dX10_loadShips_4 : decode cX10_loadShips 4 = .ok (.istore_n 1, 1) := by decide +kernel
theorem dX10_loadShips_5 : decode cX10_loadShips 5 = .ok (.iconst 0, 1) := by decide +kernel
theorem dX10_loadShips_6 : decode cX10_loadShips 6 = .ok (.istore_n 2, 1) := by decide +kernel
theorem dX10_loadShips_7 : decode cX10_loadShips 7 = .ok (.iload_n 2, 1) := by decide +kernel
theorem dX10_loadShips_8 : decode cX10_loadShips 8 = .ok (.aload_n 0, 1) := by decide +kernel
theorem dX10_loadShips_9 : decode cX10_loadShips 9 = .ok (.getfield 23, 3) := by decide +kernel
theorem dX10_loadShips_12 : decode cX10_loadShips 12 = .ok (.if_icmp .ge 52, 3) := by decide +kernel
theorem dX10_loadShips_15 : decode cX10_loadShips 15 = .ok (.iconst 0, 1) := by decide +kernel
theorem dX10_loadShips_16 : decode cX10_loadShips 16 = .ok (.istore_n 3, 1) := by decide +kernel
theorem dX10_loadShips_17 : decode cX10_loadShips 17 = .ok (.iconst 0, 1) := by decide +kernel
theorem dX10_loadShips_18 : decode cX10_loadShips 18 = .ok (.istore 4, 2) := by decide +kernel
theorem dX10_loadShips_20 : decode cX10_loadShips 20 = .ok (.iload 4, 2) := by decide +kernel
theorem dX10_loadShips_22 : decode cX10_loadShips 22 = .ok (.iload_n 1, 1) := by decide +kernel
theorem dX10_loadShips_23 : decode cX10_loadShips 23 = .ok (.if_icmp .ge 30, 3) := by decide +kernel
theorem dX10_loadShips_26 : decode cX10_loadShips 26 = .ok (.iload_n 3, 1) := by decide +kernel
theorem dX10_loadShips_27 : decode cX10_loadShips 27 = .ok (.ifCond .ne 26, 3) := by decide +kernel
theorem dX10_loadShips_30 : decode cX10_loadShips 30 = .ok (.aload_n 0, 1) := by decide +kernel
theorem dX10_loadShips_31 : decode cX10_loadShips 31 = .ok (.aload_n 0, 1) := by decide +kernel
theorem dX10_loadShips_32 : decode cX10_loadShips 32 = .ok (.getfield 19, 3) := by decide +kernel
theorem dX10_loadShips_35 : decode cX10_loadShips 35 = .ok (.aload_n 0, 1) := by decide +kernel
theorem dX10_loadShips_36 : decode cX10_loadShips 36 = .ok (.getfield 56, 3) := by decide +kernel
theorem dX10_loadShips_39 : decode cX10_loadShips 39 = .ok (.iload 4, 2) := by decide +kernel
theorem dX10_loadShips_41 : decode cX10_loadShips 41 = .ok (.iaload, 1) := by decide +kernel
theorem dX10_loadShips_42 : decode cX10_loadShips 42 = .ok (.aaload, 1) := by decide +kernel
theorem dX10_loadShips_43 : decode cX10_loadShips 43 = .ok (.invokevirtual 231, 3) := by decide +kernel
theorem dX10_loadShips_46 : decode cX10_loadShips 46 = .ok (.istore_n 3, 1) := by decide +kernel
theorem dX10_loadShips_47 : decode cX10_loadShips 47 = .ok (.iinc 4 1, 3) := by decide +kernel
theorem dX10_loadShips_50 : decode cX10_loadShips 50 = .ok (.goto (-30), 3) := by decide +kernel
theorem dX10_loadShips_53 : decode cX10_loadShips 53 = .ok (.iload_n 3, 1) := by decide +kernel
theorem dX10_loadShips_54 : decode cX10_loadShips 54 = .ok (.ifCond .ne 4, 3) := by decide +kernel
theorem dX10_loadShips_57 : decode cX10_loadShips 57 = .ok (.return_, 1) := by decide +kernel
theorem dX10_loadShips_58 : decode cX10_loadShips 58 = .ok (.iinc 2 1, 3) := by decide +kernel
theorem dX10_loadShips_61 : decode cX10_loadShips 61 = .ok (.goto (-54), 3) := by decide +kernel
theorem dX10_loadShips_64 : decode cX10_loadShips 64 = .ok (.return_, 1) := by decide +kernel
theorem dX10_lineUp_0 : decode cX10_lineUp 0 = .ok (.iconst 0, 1) := by decide +kernel
theorem dX10_lineUp_1 : decode cX10_lineUp 1 = .ok (.istore_n 1, 1) := by decide +kernel
theorem dX10_lineUp_2 : decode cX10_lineUp 2 = .ok (.iconst 0, 1) := by decide +kernel
theorem dX10_lineUp_3 : decode cX10_lineUp 3 = .ok (.istore_n 2, 1) := by decide +kernel
theorem dX10_lineUp_4 : decode cX10_lineUp 4 = .ok (.iload_n 2, 1) := by decide +kernel
theorem dX10_lineUp_5 : decode cX10_lineUp 5 = .ok (.aload_n 0, 1) := by decide +kernel
theorem dX10_lineUp_6 : decode cX10_lineUp 6 = .ok (.getfield 72, 3) := by decide +kernel
theorem dX10_lineUp_9 : decode cX10_lineUp 9 = .ok (.if_icmp .ge 97, 3) := by decide +kernel
theorem dX10_lineUp_12 : decode cX10_lineUp 12 = .ok (.aload_n 0, 1) := by decide +kernel
theorem dX10_lineUp_13 : decode cX10_lineUp 13 = .ok (.getfield 19, 3) := by decide +kernel
theorem dX10_lineUp_16 : decode cX10_lineUp 16 = .ok (.iload_n 2, 1) := by decide +kernel
theorem dX10_lineUp_17 : decode cX10_lineUp 17 = .ok (.aaload, 1) := by decide +kernel
theorem dX10_lineUp_18 : decode cX10_lineUp 18 = .ok (.getfield 174, 3) := by decide +kernel
theorem dX10_lineUp_21 : decode cX10_lineUp 21 = .ok (.ifCond .ne 79, 3) := by decide +kernel
theorem dX10_lineUp_24 : decode cX10_lineUp 24 = .ok (.aload_n 0, 1) := by decide +kernel
theorem dX10_lineUp_25 : decode cX10_lineUp 25 = .ok (.getfield 19, 3) := by decide +kernel
theorem dX10_lineUp_28 : decode cX10_lineUp 28 = .ok (.iload_n 2, 1) := by decide +kernel
theorem dX10_lineUp_29 : decode cX10_lineUp 29 = .ok (.aaload, 1) := by decide +kernel
theorem dX10_lineUp_30 : decode cX10_lineUp 30 = .ok (.invokevirtual 235, 3) := by decide +kernel
theorem dX10_lineUp_33 : decode cX10_lineUp 33 = .ok (.ifCond .eq 67, 3) := by decide +kernel
theorem dX10_lineUp_36 : decode cX10_lineUp 36 = .ok (.iload_n 1, 1) := by decide +kernel
theorem dX10_lineUp_37 : decode cX10_lineUp 37 = .ok (.istore_n 3, 1) := by decide +kernel
theorem dX10_lineUp_38 : decode cX10_lineUp 38 = .ok (.iload_n 3, 1) := by decide +kernel
theorem dX10_lineUp_39 : decode cX10_lineUp 39 = .ok (.ifCond .le 51, 3) := by decide +kernel
theorem dX10_lineUp_42 : decode cX10_lineUp 42 = .ok (.aload_n 0, 1) := by decide +kernel
theorem dX10_lineUp_43 : decode cX10_lineUp 43 = .ok (.getfield 19, 3) := by decide +kernel
theorem dX10_lineUp_46 : decode cX10_lineUp 46 = .ok (.aload_n 0, 1) := by decide +kernel
theorem dX10_lineUp_47 : decode cX10_lineUp 47 = .ok (.getfield 56, 3) := by decide +kernel
theorem dX10_lineUp_50 : decode cX10_lineUp 50 = .ok (.iload_n 3, 1) := by decide +kernel
theorem dX10_lineUp_51 : decode cX10_lineUp 51 = .ok (.iconst 1, 1) := by decide +kernel
theorem dX10_lineUp_52 : decode cX10_lineUp 52 = .ok (.isub, 1) := by decide +kernel
theorem dX10_lineUp_53 : decode cX10_lineUp 53 = .ok (.iaload, 1) := by decide +kernel
theorem dX10_lineUp_54 : decode cX10_lineUp 54 = .ok (.aaload, 1) := by decide +kernel
theorem dX10_lineUp_55 : decode cX10_lineUp 55 = .ok (.getfield 239, 3) := by decide +kernel
theorem dX10_lineUp_58 : decode cX10_lineUp 58 = .ok (.aload_n 0, 1) := by decide +kernel
theorem dX10_lineUp_59 : decode cX10_lineUp 59 = .ok (.getfield 19, 3) := by decide +kernel
theorem dX10_lineUp_62 : decode cX10_lineUp 62 = .ok (.iload_n 2, 1) := by decide +kernel
theorem dX10_lineUp_63 : decode cX10_lineUp 63 = .ok (.aaload, 1) := by decide +kernel
theorem dX10_lineUp_64 : decode cX10_lineUp 64 = .ok (.getfield 239, 3) := by decide +kernel
theorem dX10_lineUp_67 : decode cX10_lineUp 67 = .ok (.if_icmp .le 23, 3) := by decide +kernel
theorem dX10_lineUp_70 : decode cX10_lineUp 70 = .ok (.aload_n 0, 1) := by decide +kernel
theorem dX10_lineUp_71 : decode cX10_lineUp 71 = .ok (.getfield 56, 3) := by decide +kernel
theorem dX10_lineUp_74 : decode cX10_lineUp 74 = .ok (.iload_n 3, 1) := by decide +kernel
theorem dX10_lineUp_75 : decode cX10_lineUp 75 = .ok (.aload_n 0, 1) := by decide +kernel
theorem dX10_lineUp_76 : decode cX10_lineUp 76 = .ok (.getfield 56, 3) := by decide +kernel
theorem dX10_lineUp_79 : decode cX10_lineUp 79 = .ok (.iload_n 3, 1) := by decide +kernel
theorem dX10_lineUp_80 : decode cX10_lineUp 80 = .ok (.iconst 1, 1) := by decide +kernel
theorem dX10_lineUp_81 : decode cX10_lineUp 81 = .ok (.isub, 1) := by decide +kernel
theorem dX10_lineUp_82 : decode cX10_lineUp 82 = .ok (.iaload, 1) := by decide +kernel
theorem dX10_lineUp_83 : decode cX10_lineUp 83 = .ok (.iastore, 1) := by decide +kernel
theorem dX10_lineUp_84 : decode cX10_lineUp 84 = .ok (.iinc 3 (-1), 3) := by decide +kernel
theorem dX10_lineUp_87 : decode cX10_lineUp 87 = .ok (.goto (-49), 3) := by decide +kernel
theorem dX10_lineUp_90 : decode cX10_lineUp 90 = .ok (.aload_n 0, 1) := by decide +kernel
theorem dX10_lineUp_91 : decode cX10_lineUp 91 = .ok (.getfield 56, 3) := by decide +kernel
theorem dX10_lineUp_94 : decode cX10_lineUp 94 = .ok (.iload_n 3, 1) := by decide +kernel
theorem dX10_lineUp_95 : decode cX10_lineUp 95 = .ok (.iload_n 2, 1) := by decide +kernel
theorem dX10_lineUp_96 : decode cX10_lineUp 96 = .ok (.iastore, 1) := by decide +kernel
theorem dX10_lineUp_97 : decode cX10_lineUp 97 = .ok (.iinc 1 1, 3) := by decide +kernel
theorem dX10_lineUp_100 : decode cX10_lineUp 100 = .ok (.iinc 2 1, 3) := by decide +kernel
theorem dX10_lineUp_103 : decode cX10_lineUp 103 = .ok (.goto (-99), 3) := by decide +kernel
theorem dX10_lineUp_106 : decode cX10_lineUp 106 = .ok (.iload_n 1, 1) := by decide +kernel
theorem dX10_lineUp_107 : decode cX10_lineUp 107 = .ok (.ireturn, 1) := by decide +kernel
theorem dX10_loadShip_0 : decode cX10_loadShip 0 = .ok (.aload_n 1, 1) := by decide +kernel
theorem dX10_loadShip_1 : decode cX10_loadShip 1 = .ok (.invokevirtual 235, 3) := by decide +kernel
theorem dX10_loadShip_4 : decode cX10_loadShip 4 = .ok (.ifCond .eq 14, 3) := by decide +kernel
theorem dX10_loadShip_7 : decode cX10_loadShip 7 = .ok (.aload_n 0, 1) := by decide +kernel
theorem dX10_loadShip_8 : decode cX10_loadShip 8 = .ok (.aload_n 1, 1) := by decide +kernel
theorem dX10_loadShip_9 : decode cX10_loadShip 9 = .ok (.getfield 242, 3) := by decide +kernel
theorem dX10_loadShip_12 : decode cX10_loadShip 12 = .ok (.invokevirtual 245, 3) := by decide +kernel
theorem dX10_loadShip_15 : decode cX10_loadShip 15 = .ok (.goto 4, 3) := by decide +kernel
theorem dX10_loadShip_18 : decode cX10_loadShip 18 = .ok (.iconst (-1), 1) := by decide +kernel
theorem dX10_loadShip_19 : decode cX10_loadShip 19 = .ok (.istore_n 2, 1) := by decide +kernel
theorem dX10_loadShip_20 : decode cX10_loadShip 20 = .ok (.iload_n 2, 1) := by decide +kernel
theorem dX10_loadShip_21 : decode cX10_loadShip 21 = .ok (.iconst (-1), 1) := by decide +kernel
theorem dX10_loadShip_22 : decode cX10_loadShip 22 = .ok (.if_icmp .ne 5, 3) := by decide +kernel
theorem dX10_loadShip_25 : decode cX10_loadShip 25 = .ok (.iconst 0, 1) := by decide +kernel
theorem dX10_loadShip_26 : decode cX10_loadShip 26 = .ok (.ireturn, 1) := by decide +kernel
theorem dX10_loadShip_27 : decode cX10_loadShip 27 = .ok (.aload_n 1, 1) := by decide +kernel
theorem dX10_loadShip_28 : decode cX10_loadShip 28 = .ok (.iload_n 2, 1) := by decide +kernel
theorem dX10_loadShip_29 : decode cX10_loadShip 29 = .ok (.invokevirtual 248, 3) := by decide +kernel
theorem dX10_loadShip_32 : decode cX10_loadShip 32 = .ok (.aload_n 0, 1) := by decide +kernel
theorem dX10_loadShip_33 : decode cX10_loadShip 33 = .ok (.getfield 11, 3) := by decide +kernel
theorem dX10_loadShip_36 : decode cX10_loadShip 36 = .ok (.iload_n 2, 1) := by decide +kernel
theorem dX10_loadShip_37 : decode cX10_loadShip 37 = .ok (.aaload, 1) := by decide +kernel
theorem dX10_loadShip_38 : decode cX10_loadShip 38 = .ok (.dup, 1) := by decide +kernel
theorem dX10_loadShip_39 : decode cX10_loadShip 39 = .ok (.getfield 144, 3) := by decide +kernel
theorem dX10_loadShip_42 : decode cX10_loadShip 42 = .ok (.bipush 8, 2) := by decide +kernel
theorem dX10_loadShip_44 : decode cX10_loadShip 44 = .ok (.isub, 1) := by decide +kernel
theorem dX10_loadShip_45 : decode cX10_loadShip 45 = .ok (.putfield 144, 3) := by decide +kernel
theorem dX10_loadShip_48 : decode cX10_loadShip 48 = .ok (.aload_n 0, 1) := by decide +kernel
theorem dX10_loadShip_49 : decode cX10_loadShip 49 = .ok (.getfield 11, 3) := by decide +kernel
theorem dX10_loadShip_52 : decode cX10_loadShip 52 = .ok (.iload_n 2, 1) := by decide +kernel
theorem dX10_loadShip_53 : decode cX10_loadShip 53 = .ok (.aaload, 1) := by decide +kernel
theorem dX10_loadShip_54 : decode cX10_loadShip 54 = .ok (.dup, 1) := by decide +kernel
theorem dX10_loadShip_55 : decode cX10_loadShip 55 = .ok (.getfield 141, 3) := by decide +kernel
theorem dX10_loadShip_58 : decode cX10_loadShip 58 = .ok (.bipush 8, 2) := by decide +kernel
theorem dX10_loadShip_60 : decode cX10_loadShip 60 = .ok (.iadd, 1) := by decide +kernel
theorem dX10_loadShip_61 : decode cX10_loadShip 61 = .ok (.putfield 141, 3) := by decide +kernel
theorem dX10_loadShip_64 : decode cX10_loadShip 64 = .ok (.aload_n 0, 1) := by decide +kernel
theorem dX10_loadShip_65 : decode cX10_loadShip 65 = .ok (.iload_n 2, 1) := by decide +kernel
theorem dX10_loadShip_66 : decode cX10_loadShip 66 = .ok (.iconst 1, 1) := by decide +kernel
theorem dX10_loadShip_67 : decode cX10_loadShip 67 = .ok (.iadd, 1) := by decide +kernel
theorem dX10_loadShip_68 : decode cX10_loadShip 68 = .ok (.aload_n 0, 1) := by decide +kernel
theorem dX10_loadShip_69 : decode cX10_loadShip 69 = .ok (.getfield 65, 3) := by decide +kernel
theorem dX10_loadShip_72 : decode cX10_loadShip 72 = .ok (.if_icmp .ge 9, 3) := by decide +kernel
theorem dX10_loadShip_75 : decode cX10_loadShip 75 = .ok (.iload_n 2, 1) := by decide +kernel
theorem dX10_loadShip_76 : decode cX10_loadShip 76 = .ok (.iconst 1, 1) := by decide +kernel
theorem dX10_loadShip_77 : decode cX10_loadShip 77 = .ok (.iadd, 1) := by decide +kernel
theorem dX10_loadShip_78 : decode cX10_loadShip 78 = .ok (.goto 4, 3) := by decide +kernel
theorem dX10_loadShip_81 : decode cX10_loadShip 81 = .ok (.iconst 0, 1) := by decide +kernel
theorem dX10_loadShip_82 : decode cX10_loadShip 82 = .ok (.putfield 78, 3) := by decide +kernel
theorem dX10_loadShip_85 : decode cX10_loadShip 85 = .ok (.iconst 1, 1) := by decide +kernel
theorem dX10_loadShip_86 : decode cX10_loadShip 86 = .ok (.ireturn, 1) := by decide +kernel
theorem dX10_nextOwnerFor_0 : decode cX10_nextOwnerFor 0 = .ok (.iconst 0, 1) := by decide +kernel
theorem dX10_nextOwnerFor_1 : decode cX10_nextOwnerFor 1 = .ok (.istore_n 2, 1) := by decide +kernel
theorem dX10_nextOwnerFor_2 : decode cX10_nextOwnerFor 2 = .ok (.iload_n 2, 1) := by decide +kernel
theorem dX10_nextOwnerFor_3 : decode cX10_nextOwnerFor 3 = .ok (.aload_n 0, 1) := by decide +kernel
theorem dX10_nextOwnerFor_4 : decode cX10_nextOwnerFor 4 = .ok (.getfield 65, 3) := by decide +kernel
theorem dX10_nextOwnerFor_7 : decode cX10_nextOwnerFor 7 = .ok (.if_icmp .ge 93, 3) := by decide +kernel
theorem dX10_nextOwnerFor_10 : decode cX10_nextOwnerFor 10 = .ok (.aload_n 0, 1) := by decide +kernel
theorem dX10_nextOwnerFor_11 : decode cX10_nextOwnerFor 11 = .ok (.getfield 78, 3) := by decide +kernel
theorem dX10_nextOwnerFor_14 : decode cX10_nextOwnerFor 14 = .ok (.iload_n 2, 1) := by decide +kernel
theorem dX10_nextOwnerFor_15 : decode cX10_nextOwnerFor 15 = .ok (.iadd, 1) := by decide +kernel
theorem dX10_nextOwnerFor_16 : decode cX10_nextOwnerFor 16 = .ok (.aload_n 0, 1) := by decide +kernel
theorem dX10_nextOwnerFor_17 : decode cX10_nextOwnerFor 17 = .ok (.getfield 65, 3) := by decide +kernel
theorem dX10_nextOwnerFor_20 : decode cX10_nextOwnerFor 20 = .ok (.irem, 1) := by decide +kernel
theorem dX10_nextOwnerFor_21 : decode cX10_nextOwnerFor 21 = .ok (.istore_n 3, 1) := by decide +kernel
theorem dX10_nextOwnerFor_22 : decode cX10_nextOwnerFor 22 = .ok (.aload_n 0, 1) := by decide +kernel
theorem dX10_nextOwnerFor_23 : decode cX10_nextOwnerFor 23 = .ok (.getfield 11, 3) := by decide +kernel
theorem dX10_nextOwnerFor_26 : decode cX10_nextOwnerFor 26 = .ok (.iload_n 3, 1) := by decide +kernel
theorem dX10_nextOwnerFor_27 : decode cX10_nextOwnerFor 27 = .ok (.aaload, 1) := by decide +kernel
theorem dX10_nextOwnerFor_28 : decode cX10_nextOwnerFor 28 = .ok (.astore 4, 2) := by decide +kernel
theorem dX10_nextOwnerFor_30 : decode cX10_nextOwnerFor 30 = .ok (.aload_n 0, 1) := by decide +kernel
theorem dX10_nextOwnerFor_31 : decode cX10_nextOwnerFor 31 = .ok (.getfield 87, 3) := by decide +kernel
theorem dX10_nextOwnerFor_34 : decode cX10_nextOwnerFor 34 = .ok (.ifnull 31, 3) := by decide +kernel
theorem dX10_nextOwnerFor_37 : decode cX10_nextOwnerFor 37 = .ok (.aload 4, 2) := by decide +kernel
theorem dX10_nextOwnerFor_39 : decode cX10_nextOwnerFor 39 = .ok (.getfield 97, 3) := by decide +kernel
theorem dX10_nextOwnerFor_42 : decode cX10_nextOwnerFor 42 = .ok (.ifCond .ne 23, 3) := by decide +kernel
theorem dX10_nextOwnerFor_45 : decode cX10_nextOwnerFor 45 = .ok (.aload 4, 2) := by decide +kernel
theorem dX10_nextOwnerFor_47 : decode cX10_nextOwnerFor 47 = .ok (.getfield 141, 3) := by decide +kernel
theorem dX10_nextOwnerFor_50 : decode cX10_nextOwnerFor 50 = .ok (.bipush 8, 2) := by decide +kernel
theorem dX10_nextOwnerFor_52 : decode cX10_nextOwnerFor 52 = .ok (.iadd, 1) := by decide +kernel
theorem dX10_nextOwnerFor_53 : decode cX10_nextOwnerFor 53 = .ok (.aload 4, 2) := by decide +kernel
theorem dX10_nextOwnerFor_55 : decode cX10_nextOwnerFor 55 = .ok (.getfield 206, 3) := by decide +kernel
theorem dX10_nextOwnerFor_58 : decode cX10_nextOwnerFor 58 = .ok (.if_icmp .le 7, 3) := by decide +kernel
theorem dX10_nextOwnerFor_61 : decode cX10_nextOwnerFor 61 = .ok (.iconst 1, 1) := by decide +kernel
theorem dX10_nextOwnerFor_62 : decode cX10_nextOwnerFor 62 = .ok (.goto 4, 3) := by decide +kernel
theorem dX10_nextOwnerFor_65 : decode cX10_nextOwnerFor 65 = .ok (.iconst 0, 1) := by decide +kernel
theorem dX10_nextOwnerFor_66 : decode cX10_nextOwnerFor 66 = .ok (.istore 5, 2) := by decide +kernel
theorem dX10_nextOwnerFor_68 : decode cX10_nextOwnerFor 68 = .ok (.aload 4, 2) := by decide +kernel
theorem dX10_nextOwnerFor_70 : decode cX10_nextOwnerFor 70 = .ok (.getfield 225, 3) := by decide +kernel
theorem dX10_nextOwnerFor_73 : decode cX10_nextOwnerFor 73 = .ok (.iload_n 1, 1) := by decide +kernel
theorem dX10_nextOwnerFor_74 : decode cX10_nextOwnerFor 74 = .ok (.if_icmp .lt 20, 3) := by decide +kernel
theorem dX10_nextOwnerFor_77 : decode cX10_nextOwnerFor 77 = .ok (.aload 4, 2) := by decide +kernel
theorem dX10_nextOwnerFor_79 : decode cX10_nextOwnerFor 79 = .ok (.getfield 144, 3) := by decide +kernel
theorem dX10_nextOwnerFor_82 : decode cX10_nextOwnerFor 82 = .ok (.bipush 8, 2) := by decide +kernel
theorem dX10_nextOwnerFor_84 : decode cX10_nextOwnerFor 84 = .ok (.if_icmp .lt 10, 3) := by decide +kernel
theorem dX10_nextOwnerFor_87 : decode cX10_nextOwnerFor 87 = .ok (.iload 5, 2) := by decide +kernel
theorem dX10_nextOwnerFor_89 : decode cX10_nextOwnerFor 89 = .ok (.ifCond .ne 5, 3) := by decide +kernel
theorem dX10_nextOwnerFor_92 : decode cX10_nextOwnerFor 92 = .ok (.iload_n 3, 1) := by decide +kernel
theorem dX10_nextOwnerFor_93 : decode cX10_nextOwnerFor 93 = .ok (.ireturn, 1) := by decide +kernel
theorem dX10_nextOwnerFor_94 : decode cX10_nextOwnerFor 94 = .ok (.iinc 2 1, 3) := by decide +kernel
theorem dX10_nextOwnerFor_97 : decode cX10_nextOwnerFor 97 = .ok (.goto (-95), 3) := by decide +kernel
theorem dX10_nextOwnerFor_100 : decode cX10_nextOwnerFor 100 = .ok (.iconst (-1), 1) := by decide +kernel
theorem dX10_nextOwnerFor_101 : decode cX10_nextOwnerFor 101 = .ok (.ireturn, 1) := by decide +kernel
theorem dX10_moveShips_0 : decode cX10_moveShips 0 = .ok (.iconst 0, 1) := by decide +kernel
theorem dX10_moveShips_1 : decode cX10_moveShips 1 = .ok (.istore_n 2, 1) := by decide +kernel
theorem dX10_moveShips_2 : decode cX10_moveShips 2 = .ok (.iload_n 2, 1) := by decide +kernel
theorem dX10_moveShips_3 : decode cX10_moveShips 3 = .ok (.aload_n 0, 1) := by decide +kernel
theorem dX10_moveShips_4 : decode cX10_moveShips 4 = .ok (.getfield 72, 3) := by decide +kernel
theorem dX10_moveShips_7 : decode cX10_moveShips 7 = .ok (.if_icmp .ge 38, 3) := by decide +kernel
theorem dX10_moveShips_10 : decode cX10_moveShips 10 = .ok (.aload_n 0, 1) := by decide +kernel
theorem dX10_moveShips_11 : decode cX10_moveShips 11 = .ok (.getfield 19, 3) := by decide +kernel
theorem dX10_moveShips_14 : decode cX10_moveShips 14 = .ok (.iload_n 2, 1) := by decide +kernel
theorem dX10_moveShips_15 : decode cX10_moveShips 15 = .ok (.aaload, 1) := by decide +kernel
theorem dX10_moveShips_16 : decode cX10_moveShips 16 = .ok (.iload_n 1, 1) := by decide +kernel
theorem dX10_moveShips_17 : decode cX10_moveShips 17 = .ok (.aload_n 0, 1) := by decide +kernel
theorem dX10_moveShips_18 : decode cX10_moveShips 18 = .ok (.getfield 62, 3) := by decide +kernel
theorem dX10_moveShips_21 : decode cX10_moveShips 21 = .ok (.iconst 1, 1) := by decide +kernel
theorem dX10_moveShips_22 : decode cX10_moveShips 22 = .ok (.iadd, 1) := by decide +kernel
theorem dX10_moveShips_23 : decode cX10_moveShips 23 = .ok (.invokevirtual 251, 3) := by decide +kernel
theorem dX10_moveShips_26 : decode cX10_moveShips 26 = .ok (.ifCond .eq 13, 3) := by decide +kernel
theorem dX10_moveShips_29 : decode cX10_moveShips 29 = .ok (.aload_n 0, 1) := by decide +kernel
theorem dX10_moveShips_30 : decode cX10_moveShips 30 = .ok (.aload_n 0, 1) := by decide +kernel
theorem dX10_moveShips_31 : decode cX10_moveShips 31 = .ok (.getfield 19, 3) := by decide +kernel
theorem dX10_moveShips_34 : decode cX10_moveShips 34 = .ok (.iload_n 2, 1) := by decide +kernel
theorem dX10_moveShips_35 : decode cX10_moveShips 35 = .ok (.aaload, 1) := by decide +kernel
theorem dX10_moveShips_36 : decode cX10_moveShips 36 = .ok (.invokevirtual 255, 3) := by decide +kernel
theorem dX10_moveShips_39 : decode cX10_moveShips 39 = .ok (.iinc 2 1, 3) := by decide +kernel
theorem dX10_moveShips_42 : decode cX10_moveShips 42 = .ok (.goto (-40), 3) := by decide +kernel
theorem dX10_moveShips_45 : decode cX10_moveShips 45 = .ok (.return_, 1) := by decide +kernel
theorem dX10_sellLoads_0 : decode cX10_sellLoads 0 = .ok (.iconst 0, 1) := by decide +kernel
theorem dX10_sellLoads_1 : decode cX10_sellLoads 1 = .ok (.istore_n 2, 1) := by decide +kernel
theorem dX10_sellLoads_2 : decode cX10_sellLoads 2 = .ok (.iload_n 2, 1) := by decide +kernel
theorem dX10_sellLoads_3 : decode cX10_sellLoads 3 = .ok (.aload_n 1, 1) := by decide +kernel
theorem dX10_sellLoads_4 : decode cX10_sellLoads 4 = .ok (.getfield 258, 3) := by decide +kernel
theorem dX10_sellLoads_7 : decode cX10_sellLoads 7 = .ok (.if_icmp .ge 72, 3) := by decide +kernel
theorem dX10_sellLoads_10 : decode cX10_sellLoads 10 = .ok (.aload_n 0, 1) := by decide +kernel
theorem dX10_sellLoads_11 : decode cX10_sellLoads 11 = .ok (.getfield 11, 3) := by decide +kernel
theorem dX10_sellLoads_14 : decode cX10_sellLoads 14 = .ok (.aload_n 1, 1) := by decide +kernel
theorem dX10_sellLoads_15 : decode cX10_sellLoads 15 = .ok (.getfield 261, 3) := by decide +kernel
theorem dX10_sellLoads_18 : decode cX10_sellLoads 18 = .ok (.iload_n 2, 1) := by decide +kernel
theorem dX10_sellLoads_19 : decode cX10_sellLoads 19 = .ok (.iaload, 1) := by decide +kernel
theorem dX10_sellLoads_20 : decode cX10_sellLoads 20 = .ok (.aaload, 1) := by decide +kernel
theorem dX10_sellLoads_21 : decode cX10_sellLoads 21 = .ok (.astore_n 3, 1) := by decide +kernel
theorem dX10_sellLoads_22 : decode cX10_sellLoads 22 = .ok (.aload_n 0, 1) := by decide +kernel
theorem dX10_sellLoads_23 : decode cX10_sellLoads 23 = .ok (.getfield 30, 3) := by decide +kernel
theorem dX10_sellLoads_26 : decode cX10_sellLoads 26 = .ok (.aload_n 3, 1) := by decide +kernel
theorem dX10_sellLoads_27 : decode cX10_sellLoads 27 = .ok (.getfield 225, 3) := by decide +kernel
theorem dX10_sellLoads_30 : decode cX10_sellLoads 30 = .ok (.invokevirtual 180, 3) := by decide +kernel
theorem dX10_sellLoads_33 : decode cX10_sellLoads 33 = .ok (.istore 4, 2) := by decide +kernel
theorem dX10_sellLoads_35 : decode cX10_sellLoads 35 = .ok (.aload_n 3, 1) := by decide +kernel
theorem dX10_sellLoads_36 : decode cX10_sellLoads 36 = .ok (.dup, 1) := by decide +kernel
theorem dX10_sellLoads_37 : decode cX10_sellLoads 37 = .ok (.getfield 264, 3) := by decide +kernel
theorem dX10_sellLoads_40 : decode cX10_sellLoads 40 = .ok (.bipush 8, 2) := by decide +kernel
theorem dX10_sellLoads_42 : decode cX10_sellLoads 42 = .ok (.iload 4, 2) := by decide +kernel
theorem dX10_sellLoads_44 : decode cX10_sellLoads 44 = .ok (.iload 4, 2) := by decide +kernel
theorem dX10_sellLoads_46 : decode cX10_sellLoads 46 = .ok (.aload_n 3, 1) := by decide +kernel
theorem dX10_sellLoads_47 : decode cX10_sellLoads 47 = .ok (.getfield 267, 3) := by decide +kernel
theorem dX10_sellLoads_50 : decode cX10_sellLoads 50 = .ok (.imul, 1) := by decide +kernel
theorem dX10_sellLoads_51 : decode cX10_sellLoads 51 = .ok (.bipush 100, 2) := by decide +kernel
theorem dX10_sellLoads_53 : decode cX10_sellLoads 53 = .ok (.idiv, 1) := by decide +kernel
theorem dX10_sellLoads_54 : decode cX10_sellLoads 54 = .ok (.isub, 1) := by decide +kernel
theorem dX10_sellLoads_55 : decode cX10_sellLoads 55 = .ok (.aload_n 0, 1) := by decide +kernel
theorem dX10_sellLoads_56 : decode cX10_sellLoads 56 = .ok (.getfield 39, 3) := by decide +kernel
theorem dX10_sellLoads_59 : decode cX10_sellLoads 59 = .ok (.getfield 270, 3) := by decide +kernel
theorem dX10_sellLoads_62 : decode cX10_sellLoads 62 = .ok (.isub, 1) := by decide +kernel
theorem dX10_sellLoads_63 : decode cX10_sellLoads 63 = .ok (.aload_n 3, 1) := by decide +kernel
theorem dX10_sellLoads_64 : decode cX10_sellLoads 64 = .ok (.getfield 273, 3) := by decide +kernel
theorem dX10_sellLoads_67 : decode cX10_sellLoads 67 = .ok (.isub, 1) := by decide +kernel
theorem dX10_sellLoads_68 : decode cX10_sellLoads 68 = .ok (.imul, 1) := by decide +kernel
theorem dX10_sellLoads_69 : decode cX10_sellLoads 69 = .ok (.iadd, 1) := by decide +kernel
theorem dX10_sellLoads_70 : decode cX10_sellLoads 70 = .ok (.putfield 264, 3) := by decide +kernel
theorem dX10_sellLoads_73 : decode cX10_sellLoads 73 = .ok (.iinc 2 1, 3) := by decide +kernel
theorem dX10_sellLoads_76 : decode cX10_sellLoads 76 = .ok (.goto (-74), 3) := by decide +kernel
theorem dX10_sellLoads_79 : decode cX10_sellLoads 79 = .ok (.aload_n 0, 1) := by decide +kernel
theorem dX10_sellLoads_80 : decode cX10_sellLoads 80 = .ok (.getfield 30, 3) := by decide +kernel
theorem dX10_sellLoads_83 : decode cX10_sellLoads 83 = .ok (.aload_n 1, 1) := by decide +kernel
theorem dX10_sellLoads_84 : decode cX10_sellLoads 84 = .ok (.getfield 258, 3) := by decide +kernel
theorem dX10_sellLoads_87 : decode cX10_sellLoads 87 = .ok (.invokevirtual 276, 3) := by decide +kernel
theorem dX10_sellLoads_90 : decode cX10_sellLoads 90 = .ok (.aload_n 0, 1) := by decide +kernel
theorem dX10_sellLoads_91 : decode cX10_sellLoads 91 = .ok (.dup, 1) := by decide +kernel
theorem dX10_sellLoads_92 : decode cX10_sellLoads 92 = .ok (.getfield 81, 3) := by decide +kernel
theorem dX10_sellLoads_95 : decode cX10_sellLoads 95 = .ok (.aload_n 1, 1) := by decide +kernel
theorem dX10_sellLoads_96 : decode cX10_sellLoads 96 = .ok (.getfield 258, 3) := by decide +kernel
theorem dX10_sellLoads_99 : decode cX10_sellLoads 99 = .ok (.iadd, 1) := by decide +kernel
theorem dX10_sellLoads_100 : decode cX10_sellLoads 100 = .ok (.putfield 81, 3) := by decide +kernel
theorem dX10_sellLoads_103 : decode cX10_sellLoads 103 = .ok (.aload_n 1, 1) := by decide +kernel
theorem dX10_sellLoads_104 : decode cX10_sellLoads 104 = .ok (.iconst 0, 1) := by decide +kernel
theorem dX10_sellLoads_105 : decode cX10_sellLoads 105 = .ok (.putfield 258, 3) := by decide +kernel
theorem dX10_sellLoads_108 : decode cX10_sellLoads 108 = .ok (.return_, 1) := by decide +kernel
theorem dX10_keepMonth_0 : decode cX10_keepMonth 0 = .ok (.iconst 0, 1) := by decide +kernel
theorem dX10_keepMonth_1 : decode cX10_keepMonth 1 = .ok (.istore_n 1, 1) := by decide +kernel
theorem dX10_keepMonth_2 : decode cX10_keepMonth 2 = .ok (.iload_n 1, 1) := by decide +kernel
theorem dX10_keepMonth_3 : decode cX10_keepMonth 3 = .ok (.aload_n 0, 1) := by decide +kernel
theorem dX10_keepMonth_4 : decode cX10_keepMonth 4 = .ok (.getfield 65, 3) := by decide +kernel
theorem dX10_keepMonth_7 : decode cX10_keepMonth 7 = .ok (.if_icmp .ge 56, 3) := by decide +kernel
theorem dX10_keepMonth_10 : decode cX10_keepMonth 10 = .ok (.aload_n 0, 1) := by decide +kernel
theorem dX10_keepMonth_11 : decode cX10_keepMonth 11 = .ok (.getfield 11, 3) := by decide +kernel
theorem dX10_keepMonth_14 : decode cX10_keepMonth 14 = .ok (.iload_n 1, 1) := by decide +kernel
theorem dX10_keepMonth_15 : decode cX10_keepMonth 15 = .ok (.aaload, 1) := by decide +kernel
theorem dX10_keepMonth_16 : decode cX10_keepMonth 16 = .ok (.aload_n 0, 1) := by decide +kernel
theorem dX10_keepMonth_17 : decode cX10_keepMonth 17 = .ok (.getfield 11, 3) := by decide +kernel
theorem dX10_keepMonth_20 : decode cX10_keepMonth 20 = .ok (.iload_n 1, 1) := by decide +kernel
theorem dX10_keepMonth_21 : decode cX10_keepMonth 21 = .ok (.aaload, 1) := by decide +kernel
theorem dX10_keepMonth_22 : decode cX10_keepMonth 22 = .ok (.getfield 141, 3) := by decide +kernel
theorem dX10_keepMonth_25 : decode cX10_keepMonth 25 = .ok (.putfield 279, 3) := by decide +kernel
theorem dX10_keepMonth_28 : decode cX10_keepMonth 28 = .ok (.aload_n 0, 1) := by decide +kernel
theorem dX10_keepMonth_29 : decode cX10_keepMonth 29 = .ok (.getfield 11, 3) := by decide +kernel
theorem dX10_keepMonth_32 : decode cX10_keepMonth 32 = .ok (.iload_n 1, 1) := by decide +kernel
theorem dX10_keepMonth_33 : decode cX10_keepMonth 33 = .ok (.aaload, 1) := by decide +kernel
theorem dX10_keepMonth_34 : decode cX10_keepMonth 34 = .ok (.aload_n 0, 1) := by decide +kernel
theorem dX10_keepMonth_35 : decode cX10_keepMonth 35 = .ok (.getfield 87, 3) := by decide +kernel
theorem dX10_keepMonth_38 : decode cX10_keepMonth 38 = .ok (.ifnonnull 7, 3) := by decide +kernel
theorem dX10_keepMonth_41 : decode cX10_keepMonth 41 = .ok (.iconst 0, 1) := by decide +kernel
theorem dX10_keepMonth_42 : decode cX10_keepMonth 42 = .ok (.goto 12, 3) := by decide +kernel
theorem dX10_keepMonth_45 : decode cX10_keepMonth 45 = .ok (.aload_n 0, 1) := by decide +kernel
theorem dX10_keepMonth_46 : decode cX10_keepMonth 46 = .ok (.getfield 11, 3) := by decide +kernel
theorem dX10_keepMonth_49 : decode cX10_keepMonth 49 = .ok (.iload_n 1, 1) := by decide +kernel
theorem dX10_keepMonth_50 : decode cX10_keepMonth 50 = .ok (.aaload, 1) := by decide +kernel
theorem dX10_keepMonth_51 : decode cX10_keepMonth 51 = .ok (.getfield 206, 3) := by decide +kernel
theorem dX10_keepMonth_54 : decode cX10_keepMonth 54 = .ok (.putfield 282, 3) := by decide +kernel
theorem dX10_keepMonth_57 : decode cX10_keepMonth 57 = .ok (.iinc 1 1, 3) := by decide +kernel
theorem dX10_keepMonth_60 : decode cX10_keepMonth 60 = .ok (.goto (-58), 3) := by decide +kernel
theorem dX10_keepMonth_63 : decode cX10_keepMonth 63 = .ok (.return_, 1) := by decide +kernel
theorem dL_whatIf_0 : decode cL_whatIf 0 = .ok (.aload 4, 2) := by decide +kernel
theorem dL_whatIf_2 : decode cL_whatIf 2 = .ok (.iconst 0, 1) := by decide +kernel
theorem dL_whatIf_3 : decode cL_whatIf 3 = .ok (.aload_n 0, 1) := by decide +kernel
theorem dL_whatIf_4 : decode cL_whatIf 4 = .ok (.iload_n 1, 1) := by decide +kernel
theorem dL_whatIf_5 : decode cL_whatIf 5 = .ok (.iload_n 2, 1) := by decide +kernel
theorem dL_whatIf_6 : decode cL_whatIf 6 = .ok (.iload_n 3, 1) := by decide +kernel
theorem dL_whatIf_7 : decode cL_whatIf 7 = .ok (.invokevirtual 7, 3) := by decide +kernel
theorem dL_whatIf_10 : decode cL_whatIf 10 = .ok (.i2l, 1) := by decide +kernel
theorem dL_whatIf_11 : decode cL_whatIf 11 = .ok (.lastore, 1) := by decide +kernel
theorem dL_whatIf_12 : decode cL_whatIf 12 = .ok (.goto 7, 3) := by decide +kernel
theorem dL_whatIf_15 : decode cL_whatIf 15 = .ok (.astore 5, 2) := by decide +kernel
theorem dL_whatIf_17 : decode cL_whatIf 17 = .ok (.iconst 1, 1) := by decide +kernel
theorem dL_whatIf_18 : decode cL_whatIf 18 = .ok (.ireturn, 1) := by decide +kernel
theorem dL_whatIf_19 : decode cL_whatIf 19 = .ok (.iconst 0, 1) := by decide +kernel
theorem dL_whatIf_20 : decode cL_whatIf 20 = .ok (.ireturn, 1) := by decide +kernel
theorem dL_tried_0 : decode cL_tried 0 = .ok (.aload_n 2, 1) := by decide +kernel
theorem dL_tried_1 : decode cL_tried 1 = .ok (.iconst 0, 1) := by decide +kernel
theorem dL_tried_2 : decode cL_tried 2 = .ok (.aload_n 0, 1) := by decide +kernel
theorem dL_tried_3 : decode cL_tried 3 = .ok (.iload_n 1, 1) := by decide +kernel
theorem dL_tried_4 : decode cL_tried 4 = .ok (.invokevirtual 15, 3) := by decide +kernel
theorem dL_tried_7 : decode cL_tried 7 = .ok (.i2l, 1) := by decide +kernel
theorem dL_tried_8 : decode cL_tried 8 = .ok (.lastore, 1) := by decide +kernel
theorem dL_tried_9 : decode cL_tried 9 = .ok (.goto 6, 3) := by decide +kernel
theorem dL_tried_12 : decode cL_tried 12 = .ok (.astore_n 3, 1) := by decide +kernel
theorem dL_tried_13 : decode cL_tried 13 = .ok (.iconst 1, 1) := by decide +kernel
theorem dL_tried_14 : decode cL_tried 14 = .ok (.ireturn, 1) := by decide +kernel
theorem dL_tried_15 : decode cL_tried 15 = .ok (.iconst 0, 1) := by decide +kernel
theorem dL_tried_16 : decode cL_tried 16 = .ok (.ireturn, 1) := by decide +kernel
theorem dL_look_0 : decode cL_look 0 = .ok (.aload_n 3, 1) := by decide +kernel
theorem dL_look_1 : decode cL_look 1 = .ok (.iconst 0, 1) := by decide +kernel
theorem dL_look_2 : decode cL_look 2 = .ok (.aload_n 0, 1) := by decide +kernel
theorem dL_look_3 : decode cL_look 3 = .ok (.iload_n 1, 1) := by decide +kernel
theorem dL_look_4 : decode cL_look 4 = .ok (.iload_n 2, 1) := by decide +kernel
theorem dL_look_5 : decode cL_look 5 = .ok (.invokevirtual 19, 3) := by decide +kernel
theorem dL_look_8 : decode cL_look 8 = .ok (.i2l, 1) := by decide +kernel
theorem dL_look_9 : decode cL_look 9 = .ok (.lastore, 1) := by decide +kernel
theorem dL_look_10 : decode cL_look 10 = .ok (.goto 7, 3) := by decide +kernel
theorem dL_look_13 : decode cL_look 13 = .ok (.astore 4, 2) := by decide +kernel
theorem dL_look_15 : decode cL_look 15 = .ok (.iconst 1, 1) := by decide +kernel
theorem dL_look_16 : decode cL_look 16 = .ok (.ireturn, 1) := by decide +kernel
theorem dL_look_17 : decode cL_look 17 = .ok (.iconst 0, 1) := by decide +kernel
theorem dL_look_18 : decode cL_look 18 = .ok (.ireturn, 1) := by decide +kernel
theorem dL_law_0 : decode cL_law 0 = .ok (.new 8, 3) := by decide +kernel
theorem dL_law_3 : decode cL_law 3 = .ok (.dup, 1) := by decide +kernel
theorem dL_law_4 : decode cL_law 4 = .ok (.invokespecial 23, 3) := by decide +kernel
theorem dL_law_7 : decode cL_law 7 = .ok (.astore_n 1, 1) := by decide +kernel
theorem dL_law_8 : decode cL_law 8 = .ok (.new 24, 3) := by decide +kernel
theorem dL_law_11 : decode cL_law 11 = .ok (.dup, 1) := by decide +kernel
theorem dL_law_12 : decode cL_law 12 = .ok (.invokespecial 26, 3) := by decide +kernel
theorem dL_law_15 : decode cL_law 15 = .ok (.astore_n 2, 1) := by decide +kernel
theorem dL_law_16 : decode cL_law 16 = .ok (.iconst 1, 1) := by decide +kernel
theorem dL_law_17 : decode cL_law 17 = .ok (.newarray .long, 2) := by decide +kernel
theorem dL_law_19 : decode cL_law 19 = .ok (.astore_n 3, 1) := by decide +kernel
theorem dL_law_20 : decode cL_law 20 = .ok (.iconst 0, 1) := by decide +kernel
theorem dL_law_21 : decode cL_law 21 = .ok (.istore 4, 2) := by decide +kernel
theorem dL_law_23 : decode cL_law 23 = .ok (.iload 4, 2) := by decide +kernel
theorem dL_law_25 : decode cL_law 25 = .ok (.aload_n 0, 1) := by decide +kernel
theorem dL_law_26 : decode cL_law 26 = .ok (.arraylength, 1) := by decide +kernel
theorem dL_law_27 : decode cL_law 27 = .ok (.bipush 7, 2) := by decide +kernel
theorem dL_law_29 : decode cL_law 29 = .ok (.isub, 1) := by decide +kernel
theorem dL_law_30 : decode cL_law 30 = .ok (.if_icmp .gt 1497, 3) := by decide +kernel
theorem dL_law_33 : decode cL_law 33 = .ok (.aload_n 0, 1) := by decide +kernel
theorem dL_law_34 : decode cL_law 34 = .ok (.iload 4, 2) := by decide +kernel
theorem dL_law_36 : decode cL_law 36 = .ok (.iaload, 1) := by decide +kernel
theorem dL_law_37 : decode cL_law 37 = .ok (.bipush 31, 2) := by decide +kernel
theorem dL_law_39 : decode cL_law 39 = .ok (.iand, 1) := by decide +kernel
theorem dL_law_40 : decode cL_law 40 = .ok (.tableswitch 1481 0 29 #[136, 197, 234, 271, 324, 361, 386, 423, 472, 619, 632, 645, 670, 695, 756, 817, 866, 903, 952, 977, 1057, 1106, 1143, 1199, 1224, 1265, 1333, 1382, 1419, 1456], 136) := by decide +kernel
theorem dL_law_176 : decode cL_law 176 = .ok (.aload_n 1, 1) := by decide +kernel
theorem dL_law_177 : decode cL_law 177 = .ok (.aload_n 0, 1) := by decide +kernel
theorem dL_law_178 : decode cL_law 178 = .ok (.iload 4, 2) := by decide +kernel
theorem dL_law_180 : decode cL_law 180 = .ok (.iconst 1, 1) := by decide +kernel
theorem dL_law_181 : decode cL_law 181 = .ok (.iadd, 1) := by decide +kernel
theorem dL_law_182 : decode cL_law 182 = .ok (.iaload, 1) := by decide +kernel
theorem dL_law_183 : decode cL_law 183 = .ok (.aload_n 0, 1) := by decide +kernel
theorem dL_law_184 : decode cL_law 184 = .ok (.iload 4, 2) := by decide +kernel
theorem dL_law_186 : decode cL_law 186 = .ok (.iconst 2, 1) := by decide +kernel
theorem dL_law_187 : decode cL_law 187 = .ok (.iadd, 1) := by decide +kernel
theorem dL_law_188 : decode cL_law 188 = .ok (.iaload, 1) := by decide +kernel
theorem dL_law_189 : decode cL_law 189 = .ok (.aload_n 0, 1) := by decide +kernel
theorem dL_law_190 : decode cL_law 190 = .ok (.iload 4, 2) := by decide +kernel
theorem dL_law_192 : decode cL_law 192 = .ok (.iconst 3, 1) := by decide +kernel
theorem dL_law_193 : decode cL_law 193 = .ok (.iadd, 1) := by decide +kernel
theorem dL_law_194 : decode cL_law 194 = .ok (.iaload, 1) := by decide +kernel
theorem dL_law_195 : decode cL_law 195 = .ok (.aload_n 0, 1) := by decide +kernel
theorem dL_law_196 : decode cL_law 196 = .ok (.iload 4, 2) := by decide +kernel
theorem dL_law_198 : decode cL_law 198 = .ok (.iconst 4, 1) := by decide +kernel
theorem dL_law_199 : decode cL_law 199 = .ok (.iadd, 1) := by decide +kernel
theorem dL_law_200 : decode cL_law 200 = .ok (.iaload, 1) := by decide +kernel
theorem dL_law_201 : decode cL_law 201 = .ok (.invokevirtual 27, 3) := by decide +kernel
theorem dL_law_204 : decode cL_law 204 = .ok (.aload_n 2, 1) := by decide +kernel
theorem dL_law_205 : decode cL_law 205 = .ok (.aload_n 0, 1) := by decide +kernel
theorem dL_law_206 : decode cL_law 206 = .ok (.iload 4, 2) := by decide +kernel
theorem dL_law_208 : decode cL_law 208 = .ok (.iconst 1, 1) := by decide +kernel
theorem dL_law_209 : decode cL_law 209 = .ok (.iadd, 1) := by decide +kernel
theorem dL_law_210 : decode cL_law 210 = .ok (.iaload, 1) := by decide +kernel
theorem dL_law_211 : decode cL_law 211 = .ok (.aload_n 0, 1) := by decide +kernel
theorem dL_law_212 : decode cL_law 212 = .ok (.iload 4, 2) := by decide +kernel
theorem dL_law_214 : decode cL_law 214 = .ok (.iconst 2, 1) := by decide +kernel
theorem dL_law_215 : decode cL_law 215 = .ok (.iadd, 1) := by decide +kernel
theorem dL_law_216 : decode cL_law 216 = .ok (.iaload, 1) := by decide +kernel
theorem dL_law_217 : decode cL_law 217 = .ok (.aload_n 0, 1) := by decide +kernel
theorem dL_law_218 : decode cL_law 218 = .ok (.iload 4, 2) := by decide +kernel
theorem dL_law_220 : decode cL_law 220 = .ok (.iconst 3, 1) := by decide +kernel
theorem dL_law_221 : decode cL_law 221 = .ok (.iadd, 1) := by decide +kernel
theorem dL_law_222 : decode cL_law 222 = .ok (.iaload, 1) := by decide +kernel
theorem dL_law_223 : decode cL_law 223 = .ok (.aload_n 0, 1) := by decide +kernel
theorem dL_law_224 : decode cL_law 224 = .ok (.iload 4, 2) := by decide +kernel
theorem dL_law_226 : decode cL_law 226 = .ok (.iconst 4, 1) := by decide +kernel
theorem dL_law_227 : decode cL_law 227 = .ok (.iadd, 1) := by decide +kernel
theorem dL_law_228 : decode cL_law 228 = .ok (.iaload, 1) := by decide +kernel
theorem dL_law_229 : decode cL_law 229 = .ok (.invokevirtual 31, 3) := by decide +kernel
theorem dL_law_232 : decode cL_law 232 = .ok (.if_icmp .eq 1289, 3) := by decide +kernel
theorem dL_law_235 : decode cL_law 235 = .ok (.iconst 0, 1) := by decide +kernel
theorem dL_law_236 : decode cL_law 236 = .ok (.ireturn, 1) := by decide +kernel
theorem dL_law_237 : decode cL_law 237 = .ok (.aload_n 1, 1) := by decide +kernel
theorem dL_law_238 : decode cL_law 238 = .ok (.aload_n 0, 1) := by decide +kernel
theorem dL_law_239 : decode cL_law 239 = .ok (.iload 4, 2) := by decide +kernel
theorem dL_law_241 : decode cL_law 241 = .ok (.iconst 1, 1) := by decide +kernel
theorem dL_law_242 : decode cL_law 242 = .ok (.iadd, 1) := by decide +kernel
theorem dL_law_243 : decode cL_law 243 = .ok (.iaload, 1) := by decide +kernel
theorem dL_law_244 : decode cL_law 244 = .ok (.aload_n 0, 1) := by decide +kernel
theorem dL_law_245 : decode cL_law 245 = .ok (.iload 4, 2) := by decide +kernel
theorem dL_law_247 : decode cL_law 247 = .ok (.iconst 2, 1) := by decide +kernel
theorem dL_law_248 : decode cL_law 248 = .ok (.iadd, 1) := by decide +kernel
theorem dL_law_249 : decode cL_law 249 = .ok (.iaload, 1) := by decide +kernel
theorem dL_law_250 : decode cL_law 250 = .ok (.invokevirtual 32, 3) := by decide +kernel
theorem dL_law_253 : decode cL_law 253 = .ok (.aload_n 2, 1) := by decide +kernel
theorem dL_law_254 : decode cL_law 254 = .ok (.aload_n 0, 1) := by decide +kernel
theorem dL_law_255 : decode cL_law 255 = .ok (.iload 4, 2) := by decide +kernel
theorem dL_law_257 : decode cL_law 257 = .ok (.iconst 1, 1) := by decide +kernel
theorem dL_law_258 : decode cL_law 258 = .ok (.iadd, 1) := by decide +kernel
theorem dL_law_259 : decode cL_law 259 = .ok (.iaload, 1) := by decide +kernel
theorem dL_law_260 : decode cL_law 260 = .ok (.aload_n 0, 1) := by decide +kernel
theorem dL_law_261 : decode cL_law 261 = .ok (.iload 4, 2) := by decide +kernel
theorem dL_law_263 : decode cL_law 263 = .ok (.iconst 2, 1) := by decide +kernel
theorem dL_law_264 : decode cL_law 264 = .ok (.iadd, 1) := by decide +kernel
theorem dL_law_265 : decode cL_law 265 = .ok (.iaload, 1) := by decide +kernel
theorem dL_law_266 : decode cL_law 266 = .ok (.invokevirtual 36, 3) := by decide +kernel
theorem dL_law_269 : decode cL_law 269 = .ok (.if_icmp .eq 1252, 3) := by decide +kernel
theorem dL_law_272 : decode cL_law 272 = .ok (.iconst 0, 1) := by decide +kernel
theorem dL_law_273 : decode cL_law 273 = .ok (.ireturn, 1) := by decide +kernel
theorem dL_law_274 : decode cL_law 274 = .ok (.aload_n 1, 1) := by decide +kernel
theorem dL_law_275 : decode cL_law 275 = .ok (.aload_n 0, 1) := by decide +kernel
theorem dL_law_276 : decode cL_law 276 = .ok (.iload 4, 2) := by decide +kernel
theorem dL_law_278 : decode cL_law 278 = .ok (.iconst 1, 1) := by decide +kernel
theorem dL_law_279 : decode cL_law 279 = .ok (.iadd, 1) := by decide +kernel
theorem dL_law_280 : decode cL_law 280 = .ok (.iaload, 1) := by decide +kernel
theorem dL_law_281 : decode cL_law 281 = .ok (.aload_n 0, 1) := by decide +kernel
theorem dL_law_282 : decode cL_law 282 = .ok (.iload 4, 2) := by decide +kernel
theorem dL_law_284 : decode cL_law 284 = .ok (.iconst 2, 1) := by decide +kernel
theorem dL_law_285 : decode cL_law 285 = .ok (.iadd, 1) := by decide +kernel
theorem dL_law_286 : decode cL_law 286 = .ok (.iaload, 1) := by decide +kernel
theorem dL_law_287 : decode cL_law 287 = .ok (.invokevirtual 37, 3) := by decide +kernel
theorem dL_law_290 : decode cL_law 290 = .ok (.aload_n 2, 1) := by decide +kernel
theorem dL_law_291 : decode cL_law 291 = .ok (.aload_n 0, 1) := by decide +kernel
theorem dL_law_292 : decode cL_law 292 = .ok (.iload 4, 2) := by decide +kernel
theorem dL_law_294 : decode cL_law 294 = .ok (.iconst 1, 1) := by decide +kernel
theorem dL_law_295 : decode cL_law 295 = .ok (.iadd, 1) := by decide +kernel
theorem dL_law_296 : decode cL_law 296 = .ok (.iaload, 1) := by decide +kernel
theorem dL_law_297 : decode cL_law 297 = .ok (.aload_n 0, 1) := by decide +kernel
theorem dL_law_298 : decode cL_law 298 = .ok (.iload 4, 2) := by decide +kernel
theorem dL_law_300 : decode cL_law 300 = .ok (.iconst 2, 1) := by decide +kernel
theorem dL_law_301 : decode cL_law 301 = .ok (.iadd, 1) := by decide +kernel
theorem dL_law_302 : decode cL_law 302 = .ok (.iaload, 1) := by decide +kernel
theorem dL_law_303 : decode cL_law 303 = .ok (.invokevirtual 40, 3) := by decide +kernel
theorem dL_law_306 : decode cL_law 306 = .ok (.if_icmp .eq 1215, 3) := by decide +kernel
theorem dL_law_309 : decode cL_law 309 = .ok (.iconst 0, 1) := by decide +kernel
theorem dL_law_310 : decode cL_law 310 = .ok (.ireturn, 1) := by decide +kernel
theorem dL_law_311 : decode cL_law 311 = .ok (.aload_n 1, 1) := by decide +kernel
theorem dL_law_312 : decode cL_law 312 = .ok (.aload_n 0, 1) := by decide +kernel
theorem dL_law_313 : decode cL_law 313 = .ok (.iload 4, 2) := by decide +kernel
theorem dL_law_315 : decode cL_law 315 = .ok (.iconst 1, 1) := by decide +kernel
theorem dL_law_316 : decode cL_law 316 = .ok (.iadd, 1) := by decide +kernel
theorem dL_law_317 : decode cL_law 317 = .ok (.iaload, 1) := by decide +kernel
theorem dL_law_318 : decode cL_law 318 = .ok (.aload_n 0, 1) := by decide +kernel
theorem dL_law_319 : decode cL_law 319 = .ok (.iload 4, 2) := by decide +kernel
theorem dL_law_321 : decode cL_law 321 = .ok (.iconst 2, 1) := by decide +kernel
theorem dL_law_322 : decode cL_law 322 = .ok (.iadd, 1) := by decide +kernel
theorem dL_law_323 : decode cL_law 323 = .ok (.iaload, 1) := by decide +kernel
theorem dL_law_324 : decode cL_law 324 = .ok (.ifCond .eq 7, 3) := by decide +kernel
theorem dL_law_327 : decode cL_law 327 = .ok (.iconst 1, 1) := by decide +kernel
theorem dL_law_328 : decode cL_law 328 = .ok (.goto 4, 3) := by decide +kernel
theorem dL_law_331 : decode cL_law 331 = .ok (.iconst 0, 1) := by decide +kernel
theorem dL_law_332 : decode cL_law 332 = .ok (.invokevirtual 41, 3) := by decide +kernel
theorem dL_law_335 : decode cL_law 335 = .ok (.aload_n 2, 1) := by decide +kernel
theorem dL_law_336 : decode cL_law 336 = .ok (.aload_n 0, 1) := by decide +kernel
theorem dL_law_337 : decode cL_law 337 = .ok (.iload 4, 2) := by decide +kernel
theorem dL_law_339 : decode cL_law 339 = .ok (.iconst 1, 1) := by decide +kernel
theorem dL_law_340 : decode cL_law 340 = .ok (.iadd, 1) := by decide +kernel
theorem dL_law_341 : decode cL_law 341 = .ok (.iaload, 1) := by decide +kernel
theorem dL_law_342 : decode cL_law 342 = .ok (.aload_n 0, 1) := by decide +kernel
theorem dL_law_343 : decode cL_law 343 = .ok (.iload 4, 2) := by decide +kernel
theorem dL_law_345 : decode cL_law 345 = .ok (.iconst 2, 1) := by decide +kernel
theorem dL_law_346 : decode cL_law 346 = .ok (.iadd, 1) := by decide +kernel
theorem dL_law_347 : decode cL_law 347 = .ok (.iaload, 1) := by decide +kernel
theorem dL_law_348 : decode cL_law 348 = .ok (.ifCond .eq 7, 3) := by decide +kernel
theorem dL_law_351 : decode cL_law 351 = .ok (.iconst 1, 1) := by decide +kernel
theorem dL_law_352 : decode cL_law 352 = .ok (.goto 4, 3) := by decide +kernel
theorem dL_law_355 : decode cL_law 355 = .ok (.iconst 0, 1) := by decide +kernel
theorem dL_law_356 : decode cL_law 356 = .ok (.invokevirtual 45, 3) := by decide +kernel
theorem dL_law_359 : decode cL_law 359 = .ok (.if_icmp .eq 1162, 3) := by decide +kernel
theorem dL_law_362 : decode cL_law 362 = .ok (.iconst 0, 1) := by decide +kernel
theorem dL_law_363 : decode cL_law 363 = .ok (.ireturn, 1) := by decide +kernel
theorem dL_law_364 : decode cL_law 364 = .ok (.aload_n 1, 1) := by decide +kernel
theorem dL_law_365 : decode cL_law 365 = .ok (.aload_n 0, 1) := by decide +kernel
theorem dL_law_366 : decode cL_law 366 = .ok (.iload 4, 2) := by decide +kernel
theorem dL_law_368 : decode cL_law 368 = .ok (.iconst 1, 1) := by decide +kernel
theorem dL_law_369 : decode cL_law 369 = .ok (.iadd, 1) := by decide +kernel
theorem dL_law_370 : decode cL_law 370 = .ok (.iaload, 1) := by decide +kernel
theorem dL_law_371 : decode cL_law 371 = .ok (.aload_n 0, 1) := by decide +kernel
theorem dL_law_372 : decode cL_law 372 = .ok (.iload 4, 2) := by decide +kernel
theorem dL_law_374 : decode cL_law 374 = .ok (.iconst 2, 1) := by decide +kernel
theorem dL_law_375 : decode cL_law 375 = .ok (.iadd, 1) := by decide +kernel
theorem dL_law_376 : decode cL_law 376 = .ok (.iaload, 1) := by decide +kernel
theorem dL_law_377 : decode cL_law 377 = .ok (.invokevirtual 46, 3) := by decide +kernel
theorem dL_law_380 : decode cL_law 380 = .ok (.aload_n 2, 1) := by decide +kernel
theorem dL_law_381 : decode cL_law 381 = .ok (.aload_n 0, 1) := by decide +kernel
theorem dL_law_382 : decode cL_law 382 = .ok (.iload 4, 2) := by decide +kernel
theorem dL_law_384 : decode cL_law 384 = .ok (.iconst 1, 1) := by decide +kernel
theorem dL_law_385 : decode cL_law 385 = .ok (.iadd, 1) := by decide +kernel
theorem dL_law_386 : decode cL_law 386 = .ok (.iaload, 1) := by decide +kernel
theorem dL_law_387 : decode cL_law 387 = .ok (.aload_n 0, 1) := by decide +kernel
theorem dL_law_388 : decode cL_law 388 = .ok (.iload 4, 2) := by decide +kernel
theorem dL_law_390 : decode cL_law 390 = .ok (.iconst 2, 1) := by decide +kernel
theorem dL_law_391 : decode cL_law 391 = .ok (.iadd, 1) := by decide +kernel
theorem dL_law_392 : decode cL_law 392 = .ok (.iaload, 1) := by decide +kernel
theorem dL_law_393 : decode cL_law 393 = .ok (.invokevirtual 49, 3) := by decide +kernel
theorem dL_law_396 : decode cL_law 396 = .ok (.if_icmp .eq 1125, 3) := by decide +kernel
theorem dL_law_399 : decode cL_law 399 = .ok (.iconst 0, 1) := by decide +kernel
theorem dL_law_400 : decode cL_law 400 = .ok (.ireturn, 1) := by decide +kernel
theorem dL_law_401 : decode cL_law 401 = .ok (.aload_n 1, 1) := by decide +kernel
theorem dL_law_402 : decode cL_law 402 = .ok (.aload_n 0, 1) := by decide +kernel
theorem dL_law_403 : decode cL_law 403 = .ok (.iload 4, 2) := by decide +kernel
theorem dL_law_405 : decode cL_law 405 = .ok (.iconst 1, 1) := by decide +kernel
theorem dL_law_406 : decode cL_law 406 = .ok (.iadd, 1) := by decide +kernel
theorem dL_law_407 : decode cL_law 407 = .ok (.iaload, 1) := by decide +kernel
theorem dL_law_408 : decode cL_law 408 = .ok (.invokevirtual 50, 3) := by decide +kernel
theorem dL_law_411 : decode cL_law 411 = .ok (.aload_n 2, 1) := by decide +kernel
theorem dL_law_412 : decode cL_law 412 = .ok (.aload_n 0, 1) := by decide +kernel
theorem dL_law_413 : decode cL_law 413 = .ok (.iload 4, 2) := by decide +kernel
theorem dL_law_415 : decode cL_law 415 = .ok (.iconst 1, 1) := by decide +kernel
theorem dL_law_416 : decode cL_law 416 = .ok (.iadd, 1) := by decide +kernel
theorem dL_law_417 : decode cL_law 417 = .ok (.iaload, 1) := by decide +kernel
theorem dL_law_418 : decode cL_law 418 = .ok (.invokevirtual 54, 3) := by decide +kernel
theorem dL_law_421 : decode cL_law 421 = .ok (.if_icmp .eq 1100, 3) := by decide +kernel
theorem dL_law_424 : decode cL_law 424 = .ok (.iconst 0, 1) := by decide +kernel
theorem dL_law_425 : decode cL_law 425 = .ok (.ireturn, 1) := by decide +kernel
theorem dL_law_426 : decode cL_law 426 = .ok (.aload_n 1, 1) := by decide +kernel
theorem dL_law_427 : decode cL_law 427 = .ok (.aload_n 0, 1) := by decide +kernel
theorem dL_law_428 : decode cL_law 428 = .ok (.iload 4, 2) := by decide +kernel
theorem dL_law_430 : decode cL_law 430 = .ok (.iconst 1, 1) := by decide +kernel
theorem dL_law_431 : decode cL_law 431 = .ok (.iadd, 1) := by decide +kernel
theorem dL_law_432 : decode cL_law 432 = .ok (.iaload, 1) := by decide +kernel
theorem dL_law_433 : decode cL_law 433 = .ok (.aload_n 0, 1) := by decide +kernel
theorem dL_law_434 : decode cL_law 434 = .ok (.iload 4, 2) := by decide +kernel
theorem dL_law_436 : decode cL_law 436 = .ok (.iconst 2, 1) := by decide +kernel
theorem dL_law_437 : decode cL_law 437 = .ok (.iadd, 1) := by decide +kernel
theorem dL_law_438 : decode cL_law 438 = .ok (.iaload, 1) := by decide +kernel
theorem dL_law_439 : decode cL_law 439 = .ok (.invokevirtual 55, 3) := by decide +kernel
theorem dL_law_442 : decode cL_law 442 = .ok (.aload_n 2, 1) := by decide +kernel
theorem dL_law_443 : decode cL_law 443 = .ok (.aload_n 0, 1) := by decide +kernel
theorem dL_law_444 : decode cL_law 444 = .ok (.iload 4, 2) := by decide +kernel
theorem dL_law_446 : decode cL_law 446 = .ok (.iconst 1, 1) := by decide +kernel
theorem dL_law_447 : decode cL_law 447 = .ok (.iadd, 1) := by decide +kernel
theorem dL_law_448 : decode cL_law 448 = .ok (.iaload, 1) := by decide +kernel
theorem dL_law_449 : decode cL_law 449 = .ok (.aload_n 0, 1) := by decide +kernel
theorem dL_law_450 : decode cL_law 450 = .ok (.iload 4, 2) := by decide +kernel
theorem dL_law_452 : decode cL_law 452 = .ok (.iconst 2, 1) := by decide +kernel
theorem dL_law_453 : decode cL_law 453 = .ok (.iadd, 1) := by decide +kernel
theorem dL_law_454 : decode cL_law 454 = .ok (.iaload, 1) := by decide +kernel
theorem dL_law_455 : decode cL_law 455 = .ok (.invokevirtual 58, 3) := by decide +kernel
theorem dL_law_458 : decode cL_law 458 = .ok (.if_icmp .eq 1063, 3) := by decide +kernel
theorem dL_law_461 : decode cL_law 461 = .ok (.iconst 0, 1) := by decide +kernel
theorem dL_law_462 : decode cL_law 462 = .ok (.ireturn, 1) := by decide +kernel
theorem dL_law_463 : decode cL_law 463 = .ok (.aload_n 1, 1) := by decide +kernel
theorem dL_law_464 : decode cL_law 464 = .ok (.aload_n 0, 1) := by decide +kernel
theorem dL_law_465 : decode cL_law 465 = .ok (.iload 4, 2) := by decide +kernel
theorem dL_law_467 : decode cL_law 467 = .ok (.iconst 1, 1) := by decide +kernel
theorem dL_law_468 : decode cL_law 468 = .ok (.iadd, 1) := by decide +kernel
theorem dL_law_469 : decode cL_law 469 = .ok (.iaload, 1) := by decide +kernel
theorem dL_law_470 : decode cL_law 470 = .ok (.aload_n 0, 1) := by decide +kernel
theorem dL_law_471 : decode cL_law 471 = .ok (.iload 4, 2) := by decide +kernel
theorem dL_law_473 : decode cL_law 473 = .ok (.iconst 2, 1) := by decide +kernel
theorem dL_law_474 : decode cL_law 474 = .ok (.iadd, 1) := by decide +kernel
theorem dL_law_475 : decode cL_law 475 = .ok (.iaload, 1) := by decide +kernel
theorem dL_law_476 : decode cL_law 476 = .ok (.aload_n 0, 1) := by decide +kernel
theorem dL_law_477 : decode cL_law 477 = .ok (.iload 4, 2) := by decide +kernel
theorem dL_law_479 : decode cL_law 479 = .ok (.iconst 3, 1) := by decide +kernel
theorem dL_law_480 : decode cL_law 480 = .ok (.iadd, 1) := by decide +kernel
theorem dL_law_481 : decode cL_law 481 = .ok (.iaload, 1) := by decide +kernel
theorem dL_law_482 : decode cL_law 482 = .ok (.invokevirtual 59, 3) := by decide +kernel
theorem dL_law_485 : decode cL_law 485 = .ok (.aload_n 2, 1) := by decide +kernel
theorem dL_law_486 : decode cL_law 486 = .ok (.aload_n 0, 1) := by decide +kernel
theorem dL_law_487 : decode cL_law 487 = .ok (.iload 4, 2) := by decide +kernel
theorem dL_law_489 : decode cL_law 489 = .ok (.iconst 1, 1) := by decide +kernel
theorem dL_law_490 : decode cL_law 490 = .ok (.iadd, 1) := by decide +kernel
theorem dL_law_491 : decode cL_law 491 = .ok (.iaload, 1) := by decide +kernel
theorem dL_law_492 : decode cL_law 492 = .ok (.aload_n 0, 1) := by decide +kernel
theorem dL_law_493 : decode cL_law 493 = .ok (.iload 4, 2) := by decide +kernel
theorem dL_law_495 : decode cL_law 495 = .ok (.iconst 2, 1) := by decide +kernel
theorem dL_law_496 : decode cL_law 496 = .ok (.iadd, 1) := by decide +kernel
theorem dL_law_497 : decode cL_law 497 = .ok (.iaload, 1) := by decide +kernel
theorem dL_law_498 : decode cL_law 498 = .ok (.aload_n 0, 1) := by decide +kernel
theorem dL_law_499 : decode cL_law 499 = .ok (.iload 4, 2) := by decide +kernel
theorem dL_law_501 : decode cL_law 501 = .ok (.iconst 3, 1) := by decide +kernel
theorem dL_law_502 : decode cL_law 502 = .ok (.iadd, 1) := by decide +kernel
theorem dL_law_503 : decode cL_law 503 = .ok (.iaload, 1) := by decide +kernel
theorem dL_law_504 : decode cL_law 504 = .ok (.invokevirtual 63, 3) := by decide +kernel
theorem dL_law_507 : decode cL_law 507 = .ok (.if_icmp .eq 1014, 3) := by decide +kernel
theorem dL_law_510 : decode cL_law 510 = .ok (.iconst 0, 1) := by decide +kernel
theorem dL_law_511 : decode cL_law 511 = .ok (.ireturn, 1) := by decide +kernel
theorem dL_law_512 : decode cL_law 512 = .ok (.aload_n 1, 1) := by decide +kernel
theorem dL_law_513 : decode cL_law 513 = .ok (.aload_n 0, 1) := by decide +kernel
theorem dL_law_514 : decode cL_law 514 = .ok (.iload 4, 2) := by decide +kernel
theorem dL_law_516 : decode cL_law 516 = .ok (.iconst 1, 1) := by decide +kernel
theorem dL_law_517 : decode cL_law 517 = .ok (.iadd, 1) := by decide +kernel
theorem dL_law_518 : decode cL_law 518 = .ok (.iaload, 1) := by decide +kernel
theorem dL_law_519 : decode cL_law 519 = .ok (.i2l, 1) := by decide +kernel
theorem dL_law_520 : decode cL_law 520 = .ok (.bipush 32, 2) := by decide +kernel
theorem dL_law_522 : decode cL_law 522 = .ok (.lshl, 1) := by decide +kernel
theorem dL_law_523 : decode cL_law 523 = .ok (.aload_n 0, 1) := by decide +kernel
theorem dL_law_524 : decode cL_law 524 = .ok (.iload 4, 2) := by decide +kernel
theorem dL_law_526 : decode cL_law 526 = .ok (.iconst 2, 1) := by decide +kernel
theorem dL_law_527 : decode cL_law 527 = .ok (.iadd, 1) := by decide +kernel
theorem dL_law_528 : decode cL_law 528 = .ok (.iaload, 1) := by decide +kernel
theorem dL_law_529 : decode cL_law 529 = .ok (.i2l, 1) := by decide +kernel
theorem dL_law_530 : decode cL_law 530 = .ok (.ldc2_w 64, 3) := by decide +kernel
theorem dL_law_533 : decode cL_law 533 = .ok (.land, 1) := by decide +kernel
theorem dL_law_534 : decode cL_law 534 = .ok (.lor, 1) := by decide +kernel
theorem dL_law_535 : decode cL_law 535 = .ok (.aload_n 0, 1) := by decide +kernel
theorem dL_law_536 : decode cL_law 536 = .ok (.iload 4, 2) := by decide +kernel
theorem dL_law_538 : decode cL_law 538 = .ok (.iconst 3, 1) := by decide +kernel
theorem dL_law_539 : decode cL_law 539 = .ok (.iadd, 1) := by decide +kernel
theorem dL_law_540 : decode cL_law 540 = .ok (.iaload, 1) := by decide +kernel
theorem dL_law_541 : decode cL_law 541 = .ok (.i2l, 1) := by decide +kernel
theorem dL_law_542 : decode cL_law 542 = .ok (.bipush 32, 2) := by decide +kernel
theorem dL_law_544 : decode cL_law 544 = .ok (.lshl, 1) := by decide +kernel
theorem dL_law_545 : decode cL_law 545 = .ok (.aload_n 0, 1) := by decide +kernel
theorem dL_law_546 : decode cL_law 546 = .ok (.iload 4, 2) := by decide +kernel
theorem dL_law_548 : decode cL_law 548 = .ok (.iconst 4, 1) := by decide +kernel
theorem dL_law_549 : decode cL_law 549 = .ok (.iadd, 1) := by decide +kernel
theorem dL_law_550 : decode cL_law 550 = .ok (.iaload, 1) := by decide +kernel
theorem dL_law_551 : decode cL_law 551 = .ok (.i2l, 1) := by decide +kernel
theorem dL_law_552 : decode cL_law 552 = .ok (.ldc2_w 64, 3) := by decide +kernel
theorem dL_law_555 : decode cL_law 555 = .ok (.land, 1) := by decide +kernel
theorem dL_law_556 : decode cL_law 556 = .ok (.lor, 1) := by decide +kernel
theorem dL_law_557 : decode cL_law 557 = .ok (.aload_n 0, 1) := by decide +kernel
theorem dL_law_558 : decode cL_law 558 = .ok (.iload 4, 2) := by decide +kernel
theorem dL_law_560 : decode cL_law 560 = .ok (.iconst 5, 1) := by decide +kernel
theorem dL_law_561 : decode cL_law 561 = .ok (.iadd, 1) := by decide +kernel
theorem dL_law_562 : decode cL_law 562 = .ok (.iaload, 1) := by decide +kernel
theorem dL_law_563 : decode cL_law 563 = .ok (.i2l, 1) := by decide +kernel
theorem dL_law_564 : decode cL_law 564 = .ok (.bipush 32, 2) := by decide +kernel
theorem dL_law_566 : decode cL_law 566 = .ok (.lshl, 1) := by decide +kernel
theorem dL_law_567 : decode cL_law 567 = .ok (.aload_n 0, 1) := by decide +kernel
theorem dL_law_568 : decode cL_law 568 = .ok (.iload 4, 2) := by decide +kernel
theorem dL_law_570 : decode cL_law 570 = .ok (.bipush 6, 2) := by decide +kernel
theorem dL_law_572 : decode cL_law 572 = .ok (.iadd, 1) := by decide +kernel
theorem dL_law_573 : decode cL_law 573 = .ok (.iaload, 1) := by decide +kernel
theorem dL_law_574 : decode cL_law 574 = .ok (.i2l, 1) := by decide +kernel
theorem dL_law_575 : decode cL_law 575 = .ok (.ldc2_w 64, 3) := by decide +kernel
theorem dL_law_578 : decode cL_law 578 = .ok (.land, 1) := by decide +kernel
theorem dL_law_579 : decode cL_law 579 = .ok (.lor, 1) := by decide +kernel
theorem dL_law_580 : decode cL_law 580 = .ok (.invokevirtual 66, 3) := by decide +kernel
theorem dL_law_583 : decode cL_law 583 = .ok (.aload_n 2, 1) := by decide +kernel
theorem dL_law_584 : decode cL_law 584 = .ok (.aload_n 0, 1) := by decide +kernel
theorem dL_law_585 : decode cL_law 585 = .ok (.iload 4, 2) := by decide +kernel
theorem dL_law_587 : decode cL_law 587 = .ok (.iconst 1, 1) := by decide +kernel
theorem dL_law_588 : decode cL_law 588 = .ok (.iadd, 1) := by decide +kernel
theorem dL_law_589 : decode cL_law 589 = .ok (.iaload, 1) := by decide +kernel
theorem dL_law_590 : decode cL_law 590 = .ok (.i2l, 1) := by decide +kernel
theorem dL_law_591 : decode cL_law 591 = .ok (.bipush 32, 2) := by decide +kernel
theorem dL_law_593 : decode cL_law 593 = .ok (.lshl, 1) := by decide +kernel
theorem dL_law_594 : decode cL_law 594 = .ok (.aload_n 0, 1) := by decide +kernel
theorem dL_law_595 : decode cL_law 595 = .ok (.iload 4, 2) := by decide +kernel
theorem dL_law_597 : decode cL_law 597 = .ok (.iconst 2, 1) := by decide +kernel
theorem dL_law_598 : decode cL_law 598 = .ok (.iadd, 1) := by decide +kernel
theorem dL_law_599 : decode cL_law 599 = .ok (.iaload, 1) := by decide +kernel
theorem dL_law_600 : decode cL_law 600 = .ok (.i2l, 1) := by decide +kernel
theorem dL_law_601 : decode cL_law 601 = .ok (.ldc2_w 64, 3) := by decide +kernel
