theorem dX11_init_0 : decode cX11_init 0 = .ok (.aload_n 0, 1) := by decide +kernel
theorem dX11_init_1 : decode cX11_init 1 = .ok (.invokespecial 1, 3) := by decide +kernel
theorem dX11_init_4 : decode cX11_init 4 = .ok (.aload_n 0, 1) := by decide +kernel
theorem dX11_init_5 : decode cX11_init 5 = .ok (.new 7, 3) := by decide +kernel
theorem dX11_init_8 : decode cX11_init 8 = .ok (.dup, 1) := by decide +kernel
theorem dX11_init_9 : decode cX11_init 9 = .ok (.invokespecial 9, 3) := by decide +kernel
theorem dX11_init_12 : decode cX11_init 12 = .ok (.putfield 10, 3) := by decide +kernel
theorem dX11_init_15 : decode cX11_init 15 = .ok (.aload_n 0, 1) := by decide +kernel
theorem dX11_init_16 : decode cX11_init 16 = .ok (.new 7, 3) := by decide +kernel
theorem dX11_init_19 : decode cX11_init 19 = .ok (.dup, 1) := by decide +kernel
theorem dX11_init_20 : decode cX11_init 20 = .ok (.invokespecial 9, 3) := by decide +kernel
theorem dX11_init_23 : decode cX11_init 23 = .ok (.putfield 16, 3) := by decide +kernel
theorem dX11_init_26 : decode cX11_init 26 = .ok (.aload_n 0, 1) := by decide +kernel
theorem dX11_init_27 : decode cX11_init 27 = .ok (.new 19, 3) := by decide +kernel
theorem dX11_init_30 : decode cX11_init 30 = .ok (.dup, 1) := by decide +kernel
theorem dX11_init_31 : decode cX11_init 31 = .ok (.invokespecial 21, 3) := by decide +kernel
theorem dX11_init_34 : decode cX11_init 34 = .ok (.putfield 22, 3) := by decide +kernel
theorem dX11_init_37 : decode cX11_init 37 = .ok (.aload_n 0, 1) := by decide +kernel
theorem dX11_init_38 : decode cX11_init 38 = .ok (.new 26, 3) := by decide +kernel
theorem dX11_init_41 : decode cX11_init 41 = .ok (.dup, 1) := by decide +kernel
theorem dX11_init_42 : decode cX11_init 42 = .ok (.invokespecial 28, 3) := by decide +kernel
theorem dX11_init_45 : decode cX11_init 45 = .ok (.putfield 29, 3) := by decide +kernel
theorem dX11_init_48 : decode cX11_init 48 = .ok (.aload_n 0, 1) := by decide +kernel
theorem dX11_init_49 : decode cX11_init 49 = .ok (.new 33, 3) := by decide +kernel
theorem dX11_init_52 : decode cX11_init 52 = .ok (.dup, 1) := by decide +kernel
theorem dX11_init_53 : decode cX11_init 53 = .ok (.invokespecial 35, 3) := by decide +kernel
theorem dX11_init_56 : decode cX11_init 56 = .ok (.putfield 36, 3) := by decide +kernel
theorem dX11_init_59 : decode cX11_init 59 = .ok (.aload_n 0, 1) := by decide +kernel
theorem dX11_init_60 : decode cX11_init 60 = .ok (.new 40, 3) := by decide +kernel
theorem dX11_init_63 : decode cX11_init 63 = .ok (.dup, 1) := by decide +kernel
theorem dX11_init_64 : decode cX11_init 64 = .ok (.invokespecial 42, 3) := by decide +kernel
theorem dX11_init_67 : decode cX11_init 67 = .ok (.putfield 43, 3) := by decide +kernel
theorem dX11_init_70 : decode cX11_init 70 = .ok (.aload_n 0, 1) := by decide +kernel
theorem dX11_init_71 : decode cX11_init 71 = .ok (.sipush 720, 3) := by decide +kernel
theorem dX11_init_74 : decode cX11_init 74 = .ok (.newarray .byte, 2) := by decide +kernel
theorem dX11_init_76 : decode cX11_init 76 = .ok (.putfield 47, 3) := by decide +kernel
theorem dX11_init_79 : decode cX11_init 79 = .ok (.aload_n 0, 1) := by decide +kernel
theorem dX11_init_80 : decode cX11_init 80 = .ok (.bipush 10, 2) := by decide +kernel
theorem dX11_init_82 : decode cX11_init 82 = .ok (.newarray .int, 2) := by decide +kernel
theorem dX11_init_84 : decode cX11_init 84 = .ok (.putfield 51, 3) := by decide +kernel
theorem dX11_init_87 : decode cX11_init 87 = .ok (.return_, 1) := by decide +kernel
theorem dX11_owner_0 : decode cX11_owner 0 = .ok (.iload_n 1, 1) := by decide +kernel
theorem dX11_owner_1 : decode cX11_owner 1 = .ok (.iconst 0, 1) := by decide +kernel
theorem dX11_owner_2 : decode cX11_owner 2 = .ok (.iconst 4, 1) := by decide +kernel
theorem dX11_owner_3 : decode cX11_owner 3 = .ok (.invokestatic 55, 3) := by decide +kernel
theorem dX11_owner_6 : decode cX11_owner 6 = .ok (.ifCond .eq 39, 3) := by decide +kernel
theorem dX11_owner_9 : decode cX11_owner 9 = .ok (.iload_n 2, 1) := by decide +kernel
theorem dX11_owner_10 : decode cX11_owner 10 = .ok (.iconst 1, 1) := by decide +kernel
theorem dX11_owner_11 : decode cX11_owner 11 = .ok (.sipush 999, 3) := by decide +kernel
theorem dX11_owner_14 : decode cX11_owner 14 = .ok (.invokestatic 55, 3) := by decide +kernel
theorem dX11_owner_17 : decode cX11_owner 17 = .ok (.ifCond .eq 28, 3) := by decide +kernel
theorem dX11_owner_20 : decode cX11_owner 20 = .ok (.iload_n 3, 1) := by decide +kernel
theorem dX11_owner_21 : decode cX11_owner 21 = .ok (.iconst 0, 1) := by decide +kernel
theorem dX11_owner_22 : decode cX11_owner 22 = .ok (.bipush 99, 2) := by decide +kernel
theorem dX11_owner_24 : decode cX11_owner 24 = .ok (.invokestatic 55, 3) := by decide +kernel
theorem dX11_owner_27 : decode cX11_owner 27 = .ok (.ifCond .eq 18, 3) := by decide +kernel
theorem dX11_owner_30 : decode cX11_owner 30 = .ok (.iload 4, 2) := by decide +kernel
theorem dX11_owner_32 : decode cX11_owner 32 = .ok (.iconst 0, 1) := by decide +kernel
theorem dX11_owner_33 : decode cX11_owner 33 = .ok (.bipush 99, 2) := by decide +kernel
theorem dX11_owner_35 : decode cX11_owner 35 = .ok (.invokestatic 55, 3) := by decide +kernel
theorem dX11_owner_38 : decode cX11_owner 38 = .ok (.ifCond .eq 7, 3) := by decide +kernel
theorem dX11_owner_41 : decode cX11_owner 41 = .ok (.iconst 1, 1) := by decide +kernel
theorem dX11_owner_42 : decode cX11_owner 42 = .ok (.goto 4, 3) := by decide +kernel
theorem dX11_owner_45 : decode cX11_owner 45 = .ok (.iconst 0, 1) := by decide +kernel
theorem dX11_owner_46 : decode cX11_owner 46 = .ok (.istore 5, 2) := by decide +kernel
theorem dX11_owner_48 : decode cX11_owner 48 = .ok (.iload 5, 2) := by decide +kernel
theorem dX11_owner_50 : decode cX11_owner 50 = .ok (.ifCond .eq 15, 3) := by decide +kernel
theorem dX11_owner_53 : decode cX11_owner 53 = .ok (.aload_n 0, 1) := by decide +kernel
theorem dX11_owner_54 : decode cX11_owner 54 = .ok (.getfield 10, 3) := by decide +kernel
theorem dX11_owner_57 : decode cX11_owner 57 = .ok (.getfield 59, 3) := by decide +kernel
theorem dX11_owner_60 : decode cX11_owner 60 = .ok (.bipush 10, 2) := by decide +kernel
theorem dX11_owner_62 : decode cX11_owner 62 = .ok (.if_icmp .lt 5, 3) := by decide +kernel
theorem dX11_owner_65 : decode cX11_owner 65 = .ok (.iconst (-1), 1) := by decide +kernel
theorem dX11_owner_66 : decode cX11_owner 66 = .ok (.ireturn, 1) := by decide +kernel
theorem dX11_owner_67 : decode cX11_owner 67 = .ok (.aload_n 0, 1) := by decide +kernel
theorem dX11_owner_68 : decode cX11_owner 68 = .ok (.getfield 10, 3) := by decide +kernel
theorem dX11_owner_71 : decode cX11_owner 71 = .ok (.getfield 63, 3) := by decide +kernel
theorem dX11_owner_74 : decode cX11_owner 74 = .ok (.aload_n 0, 1) := by decide +kernel
theorem dX11_owner_75 : decode cX11_owner 75 = .ok (.getfield 10, 3) := by decide +kernel
theorem dX11_owner_78 : decode cX11_owner 78 = .ok (.getfield 59, 3) := by decide +kernel
theorem dX11_owner_81 : decode cX11_owner 81 = .ok (.aaload, 1) := by decide +kernel
theorem dX11_owner_82 : decode cX11_owner 82 = .ok (.astore 6, 2) := by decide +kernel
theorem dX11_owner_84 : decode cX11_owner 84 = .ok (.aload 6, 2) := by decide +kernel
theorem dX11_owner_86 : decode cX11_owner 86 = .ok (.iload_n 1, 1) := by decide +kernel
theorem dX11_owner_87 : decode cX11_owner 87 = .ok (.putfield 67, 3) := by decide +kernel
theorem dX11_owner_90 : decode cX11_owner 90 = .ok (.aload 6, 2) := by decide +kernel
theorem dX11_owner_92 : decode cX11_owner 92 = .ok (.iload_n 2, 1) := by decide +kernel
theorem dX11_owner_93 : decode cX11_owner 93 = .ok (.putfield 72, 3) := by decide +kernel
theorem dX11_owner_96 : decode cX11_owner 96 = .ok (.aload 6, 2) := by decide +kernel
theorem dX11_owner_98 : decode cX11_owner 98 = .ok (.iload_n 3, 1) := by decide +kernel
theorem dX11_owner_99 : decode cX11_owner 99 = .ok (.putfield 75, 3) := by decide +kernel
theorem dX11_owner_102 : decode cX11_owner 102 = .ok (.aload 6, 2) := by decide +kernel
theorem dX11_owner_104 : decode cX11_owner 104 = .ok (.iload 4, 2) := by decide +kernel
theorem dX11_owner_106 : decode cX11_owner 106 = .ok (.putfield 78, 3) := by decide +kernel
theorem dX11_owner_109 : decode cX11_owner 109 = .ok (.aload_n 0, 1) := by decide +kernel
theorem dX11_owner_110 : decode cX11_owner 110 = .ok (.getfield 10, 3) := by decide +kernel
theorem dX11_owner_113 : decode cX11_owner 113 = .ok (.dup, 1) := by decide +kernel
theorem dX11_owner_114 : decode cX11_owner 114 = .ok (.getfield 59, 3) := by decide +kernel
theorem dX11_owner_117 : decode cX11_owner 117 = .ok (.dup_x1, 1) := by decide +kernel
theorem dX11_owner_118 : decode cX11_owner 118 = .ok (.iconst 1, 1) := by decide +kernel
theorem dX11_owner_119 : decode cX11_owner 119 = .ok (.iadd, 1) := by decide +kernel
theorem dX11_owner_120 : decode cX11_owner 120 = .ok (.putfield 59, 3) := by decide +kernel
theorem dX11_owner_123 : decode cX11_owner 123 = .ok (.ireturn, 1) := by decide +kernel
theorem dX11_digs_0 : decode cX11_digs 0 = .ok (.aload_n 0, 1) := by decide +kernel
theorem dX11_digs_1 : decode cX11_digs 1 = .ok (.iload_n 1, 1) := by decide +kernel
theorem dX11_digs_2 : decode cX11_digs 2 = .ok (.invokevirtual 81, 3) := by decide +kernel
theorem dX11_digs_5 : decode cX11_digs 5 = .ok (.ifCond .eq 13, 3) := by decide +kernel
theorem dX11_digs_8 : decode cX11_digs 8 = .ok (.iload_n 2, 1) := by decide +kernel
theorem dX11_digs_9 : decode cX11_digs 9 = .ok (.iconst 0, 1) := by decide +kernel
theorem dX11_digs_10 : decode cX11_digs 10 = .ok (.bipush 99, 2) := by decide +kernel
theorem dX11_digs_12 : decode cX11_digs 12 = .ok (.invokestatic 55, 3) := by decide +kernel
theorem dX11_digs_15 : decode cX11_digs 15 = .ok (.ifCond .ne 5, 3) := by decide +kernel
theorem dX11_digs_18 : decode cX11_digs 18 = .ok (.iconst 0, 1) := by decide +kernel
theorem dX11_digs_19 : decode cX11_digs 19 = .ok (.ireturn, 1) := by decide +kernel
theorem dX11_digs_20 : decode cX11_digs 20 = .ok (.aload_n 0, 1) := by decide +kernel
theorem dX11_digs_21 : decode cX11_digs 21 = .ok (.getfield 10, 3) := by decide +kernel
theorem dX11_digs_24 : decode cX11_digs 24 = .ok (.getfield 63, 3) := by decide +kernel
theorem dX11_digs_27 : decode cX11_digs 27 = .ok (.iload_n 1, 1) := by decide +kernel
theorem dX11_digs_28 : decode cX11_digs 28 = .ok (.aaload, 1) := by decide +kernel
theorem dX11_digs_29 : decode cX11_digs 29 = .ok (.iload_n 2, 1) := by decide +kernel
theorem dX11_digs_30 : decode cX11_digs 30 = .ok (.putfield 75, 3) := by decide +kernel
theorem dX11_digs_33 : decode cX11_digs 33 = .ok (.iconst 1, 1) := by decide +kernel
theorem dX11_digs_34 : decode cX11_digs 34 = .ok (.ireturn, 1) := by decide +kernel
theorem dX11_rebate_0 : decode cX11_rebate 0 = .ok (.aload_n 0, 1) := by decide +kernel
theorem dX11_rebate_1 : decode cX11_rebate 1 = .ok (.iload_n 1, 1) := by decide +kernel
theorem dX11_rebate_2 : decode cX11_rebate 2 = .ok (.invokevirtual 81, 3) := by decide +kernel
theorem dX11_rebate_5 : decode cX11_rebate 5 = .ok (.ifCond .eq 13, 3) := by decide +kernel
theorem dX11_rebate_8 : decode cX11_rebate 8 = .ok (.iload_n 2, 1) := by decide +kernel
theorem dX11_rebate_9 : decode cX11_rebate 9 = .ok (.iconst 0, 1) := by decide +kernel
theorem dX11_rebate_10 : decode cX11_rebate 10 = .ok (.bipush 50, 2) := by decide +kernel
theorem dX11_rebate_12 : decode cX11_rebate 12 = .ok (.invokestatic 55, 3) := by decide +kernel
theorem dX11_rebate_15 : decode cX11_rebate 15 = .ok (.ifCond .ne 5, 3) := by decide +kernel
theorem dX11_rebate_18 : decode cX11_rebate 18 = .ok (.iconst 0, 1) := by decide +kernel
theorem dX11_rebate_19 : decode cX11_rebate 19 = .ok (.ireturn, 1) := by decide +kernel
theorem dX11_rebate_20 : decode cX11_rebate 20 = .ok (.aload_n 0, 1) := by decide +kernel
theorem dX11_rebate_21 : decode cX11_rebate 21 = .ok (.getfield 10, 3) := by decide +kernel
theorem dX11_rebate_24 : decode cX11_rebate 24 = .ok (.getfield 63, 3) := by decide +kernel
theorem dX11_rebate_27 : decode cX11_rebate 27 = .ok (.iload_n 1, 1) := by decide +kernel
theorem dX11_rebate_28 : decode cX11_rebate 28 = .ok (.aaload, 1) := by decide +kernel
theorem dX11_rebate_29 : decode cX11_rebate 29 = .ok (.iload_n 2, 1) := by decide +kernel
theorem dX11_rebate_30 : decode cX11_rebate 30 = .ok (.putfield 85, 3) := by decide +kernel
theorem dX11_rebate_33 : decode cX11_rebate 33 = .ok (.iconst 1, 1) := by decide +kernel
theorem dX11_rebate_34 : decode cX11_rebate 34 = .ok (.ireturn, 1) := by decide +kernel
theorem dX11_breaker_0 : decode cX11_breaker 0 = .ok (.aload_n 0, 1) := by decide +kernel
theorem dX11_breaker_1 : decode cX11_breaker 1 = .ok (.iload_n 1, 1) := by decide +kernel
theorem dX11_breaker_2 : decode cX11_breaker 2 = .ok (.invokevirtual 81, 3) := by decide +kernel
theorem dX11_breaker_5 : decode cX11_breaker 5 = .ok (.ifCond .ne 5, 3) := by decide +kernel
theorem dX11_breaker_8 : decode cX11_breaker 8 = .ok (.iconst 0, 1) := by decide +kernel
theorem dX11_breaker_9 : decode cX11_breaker 9 = .ok (.ireturn, 1) := by decide +kernel
theorem dX11_breaker_10 : decode cX11_breaker 10 = .ok (.aload_n 0, 1) := by decide +kernel
theorem dX11_breaker_11 : decode cX11_breaker 11 = .ok (.getfield 10, 3) := by decide +kernel
theorem dX11_breaker_14 : decode cX11_breaker 14 = .ok (.getfield 63, 3) := by decide +kernel
theorem dX11_breaker_17 : decode cX11_breaker 17 = .ok (.iload_n 1, 1) := by decide +kernel
theorem dX11_breaker_18 : decode cX11_breaker 18 = .ok (.aaload, 1) := by decide +kernel
theorem dX11_breaker_19 : decode cX11_breaker 19 = .ok (.iload_n 2, 1) := by decide +kernel
theorem dX11_breaker_20 : decode cX11_breaker 20 = .ok (.putfield 88, 3) := by decide +kernel
theorem dX11_breaker_23 : decode cX11_breaker 23 = .ok (.iconst 1, 1) := by decide +kernel
theorem dX11_breaker_24 : decode cX11_breaker 24 = .ok (.ireturn, 1) := by decide +kernel
theorem dX11_ship_0 : decode cX11_ship 0 = .ok (.iload_n 1, 1) := by decide +kernel
theorem dX11_ship_1 : decode cX11_ship 1 = .ok (.bipush 8, 2) := by decide +kernel
theorem dX11_ship_3 : decode cX11_ship 3 = .ok (.bipush 96, 2) := by decide +kernel
theorem dX11_ship_5 : decode cX11_ship 5 = .ok (.invokestatic 55, 3) := by decide +kernel
theorem dX11_ship_8 : decode cX11_ship 8 = .ok (.ifCond .eq 24, 3) := by decide +kernel
theorem dX11_ship_11 : decode cX11_ship 11 = .ok (.iload_n 2, 1) := by decide +kernel
theorem dX11_ship_12 : decode cX11_ship 12 = .ok (.iconst 0, 1) := by decide +kernel
theorem dX11_ship_13 : decode cX11_ship 13 = .ok (.iconst 4, 1) := by decide +kernel
theorem dX11_ship_14 : decode cX11_ship 14 = .ok (.invokestatic 55, 3) := by decide +kernel
theorem dX11_ship_17 : decode cX11_ship 17 = .ok (.ifCond .eq 15, 3) := by decide +kernel
theorem dX11_ship_20 : decode cX11_ship 20 = .ok (.aload_n 0, 1) := by decide +kernel
theorem dX11_ship_21 : decode cX11_ship 21 = .ok (.getfield 10, 3) := by decide +kernel
theorem dX11_ship_24 : decode cX11_ship 24 = .ok (.getfield 92, 3) := by decide +kernel
theorem dX11_ship_27 : decode cX11_ship 27 = .ok (.bipush 8, 2) := by decide +kernel
theorem dX11_ship_29 : decode cX11_ship 29 = .ok (.if_icmp .lt 5, 3) := by decide +kernel
theorem dX11_ship_32 : decode cX11_ship 32 = .ok (.iconst (-1), 1) := by decide +kernel
theorem dX11_ship_33 : decode cX11_ship 33 = .ok (.ireturn, 1) := by decide +kernel
theorem dX11_ship_34 : decode cX11_ship 34 = .ok (.aload_n 0, 1) := by decide +kernel
theorem dX11_ship_35 : decode cX11_ship 35 = .ok (.getfield 10, 3) := by decide +kernel
theorem dX11_ship_38 : decode cX11_ship 38 = .ok (.getfield 95, 3) := by decide +kernel
theorem dX11_ship_41 : decode cX11_ship 41 = .ok (.aload_n 0, 1) := by decide +kernel
theorem dX11_ship_42 : decode cX11_ship 42 = .ok (.getfield 10, 3) := by decide +kernel
theorem dX11_ship_45 : decode cX11_ship 45 = .ok (.getfield 92, 3) := by decide +kernel
theorem dX11_ship_48 : decode cX11_ship 48 = .ok (.aaload, 1) := by decide +kernel
theorem dX11_ship_49 : decode cX11_ship 49 = .ok (.astore_n 3, 1) := by decide +kernel
theorem dX11_ship_50 : decode cX11_ship 50 = .ok (.aload_n 3, 1) := by decide +kernel
theorem dX11_ship_51 : decode cX11_ship 51 = .ok (.iload_n 1, 1) := by decide +kernel
theorem dX11_ship_52 : decode cX11_ship 52 = .ok (.putfield 99, 3) := by decide +kernel
theorem dX11_ship_55 : decode cX11_ship 55 = .ok (.aload_n 3, 1) := by decide +kernel
theorem dX11_ship_56 : decode cX11_ship 56 = .ok (.iload_n 2, 1) := by decide +kernel
theorem dX11_ship_57 : decode cX11_ship 57 = .ok (.putfield 104, 3) := by decide +kernel
theorem dX11_ship_60 : decode cX11_ship 60 = .ok (.aload_n 3, 1) := by decide +kernel
theorem dX11_ship_61 : decode cX11_ship 61 = .ok (.aload_n 0, 1) := by decide +kernel
theorem dX11_ship_62 : decode cX11_ship 62 = .ok (.getfield 10, 3) := by decide +kernel
theorem dX11_ship_65 : decode cX11_ship 65 = .ok (.getfield 107, 3) := by decide +kernel
theorem dX11_ship_68 : decode cX11_ship 68 = .ok (.putfield 110, 3) := by decide +kernel
theorem dX11_ship_71 : decode cX11_ship 71 = .ok (.aload_n 0, 1) := by decide +kernel
theorem dX11_ship_72 : decode cX11_ship 72 = .ok (.getfield 10, 3) := by decide +kernel
theorem dX11_ship_75 : decode cX11_ship 75 = .ok (.dup, 1) := by decide +kernel
theorem dX11_ship_76 : decode cX11_ship 76 = .ok (.getfield 92, 3) := by decide +kernel
theorem dX11_ship_79 : decode cX11_ship 79 = .ok (.dup_x1, 1) := by decide +kernel
theorem dX11_ship_80 : decode cX11_ship 80 = .ok (.iconst 1, 1) := by decide +kernel
theorem dX11_ship_81 : decode cX11_ship 81 = .ok (.iadd, 1) := by decide +kernel
theorem dX11_ship_82 : decode cX11_ship 82 = .ok (.putfield 92, 3) := by decide +kernel
theorem dX11_ship_85 : decode cX11_ship 85 = .ok (.ireturn, 1) := by decide +kernel
theorem dX11_keels_0 : decode cX11_keels 0 = .ok (.iload_n 1, 1) := by decide +kernel
theorem dX11_keels_1 : decode cX11_keels 1 = .ok (.iconst 0, 1) := by decide +kernel
theorem dX11_keels_2 : decode cX11_keels 2 = .ok (.bipush 6, 2) := by decide +kernel
theorem dX11_keels_4 : decode cX11_keels 4 = .ok (.invokestatic 55, 3) := by decide +kernel
theorem dX11_keels_7 : decode cX11_keels 7 = .ok (.ifCond .ne 5, 3) := by decide +kernel
theorem dX11_keels_10 : decode cX11_keels 10 = .ok (.iconst 0, 1) := by decide +kernel
theorem dX11_keels_11 : decode cX11_keels 11 = .ok (.ireturn, 1) := by decide +kernel
theorem dX11_keels_12 : decode cX11_keels 12 = .ok (.aload_n 0, 1) := by decide +kernel
theorem dX11_keels_13 : decode cX11_keels 13 = .ok (.getfield 10, 3) := by decide +kernel
theorem dX11_keels_16 : decode cX11_keels 16 = .ok (.iload_n 1, 1) := by decide +kernel
theorem dX11_keels_17 : decode cX11_keels 17 = .ok (.putfield 113, 3) := by decide +kernel
theorem dX11_keels_20 : decode cX11_keels 20 = .ok (.iconst 1, 1) := by decide +kernel
theorem dX11_keels_21 : decode cX11_keels 21 = .ok (.ireturn, 1) := by decide +kernel
theorem dX11_winds_0 : decode cX11_winds 0 = .ok (.iload_n 1, 1) := by decide +kernel
theorem dX11_winds_1 : decode cX11_winds 1 = .ok (.iconst 0, 1) := by decide +kernel
theorem dX11_winds_2 : decode cX11_winds 2 = .ok (.iconst 3, 1) := by decide +kernel
theorem dX11_winds_3 : decode cX11_winds 3 = .ok (.invokestatic 55, 3) := by decide +kernel
theorem dX11_winds_6 : decode cX11_winds 6 = .ok (.ifCond .eq 27, 3) := by decide +kernel
theorem dX11_winds_9 : decode cX11_winds 9 = .ok (.iload_n 2, 1) := by decide +kernel
theorem dX11_winds_10 : decode cX11_winds 10 = .ok (.iconst 1, 1) := by decide +kernel
theorem dX11_winds_11 : decode cX11_winds 11 = .ok (.bipush 60, 2) := by decide +kernel
theorem dX11_winds_13 : decode cX11_winds 13 = .ok (.invokestatic 55, 3) := by decide +kernel
theorem dX11_winds_16 : decode cX11_winds 16 = .ok (.ifCond .eq 17, 3) := by decide +kernel
theorem dX11_winds_19 : decode cX11_winds 19 = .ok (.aload_n 0, 1) := by decide +kernel
theorem dX11_winds_20 : decode cX11_winds 20 = .ok (.getfield 116, 3) := by decide +kernel
theorem dX11_winds_23 : decode cX11_winds 23 = .ok (.iload_n 2, 1) := by decide +kernel
theorem dX11_winds_24 : decode cX11_winds 24 = .ok (.iadd, 1) := by decide +kernel
theorem dX11_winds_25 : decode cX11_winds 25 = .ok (.aload_n 0, 1) := by decide +kernel
theorem dX11_winds_26 : decode cX11_winds 26 = .ok (.getfield 47, 3) := by decide +kernel
theorem dX11_winds_29 : decode cX11_winds 29 = .ok (.arraylength, 1) := by decide +kernel
theorem dX11_winds_30 : decode cX11_winds 30 = .ok (.if_icmp .le 5, 3) := by decide +kernel
theorem dX11_winds_33 : decode cX11_winds 33 = .ok (.iconst (-1), 1) := by decide +kernel
theorem dX11_winds_34 : decode cX11_winds 34 = .ok (.ireturn, 1) := by decide +kernel
theorem dX11_winds_35 : decode cX11_winds 35 = .ok (.aload_n 0, 1) := by decide +kernel
theorem dX11_winds_36 : decode cX11_winds 36 = .ok (.getfield 116, 3) := by decide +kernel
theorem dX11_winds_39 : decode cX11_winds 39 = .ok (.istore_n 3, 1) := by decide +kernel
theorem dX11_winds_40 : decode cX11_winds 40 = .ok (.iload_n 3, 1) := by decide +kernel
theorem dX11_winds_41 : decode cX11_winds 41 = .ok (.aload_n 0, 1) := by decide +kernel
theorem dX11_winds_42 : decode cX11_winds 42 = .ok (.getfield 116, 3) := by decide +kernel
theorem dX11_winds_45 : decode cX11_winds 45 = .ok (.iload_n 2, 1) := by decide +kernel
theorem dX11_winds_46 : decode cX11_winds 46 = .ok (.iadd, 1) := by decide +kernel
theorem dX11_winds_47 : decode cX11_winds 47 = .ok (.if_icmp .ge 17, 3) := by decide +kernel
theorem dX11_winds_50 : decode cX11_winds 50 = .ok (.aload_n 0, 1) := by decide +kernel
theorem dX11_winds_51 : decode cX11_winds 51 = .ok (.getfield 47, 3) := by decide +kernel
theorem dX11_winds_54 : decode cX11_winds 54 = .ok (.iload_n 3, 1) := by decide +kernel
theorem dX11_winds_55 : decode cX11_winds 55 = .ok (.iload_n 1, 1) := by decide +kernel
theorem dX11_winds_56 : decode cX11_winds 56 = .ok (.i2b, 1) := by decide +kernel
theorem dX11_winds_57 : decode cX11_winds 57 = .ok (.bastore, 1) := by decide +kernel
theorem dX11_winds_58 : decode cX11_winds 58 = .ok (.iinc 3 1, 3) := by decide +kernel
theorem dX11_winds_61 : decode cX11_winds 61 = .ok (.goto (-21), 3) := by decide +kernel
theorem dX11_winds_64 : decode cX11_winds 64 = .ok (.aload_n 0, 1) := by decide +kernel
theorem dX11_winds_65 : decode cX11_winds 65 = .ok (.dup, 1) := by decide +kernel
theorem dX11_winds_66 : decode cX11_winds 66 = .ok (.getfield 116, 3) := by decide +kernel
theorem dX11_winds_69 : decode cX11_winds 69 = .ok (.iload_n 2, 1) := by decide +kernel
theorem dX11_winds_70 : decode cX11_winds 70 = .ok (.iadd, 1) := by decide +kernel
theorem dX11_winds_71 : decode cX11_winds 71 = .ok (.putfield 116, 3) := by decide +kernel
theorem dX11_winds_74 : decode cX11_winds 74 = .ok (.aload_n 0, 1) := by decide +kernel
theorem dX11_winds_75 : decode cX11_winds 75 = .ok (.getfield 116, 3) := by decide +kernel
theorem dX11_winds_78 : decode cX11_winds 78 = .ok (.ireturn, 1) := by decide +kernel
theorem dX11_city_0 : decode cX11_city 0 = .ok (.iload_n 1, 1) := by decide +kernel
theorem dX11_city_1 : decode cX11_city 1 = .ok (.iconst 0, 1) := by decide +kernel
theorem dX11_city_2 : decode cX11_city 2 = .ok (.ldc 119, 2) := by decide +kernel
theorem dX11_city_4 : decode cX11_city 4 = .ok (.invokestatic 55, 3) := by decide +kernel
theorem dX11_city_7 : decode cX11_city 7 = .ok (.ifCond .eq 25, 3) := by decide +kernel
theorem dX11_city_10 : decode cX11_city 10 = .ok (.iload_n 2, 1) := by decide +kernel
theorem dX11_city_11 : decode cX11_city 11 = .ok (.iconst 0, 1) := by decide +kernel
theorem dX11_city_12 : decode cX11_city 12 = .ok (.sipush 999, 3) := by decide +kernel
theorem dX11_city_15 : decode cX11_city 15 = .ok (.invokestatic 55, 3) := by decide +kernel
theorem dX11_city_18 : decode cX11_city 18 = .ok (.ifCond .eq 14, 3) := by decide +kernel
theorem dX11_city_21 : decode cX11_city 21 = .ok (.iload_n 3, 1) := by decide +kernel
theorem dX11_city_22 : decode cX11_city 22 = .ok (.iconst 1, 1) := by decide +kernel
theorem dX11_city_23 : decode cX11_city 23 = .ok (.sipush 999, 3) := by decide +kernel
theorem dX11_city_26 : decode cX11_city 26 = .ok (.invokestatic 55, 3) := by decide +kernel
theorem dX11_city_29 : decode cX11_city 29 = .ok (.ifCond .ne 5, 3) := by decide +kernel
theorem dX11_city_32 : decode cX11_city 32 = .ok (.iconst 0, 1) := by decide +kernel
theorem dX11_city_33 : decode cX11_city 33 = .ok (.ireturn, 1) := by decide +kernel
theorem dX11_city_34 : decode cX11_city 34 = .ok (.aload_n 0, 1) := by decide +kernel
theorem dX11_city_35 : decode cX11_city 35 = .ok (.getfield 10, 3) := by decide +kernel
theorem dX11_city_38 : decode cX11_city 38 = .ok (.getfield 120, 3) := by decide +kernel
theorem dX11_city_41 : decode cX11_city 41 = .ok (.iload_n 1, 1) := by decide +kernel
theorem dX11_city_42 : decode cX11_city 42 = .ok (.putfield 124, 3) := by decide +kernel
theorem dX11_city_45 : decode cX11_city 45 = .ok (.aload_n 0, 1) := by decide +kernel
theorem dX11_city_46 : decode cX11_city 46 = .ok (.getfield 10, 3) := by decide +kernel
theorem dX11_city_49 : decode cX11_city 49 = .ok (.getfield 120, 3) := by decide +kernel
theorem dX11_city_52 : decode cX11_city 52 = .ok (.iload_n 2, 1) := by decide +kernel
theorem dX11_city_53 : decode cX11_city 53 = .ok (.putfield 129, 3) := by decide +kernel
theorem dX11_city_56 : decode cX11_city 56 = .ok (.aload_n 0, 1) := by decide +kernel
theorem dX11_city_57 : decode cX11_city 57 = .ok (.getfield 10, 3) := by decide +kernel
theorem dX11_city_60 : decode cX11_city 60 = .ok (.getfield 120, 3) := by decide +kernel
theorem dX11_city_63 : decode cX11_city 63 = .ok (.iload_n 3, 1) := by decide +kernel
theorem dX11_city_64 : decode cX11_city 64 = .ok (.putfield 132, 3) := by decide +kernel
theorem dX11_city_67 : decode cX11_city 67 = .ok (.iconst 1, 1) := by decide +kernel
theorem dX11_city_68 : decode cX11_city 68 = .ok (.ireturn, 1) := by decide +kernel
theorem dX11_feed_0 : decode cX11_feed 0 = .ok (.aload_n 0, 1) := by decide +kernel
theorem dX11_feed_1 : decode cX11_feed 1 = .ok (.getfield 22, 3) := by decide +kernel
theorem dX11_feed_4 : decode cX11_feed 4 = .ok (.lload_n 1, 1) := by decide +kernel
theorem dX11_feed_5 : decode cX11_feed 5 = .ok (.invokevirtual 135, 3) := by decide +kernel
theorem dX11_feed_8 : decode cX11_feed 8 = .ok (.aload_n 0, 1) := by decide +kernel
theorem dX11_feed_9 : decode cX11_feed 9 = .ok (.getfield 22, 3) := by decide +kernel
theorem dX11_feed_12 : decode cX11_feed 12 = .ok (.lload_n 3, 1) := by decide +kernel
theorem dX11_feed_13 : decode cX11_feed 13 = .ok (.invokevirtual 135, 3) := by decide +kernel
theorem dX11_feed_16 : decode cX11_feed 16 = .ok (.aload_n 0, 1) := by decide +kernel
theorem dX11_feed_17 : decode cX11_feed 17 = .ok (.getfield 22, 3) := by decide +kernel
theorem dX11_feed_20 : decode cX11_feed 20 = .ok (.lload 5, 2) := by decide +kernel
theorem dX11_feed_22 : decode cX11_feed 22 = .ok (.invokevirtual 135, 3) := by decide +kernel
theorem dX11_feed_25 : decode cX11_feed 25 = .ok (.aload_n 0, 1) := by decide +kernel
theorem dX11_feed_26 : decode cX11_feed 26 = .ok (.getfield 22, 3) := by decide +kernel
theorem dX11_feed_29 : decode cX11_feed 29 = .ok (.getfield 139, 3) := by decide +kernel
theorem dX11_feed_32 : decode cX11_feed 32 = .ok (.ireturn, 1) := by decide +kernel
theorem dX11_pact_0 : decode cX11_pact 0 = .ok (.aload_n 0, 1) := by decide +kernel
theorem dX11_pact_1 : decode cX11_pact 1 = .ok (.getfield 22, 3) := by decide +kernel
theorem dX11_pact_4 : decode cX11_pact 4 = .ok (.invokevirtual 142, 3) := by decide +kernel
theorem dX11_pact_7 : decode cX11_pact 7 = .ok (.astore_n 1, 1) := by decide +kernel
theorem dX11_pact_8 : decode cX11_pact 8 = .ok (.aload_n 1, 1) := by decide +kernel
theorem dX11_pact_9 : decode cX11_pact 9 = .ok (.ifnull 11, 3) := by decide +kernel
theorem dX11_pact_12 : decode cX11_pact 12 = .ok (.aload_n 0, 1) := by decide +kernel
theorem dX11_pact_13 : decode cX11_pact 13 = .ok (.getfield 10, 3) := by decide +kernel
theorem dX11_pact_16 : decode cX11_pact 16 = .ok (.aload_n 1, 1) := by decide +kernel
theorem dX11_pact_17 : decode cX11_pact 17 = .ok (.putfield 146, 3) := by decide +kernel
theorem dX11_pact_20 : decode cX11_pact 20 = .ok (.aload_n 0, 1) := by decide +kernel
theorem dX11_pact_21 : decode cX11_pact 21 = .ok (.getfield 22, 3) := by decide +kernel
theorem dX11_pact_24 : decode cX11_pact 24 = .ok (.getfield 150, 3) := by decide +kernel
theorem dX11_pact_27 : decode cX11_pact 27 = .ok (.ireturn, 1) := by decide +kernel
theorem dX11_law_0 : decode cX11_law 0 = .ok (.aload_n 0, 1) := by decide +kernel
theorem dX11_law_1 : decode cX11_law 1 = .ok (.getfield 22, 3) := by decide +kernel
theorem dX11_law_4 : decode cX11_law 4 = .ok (.invokevirtual 153, 3) := by decide +kernel
theorem dX11_law_7 : decode cX11_law 7 = .ok (.astore_n 1, 1) := by decide +kernel
theorem dX11_law_8 : decode cX11_law 8 = .ok (.aload_n 1, 1) := by decide +kernel
theorem dX11_law_9 : decode cX11_law 9 = .ok (.ifnull 11, 3) := by decide +kernel
theorem dX11_law_12 : decode cX11_law 12 = .ok (.aload_n 0, 1) := by decide +kernel
theorem dX11_law_13 : decode cX11_law 13 = .ok (.getfield 10, 3) := by decide +kernel
theorem dX11_law_16 : decode cX11_law 16 = .ok (.aload_n 1, 1) := by decide +kernel
theorem dX11_law_17 : decode cX11_law 17 = .ok (.putfield 157, 3) := by decide +kernel
theorem dX11_law_20 : decode cX11_law 20 = .ok (.aload_n 0, 1) := by decide +kernel
theorem dX11_law_21 : decode cX11_law 21 = .ok (.getfield 22, 3) := by decide +kernel
theorem dX11_law_24 : decode cX11_law 24 = .ok (.getfield 150, 3) := by decide +kernel
theorem dX11_law_27 : decode cX11_law 27 = .ok (.ireturn, 1) := by decide +kernel
theorem dX11_days_0 : decode cX11_days 0 = .ok (.iload_n 1, 1) := by decide +kernel
theorem dX11_days_1 : decode cX11_days 1 = .ok (.iconst 0, 1) := by decide +kernel
theorem dX11_days_2 : decode cX11_days 2 = .ok (.bipush 60, 2) := by decide +kernel
theorem dX11_days_4 : decode cX11_days 4 = .ok (.invokestatic 55, 3) := by decide +kernel
theorem dX11_days_7 : decode cX11_days 7 = .ok (.ifCond .eq 18, 3) := by decide +kernel
theorem dX11_days_10 : decode cX11_days 10 = .ok (.aload_n 0, 1) := by decide +kernel
theorem dX11_days_11 : decode cX11_days 11 = .ok (.getfield 10, 3) := by decide +kernel
theorem dX11_days_14 : decode cX11_days 14 = .ok (.getfield 107, 3) := by decide +kernel
theorem dX11_days_17 : decode cX11_days 17 = .ok (.iload_n 1, 1) := by decide +kernel
theorem dX11_days_18 : decode cX11_days 18 = .ok (.iadd, 1) := by decide +kernel
theorem dX11_days_19 : decode cX11_days 19 = .ok (.sipush 720, 3) := by decide +kernel
theorem dX11_days_22 : decode cX11_days 22 = .ok (.if_icmp .le 5, 3) := by decide +kernel
theorem dX11_days_25 : decode cX11_days 25 = .ok (.iconst (-1), 1) := by decide +kernel
theorem dX11_days_26 : decode cX11_days 26 = .ok (.ireturn, 1) := by decide +kernel
theorem dX11_days_27 : decode cX11_days 27 = .ok (.iconst 0, 1) := by decide +kernel
theorem dX11_days_28 : decode cX11_days 28 = .ok (.istore_n 2, 1) := by decide +kernel
theorem dX11_days_29 : decode cX11_days 29 = .ok (.iload_n 2, 1) := by decide +kernel
theorem dX11_days_30 : decode cX11_days 30 = .ok (.iload_n 1, 1) := by decide +kernel
theorem dX11_days_31 : decode cX11_days 31 = .ok (.if_icmp .ge 53, 3) := by decide +kernel
theorem dX11_days_34 : decode cX11_days 34 = .ok (.aload_n 0, 1) := by decide +kernel
theorem dX11_days_35 : decode cX11_days 35 = .ok (.getfield 10, 3) := by decide +kernel
theorem dX11_days_38 : decode cX11_days 38 = .ok (.aload_n 0, 1) := by decide +kernel
theorem dX11_days_39 : decode cX11_days 39 = .ok (.aload_n 0, 1) := by decide +kernel
theorem dX11_days_40 : decode cX11_days 40 = .ok (.getfield 10, 3) := by decide +kernel
theorem dX11_days_43 : decode cX11_days 43 = .ok (.getfield 107, 3) := by decide +kernel
theorem dX11_days_46 : decode cX11_days 46 = .ok (.iconst 1, 1) := by decide +kernel
theorem dX11_days_47 : decode cX11_days 47 = .ok (.iadd, 1) := by decide +kernel
theorem dX11_days_48 : decode cX11_days 48 = .ok (.invokevirtual 161, 3) := by decide +kernel
theorem dX11_days_51 : decode cX11_days 51 = .ok (.invokevirtual 165, 3) := by decide +kernel
theorem dX11_days_54 : decode cX11_days 54 = .ok (.aload_n 0, 1) := by decide +kernel
theorem dX11_days_55 : decode cX11_days 55 = .ok (.getfield 10, 3) := by decide +kernel
theorem dX11_days_58 : decode cX11_days 58 = .ok (.getfield 107, 3) := by decide +kernel
theorem dX11_days_61 : decode cX11_days 61 = .ok (.bipush 30, 2) := by decide +kernel
theorem dX11_days_63 : decode cX11_days 63 = .ok (.irem, 1) := by decide +kernel
theorem dX11_days_64 : decode cX11_days 64 = .ok (.ifCond .ne 14, 3) := by decide +kernel
theorem dX11_days_67 : decode cX11_days 67 = .ok (.aload_n 0, 1) := by decide +kernel
theorem dX11_days_68 : decode cX11_days 68 = .ok (.getfield 29, 3) := by decide +kernel
theorem dX11_days_71 : decode cX11_days 71 = .ok (.aload_n 0, 1) := by decide +kernel
theorem dX11_days_72 : decode cX11_days 72 = .ok (.getfield 10, 3) := by decide +kernel
theorem dX11_days_75 : decode cX11_days 75 = .ok (.invokevirtual 169, 3) := by decide +kernel
theorem dX11_days_78 : decode cX11_days 78 = .ok (.iinc 2 1, 3) := by decide +kernel
theorem dX11_days_81 : decode cX11_days 81 = .ok (.goto (-52), 3) := by decide +kernel
theorem dX11_days_84 : decode cX11_days 84 = .ok (.aload_n 0, 1) := by decide +kernel
theorem dX11_days_85 : decode cX11_days 85 = .ok (.getfield 10, 3) := by decide +kernel
theorem dX11_days_88 : decode cX11_days 88 = .ok (.getfield 107, 3) := by decide +kernel
theorem dX11_days_91 : decode cX11_days 91 = .ok (.ireturn, 1) := by decide +kernel
theorem dX11_price_0 : decode cX11_price 0 = .ok (.iload_n 1, 1) := by decide +kernel
theorem dX11_price_1 : decode cX11_price 1 = .ok (.iconst 0, 1) := by decide +kernel
theorem dX11_price_2 : decode cX11_price 2 = .ok (.iconst 4, 1) := by decide +kernel
theorem dX11_price_3 : decode cX11_price 3 = .ok (.invokestatic 55, 3) := by decide +kernel
theorem dX11_price_6 : decode cX11_price 6 = .ok (.ifCond .eq 17, 3) := by decide +kernel
theorem dX11_price_9 : decode cX11_price 9 = .ok (.aload_n 0, 1) := by decide +kernel
theorem dX11_price_10 : decode cX11_price 10 = .ok (.getfield 10, 3) := by decide +kernel
theorem dX11_price_13 : decode cX11_price 13 = .ok (.getfield 120, 3) := by decide +kernel
theorem dX11_price_16 : decode cX11_price 16 = .ok (.iload_n 1, 1) := by decide +kernel
theorem dX11_price_17 : decode cX11_price 17 = .ok (.invokevirtual 173, 3) := by decide +kernel
theorem dX11_price_20 : decode cX11_price 20 = .ok (.goto 4, 3) := by decide +kernel
theorem dX11_price_23 : decode cX11_price 23 = .ok (.iconst (-1), 1) := by decide +kernel
theorem dX11_price_24 : decode cX11_price 24 = .ok (.ireturn, 1) := by decide +kernel
theorem dX11_report_0 : decode cX11_report 0 = .ok (.aload_n 0, 1) := by decide +kernel
theorem dX11_report_1 : decode cX11_report 1 = .ok (.iload_n 1, 1) := by decide +kernel
theorem dX11_report_2 : decode cX11_report 2 = .ok (.invokevirtual 81, 3) := by decide +kernel
theorem dX11_report_5 : decode cX11_report 5 = .ok (.ifCond .eq 32, 3) := by decide +kernel
theorem dX11_report_8 : decode cX11_report 8 = .ok (.aload_n 0, 1) := by decide +kernel
theorem dX11_report_9 : decode cX11_report 9 = .ok (.iload_n 2, 1) := by decide +kernel
theorem dX11_report_10 : decode cX11_report 10 = .ok (.invokevirtual 176, 3) := by decide +kernel
theorem dX11_report_13 : decode cX11_report 13 = .ok (.ifCond .eq 24, 3) := by decide +kernel
theorem dX11_report_16 : decode cX11_report 16 = .ok (.iload_n 3, 1) := by decide +kernel
theorem dX11_report_17 : decode cX11_report 17 = .ok (.iconst 0, 1) := by decide +kernel
theorem dX11_report_18 : decode cX11_report 18 = .ok (.iconst 2, 1) := by decide +kernel
theorem dX11_report_19 : decode cX11_report 19 = .ok (.invokestatic 55, 3) := by decide +kernel
theorem dX11_report_22 : decode cX11_report 22 = .ok (.ifCond .eq 15, 3) := by decide +kernel
theorem dX11_report_25 : decode cX11_report 25 = .ok (.iload 4, 2) := by decide +kernel
theorem dX11_report_27 : decode cX11_report 27 = .ok (.iconst 0, 1) := by decide +kernel
theorem dX11_report_28 : decode cX11_report 28 = .ok (.sipush 9999, 3) := by decide +kernel
theorem dX11_report_31 : decode cX11_report 31 = .ok (.invokestatic 55, 3) := by decide +kernel
theorem dX11_report_34 : decode cX11_report 34 = .ok (.ifCond .ne 5, 3) := by decide +kernel
theorem dX11_report_37 : decode cX11_report 37 = .ok (.iconst (-1), 1) := by decide +kernel
theorem dX11_report_38 : decode cX11_report 38 = .ok (.ireturn, 1) := by decide +kernel
theorem dX11_report_39 : decode cX11_report 39 = .ok (.aload_n 0, 1) := by decide +kernel
theorem dX11_report_40 : decode cX11_report 40 = .ok (.getfield 36, 3) := by decide +kernel
theorem dX11_report_43 : decode cX11_report 43 = .ok (.aload_n 0, 1) := by decide +kernel
theorem dX11_report_44 : decode cX11_report 44 = .ok (.getfield 29, 3) := by decide +kernel
theorem dX11_report_47 : decode cX11_report 47 = .ok (.iload_n 1, 1) := by decide +kernel
theorem dX11_report_48 : decode cX11_report 48 = .ok (.iload_n 2, 1) := by decide +kernel
theorem dX11_report_49 : decode cX11_report 49 = .ok (.invokevirtual 179, 3) := by decide +kernel
theorem dX11_report_52 : decode cX11_report 52 = .ok (.aload_n 0, 1) := by decide +kernel
theorem dX11_report_53 : decode cX11_report 53 = .ok (.getfield 10, 3) := by decide +kernel
theorem dX11_report_56 : decode cX11_report 56 = .ok (.getfield 107, 3) := by decide +kernel
theorem dX11_report_59 : decode cX11_report 59 = .ok (.iload_n 3, 1) := by decide +kernel
theorem dX11_report_60 : decode cX11_report 60 = .ok (.iload 4, 2) := by decide +kernel
theorem dX11_report_62 : decode cX11_report 62 = .ok (.invokestatic 183, 3) := by decide +kernel
theorem dX11_report_65 : decode cX11_report 65 = .ok (.iload_n 3, 1) := by decide +kernel
theorem dX11_report_66 : decode cX11_report 66 = .ok (.iload 4, 2) := by decide +kernel
theorem dX11_report_68 : decode cX11_report 68 = .ok (.invokestatic 186, 3) := by decide +kernel
theorem dX11_report_71 : decode cX11_report 71 = .ok (.invokevirtual 189, 3) := by decide +kernel
theorem dX11_report_74 : decode cX11_report 74 = .ok (.ireturn, 1) := by decide +kernel
theorem dX11_known_0 : decode cX11_known 0 = .ok (.aload_n 0, 1) := by decide +kernel
theorem dX11_known_1 : decode cX11_known 1 = .ok (.iload_n 1, 1) := by decide +kernel
theorem dX11_known_2 : decode cX11_known 2 = .ok (.invokevirtual 81, 3) := by decide +kernel
theorem dX11_known_5 : decode cX11_known 5 = .ok (.ifCond .eq 36, 3) := by decide +kernel
theorem dX11_known_8 : decode cX11_known 8 = .ok (.aload_n 0, 1) := by decide +kernel
theorem dX11_known_9 : decode cX11_known 9 = .ok (.iload_n 2, 1) := by decide +kernel
theorem dX11_known_10 : decode cX11_known 10 = .ok (.invokevirtual 176, 3) := by decide +kernel
theorem dX11_known_13 : decode cX11_known 13 = .ok (.ifCond .eq 28, 3) := by decide +kernel
theorem dX11_known_16 : decode cX11_known 16 = .ok (.iload_n 3, 1) := by decide +kernel
theorem dX11_known_17 : decode cX11_known 17 = .ok (.iconst 0, 1) := by decide +kernel
theorem dX11_known_18 : decode cX11_known 18 = .ok (.aload_n 0, 1) := by decide +kernel
theorem dX11_known_19 : decode cX11_known 19 = .ok (.getfield 10, 3) := by decide +kernel
theorem dX11_known_22 : decode cX11_known 22 = .ok (.getfield 107, 3) := by decide +kernel
theorem dX11_known_25 : decode cX11_known 25 = .ok (.invokestatic 55, 3) := by decide +kernel
theorem dX11_known_28 : decode cX11_known 28 = .ok (.ifCond .eq 13, 3) := by decide +kernel
theorem dX11_known_31 : decode cX11_known 31 = .ok (.iload 4, 2) := by decide +kernel
theorem dX11_known_33 : decode cX11_known 33 = .ok (.iconst 0, 1) := by decide +kernel
theorem dX11_known_34 : decode cX11_known 34 = .ok (.iconst 2, 1) := by decide +kernel
theorem dX11_known_35 : decode cX11_known 35 = .ok (.invokestatic 55, 3) := by decide +kernel
theorem dX11_known_38 : decode cX11_known 38 = .ok (.ifCond .ne 5, 3) := by decide +kernel
theorem dX11_known_41 : decode cX11_known 41 = .ok (.iconst (-1), 1) := by decide +kernel
theorem dX11_known_42 : decode cX11_known 42 = .ok (.ireturn, 1) := by decide +kernel
theorem dX11_known_43 : decode cX11_known 43 = .ok (.aload_n 0, 1) := by decide +kernel
theorem dX11_known_44 : decode cX11_known 44 = .ok (.getfield 36, 3) := by decide +kernel
theorem dX11_known_47 : decode cX11_known 47 = .ok (.aload_n 0, 1) := by decide +kernel
theorem dX11_known_48 : decode cX11_known 48 = .ok (.getfield 29, 3) := by decide +kernel
theorem dX11_known_51 : decode cX11_known 51 = .ok (.iload_n 1, 1) := by decide +kernel
theorem dX11_known_52 : decode cX11_known 52 = .ok (.iload_n 2, 1) := by decide +kernel
theorem dX11_known_53 : decode cX11_known 53 = .ok (.invokevirtual 179, 3) := by decide +kernel
theorem dX11_known_56 : decode cX11_known 56 = .ok (.iload_n 3, 1) := by decide +kernel
theorem dX11_known_57 : decode cX11_known 57 = .ok (.invokevirtual 193, 3) := by decide +kernel
theorem dX11_known_60 : decode cX11_known 60 = .ok (.iload 4, 2) := by decide +kernel
theorem dX11_known_62 : decode cX11_known 62 = .ok (.lookupswitch 42 #[(0, 26), (1, 34)], 26) := by decide +kernel
theorem dX11_known_88 : decode cX11_known 88 = .ok (.aload_n 0, 1) := by decide +kernel
theorem dX11_known_89 : decode cX11_known 89 = .ok (.getfield 36, 3) := by decide +kernel
theorem dX11_known_92 : decode cX11_known 92 = .ok (.getfield 197, 3) := by decide +kernel
theorem dX11_known_95 : decode cX11_known 95 = .ok (.ireturn, 1) := by decide +kernel
theorem dX11_known_96 : decode cX11_known 96 = .ok (.aload_n 0, 1) := by decide +kernel
theorem dX11_known_97 : decode cX11_known 97 = .ok (.getfield 36, 3) := by decide +kernel
theorem dX11_known_100 : decode cX11_known 100 = .ok (.getfield 200, 3) := by decide +kernel
theorem dX11_known_103 : decode cX11_known 103 = .ok (.ireturn, 1) := by decide +kernel
theorem dX11_known_104 : decode cX11_known 104 = .ok (.aload_n 0, 1) := by decide +kernel
theorem dX11_known_105 : decode cX11_known 105 = .ok (.getfield 36, 3) := by decide +kernel
theorem dX11_known_108 : decode cX11_known 108 = .ok (.getfield 197, 3) := by decide +kernel
theorem dX11_known_111 : decode cX11_known 111 = .ok (.aload_n 0, 1) := by decide +kernel
theorem dX11_known_112 : decode cX11_known 112 = .ok (.getfield 36, 3) := by decide +kernel
theorem dX11_known_115 : decode cX11_known 115 = .ok (.getfield 200, 3) := by decide +kernel
theorem dX11_known_118 : decode cX11_known 118 = .ok (.if_icmp .le 7, 3) := by decide +kernel
theorem dX11_known_121 : decode cX11_known 121 = .ok (.iconst 1, 1) := by decide +kernel
theorem dX11_known_122 : decode cX11_known 122 = .ok (.goto 4, 3) := by decide +kernel
theorem dX11_known_125 : decode cX11_known 125 = .ok (.iconst 0, 1) := by decide +kernel
theorem dX11_known_126 : decode cX11_known 126 = .ok (.ireturn, 1) := by decide +kernel
theorem dX11_proved_0 : decode cX11_proved 0 = .ok (.aload_n 0, 1) := by decide +kernel
theorem dX11_proved_1 : decode cX11_proved 1 = .ok (.iload_n 1, 1) := by decide +kernel
theorem dX11_proved_2 : decode cX11_proved 2 = .ok (.invokevirtual 81, 3) := by decide +kernel
theorem dX11_proved_5 : decode cX11_proved 5 = .ok (.ifCond .eq 26, 3) := by decide +kernel
theorem dX11_proved_8 : decode cX11_proved 8 = .ok (.aload_n 0, 1) := by decide +kernel
theorem dX11_proved_9 : decode cX11_proved 9 = .ok (.iload_n 2, 1) := by decide +kernel
theorem dX11_proved_10 : decode cX11_proved 10 = .ok (.invokevirtual 176, 3) := by decide +kernel
theorem dX11_proved_13 : decode cX11_proved 13 = .ok (.ifCond .eq 18, 3) := by decide +kernel
theorem dX11_proved_16 : decode cX11_proved 16 = .ok (.iload_n 3, 1) := by decide +kernel
theorem dX11_proved_17 : decode cX11_proved 17 = .ok (.iconst 0, 1) := by decide +kernel
theorem dX11_proved_18 : decode cX11_proved 18 = .ok (.aload_n 0, 1) := by decide +kernel
theorem dX11_proved_19 : decode cX11_proved 19 = .ok (.getfield 10, 3) := by decide +kernel
theorem dX11_proved_22 : decode cX11_proved 22 = .ok (.getfield 107, 3) := by decide +kernel
theorem dX11_proved_25 : decode cX11_proved 25 = .ok (.invokestatic 55, 3) := by decide +kernel
theorem dX11_proved_28 : decode cX11_proved 28 = .ok (.ifCond .ne 5, 3) := by decide +kernel
theorem dX11_proved_31 : decode cX11_proved 31 = .ok (.iconst (-1), 1) := by decide +kernel
theorem dX11_proved_32 : decode cX11_proved 32 = .ok (.ireturn, 1) := by decide +kernel
theorem dX11_proved_33 : decode cX11_proved 33 = .ok (.aload_n 0, 1) := by decide +kernel
theorem dX11_proved_34 : decode cX11_proved 34 = .ok (.iload_n 1, 1) := by decide +kernel
theorem dX11_proved_35 : decode cX11_proved 35 = .ok (.iload_n 2, 1) := by decide +kernel
theorem dX11_proved_36 : decode cX11_proved 36 = .ok (.iload_n 3, 1) := by decide +kernel
theorem dX11_proved_37 : decode cX11_proved 37 = .ok (.invokevirtual 203, 3) := by decide +kernel
theorem dX11_proved_40 : decode cX11_proved 40 = .ok (.ireturn, 1) := by decide +kernel
theorem dX11_fine_0 : decode cX11_fine 0 = .ok (.aload_n 0, 1) := by decide +kernel
theorem dX11_fine_1 : decode cX11_fine 1 = .ok (.iload_n 1, 1) := by decide +kernel
theorem dX11_fine_2 : decode cX11_fine 2 = .ok (.invokevirtual 81, 3) := by decide +kernel
theorem dX11_fine_5 : decode cX11_fine 5 = .ok (.ifCond .eq 31, 3) := by decide +kernel
theorem dX11_fine_8 : decode cX11_fine 8 = .ok (.aload_n 0, 1) := by decide +kernel
theorem dX11_fine_9 : decode cX11_fine 9 = .ok (.iload_n 2, 1) := by decide +kernel
theorem dX11_fine_10 : decode cX11_fine 10 = .ok (.invokevirtual 176, 3) := by decide +kernel
theorem dX11_fine_13 : decode cX11_fine 13 = .ok (.ifCond .eq 23, 3) := by decide +kernel
theorem dX11_fine_16 : decode cX11_fine 16 = .ok (.aload_n 0, 1) := by decide +kernel
theorem dX11_fine_17 : decode cX11_fine 17 = .ok (.getfield 29, 3) := by decide +kernel
theorem dX11_fine_20 : decode cX11_fine 20 = .ok (.getfield 207, 3) := by decide +kernel
theorem dX11_fine_23 : decode cX11_fine 23 = .ok (.aload_n 0, 1) := by decide +kernel
theorem dX11_fine_24 : decode cX11_fine 24 = .ok (.getfield 29, 3) := by decide +kernel
theorem dX11_fine_27 : decode cX11_fine 27 = .ok (.iload_n 1, 1) := by decide +kernel
theorem dX11_fine_28 : decode cX11_fine 28 = .ok (.iload_n 2, 1) := by decide +kernel
theorem dX11_fine_29 : decode cX11_fine 29 = .ok (.invokevirtual 179, 3) := by decide +kernel
theorem dX11_fine_32 : decode cX11_fine 32 = .ok (.baload, 1) := by decide +kernel
theorem dX11_fine_33 : decode cX11_fine 33 = .ok (.ifCond .eq 5, 3) := by decide +kernel
theorem dX11_fine_36 : decode cX11_fine 36 = .ok (.iconst (-1), 1) := by decide +kernel
theorem dX11_fine_37 : decode cX11_fine 37 = .ok (.ireturn, 1) := by decide +kernel
theorem dX11_fine_38 : decode cX11_fine 38 = .ok (.aload_n 0, 1) := by decide +kernel
theorem dX11_fine_39 : decode cX11_fine 39 = .ok (.iload_n 1, 1) := by decide +kernel
theorem dX11_fine_40 : decode cX11_fine 40 = .ok (.iload_n 2, 1) := by decide +kernel
theorem dX11_fine_41 : decode cX11_fine 41 = .ok (.aload_n 0, 1) := by decide +kernel
theorem dX11_fine_42 : decode cX11_fine 42 = .ok (.getfield 10, 3) := by decide +kernel
theorem dX11_fine_45 : decode cX11_fine 45 = .ok (.getfield 107, 3) := by decide +kernel
theorem dX11_fine_48 : decode cX11_fine 48 = .ok (.invokevirtual 203, 3) := by decide +kernel
theorem dX11_fine_51 : decode cX11_fine 51 = .ok (.istore_n 3, 1) := by decide +kernel
theorem dX11_fine_52 : decode cX11_fine 52 = .ok (.iload_n 3, 1) := by decide +kernel
theorem dX11_fine_53 : decode cX11_fine 53 = .ok (.ifCond .ne 5, 3) := by decide +kernel
theorem dX11_fine_56 : decode cX11_fine 56 = .ok (.iconst (-1), 1) := by decide +kernel
theorem dX11_fine_57 : decode cX11_fine 57 = .ok (.ireturn, 1) := by decide +kernel
theorem dX11_fine_58 : decode cX11_fine 58 = .ok (.aload_n 0, 1) := by decide +kernel
theorem dX11_fine_59 : decode cX11_fine 59 = .ok (.getfield 29, 3) := by decide +kernel
theorem dX11_fine_62 : decode cX11_fine 62 = .ok (.getfield 207, 3) := by decide +kernel
theorem dX11_fine_65 : decode cX11_fine 65 = .ok (.aload_n 0, 1) := by decide +kernel
theorem dX11_fine_66 : decode cX11_fine 66 = .ok (.getfield 29, 3) := by decide +kernel
theorem dX11_fine_69 : decode cX11_fine 69 = .ok (.iload_n 1, 1) := by decide +kernel
theorem dX11_fine_70 : decode cX11_fine 70 = .ok (.iload_n 2, 1) := by decide +kernel
theorem dX11_fine_71 : decode cX11_fine 71 = .ok (.invokevirtual 179, 3) := by decide +kernel
theorem dX11_fine_74 : decode cX11_fine 74 = .ok (.iconst 1, 1) := by decide +kernel
theorem dX11_fine_75 : decode cX11_fine 75 = .ok (.bastore, 1) := by decide +kernel
theorem dX11_fine_76 : decode cX11_fine 76 = .ok (.aload_n 0, 1) := by decide +kernel
theorem dX11_fine_77 : decode cX11_fine 77 = .ok (.getfield 10, 3) := by decide +kernel
theorem dX11_fine_80 : decode cX11_fine 80 = .ok (.aload_n 0, 1) := by decide +kernel
theorem dX11_fine_81 : decode cX11_fine 81 = .ok (.getfield 29, 3) := by decide +kernel
theorem dX11_fine_84 : decode cX11_fine 84 = .ok (.getfield 211, 3) := by decide +kernel
theorem dX11_fine_87 : decode cX11_fine 87 = .ok (.iload_n 2, 1) := by decide +kernel
theorem dX11_fine_88 : decode cX11_fine 88 = .ok (.aaload, 1) := by decide +kernel
theorem dX11_fine_89 : decode cX11_fine 89 = .ok (.aload_n 0, 1) := by decide +kernel
theorem dX11_fine_90 : decode cX11_fine 90 = .ok (.getfield 10, 3) := by decide +kernel
theorem dX11_fine_93 : decode cX11_fine 93 = .ok (.getfield 63, 3) := by decide +kernel
theorem dX11_fine_96 : decode cX11_fine 96 = .ok (.iload_n 1, 1) := by decide +kernel
theorem dX11_fine_97 : decode cX11_fine 97 = .ok (.aaload, 1) := by decide +kernel
theorem dX11_fine_98 : decode cX11_fine 98 = .ok (.iload_n 3, 1) := by decide +kernel
theorem dX11_fine_99 : decode cX11_fine 99 = .ok (.invokevirtual 215, 3) := by decide +kernel
theorem dX11_fine_102 : decode cX11_fine 102 = .ok (.istore 4, 2) := by decide +kernel
theorem dX11_fine_104 : decode cX11_fine 104 = .ok (.aload_n 0, 1) := by decide +kernel
theorem dX11_fine_105 : decode cX11_fine 105 = .ok (.getfield 10, 3) := by decide +kernel
theorem dX11_fine_108 : decode cX11_fine 108 = .ok (.getfield 63, 3) := by decide +kernel
theorem dX11_fine_111 : decode cX11_fine 111 = .ok (.iload_n 1, 1) := by decide +kernel
theorem dX11_fine_112 : decode cX11_fine 112 = .ok (.aaload, 1) := by decide +kernel
theorem dX11_fine_113 : decode cX11_fine 113 = .ok (.dup, 1) := by decide +kernel
theorem dX11_fine_114 : decode cX11_fine 114 = .ok (.getfield 219, 3) := by decide +kernel
theorem dX11_fine_117 : decode cX11_fine 117 = .ok (.iload 4, 2) := by decide +kernel
theorem dX11_fine_119 : decode cX11_fine 119 = .ok (.isub, 1) := by decide +kernel
theorem dX11_fine_120 : decode cX11_fine 120 = .ok (.putfield 219, 3) := by decide +kernel
theorem dX11_fine_123 : decode cX11_fine 123 = .ok (.iload 4, 2) := by decide +kernel
theorem dX11_fine_125 : decode cX11_fine 125 = .ok (.ireturn, 1) := by decide +kernel
theorem dX11_sale_0 : decode cX11_sale 0 = .ok (.aload_n 0, 1) := by decide +kernel
theorem dX11_sale_1 : decode cX11_sale 1 = .ok (.iload_n 1, 1) := by decide +kernel
theorem dX11_sale_2 : decode cX11_sale 2 = .ok (.invokevirtual 222, 3) := by decide +kernel
theorem dX11_sale_5 : decode cX11_sale 5 = .ok (.ifCond .eq 29, 3) := by decide +kernel
theorem dX11_sale_8 : decode cX11_sale 8 = .ok (.iload_n 1, 1) := by decide +kernel
theorem dX11_sale_9 : decode cX11_sale 9 = .ok (.ifCond .eq 25, 3) := by decide +kernel
theorem dX11_sale_12 : decode cX11_sale 12 = .ok (.iload_n 2, 1) := by decide +kernel
theorem dX11_sale_13 : decode cX11_sale 13 = .ok (.iconst 1, 1) := by decide +kernel
theorem dX11_sale_14 : decode cX11_sale 14 = .ok (.sipush 9999, 3) := by decide +kernel
theorem dX11_sale_17 : decode cX11_sale 17 = .ok (.invokestatic 55, 3) := by decide +kernel
theorem dX11_sale_20 : decode cX11_sale 20 = .ok (.ifCond .eq 14, 3) := by decide +kernel
theorem dX11_sale_23 : decode cX11_sale 23 = .ok (.iload_n 3, 1) := by decide +kernel
theorem dX11_sale_24 : decode cX11_sale 24 = .ok (.iconst 1, 1) := by decide +kernel
theorem dX11_sale_25 : decode cX11_sale 25 = .ok (.sipush 9999, 3) := by decide +kernel
theorem dX11_sale_28 : decode cX11_sale 28 = .ok (.invokestatic 55, 3) := by decide +kernel
theorem dX11_sale_31 : decode cX11_sale 31 = .ok (.ifCond .ne 5, 3) := by decide +kernel
theorem dX11_sale_34 : decode cX11_sale 34 = .ok (.iconst (-1), 1) := by decide +kernel
theorem dX11_sale_35 : decode cX11_sale 35 = .ok (.ireturn, 1) := by decide +kernel
theorem dX11_sale_36 : decode cX11_sale 36 = .ok (.aload_n 0, 1) := by decide +kernel
theorem dX11_sale_37 : decode cX11_sale 37 = .ok (.getfield 43, 3) := by decide +kernel
theorem dX11_sale_40 : decode cX11_sale 40 = .ok (.iload_n 1, 1) := by decide +kernel
theorem dX11_sale_41 : decode cX11_sale 41 = .ok (.iload_n 2, 1) := by decide +kernel
theorem dX11_sale_42 : decode cX11_sale 42 = .ok (.iload_n 3, 1) := by decide +kernel
theorem dX11_sale_43 : decode cX11_sale 43 = .ok (.invokevirtual 225, 3) := by decide +kernel
theorem dX11_sale_46 : decode cX11_sale 46 = .ok (.ireturn, 1) := by decide +kernel
theorem dX11_named_0 : decode cX11_named 0 = .ok (.aload_n 0, 1) := by decide +kernel
theorem dX11_named_1 : decode cX11_named 1 = .ok (.getfield 43, 3) := by decide +kernel
theorem dX11_named_4 : decode cX11_named 4 = .ok (.aload_n 0, 1) := by decide +kernel
theorem dX11_named_5 : decode cX11_named 5 = .ok (.getfield 10, 3) := by decide +kernel
theorem dX11_named_8 : decode cX11_named 8 = .ok (.invokevirtual 227, 3) := by decide +kernel
theorem dX11_named_11 : decode cX11_named 11 = .ok (.invokevirtual 231, 3) := by decide +kernel
theorem dX11_named_14 : decode cX11_named 14 = .ok (.istore_n 2, 1) := by decide +kernel
theorem dX11_named_15 : decode cX11_named 15 = .ok (.iconst 0, 1) := by decide +kernel
theorem dX11_named_16 : decode cX11_named 16 = .ok (.istore_n 3, 1) := by decide +kernel
theorem dX11_named_17 : decode cX11_named 17 = .ok (.iconst 0, 1) := by decide +kernel
theorem dX11_named_18 : decode cX11_named 18 = .ok (.istore 4, 2) := by decide +kernel
theorem dX11_named_20 : decode cX11_named 20 = .ok (.iload 4, 2) := by decide +kernel
theorem dX11_named_22 : decode cX11_named 22 = .ok (.bipush 10, 2) := by decide +kernel
theorem dX11_named_24 : decode cX11_named 24 = .ok (.if_icmp .ge 30, 3) := by decide +kernel
theorem dX11_named_27 : decode cX11_named 27 = .ok (.iload_n 2, 1) := by decide +kernel
theorem dX11_named_28 : decode cX11_named 28 = .ok (.iload 4, 2) := by decide +kernel
theorem dX11_named_30 : decode cX11_named 30 = .ok (.ishr, 1) := by decide +kernel
theorem dX11_named_31 : decode cX11_named 31 = .ok (.iconst 1, 1) := by decide +kernel
theorem dX11_named_32 : decode cX11_named 32 = .ok (.iand, 1) := by decide +kernel
theorem dX11_named_33 : decode cX11_named 33 = .ok (.iconst 1, 1) := by decide +kernel
theorem dX11_named_34 : decode cX11_named 34 = .ok (.if_icmp .ne 14, 3) := by decide +kernel
theorem dX11_named_37 : decode cX11_named 37 = .ok (.iload_n 3, 1) := by decide +kernel
theorem dX11_named_38 : decode cX11_named 38 = .ok (.iload_n 1, 1) := by decide +kernel
theorem dX11_named_39 : decode cX11_named 39 = .ok (.if_icmp .ne 6, 3) := by decide +kernel
theorem dX11_named_42 : decode cX11_named 42 = .ok (.iload 4, 2) := by decide +kernel
theorem dX11_named_44 : decode cX11_named 44 = .ok (.ireturn, 1) := by decide +kernel
theorem dX11_named_45 : decode cX11_named 45 = .ok (.iinc 3 1, 3) := by decide +kernel
theorem dX11_named_48 : decode cX11_named 48 = .ok (.iinc 4 1, 3) := by decide +kernel
theorem dX11_named_51 : decode cX11_named 51 = .ok (.goto (-31), 3) := by decide +kernel
theorem dX11_named_54 : decode cX11_named 54 = .ok (.iconst (-1), 1) := by decide +kernel
theorem dX11_named_55 : decode cX11_named 55 = .ok (.ireturn, 1) := by decide +kernel
theorem dX11_whatIf_0 : decode cX11_whatIf 0 = .ok (.aload_n 0, 1) := by decide +kernel
theorem dX11_whatIf_1 : decode cX11_whatIf 1 = .ok (.iload_n 1, 1) := by decide +kernel
theorem dX11_whatIf_2 : decode cX11_whatIf 2 = .ok (.invokevirtual 222, 3) := by decide +kernel
theorem dX11_whatIf_5 : decode cX11_whatIf 5 = .ok (.ifCond .eq 21, 3) := by decide +kernel
theorem dX11_whatIf_8 : decode cX11_whatIf 8 = .ok (.aload_n 0, 1) := by decide +kernel
theorem dX11_whatIf_9 : decode cX11_whatIf 9 = .ok (.iload_n 2, 1) := by decide +kernel
theorem dX11_whatIf_10 : decode cX11_whatIf 10 = .ok (.invokevirtual 81, 3) := by decide +kernel
theorem dX11_whatIf_13 : decode cX11_whatIf 13 = .ok (.ifCond .eq 13, 3) := by decide +kernel
theorem dX11_whatIf_16 : decode cX11_whatIf 16 = .ok (.iload_n 3, 1) := by decide +kernel
theorem dX11_whatIf_17 : decode cX11_whatIf 17 = .ok (.iconst 0, 1) := by decide +kernel
theorem dX11_whatIf_18 : decode cX11_whatIf 18 = .ok (.bipush 60, 2) := by decide +kernel
theorem dX11_whatIf_20 : decode cX11_whatIf 20 = .ok (.invokestatic 55, 3) := by decide +kernel
theorem dX11_whatIf_23 : decode cX11_whatIf 23 = .ok (.ifCond .ne 13, 3) := by decide +kernel
theorem dX11_whatIf_26 : decode cX11_whatIf 26 = .ok (.new 234, 3) := by decide +kernel
theorem dX11_whatIf_29 : decode cX11_whatIf 29 = .ok (.dup, 1) := by decide +kernel
theorem dX11_whatIf_30 : decode cX11_whatIf 30 = .ok (.ldc 236, 2) := by decide +kernel
theorem dX11_whatIf_32 : decode cX11_whatIf 32 = .ok (.invokespecial 238, 3) := by decide +kernel
theorem dX11_whatIf_35 : decode cX11_whatIf 35 = .ok (.athrow, 1) := by decide +kernel
theorem dX11_whatIf_36 : decode cX11_whatIf 36 = .ok (.aload_n 0, 1) := by decide +kernel
theorem dX11_whatIf_37 : decode cX11_whatIf 37 = .ok (.iload_n 1, 1) := by decide +kernel
theorem dX11_whatIf_38 : decode cX11_whatIf 38 = .ok (.iconst (-1), 1) := by decide +kernel
theorem dX11_whatIf_39 : decode cX11_whatIf 39 = .ok (.iload_n 3, 1) := by decide +kernel
theorem dX11_whatIf_40 : decode cX11_whatIf 40 = .ok (.invokevirtual 241, 3) := by decide +kernel
theorem dX11_whatIf_43 : decode cX11_whatIf 43 = .ok (.aload_n 0, 1) := by decide +kernel
theorem dX11_whatIf_44 : decode cX11_whatIf 44 = .ok (.getfield 16, 3) := by decide +kernel
theorem dX11_whatIf_47 : decode cX11_whatIf 47 = .ok (.getfield 63, 3) := by decide +kernel
theorem dX11_whatIf_50 : decode cX11_whatIf 50 = .ok (.iload_n 2, 1) := by decide +kernel
theorem dX11_whatIf_51 : decode cX11_whatIf 51 = .ok (.aaload, 1) := by decide +kernel
theorem dX11_whatIf_52 : decode cX11_whatIf 52 = .ok (.getfield 219, 3) := by decide +kernel
theorem dX11_whatIf_55 : decode cX11_whatIf 55 = .ok (.aload_n 0, 1) := by decide +kernel
theorem dX11_whatIf_56 : decode cX11_whatIf 56 = .ok (.getfield 10, 3) := by decide +kernel
theorem dX11_whatIf_59 : decode cX11_whatIf 59 = .ok (.getfield 63, 3) := by decide +kernel
theorem dX11_whatIf_62 : decode cX11_whatIf 62 = .ok (.iload_n 2, 1) := by decide +kernel
theorem dX11_whatIf_63 : decode cX11_whatIf 63 = .ok (.aaload, 1) := by decide +kernel
theorem dX11_whatIf_64 : decode cX11_whatIf 64 = .ok (.getfield 219, 3) := by decide +kernel
theorem dX11_whatIf_67 : decode cX11_whatIf 67 = .ok (.isub, 1) := by decide +kernel
theorem dX11_whatIf_68 : decode cX11_whatIf 68 = .ok (.ireturn, 1) := by decide +kernel
theorem dX11_tempted_0 : decode cX11_tempted 0 = .ok (.aload_n 0, 1) := by decide +kernel
theorem dX11_tempted_1 : decode cX11_tempted 1 = .ok (.iload_n 1, 1) := by decide +kernel
theorem dX11_tempted_2 : decode cX11_tempted 2 = .ok (.invokevirtual 222, 3) := by decide +kernel
theorem dX11_tempted_5 : decode cX11_tempted 5 = .ok (.ifCond .eq 21, 3) := by decide +kernel
theorem dX11_tempted_8 : decode cX11_tempted 8 = .ok (.aload_n 0, 1) := by decide +kernel
theorem dX11_tempted_9 : decode cX11_tempted 9 = .ok (.iload_n 2, 1) := by decide +kernel
theorem dX11_tempted_10 : decode cX11_tempted 10 = .ok (.invokevirtual 81, 3) := by decide +kernel
theorem dX11_tempted_13 : decode cX11_tempted 13 = .ok (.ifCond .eq 13, 3) := by decide +kernel
theorem dX11_tempted_16 : decode cX11_tempted 16 = .ok (.iload_n 3, 1) := by decide +kernel
theorem dX11_tempted_17 : decode cX11_tempted 17 = .ok (.iconst 0, 1) := by decide +kernel
theorem dX11_tempted_18 : decode cX11_tempted 18 = .ok (.bipush 60, 2) := by decide +kernel
theorem dX11_tempted_20 : decode cX11_tempted 20 = .ok (.invokestatic 55, 3) := by decide +kernel
theorem dX11_tempted_23 : decode cX11_tempted 23 = .ok (.ifCond .ne 5, 3) := by decide +kernel
theorem dX11_tempted_26 : decode cX11_tempted 26 = .ok (.iconst (-1), 1) := by decide +kernel
theorem dX11_tempted_27 : decode cX11_tempted 27 = .ok (.ireturn, 1) := by decide +kernel
theorem dX11_tempted_28 : decode cX11_tempted 28 = .ok (.aload_n 0, 1) := by decide +kernel
theorem dX11_tempted_29 : decode cX11_tempted 29 = .ok (.iload_n 1, 1) := by decide +kernel
theorem dX11_tempted_30 : decode cX11_tempted 30 = .ok (.iconst 1, 1) := by decide +kernel
theorem dX11_tempted_31 : decode cX11_tempted 31 = .ok (.iload_n 2, 1) := by decide +kernel
theorem dX11_tempted_32 : decode cX11_tempted 32 = .ok (.ishl, 1) := by decide +kernel
theorem dX11_tempted_33 : decode cX11_tempted 33 = .ok (.iconst (-1), 1) := by decide +kernel
theorem dX11_tempted_34 : decode cX11_tempted 34 = .ok (.ixor, 1) := by decide +kernel
theorem dX11_tempted_35 : decode cX11_tempted 35 = .ok (.iand, 1) := by decide +kernel
theorem dX11_tempted_36 : decode cX11_tempted 36 = .ok (.iconst (-1), 1) := by decide +kernel
theorem dX11_tempted_37 : decode cX11_tempted 37 = .ok (.iload_n 3, 1) := by decide +kernel
theorem dX11_tempted_38 : decode cX11_tempted 38 = .ok (.invokevirtual 241, 3) := by decide +kernel
theorem dX11_tempted_41 : decode cX11_tempted 41 = .ok (.aload_n 0, 1) := by decide +kernel
theorem dX11_tempted_42 : decode cX11_tempted 42 = .ok (.getfield 16, 3) := by decide +kernel
theorem dX11_tempted_45 : decode cX11_tempted 45 = .ok (.getfield 63, 3) := by decide +kernel
theorem dX11_tempted_48 : decode cX11_tempted 48 = .ok (.iload_n 2, 1) := by decide +kernel
theorem dX11_tempted_49 : decode cX11_tempted 49 = .ok (.aaload, 1) := by decide +kernel
theorem dX11_tempted_50 : decode cX11_tempted 50 = .ok (.getfield 219, 3) := by decide +kernel
theorem dX11_tempted_53 : decode cX11_tempted 53 = .ok (.istore 4, 2) := by decide +kernel
theorem dX11_tempted_55 : decode cX11_tempted 55 = .ok (.aload_n 0, 1) := by decide +kernel
theorem dX11_tempted_56 : decode cX11_tempted 56 = .ok (.iload_n 1, 1) := by decide +kernel
theorem dX11_tempted_57 : decode cX11_tempted 57 = .ok (.iconst 1, 1) := by decide +kernel
theorem dX11_tempted_58 : decode cX11_tempted 58 = .ok (.iload_n 2, 1) := by decide +kernel
theorem dX11_tempted_59 : decode cX11_tempted 59 = .ok (.ishl, 1) := by decide +kernel
theorem dX11_tempted_60 : decode cX11_tempted 60 = .ok (.ior, 1) := by decide +kernel
theorem dX11_tempted_61 : decode cX11_tempted 61 = .ok (.iconst (-1), 1) := by decide +kernel
theorem dX11_tempted_62 : decode cX11_tempted 62 = .ok (.iload_n 3, 1) := by decide +kernel
theorem dX11_tempted_63 : decode cX11_tempted 63 = .ok (.invokevirtual 241, 3) := by decide +kernel
theorem dX11_tempted_66 : decode cX11_tempted 66 = .ok (.aload_n 0, 1) := by decide +kernel
theorem dX11_tempted_67 : decode cX11_tempted 67 = .ok (.getfield 16, 3) := by decide +kernel
theorem dX11_tempted_70 : decode cX11_tempted 70 = .ok (.getfield 63, 3) := by decide +kernel
theorem dX11_tempted_73 : decode cX11_tempted 73 = .ok (.iload_n 2, 1) := by decide +kernel
theorem dX11_tempted_74 : decode cX11_tempted 74 = .ok (.aaload, 1) := by decide +kernel
theorem dX11_tempted_75 : decode cX11_tempted 75 = .ok (.getfield 219, 3) := by decide +kernel
theorem dX11_tempted_78 : decode cX11_tempted 78 = .ok (.iload 4, 2) := by decide +kernel
theorem dX11_tempted_80 : decode cX11_tempted 80 = .ok (.if_icmp .le 7, 3) := by decide +kernel
theorem dX11_tempted_83 : decode cX11_tempted 83 = .ok (.iconst 1, 1) := by decide +kernel
theorem dX11_tempted_84 : decode cX11_tempted 84 = .ok (.goto 4, 3) := by decide +kernel
theorem dX11_tempted_87 : decode cX11_tempted 87 = .ok (.iconst 0, 1) := by decide +kernel
theorem dX11_tempted_88 : decode cX11_tempted 88 = .ok (.ireturn, 1) := by decide +kernel
theorem dX11_slide_0 : decode cX11_slide 0 = .ok (.iload_n 1, 1) := by decide +kernel
theorem dX11_slide_1 : decode cX11_slide 1 = .ok (.iconst 1, 1) := by decide +kernel
theorem dX11_slide_2 : decode cX11_slide 2 = .ok (.bipush 30, 2) := by decide +kernel
theorem dX11_slide_4 : decode cX11_slide 4 = .ok (.invokestatic 55, 3) := by decide +kernel
theorem dX11_slide_7 : decode cX11_slide 7 = .ok (.ifCond .eq 12, 3) := by decide +kernel
theorem dX11_slide_10 : decode cX11_slide 10 = .ok (.iload_n 2, 1) := by decide +kernel
theorem dX11_slide_11 : decode cX11_slide 11 = .ok (.iconst 0, 1) := by decide +kernel
theorem dX11_slide_12 : decode cX11_slide 12 = .ok (.iconst 1, 1) := by decide +kernel
theorem dX11_slide_13 : decode cX11_slide 13 = .ok (.invokestatic 55, 3) := by decide +kernel
theorem dX11_slide_16 : decode cX11_slide 16 = .ok (.ifCond .ne 5, 3) := by decide +kernel
theorem dX11_slide_19 : decode cX11_slide 19 = .ok (.iconst (-1), 1) := by decide +kernel
theorem dX11_slide_20 : decode cX11_slide 20 = .ok (.ireturn, 1) := by decide +kernel
theorem dX11_slide_21 : decode cX11_slide 21 = .ok (.aload_n 0, 1) := by decide +kernel
theorem dX11_slide_22 : decode cX11_slide 22 = .ok (.getfield 10, 3) := by decide +kernel
theorem dX11_slide_25 : decode cX11_slide 25 = .ok (.invokevirtual 245, 3) := by decide +kernel
theorem dX11_slide_28 : decode cX11_slide 28 = .ok (.istore_n 3, 1) := by decide +kernel
theorem dX11_slide_29 : decode cX11_slide 29 = .ok (.iconst 0, 1) := by decide +kernel
theorem dX11_slide_30 : decode cX11_slide 30 = .ok (.istore 4, 2) := by decide +kernel
theorem dX11_slide_32 : decode cX11_slide 32 = .ok (.iconst 0, 1) := by decide +kernel
theorem dX11_slide_33 : decode cX11_slide 33 = .ok (.istore 5, 2) := by decide +kernel
theorem dX11_slide_35 : decode cX11_slide 35 = .ok (.iload 5, 2) := by decide +kernel
theorem dX11_slide_37 : decode cX11_slide 37 = .ok (.bipush 10, 2) := by decide +kernel
theorem dX11_slide_39 : decode cX11_slide 39 = .ok (.if_icmp .ge 36, 3) := by decide +kernel
theorem dX11_slide_42 : decode cX11_slide 42 = .ok (.aload_n 0, 1) := by decide +kernel
theorem dX11_slide_43 : decode cX11_slide 43 = .ok (.iload_n 3, 1) := by decide +kernel
theorem dX11_slide_44 : decode cX11_slide 44 = .ok (.iload_n 1, 1) := by decide +kernel
theorem dX11_slide_45 : decode cX11_slide 45 = .ok (.invokevirtual 248, 3) := by decide +kernel
theorem dX11_slide_48 : decode cX11_slide 48 = .ok (.istore 6, 2) := by decide +kernel
theorem dX11_slide_50 : decode cX11_slide 50 = .ok (.iload 6, 2) := by decide +kernel
theorem dX11_slide_52 : decode cX11_slide 52 = .ok (.iconst (-1), 1) := by decide +kernel
theorem dX11_slide_53 : decode cX11_slide 53 = .ok (.if_icmp .ne 6, 3) := by decide +kernel
theorem dX11_slide_56 : decode cX11_slide 56 = .ok (.goto 19, 3) := by decide +kernel
theorem dX11_slide_59 : decode cX11_slide 59 = .ok (.iload_n 3, 1) := by decide +kernel
theorem dX11_slide_60 : decode cX11_slide 60 = .ok (.iconst 1, 1) := by decide +kernel
theorem dX11_slide_61 : decode cX11_slide 61 = .ok (.iload 6, 2) := by decide +kernel
theorem dX11_slide_63 : decode cX11_slide 63 = .ok (.ishl, 1) := by decide +kernel
theorem dX11_slide_64 : decode cX11_slide 64 = .ok (.ior, 1) := by decide +kernel
theorem dX11_slide_65 : decode cX11_slide 65 = .ok (.istore_n 3, 1) := by decide +kernel
theorem dX11_slide_66 : decode cX11_slide 66 = .ok (.iinc 4 1, 3) := by decide +kernel
theorem dX11_slide_69 : decode cX11_slide 69 = .ok (.iinc 5 1, 3) := by decide +kernel
theorem dX11_slide_72 : decode cX11_slide 72 = .ok (.goto (-37), 3) := by decide +kernel
theorem dX11_slide_75 : decode cX11_slide 75 = .ok (.iload_n 2, 1) := by decide +kernel
theorem dX11_slide_76 : decode cX11_slide 76 = .ok (.ifCond .ne 7, 3) := by decide +kernel
theorem dX11_slide_79 : decode cX11_slide 79 = .ok (.iload_n 3, 1) := by decide +kernel
theorem dX11_slide_80 : decode cX11_slide 80 = .ok (.goto 5, 3) := by decide +kernel
theorem dX11_slide_83 : decode cX11_slide 83 = .ok (.iload 4, 2) := by decide +kernel
theorem dX11_slide_85 : decode cX11_slide 85 = .ok (.ireturn, 1) := by decide +kernel
theorem dX11_tried_0 : decode cX11_tried 0 = .ok (.iload_n 1, 1) := by decide +kernel
theorem dX11_tried_1 : decode cX11_tried 1 = .ok (.iconst 0, 1) := by decide +kernel
theorem dX11_tried_2 : decode cX11_tried 2 = .ok (.sipush 9999, 3) := by decide +kernel
theorem dX11_tried_5 : decode cX11_tried 5 = .ok (.invokestatic 55, 3) := by decide +kernel
theorem dX11_tried_8 : decode cX11_tried 8 = .ok (.ifCond .ne 13, 3) := by decide +kernel
theorem dX11_tried_11 : decode cX11_tried 11 = .ok (.new 234, 3) := by decide +kernel
theorem dX11_tried_14 : decode cX11_tried 14 = .ok (.dup, 1) := by decide +kernel
theorem dX11_tried_15 : decode cX11_tried 15 = .ok (.ldc 251, 2) := by decide +kernel
theorem dX11_tried_17 : decode cX11_tried 17 = .ok (.invokespecial 238, 3) := by decide +kernel
theorem dX11_tried_20 : decode cX11_tried 20 = .ok (.athrow, 1) := by decide +kernel
theorem dX11_tried_21 : decode cX11_tried 21 = .ok (.aload_n 0, 1) := by decide +kernel
theorem dX11_tried_22 : decode cX11_tried 22 = .ok (.iload_n 1, 1) := by decide +kernel
theorem dX11_tried_23 : decode cX11_tried 23 = .ok (.invokevirtual 253, 3) := by decide +kernel
theorem dX11_tried_26 : decode cX11_tried 26 = .ok (.ireturn, 1) := by decide +kernel
theorem dX11_best_0 : decode cX11_best 0 = .ok (.iload_n 1, 1) := by decide +kernel
theorem dX11_best_1 : decode cX11_best 1 = .ok (.iconst 1, 1) := by decide +kernel
theorem dX11_best_2 : decode cX11_best 2 = .ok (.sipush 400, 3) := by decide +kernel
theorem dX11_best_5 : decode cX11_best 5 = .ok (.invokestatic 55, 3) := by decide +kernel
theorem dX11_best_8 : decode cX11_best 8 = .ok (.ifCond .ne 5, 3) := by decide +kernel
theorem dX11_best_11 : decode cX11_best 11 = .ok (.iconst (-1), 1) := by decide +kernel
theorem dX11_best_12 : decode cX11_best 12 = .ok (.ireturn, 1) := by decide +kernel
theorem dX11_best_13 : decode cX11_best 13 = .ok (.iconst 0, 1) := by decide +kernel
theorem dX11_best_14 : decode cX11_best 14 = .ok (.istore_n 2, 1) := by decide +kernel
theorem dX11_best_15 : decode cX11_best 15 = .ok (.aload_n 0, 1) := by decide +kernel
theorem dX11_best_16 : decode cX11_best 16 = .ok (.iconst 0, 1) := by decide +kernel
theorem dX11_best_17 : decode cX11_best 17 = .ok (.invokevirtual 253, 3) := by decide +kernel
theorem dX11_best_20 : decode cX11_best 20 = .ok (.istore_n 3, 1) := by decide +kernel
theorem dX11_best_21 : decode cX11_best 21 = .ok (.iconst 1, 1) := by decide +kernel
theorem dX11_best_22 : decode cX11_best 22 = .ok (.istore 4, 2) := by decide +kernel
theorem dX11_best_24 : decode cX11_best 24 = .ok (.iload 4, 2) := by decide +kernel
theorem dX11_best_26 : decode cX11_best 26 = .ok (.bipush 20, 2) := by decide +kernel
theorem dX11_best_28 : decode cX11_best 28 = .ok (.if_icmp .gt 33, 3) := by decide +kernel
theorem dX11_best_31 : decode cX11_best 31 = .ok (.aload_n 0, 1) := by decide +kernel
theorem dX11_best_32 : decode cX11_best 32 = .ok (.iload 4, 2) := by decide +kernel
theorem dX11_best_34 : decode cX11_best 34 = .ok (.iload_n 1, 1) := by decide +kernel
theorem dX11_best_35 : decode cX11_best 35 = .ok (.imul, 1) := by decide +kernel
theorem dX11_best_36 : decode cX11_best 36 = .ok (.invokevirtual 253, 3) := by decide +kernel
theorem dX11_best_39 : decode cX11_best 39 = .ok (.istore 5, 2) := by decide +kernel
theorem dX11_best_41 : decode cX11_best 41 = .ok (.iload 5, 2) := by decide +kernel
theorem dX11_best_43 : decode cX11_best 43 = .ok (.iload_n 3, 1) := by decide +kernel
theorem dX11_best_44 : decode cX11_best 44 = .ok (.if_icmp .le 11, 3) := by decide +kernel
theorem dX11_best_47 : decode cX11_best 47 = .ok (.iload 5, 2) := by decide +kernel
theorem dX11_best_49 : decode cX11_best 49 = .ok (.istore_n 3, 1) := by decide +kernel
theorem dX11_best_50 : decode cX11_best 50 = .ok (.iload 4, 2) := by decide +kernel
theorem dX11_best_52 : decode cX11_best 52 = .ok (.iload_n 1, 1) := by decide +kernel
theorem dX11_best_53 : decode cX11_best 53 = .ok (.imul, 1) := by decide +kernel
theorem dX11_best_54 : decode cX11_best 54 = .ok (.istore_n 2, 1) := by decide +kernel
theorem dX11_best_55 : decode cX11_best 55 = .ok (.iinc 4 1, 3) := by decide +kernel
theorem dX11_best_58 : decode cX11_best 58 = .ok (.goto (-34), 3) := by decide +kernel
theorem dX11_best_61 : decode cX11_best 61 = .ok (.iload_n 2, 1) := by decide +kernel
theorem dX11_best_62 : decode cX11_best 62 = .ok (.ireturn, 1) := by decide +kernel
theorem dX11_foretold_0 : decode cX11_foretold 0 = .ok (.aload_n 0, 1) := by decide +kernel
theorem dX11_foretold_1 : decode cX11_foretold 1 = .ok (.getfield 16, 3) := by decide +kernel
theorem dX11_foretold_4 : decode cX11_foretold 4 = .ok (.aload_n 0, 1) := by decide +kernel
theorem dX11_foretold_5 : decode cX11_foretold 5 = .ok (.getfield 10, 3) := by decide +kernel
theorem dX11_foretold_8 : decode cX11_foretold 8 = .ok (.invokevirtual 256, 3) := by decide +kernel
theorem dX11_foretold_11 : decode cX11_foretold 11 = .ok (.iconst 0, 1) := by decide +kernel
theorem dX11_foretold_12 : decode cX11_foretold 12 = .ok (.istore_n 2, 1) := by decide +kernel
theorem dX11_foretold_13 : decode cX11_foretold 13 = .ok (.iload_n 2, 1) := by decide +kernel
theorem dX11_foretold_14 : decode cX11_foretold 14 = .ok (.bipush 60, 2) := by decide +kernel
theorem dX11_foretold_16 : decode cX11_foretold 16 = .ok (.if_icmp .ge 71, 3) := by decide +kernel
theorem dX11_foretold_19 : decode cX11_foretold 19 = .ok (.aload_n 0, 1) := by decide +kernel
theorem dX11_foretold_20 : decode cX11_foretold 20 = .ok (.getfield 16, 3) := by decide +kernel
theorem dX11_foretold_23 : decode cX11_foretold 23 = .ok (.getfield 107, 3) := by decide +kernel
theorem dX11_foretold_26 : decode cX11_foretold 26 = .ok (.sipush 720, 3) := by decide +kernel
theorem dX11_foretold_29 : decode cX11_foretold 29 = .ok (.if_icmp .ge 58, 3) := by decide +kernel
theorem dX11_foretold_32 : decode cX11_foretold 32 = .ok (.aload_n 0, 1) := by decide +kernel
theorem dX11_foretold_33 : decode cX11_foretold 33 = .ok (.getfield 16, 3) := by decide +kernel
theorem dX11_foretold_36 : decode cX11_foretold 36 = .ok (.iload_n 1, 1) := by decide +kernel
theorem dX11_foretold_37 : decode cX11_foretold 37 = .ok (.ifCond .eq 7, 3) := by decide +kernel
theorem dX11_foretold_40 : decode cX11_foretold 40 = .ok (.iconst 3, 1) := by decide +kernel
theorem dX11_foretold_41 : decode cX11_foretold 41 = .ok (.goto 16, 3) := by decide +kernel
theorem dX11_foretold_44 : decode cX11_foretold 44 = .ok (.aload_n 0, 1) := by decide +kernel
theorem dX11_foretold_45 : decode cX11_foretold 45 = .ok (.aload_n 0, 1) := by decide +kernel
theorem dX11_foretold_46 : decode cX11_foretold 46 = .ok (.getfield 16, 3) := by decide +kernel
theorem dX11_foretold_49 : decode cX11_foretold 49 = .ok (.getfield 107, 3) := by decide +kernel
theorem dX11_foretold_52 : decode cX11_foretold 52 = .ok (.iconst 1, 1) := by decide +kernel
theorem dX11_foretold_53 : decode cX11_foretold 53 = .ok (.iadd, 1) := by decide +kernel
theorem dX11_foretold_54 : decode cX11_foretold 54 = .ok (.invokevirtual 161, 3) := by decide +kernel
theorem dX11_foretold_57 : decode cX11_foretold 57 = .ok (.invokevirtual 165, 3) := by decide +kernel
theorem dX11_foretold_60 : decode cX11_foretold 60 = .ok (.aload_n 0, 1) := by decide +kernel
theorem dX11_foretold_61 : decode cX11_foretold 61 = .ok (.getfield 16, 3) := by decide +kernel
theorem dX11_foretold_64 : decode cX11_foretold 64 = .ok (.getfield 120, 3) := by decide +kernel
theorem dX11_foretold_67 : decode cX11_foretold 67 = .ok (.invokevirtual 259, 3) := by decide +kernel
theorem dX11_foretold_70 : decode cX11_foretold 70 = .ok (.ifCond .eq 11, 3) := by decide +kernel
theorem dX11_foretold_73 : decode cX11_foretold 73 = .ok (.aload_n 0, 1) := by decide +kernel
theorem dX11_foretold_74 : decode cX11_foretold 74 = .ok (.getfield 16, 3) := by decide +kernel
theorem dX11_foretold_77 : decode cX11_foretold 77 = .ok (.getfield 107, 3) := by decide +kernel
theorem dX11_foretold_80 : decode cX11_foretold 80 = .ok (.ireturn, 1) := by decide +kernel
theorem dX11_foretold_81 : decode cX11_foretold 81 = .ok (.iinc 2 1, 3) := by decide +kernel
theorem dX11_foretold_84 : decode cX11_foretold 84 = .ok (.goto (-71), 3) := by decide +kernel
theorem dX11_foretold_87 : decode cX11_foretold 87 = .ok (.iconst (-1), 1) := by decide +kernel
theorem dX11_foretold_88 : decode cX11_foretold 88 = .ok (.ireturn, 1) := by decide +kernel
theorem dX11_look_0 : decode cX11_look 0 = .ok (.aload_n 0, 1) := by decide +kernel
theorem dX11_look_1 : decode cX11_look 1 = .ok (.iload_n 1, 1) := by decide +kernel
theorem dX11_look_2 : decode cX11_look 2 = .ok (.invokevirtual 81, 3) := by decide +kernel
theorem dX11_look_5 : decode cX11_look 5 = .ok (.ifCond .eq 13, 3) := by decide +kernel
theorem dX11_look_8 : decode cX11_look 8 = .ok (.iload_n 2, 1) := by decide +kernel
theorem dX11_look_9 : decode cX11_look 9 = .ok (.iconst 0, 1) := by decide +kernel
theorem dX11_look_10 : decode cX11_look 10 = .ok (.bipush 9, 2) := by decide +kernel
theorem dX11_look_12 : decode cX11_look 12 = .ok (.invokestatic 55, 3) := by decide +kernel
theorem dX11_look_15 : decode cX11_look 15 = .ok (.ifCond .ne 14, 3) := by decide +kernel
theorem dX11_look_18 : decode cX11_look 18 = .ok (.new 234, 3) := by decide +kernel
theorem dX11_look_21 : decode cX11_look 21 = .ok (.dup, 1) := by decide +kernel
theorem dX11_look_22 : decode cX11_look 22 = .ok (.ldc_w 263, 3) := by decide +kernel
theorem dX11_look_25 : decode cX11_look 25 = .ok (.invokespecial 238, 3) := by decide +kernel
theorem dX11_look_28 : decode cX11_look 28 = .ok (.athrow, 1) := by decide +kernel
theorem dX11_look_29 : decode cX11_look 29 = .ok (.aload_n 0, 1) := by decide +kernel
theorem dX11_look_30 : decode cX11_look 30 = .ok (.getfield 10, 3) := by decide +kernel
theorem dX11_look_33 : decode cX11_look 33 = .ok (.getfield 63, 3) := by decide +kernel
theorem dX11_look_36 : decode cX11_look 36 = .ok (.iload_n 1, 1) := by decide +kernel
theorem dX11_look_37 : decode cX11_look 37 = .ok (.aaload, 1) := by decide +kernel
theorem dX11_look_38 : decode cX11_look 38 = .ok (.astore_n 3, 1) := by decide +kernel
theorem dX11_look_39 : decode cX11_look 39 = .ok (.iload_n 2, 1) := by decide +kernel
theorem dX11_look_40 : decode cX11_look 40 = .ok (.tableswitch 119 0 8 #[52, 57, 62, 81, 86, 99, 104, 109, 114], 52) := by decide +kernel
theorem dX11_look_92 : decode cX11_look 92 = .ok (.aload_n 3, 1) := by decide +kernel
theorem dX11_look_93 : decode cX11_look 93 = .ok (.getfield 265, 3) := by decide +kernel
theorem dX11_look_96 : decode cX11_look 96 = .ok (.ireturn, 1) := by decide +kernel
theorem dX11_look_97 : decode cX11_look 97 = .ok (.aload_n 3, 1) := by decide +kernel
theorem dX11_look_98 : decode cX11_look 98 = .ok (.getfield 266, 3) := by decide +kernel
theorem dX11_look_101 : decode cX11_look 101 = .ok (.ireturn, 1) := by decide +kernel
theorem dX11_look_102 : decode cX11_look 102 = .ok (.aload_n 0, 1) := by decide +kernel
theorem dX11_look_103 : decode cX11_look 103 = .ok (.getfield 10, 3) := by decide +kernel
theorem dX11_look_106 : decode cX11_look 106 = .ok (.getfield 269, 3) := by decide +kernel
theorem dX11_look_109 : decode cX11_look 109 = .ok (.ifnonnull 7, 3) := by decide +kernel
theorem dX11_look_112 : decode cX11_look 112 = .ok (.iconst (-1), 1) := by decide +kernel
theorem dX11_look_113 : decode cX11_look 113 = .ok (.goto 7, 3) := by decide +kernel
theorem dX11_look_116 : decode cX11_look 116 = .ok (.aload_n 3, 1) := by decide +kernel
theorem dX11_look_117 : decode cX11_look 117 = .ok (.getfield 272, 3) := by decide +kernel
theorem dX11_look_120 : decode cX11_look 120 = .ok (.ireturn, 1) := by decide +kernel
theorem dX11_look_121 : decode cX11_look 121 = .ok (.aload_n 3, 1) := by decide +kernel
theorem dX11_look_122 : decode cX11_look 122 = .ok (.getfield 219, 3) := by decide +kernel
theorem dX11_look_125 : decode cX11_look 125 = .ok (.ireturn, 1) := by decide +kernel
theorem dX11_look_126 : decode cX11_look 126 = .ok (.aload_n 3, 1) := by decide +kernel
theorem dX11_look_127 : decode cX11_look 127 = .ok (.getfield 88, 3) := by decide +kernel
theorem dX11_look_130 : decode cX11_look 130 = .ok (.ifCond .eq 7, 3) := by decide +kernel
theorem dX11_look_133 : decode cX11_look 133 = .ok (.iconst 1, 1) := by decide +kernel
theorem dX11_look_134 : decode cX11_look 134 = .ok (.goto 4, 3) := by decide +kernel
theorem dX11_look_137 : decode cX11_look 137 = .ok (.iconst 0, 1) := by decide +kernel
theorem dX11_look_138 : decode cX11_look 138 = .ok (.ireturn, 1) := by decide +kernel
theorem dX11_look_139 : decode cX11_look 139 = .ok (.aload_n 3, 1) := by decide +kernel
theorem dX11_look_140 : decode cX11_look 140 = .ok (.getfield 67, 3) := by decide +kernel
theorem dX11_look_143 : decode cX11_look 143 = .ok (.ireturn, 1) := by decide +kernel
theorem dX11_look_144 : decode cX11_look 144 = .ok (.aload_n 3, 1) := by decide +kernel
theorem dX11_look_145 : decode cX11_look 145 = .ok (.getfield 72, 3) := by decide +kernel
theorem dX11_look_148 : decode cX11_look 148 = .ok (.ireturn, 1) := by decide +kernel
theorem dX11_look_149 : decode cX11_look 149 = .ok (.aload_n 3, 1) := by decide +kernel
theorem dX11_look_150 : decode cX11_look 150 = .ok (.getfield 75, 3) := by decide +kernel
theorem dX11_look_153 : decode cX11_look 153 = .ok (.ireturn, 1) := by decide +kernel
theorem dX11_look_154 : decode cX11_look 154 = .ok (.aload_n 3, 1) := by decide +kernel
theorem dX11_look_155 : decode cX11_look 155 = .ok (.getfield 78, 3) := by decide +kernel
theorem dX11_look_158 : decode cX11_look 158 = .ok (.ireturn, 1) := by decide +kernel
theorem dX11_look_159 : decode cX11_look 159 = .ok (.aload_n 3, 1) := by decide +kernel
theorem dX11_look_160 : decode cX11_look 160 = .ok (.getfield 85, 3) := by decide +kernel
theorem dX11_look_163 : decode cX11_look 163 = .ok (.ireturn, 1) := by decide +kernel
theorem dX11_month_0 : decode cX11_month 0 = .ok (.aload_n 0, 1) := by decide +kernel
theorem dX11_month_1 : decode cX11_month 1 = .ok (.iload_n 1, 1) := by decide +kernel
theorem dX11_month_2 : decode cX11_month 2 = .ok (.invokevirtual 81, 3) := by decide +kernel
theorem dX11_month_5 : decode cX11_month 5 = .ok (.ifCond .eq 20, 3) := by decide +kernel
theorem dX11_month_8 : decode cX11_month 8 = .ok (.aload_n 0, 1) := by decide +kernel
theorem dX11_month_9 : decode cX11_month 9 = .ok (.iload_n 2, 1) := by decide +kernel
theorem dX11_month_10 : decode cX11_month 10 = .ok (.invokevirtual 176, 3) := by decide +kernel
theorem dX11_month_13 : decode cX11_month 13 = .ok (.ifCond .eq 12, 3) := by decide +kernel
theorem dX11_month_16 : decode cX11_month 16 = .ok (.iload_n 3, 1) := by decide +kernel
theorem dX11_month_17 : decode cX11_month 17 = .ok (.iconst 0, 1) := by decide +kernel
theorem dX11_month_18 : decode cX11_month 18 = .ok (.iconst 1, 1) := by decide +kernel
theorem dX11_month_19 : decode cX11_month 19 = .ok (.invokestatic 55, 3) := by decide +kernel
theorem dX11_month_22 : decode cX11_month 22 = .ok (.ifCond .ne 5, 3) := by decide +kernel
theorem dX11_month_25 : decode cX11_month 25 = .ok (.iconst (-1), 1) := by decide +kernel
theorem dX11_month_26 : decode cX11_month 26 = .ok (.ireturn, 1) := by decide +kernel
theorem dX11_month_27 : decode cX11_month 27 = .ok (.iload_n 3, 1) := by decide +kernel
theorem dX11_month_28 : decode cX11_month 28 = .ok (.ifCond .ne 21, 3) := by decide +kernel
theorem dX11_month_31 : decode cX11_month 31 = .ok (.aload_n 0, 1) := by decide +kernel
theorem dX11_month_32 : decode cX11_month 32 = .ok (.getfield 29, 3) := by decide +kernel
theorem dX11_month_35 : decode cX11_month 35 = .ok (.getfield 275, 3) := by decide +kernel
theorem dX11_month_38 : decode cX11_month 38 = .ok (.aload_n 0, 1) := by decide +kernel
theorem dX11_month_39 : decode cX11_month 39 = .ok (.getfield 29, 3) := by decide +kernel
theorem dX11_month_42 : decode cX11_month 42 = .ok (.iload_n 1, 1) := by decide +kernel
theorem dX11_month_43 : decode cX11_month 43 = .ok (.iload_n 2, 1) := by decide +kernel
theorem dX11_month_44 : decode cX11_month 44 = .ok (.invokevirtual 179, 3) := by decide +kernel
theorem dX11_month_47 : decode cX11_month 47 = .ok (.iaload, 1) := by decide +kernel
theorem dX11_month_48 : decode cX11_month 48 = .ok (.ireturn, 1) := by decide +kernel
theorem dX11_month_49 : decode cX11_month 49 = .ok (.aload_n 0, 1) := by decide +kernel
theorem dX11_month_50 : decode cX11_month 50 = .ok (.getfield 29, 3) := by decide +kernel
theorem dX11_month_53 : decode cX11_month 53 = .ok (.getfield 211, 3) := by decide +kernel
theorem dX11_month_56 : decode cX11_month 56 = .ok (.iload_n 2, 1) := by decide +kernel
theorem dX11_month_57 : decode cX11_month 57 = .ok (.aaload, 1) := by decide +kernel
theorem dX11_month_58 : decode cX11_month 58 = .ok (.ifnonnull 7, 3) := by decide +kernel
theorem dX11_month_61 : decode cX11_month 61 = .ok (.iconst (-1), 1) := by decide +kernel
theorem dX11_month_62 : decode cX11_month 62 = .ok (.goto 20, 3) := by decide +kernel
theorem dX11_month_65 : decode cX11_month 65 = .ok (.aload_n 0, 1) := by decide +kernel
theorem dX11_month_66 : decode cX11_month 66 = .ok (.getfield 29, 3) := by decide +kernel
theorem dX11_month_69 : decode cX11_month 69 = .ok (.getfield 277, 3) := by decide +kernel
theorem dX11_month_72 : decode cX11_month 72 = .ok (.aload_n 0, 1) := by decide +kernel
theorem dX11_month_73 : decode cX11_month 73 = .ok (.getfield 29, 3) := by decide +kernel
theorem dX11_month_76 : decode cX11_month 76 = .ok (.iload_n 1, 1) := by decide +kernel
theorem dX11_month_77 : decode cX11_month 77 = .ok (.iload_n 2, 1) := by decide +kernel
theorem dX11_month_78 : decode cX11_month 78 = .ok (.invokevirtual 179, 3) := by decide +kernel
theorem dX11_month_81 : decode cX11_month 81 = .ok (.iaload, 1) := by decide +kernel
theorem dX11_month_82 : decode cX11_month 82 = .ok (.ireturn, 1) := by decide +kernel
theorem dX11_lies_0 : decode cX11_lies 0 = .ok (.aload_n 0, 1) := by decide +kernel
theorem dX11_lies_1 : decode cX11_lies 1 = .ok (.iload_n 1, 1) := by decide +kernel
theorem dX11_lies_2 : decode cX11_lies 2 = .ok (.invokevirtual 280, 3) := by decide +kernel
theorem dX11_lies_5 : decode cX11_lies 5 = .ok (.ifCond .ne 5, 3) := by decide +kernel
theorem dX11_lies_8 : decode cX11_lies 8 = .ok (.iconst (-1), 1) := by decide +kernel
theorem dX11_lies_9 : decode cX11_lies 9 = .ok (.ireturn, 1) := by decide +kernel
theorem dX11_lies_10 : decode cX11_lies 10 = .ok (.aload_n 0, 1) := by decide +kernel
theorem dX11_lies_11 : decode cX11_lies 11 = .ok (.getfield 10, 3) := by decide +kernel
theorem dX11_lies_14 : decode cX11_lies 14 = .ok (.getfield 95, 3) := by decide +kernel
theorem dX11_lies_17 : decode cX11_lies 17 = .ok (.iload_n 1, 1) := by decide +kernel
theorem dX11_lies_18 : decode cX11_lies 18 = .ok (.aaload, 1) := by decide +kernel
theorem dX11_lies_19 : decode cX11_lies 19 = .ok (.astore_n 3, 1) := by decide +kernel
theorem dX11_lies_20 : decode cX11_lies 20 = .ok (.iload_n 2, 1) := by decide +kernel
theorem dX11_lies_21 : decode cX11_lies 21 = .ok (.tableswitch 51 0 3 #[31, 36, 41, 46], 31) := by decide +kernel
theorem dX11_lies_52 : decode cX11_lies 52 = .ok (.aload_n 3, 1) := by decide +kernel
theorem dX11_lies_53 : decode cX11_lies 53 = .ok (.getfield 283, 3) := by decide +kernel
theorem dX11_lies_56 : decode cX11_lies 56 = .ok (.ireturn, 1) := by decide +kernel
theorem dX11_lies_57 : decode cX11_lies 57 = .ok (.aload_n 3, 1) := by decide +kernel
theorem dX11_lies_58 : decode cX11_lies 58 = .ok (.getfield 285, 3) := by decide +kernel
theorem dX11_lies_61 : decode cX11_lies 61 = .ok (.ireturn, 1) := by decide +kernel
theorem dX11_lies_62 : decode cX11_lies 62 = .ok (.aload_n 3, 1) := by decide +kernel
theorem dX11_lies_63 : decode cX11_lies 63 = .ok (.getfield 288, 3) := by decide +kernel
theorem dX11_lies_66 : decode cX11_lies 66 = .ok (.ireturn, 1) := by decide +kernel
theorem dX11_lies_67 : decode cX11_lies 67 = .ok (.aload_n 3, 1) := by decide +kernel
theorem dX11_lies_68 : decode cX11_lies 68 = .ok (.getfield 110, 3) := by decide +kernel
theorem dX11_lies_71 : decode cX11_lies 71 = .ok (.ireturn, 1) := by decide +kernel
theorem dX11_lies_72 : decode cX11_lies 72 = .ok (.iconst (-1), 1) := by decide +kernel
theorem dX11_lies_73 : decode cX11_lies 73 = .ok (.ireturn, 1) := by decide +kernel
theorem dX11_load_0 : decode cX11_load 0 = .ok (.aload_n 0, 1) := by decide +kernel
theorem dX11_load_1 : decode cX11_load 1 = .ok (.iload_n 1, 1) := by decide +kernel
theorem dX11_load_2 : decode cX11_load 2 = .ok (.invokevirtual 280, 3) := by decide +kernel
theorem dX11_load_5 : decode cX11_load 5 = .ok (.ifCond .eq 23, 3) := by decide +kernel
theorem dX11_load_8 : decode cX11_load 8 = .ok (.iload_n 2, 1) := by decide +kernel
theorem dX11_load_9 : decode cX11_load 9 = .ok (.ifCond .lt 19, 3) := by decide +kernel
theorem dX11_load_12 : decode cX11_load 12 = .ok (.iload_n 2, 1) := by decide +kernel
theorem dX11_load_13 : decode cX11_load 13 = .ok (.aload_n 0, 1) := by decide +kernel
theorem dX11_load_14 : decode cX11_load 14 = .ok (.getfield 10, 3) := by decide +kernel
theorem dX11_load_17 : decode cX11_load 17 = .ok (.getfield 95, 3) := by decide +kernel
theorem dX11_load_20 : decode cX11_load 20 = .ok (.iload_n 1, 1) := by decide +kernel
theorem dX11_load_21 : decode cX11_load 21 = .ok (.aaload, 1) := by decide +kernel
theorem dX11_load_22 : decode cX11_load 22 = .ok (.getfield 285, 3) := by decide +kernel
theorem dX11_load_25 : decode cX11_load 25 = .ok (.if_icmp .lt 5, 3) := by decide +kernel
theorem dX11_load_28 : decode cX11_load 28 = .ok (.iconst (-1), 1) := by decide +kernel
theorem dX11_load_29 : decode cX11_load 29 = .ok (.ireturn, 1) := by decide +kernel
theorem dX11_load_30 : decode cX11_load 30 = .ok (.aload_n 0, 1) := by decide +kernel
theorem dX11_load_31 : decode cX11_load 31 = .ok (.getfield 10, 3) := by decide +kernel
theorem dX11_load_34 : decode cX11_load 34 = .ok (.getfield 95, 3) := by decide +kernel
theorem dX11_load_37 : decode cX11_load 37 = .ok (.iload_n 1, 1) := by decide +kernel
theorem dX11_load_38 : decode cX11_load 38 = .ok (.aaload, 1) := by decide +kernel
theorem dX11_load_39 : decode cX11_load 39 = .ok (.getfield 291, 3) := by decide +kernel
theorem dX11_load_42 : decode cX11_load 42 = .ok (.iload_n 2, 1) := by decide +kernel
theorem dX11_load_43 : decode cX11_load 43 = .ok (.iaload, 1) := by decide +kernel
theorem dX11_load_44 : decode cX11_load 44 = .ok (.ireturn, 1) := by decide +kernel
theorem dX11_count_0 : decode cX11_count 0 = .ok (.iload_n 1, 1) := by decide +kernel
theorem dX11_count_1 : decode cX11_count 1 = .ok (.tableswitch 148 0 8 #[51, 59, 67, 75, 83, 94, 110, 132, 140], 51) := by decide +kernel
theorem dX11_count_52 : decode cX11_count 52 = .ok (.aload_n 0, 1) := by decide +kernel
theorem dX11_count_53 : decode cX11_count 53 = .ok (.getfield 10, 3) := by decide +kernel
theorem dX11_count_56 : decode cX11_count 56 = .ok (.getfield 107, 3) := by decide +kernel
theorem dX11_count_59 : decode cX11_count 59 = .ok (.ireturn, 1) := by decide +kernel
theorem dX11_count_60 : decode cX11_count 60 = .ok (.aload_n 0, 1) := by decide +kernel
theorem dX11_count_61 : decode cX11_count 61 = .ok (.getfield 10, 3) := by decide +kernel
theorem dX11_count_64 : decode cX11_count 64 = .ok (.getfield 59, 3) := by decide +kernel
theorem dX11_count_67 : decode cX11_count 67 = .ok (.ireturn, 1) := by decide +kernel
theorem dX11_count_68 : decode cX11_count 68 = .ok (.aload_n 0, 1) := by decide +kernel
theorem dX11_count_69 : decode cX11_count 69 = .ok (.getfield 10, 3) := by decide +kernel
theorem dX11_count_72 : decode cX11_count 72 = .ok (.getfield 92, 3) := by decide +kernel
theorem dX11_count_75 : decode cX11_count 75 = .ok (.ireturn, 1) := by decide +kernel
theorem dX11_count_76 : decode cX11_count 76 = .ok (.aload_n 0, 1) := by decide +kernel
theorem dX11_count_77 : decode cX11_count 77 = .ok (.getfield 10, 3) := by decide +kernel
theorem dX11_count_80 : decode cX11_count 80 = .ok (.getfield 113, 3) := by decide +kernel
theorem dX11_count_83 : decode cX11_count 83 = .ok (.ireturn, 1) := by decide +kernel
theorem dX11_count_84 : decode cX11_count 84 = .ok (.aload_n 0, 1) := by decide +kernel
theorem dX11_count_85 : decode cX11_count 85 = .ok (.getfield 10, 3) := by decide +kernel
theorem dX11_count_88 : decode cX11_count 88 = .ok (.getfield 120, 3) := by decide +kernel
theorem dX11_count_91 : decode cX11_count 91 = .ok (.getfield 124, 3) := by decide +kernel
theorem dX11_count_94 : decode cX11_count 94 = .ok (.ireturn, 1) := by decide +kernel
theorem dX11_count_95 : decode cX11_count 95 = .ok (.aload_n 0, 1) := by decide +kernel
theorem dX11_count_96 : decode cX11_count 96 = .ok (.getfield 10, 3) := by decide +kernel
theorem dX11_count_99 : decode cX11_count 99 = .ok (.getfield 269, 3) := by decide +kernel
theorem dX11_count_102 : decode cX11_count 102 = .ok (.ifnonnull 7, 3) := by decide +kernel
theorem dX11_count_105 : decode cX11_count 105 = .ok (.iconst 0, 1) := by decide +kernel
theorem dX11_count_106 : decode cX11_count 106 = .ok (.goto 4, 3) := by decide +kernel
theorem dX11_count_109 : decode cX11_count 109 = .ok (.iconst 1, 1) := by decide +kernel
theorem dX11_count_110 : decode cX11_count 110 = .ok (.ireturn, 1) := by decide +kernel
theorem dX11_count_111 : decode cX11_count 111 = .ok (.aload_n 0, 1) := by decide +kernel
theorem dX11_count_112 : decode cX11_count 112 = .ok (.getfield 10, 3) := by decide +kernel
theorem dX11_count_115 : decode cX11_count 115 = .ok (.getfield 269, 3) := by decide +kernel
theorem dX11_count_118 : decode cX11_count 118 = .ok (.ifnonnull 7, 3) := by decide +kernel
theorem dX11_count_121 : decode cX11_count 121 = .ok (.iconst (-1), 1) := by decide +kernel
theorem dX11_count_122 : decode cX11_count 122 = .ok (.goto 10, 3) := by decide +kernel
theorem dX11_count_125 : decode cX11_count 125 = .ok (.aload_n 0, 1) := by decide +kernel
theorem dX11_count_126 : decode cX11_count 126 = .ok (.getfield 10, 3) := by decide +kernel
theorem dX11_count_129 : decode cX11_count 129 = .ok (.getfield 294, 3) := by decide +kernel
theorem dX11_count_132 : decode cX11_count 132 = .ok (.ireturn, 1) := by decide +kernel
theorem dX11_count_133 : decode cX11_count 133 = .ok (.aload_n 0, 1) := by decide +kernel
theorem dX11_count_134 : decode cX11_count 134 = .ok (.getfield 36, 3) := by decide +kernel
theorem dX11_count_137 : decode cX11_count 137 = .ok (.getfield 297, 3) := by decide +kernel
theorem dX11_count_140 : decode cX11_count 140 = .ok (.ireturn, 1) := by decide +kernel
theorem dX11_count_141 : decode cX11_count 141 = .ok (.aload_n 0, 1) := by decide +kernel
theorem dX11_count_142 : decode cX11_count 142 = .ok (.getfield 43, 3) := by decide +kernel
theorem dX11_count_145 : decode cX11_count 145 = .ok (.getfield 300, 3) := by decide +kernel
theorem dX11_count_148 : decode cX11_count 148 = .ok (.ireturn, 1) := by decide +kernel
theorem dX11_count_149 : decode cX11_count 149 = .ok (.aload_n 0, 1) := by decide +kernel
theorem dX11_count_150 : decode cX11_count 150 = .ok (.iload_n 1, 1) := by decide +kernel
theorem dX11_count_151 : decode cX11_count 151 = .ok (.invokevirtual 301, 3) := by decide +kernel
theorem dX11_count_154 : decode cX11_count 154 = .ok (.ireturn, 1) := by decide +kernel
theorem dX11_countMore_0 : decode cX11_countMore 0 = .ok (.iload_n 1, 1) := by decide +kernel
theorem dX11_countMore_1 : decode cX11_countMore 1 = .ok (.tableswitch 129 9 16 #[47, 62, 73, 81, 92, 100, 105, 113], 47) := by decide +kernel
theorem dX11_countMore_48 : decode cX11_countMore 48 = .ok (.aload_n 0, 1) := by decide +kernel
theorem dX11_countMore_49 : decode cX11_countMore 49 = .ok (.getfield 43, 3) := by decide +kernel
theorem dX11_countMore_52 : decode cX11_countMore 52 = .ok (.aload_n 0, 1) := by decide +kernel
theorem dX11_countMore_53 : decode cX11_countMore 53 = .ok (.getfield 10, 3) := by decide +kernel
theorem dX11_countMore_56 : decode cX11_countMore 56 = .ok (.invokevirtual 227, 3) := by decide +kernel
theorem dX11_countMore_59 : decode cX11_countMore 59 = .ok (.invokevirtual 304, 3) := by decide +kernel
theorem dX11_countMore_62 : decode cX11_countMore 62 = .ok (.ireturn, 1) := by decide +kernel
theorem dX11_countMore_63 : decode cX11_countMore 63 = .ok (.aload_n 0, 1) := by decide +kernel
theorem dX11_countMore_64 : decode cX11_countMore 64 = .ok (.getfield 10, 3) := by decide +kernel
theorem dX11_countMore_67 : decode cX11_countMore 67 = .ok (.getfield 120, 3) := by decide +kernel
theorem dX11_countMore_70 : decode cX11_countMore 70 = .ok (.getfield 307, 3) := by decide +kernel
theorem dX11_countMore_73 : decode cX11_countMore 73 = .ok (.ireturn, 1) := by decide +kernel
theorem dX11_countMore_74 : decode cX11_countMore 74 = .ok (.aload_n 0, 1) := by decide +kernel
theorem dX11_countMore_75 : decode cX11_countMore 75 = .ok (.getfield 10, 3) := by decide +kernel
theorem dX11_countMore_78 : decode cX11_countMore 78 = .ok (.getfield 310, 3) := by decide +kernel
theorem dX11_countMore_81 : decode cX11_countMore 81 = .ok (.ireturn, 1) := by decide +kernel
theorem dX11_countMore_82 : decode cX11_countMore 82 = .ok (.aload_n 0, 1) := by decide +kernel
theorem dX11_countMore_83 : decode cX11_countMore 83 = .ok (.getfield 10, 3) := by decide +kernel
theorem dX11_countMore_86 : decode cX11_countMore 86 = .ok (.invokevirtual 245, 3) := by decide +kernel
theorem dX11_countMore_89 : decode cX11_countMore 89 = .ok (.invokestatic 313, 3) := by decide +kernel
theorem dX11_countMore_92 : decode cX11_countMore 92 = .ok (.ireturn, 1) := by decide +kernel
theorem dX11_countMore_93 : decode cX11_countMore 93 = .ok (.aload_n 0, 1) := by decide +kernel
theorem dX11_countMore_94 : decode cX11_countMore 94 = .ok (.getfield 22, 3) := by decide +kernel
theorem dX11_countMore_97 : decode cX11_countMore 97 = .ok (.getfield 139, 3) := by decide +kernel
theorem dX11_countMore_100 : decode cX11_countMore 100 = .ok (.ireturn, 1) := by decide +kernel
theorem dX11_countMore_101 : decode cX11_countMore 101 = .ok (.aload_n 0, 1) := by decide +kernel
theorem dX11_countMore_102 : decode cX11_countMore 102 = .ok (.getfield 116, 3) := by decide +kernel
theorem dX11_countMore_105 : decode cX11_countMore 105 = .ok (.ireturn, 1) := by decide +kernel
theorem dX11_countMore_106 : decode cX11_countMore 106 = .ok (.aload_n 0, 1) := by decide +kernel
theorem dX11_countMore_107 : decode cX11_countMore 107 = .ok (.getfield 10, 3) := by decide +kernel
theorem dX11_countMore_110 : decode cX11_countMore 110 = .ok (.getfield 318, 3) := by decide +kernel
theorem dX11_countMore_113 : decode cX11_countMore 113 = .ok (.ireturn, 1) := by decide +kernel
theorem dX11_countMore_114 : decode cX11_countMore 114 = .ok (.aload_n 0, 1) := by decide +kernel
theorem dX11_countMore_115 : decode cX11_countMore 115 = .ok (.getfield 10, 3) := by decide +kernel
theorem dX11_countMore_118 : decode cX11_countMore 118 = .ok (.getfield 146, 3) := by decide +kernel
theorem dX11_countMore_121 : decode cX11_countMore 121 = .ok (.ifnonnull 7, 3) := by decide +kernel
theorem dX11_countMore_124 : decode cX11_countMore 124 = .ok (.iconst 0, 1) := by decide +kernel
theorem dX11_countMore_125 : decode cX11_countMore 125 = .ok (.goto 4, 3) := by decide +kernel
theorem dX11_countMore_128 : decode cX11_countMore 128 = .ok (.iconst 1, 1) := by decide +kernel
theorem dX11_countMore_129 : decode cX11_countMore 129 = .ok (.ireturn, 1) := by decide +kernel
theorem dX11_countMore_130 : decode cX11_countMore 130 = .ok (.iconst (-1), 1) := by decide +kernel
theorem dX11_countMore_131 : decode cX11_countMore 131 = .ok (.ireturn, 1) := by decide +kernel
theorem dX11_isWithin_0 : decode cX11_isWithin 0 = .ok (.iload_n 0, 1) := by decide +kernel
theorem dX11_isWithin_1 : decode cX11_isWithin 1 = .ok (.iload_n 1, 1) := by decide +kernel
theorem dX11_isWithin_2 : decode cX11_isWithin 2 = .ok (.if_icmp .lt 12, 3) := by decide +kernel
theorem dX11_isWithin_5 : decode cX11_isWithin 5 = .ok (.iload_n 0, 1) := by decide +kernel
theorem dX11_isWithin_6 : decode cX11_isWithin 6 = .ok (.iload_n 2, 1) := by decide +kernel
theorem dX11_isWithin_7 : decode cX11_isWithin 7 = .ok (.if_icmp .gt 7, 3) := by decide +kernel
theorem dX11_isWithin_10 : decode cX11_isWithin 10 = .ok (.iconst 1, 1) := by decide +kernel
theorem dX11_isWithin_11 : decode cX11_isWithin 11 = .ok (.goto 4, 3) := by decide +kernel
theorem dX11_isWithin_14 : decode cX11_isWithin 14 = .ok (.iconst 0, 1) := by decide +kernel
theorem dX11_isWithin_15 : decode cX11_isWithin 15 = .ok (.ireturn, 1) := by decide +kernel
theorem dX11_isOwner_0 : decode cX11_isOwner 0 = .ok (.iload_n 1, 1) := by decide +kernel
theorem dX11_isOwner_1 : decode cX11_isOwner 1 = .ok (.ifCond .lt 18, 3) := by decide +kernel
theorem dX11_isOwner_4 : decode cX11_isOwner 4 = .ok (.iload_n 1, 1) := by decide +kernel
theorem dX11_isOwner_5 : decode cX11_isOwner 5 = .ok (.aload_n 0, 1) := by decide +kernel
theorem dX11_isOwner_6 : decode cX11_isOwner 6 = .ok (.getfield 10, 3) := by decide +kernel
theorem dX11_isOwner_9 : decode cX11_isOwner 9 = .ok (.getfield 59, 3) := by decide +kernel
theorem dX11_isOwner_12 : decode cX11_isOwner 12 = .ok (.if_icmp .ge 7, 3) := by decide +kernel
theorem dX11_isOwner_15 : decode cX11_isOwner 15 = .ok (.iconst 1, 1) := by decide +kernel
theorem dX11_isOwner_16 : decode cX11_isOwner 16 = .ok (.goto 4, 3) := by decide +kernel
theorem dX11_isOwner_19 : decode cX11_isOwner 19 = .ok (.iconst 0, 1) := by decide +kernel
theorem dX11_isOwner_20 : decode cX11_isOwner 20 = .ok (.ireturn, 1) := by decide +kernel
theorem dX11_isShip_0 : decode cX11_isShip 0 = .ok (.iload_n 1, 1) := by decide +kernel
theorem dX11_isShip_1 : decode cX11_isShip 1 = .ok (.ifCond .lt 18, 3) := by decide +kernel
theorem dX11_isShip_4 : decode cX11_isShip 4 = .ok (.iload_n 1, 1) := by decide +kernel
theorem dX11_isShip_5 : decode cX11_isShip 5 = .ok (.aload_n 0, 1) := by decide +kernel
theorem dX11_isShip_6 : decode cX11_isShip 6 = .ok (.getfield 10, 3) := by decide +kernel
theorem dX11_isShip_9 : decode cX11_isShip 9 = .ok (.getfield 92, 3) := by decide +kernel
theorem dX11_isShip_12 : decode cX11_isShip 12 = .ok (.if_icmp .ge 7, 3) := by decide +kernel
theorem dX11_isShip_15 : decode cX11_isShip 15 = .ok (.iconst 1, 1) := by decide +kernel
theorem dX11_isShip_16 : decode cX11_isShip 16 = .ok (.goto 4, 3) := by decide +kernel
theorem dX11_isShip_19 : decode cX11_isShip 19 = .ok (.iconst 0, 1) := by decide +kernel
theorem dX11_isShip_20 : decode cX11_isShip 20 = .ok (.ireturn, 1) := by decide +kernel
theorem dX11_isSet_0 : decode cX11_isSet 0 = .ok (.iload_n 1, 1) := by decide +kernel
theorem dX11_isSet_1 : decode cX11_isSet 1 = .ok (.ifCond .lt 19, 3) := by decide +kernel
theorem dX11_isSet_4 : decode cX11_isSet 4 = .ok (.iload_n 1, 1) := by decide +kernel
theorem dX11_isSet_5 : decode cX11_isSet 5 = .ok (.aload_n 0, 1) := by decide +kernel
theorem dX11_isSet_6 : decode cX11_isSet 6 = .ok (.getfield 10, 3) := by decide +kernel
theorem dX11_isSet_9 : decode cX11_isSet 9 = .ok (.getfield 59, 3) := by decide +kernel
theorem dX11_isSet_12 : decode cX11_isSet 12 = .ok (.ishr, 1) := by decide +kernel
theorem dX11_isSet_13 : decode cX11_isSet 13 = .ok (.ifCond .ne 7, 3) := by decide +kernel
theorem dX11_isSet_16 : decode cX11_isSet 16 = .ok (.iconst 1, 1) := by decide +kernel
theorem dX11_isSet_17 : decode cX11_isSet 17 = .ok (.goto 4, 3) := by decide +kernel
theorem dX11_isSet_20 : decode cX11_isSet 20 = .ok (.iconst 0, 1) := by decide +kernel
theorem dX11_isSet_21 : decode cX11_isSet 21 = .ok (.ireturn, 1) := by decide +kernel
theorem dX11_isOver_0 : decode cX11_isOver 0 = .ok (.iload_n 1, 1) := by decide +kernel
theorem dX11_isOver_1 : decode cX11_isOver 1 = .ok (.ifCond .lt 21, 3) := by decide +kernel
theorem dX11_isOver_4 : decode cX11_isOver 4 = .ok (.iload_n 1, 1) := by decide +kernel
theorem dX11_isOver_5 : decode cX11_isOver 5 = .ok (.aload_n 0, 1) := by decide +kernel
theorem dX11_isOver_6 : decode cX11_isOver 6 = .ok (.getfield 10, 3) := by decide +kernel
theorem dX11_isOver_9 : decode cX11_isOver 9 = .ok (.getfield 107, 3) := by decide +kernel
theorem dX11_isOver_12 : decode cX11_isOver 12 = .ok (.bipush 30, 2) := by decide +kernel
theorem dX11_isOver_14 : decode cX11_isOver 14 = .ok (.idiv, 1) := by decide +kernel
theorem dX11_isOver_15 : decode cX11_isOver 15 = .ok (.if_icmp .ge 7, 3) := by decide +kernel
theorem dX11_isOver_18 : decode cX11_isOver 18 = .ok (.iconst 1, 1) := by decide +kernel
theorem dX11_isOver_19 : decode cX11_isOver 19 = .ok (.goto 4, 3) := by decide +kernel
theorem dX11_isOver_22 : decode cX11_isOver 22 = .ok (.iconst 0, 1) := by decide +kernel
theorem dX11_isOver_23 : decode cX11_isOver 23 = .ok (.ireturn, 1) := by decide +kernel
theorem dX11_windOf_0 : decode cX11_windOf 0 = .ok (.iload_n 1, 1) := by decide +kernel
theorem dX11_windOf_1 : decode cX11_windOf 1 = .ok (.iconst 1, 1) := by decide +kernel
theorem dX11_windOf_2 : decode cX11_windOf 2 = .ok (.if_icmp .lt 22, 3) := by decide +kernel
theorem dX11_windOf_5 : decode cX11_windOf 5 = .ok (.iload_n 1, 1) := by decide +kernel
theorem dX11_windOf_6 : decode cX11_windOf 6 = .ok (.aload_n 0, 1) := by decide +kernel
theorem dX11_windOf_7 : decode cX11_windOf 7 = .ok (.getfield 116, 3) := by decide +kernel
theorem dX11_windOf_10 : decode cX11_windOf 10 = .ok (.if_icmp .gt 14, 3) := by decide +kernel
theorem dX11_windOf_13 : decode cX11_windOf 13 = .ok (.aload_n 0, 1) := by decide +kernel
theorem dX11_windOf_14 : decode cX11_windOf 14 = .ok (.getfield 47, 3) := by decide +kernel
theorem dX11_windOf_17 : decode cX11_windOf 17 = .ok (.iload_n 1, 1) := by decide +kernel
theorem dX11_windOf_18 : decode cX11_windOf 18 = .ok (.iconst 1, 1) := by decide +kernel
theorem dX11_windOf_19 : decode cX11_windOf 19 = .ok (.isub, 1) := by decide +kernel
theorem dX11_windOf_20 : decode cX11_windOf 20 = .ok (.baload, 1) := by decide +kernel
theorem dX11_windOf_21 : decode cX11_windOf 21 = .ok (.goto 4, 3) := by decide +kernel
theorem dX11_windOf_24 : decode cX11_windOf 24 = .ok (.iconst 0, 1) := by decide +kernel
theorem dX11_windOf_25 : decode cX11_windOf 25 = .ok (.ireturn, 1) := by decide +kernel
theorem dX11_lowOf_0 : decode cX11_lowOf 0 = .ok (.iload_n 0, 1) := by decide +kernel
theorem dX11_lowOf_1 : decode cX11_lowOf 1 = .ok (.lookupswitch 39 #[(0, 27), (1, 32)], 27) := by decide +kernel
theorem dX11_lowOf_28 : decode cX11_lowOf 28 = .ok (.bipush 7, 2) := by decide +kernel
theorem dX11_lowOf_30 : decode cX11_lowOf 30 = .ok (.iload_n 1, 1) := by decide +kernel
theorem dX11_lowOf_31 : decode cX11_lowOf 31 = .ok (.imul, 1) := by decide +kernel
theorem dX11_lowOf_32 : decode cX11_lowOf 32 = .ok (.ireturn, 1) := by decide +kernel
theorem dX11_lowOf_33 : decode cX11_lowOf 33 = .ok (.iload_n 1, 1) := by decide +kernel
theorem dX11_lowOf_34 : decode cX11_lowOf 34 = .ok (.iload_n 1, 1) := by decide +kernel
theorem dX11_lowOf_35 : decode cX11_lowOf 35 = .ok (.bipush 50, 2) := by decide +kernel
theorem dX11_lowOf_37 : decode cX11_lowOf 37 = .ok (.idiv, 1) := by decide +kernel
theorem dX11_lowOf_38 : decode cX11_lowOf 38 = .ok (.isub, 1) := by decide +kernel
theorem dX11_lowOf_39 : decode cX11_lowOf 39 = .ok (.ireturn, 1) := by decide +kernel
theorem dX11_lowOf_40 : decode cX11_lowOf 40 = .ok (.iload_n 1, 1) := by decide +kernel
theorem dX11_lowOf_41 : decode cX11_lowOf 41 = .ok (.iconst 4, 1) := by decide +kernel
theorem dX11_lowOf_42 : decode cX11_lowOf 42 = .ok (.idiv, 1) := by decide +kernel
theorem dX11_lowOf_43 : decode cX11_lowOf 43 = .ok (.ireturn, 1) := by decide +kernel
theorem dX11_highOf_0 : decode cX11_highOf 0 = .ok (.iload_n 0, 1) := by decide +kernel
theorem dX11_highOf_1 : decode cX11_highOf 1 = .ok (.lookupswitch 39 #[(0, 27), (1, 32)], 27) := by decide +kernel
theorem dX11_highOf_28 : decode cX11_highOf 28 = .ok (.bipush 9, 2) := by decide +kernel
theorem dX11_highOf_30 : decode cX11_highOf 30 = .ok (.iload_n 1, 1) := by decide +kernel
theorem dX11_highOf_31 : decode cX11_highOf 31 = .ok (.imul, 1) := by decide +kernel
theorem dX11_highOf_32 : decode cX11_highOf 32 = .ok (.ireturn, 1) := by decide +kernel
theorem dX11_highOf_33 : decode cX11_highOf 33 = .ok (.iload_n 1, 1) := by decide +kernel
theorem dX11_highOf_34 : decode cX11_highOf 34 = .ok (.iload_n 1, 1) := by decide +kernel
theorem dX11_highOf_35 : decode cX11_highOf 35 = .ok (.bipush 50, 2) := by decide +kernel
theorem dX11_highOf_37 : decode cX11_highOf 37 = .ok (.idiv, 1) := by decide +kernel
theorem dX11_highOf_38 : decode cX11_highOf 38 = .ok (.iadd, 1) := by decide +kernel
theorem dX11_highOf_39 : decode cX11_highOf 39 = .ok (.ireturn, 1) := by decide +kernel
theorem dX11_highOf_40 : decode cX11_highOf 40 = .ok (.iload_n 1, 1) := by decide +kernel
theorem dX11_highOf_41 : decode cX11_highOf 41 = .ok (.iconst 2, 1) := by decide +kernel
theorem dX11_highOf_42 : decode cX11_highOf 42 = .ok (.iadd, 1) := by decide +kernel
theorem dX11_highOf_43 : decode cX11_highOf 43 = .ok (.iconst 3, 1) := by decide +kernel
theorem dX11_highOf_44 : decode cX11_highOf 44 = .ok (.idiv, 1) := by decide +kernel
theorem dX11_highOf_45 : decode cX11_highOf 45 = .ok (.ireturn, 1) := by decide +kernel
theorem dX11_provedOn_0 : decode cX11_provedOn 0 = .ok (.aload_n 0, 1) := by decide +kernel
theorem dX11_provedOn_1 : decode cX11_provedOn 1 = .ok (.getfield 29, 3) := by decide +kernel
theorem dX11_provedOn_4 : decode cX11_provedOn 4 = .ok (.iload_n 1, 1) := by decide +kernel
theorem dX11_provedOn_5 : decode cX11_provedOn 5 = .ok (.iload_n 2, 1) := by decide +kernel
theorem dX11_provedOn_6 : decode cX11_provedOn 6 = .ok (.invokevirtual 179, 3) := by decide +kernel
theorem dX11_provedOn_9 : decode cX11_provedOn 9 = .ok (.istore 4, 2) := by decide +kernel
theorem dX11_provedOn_11 : decode cX11_provedOn 11 = .ok (.aload_n 0, 1) := by decide +kernel
theorem dX11_provedOn_12 : decode cX11_provedOn 12 = .ok (.getfield 36, 3) := by decide +kernel
theorem dX11_provedOn_15 : decode cX11_provedOn 15 = .ok (.iload 4, 2) := by decide +kernel
theorem dX11_provedOn_17 : decode cX11_provedOn 17 = .ok (.iload_n 3, 1) := by decide +kernel
theorem dX11_provedOn_18 : decode cX11_provedOn 18 = .ok (.invokevirtual 193, 3) := by decide +kernel
theorem dX11_provedOn_21 : decode cX11_provedOn 21 = .ok (.aload_n 0, 1) := by decide +kernel
theorem dX11_provedOn_22 : decode cX11_provedOn 22 = .ok (.getfield 36, 3) := by decide +kernel
theorem dX11_provedOn_25 : decode cX11_provedOn 25 = .ok (.getfield 197, 3) := by decide +kernel
theorem dX11_provedOn_28 : decode cX11_provedOn 28 = .ok (.aload_n 0, 1) := by decide +kernel
theorem dX11_provedOn_29 : decode cX11_provedOn 29 = .ok (.getfield 36, 3) := by decide +kernel
theorem dX11_provedOn_32 : decode cX11_provedOn 32 = .ok (.getfield 200, 3) := by decide +kernel
theorem dX11_provedOn_35 : decode cX11_provedOn 35 = .ok (.if_icmp .gt 15, 3) := by decide +kernel
theorem dX11_provedOn_38 : decode cX11_provedOn 38 = .ok (.aload_n 0, 1) := by decide +kernel
theorem dX11_provedOn_39 : decode cX11_provedOn 39 = .ok (.getfield 29, 3) := by decide +kernel
theorem dX11_provedOn_42 : decode cX11_provedOn 42 = .ok (.getfield 211, 3) := by decide +kernel
theorem dX11_provedOn_45 : decode cX11_provedOn 45 = .ok (.iload_n 2, 1) := by decide +kernel
theorem dX11_provedOn_46 : decode cX11_provedOn 46 = .ok (.aaload, 1) := by decide +kernel
theorem dX11_provedOn_47 : decode cX11_provedOn 47 = .ok (.ifnonnull 5, 3) := by decide +kernel
theorem dX11_provedOn_50 : decode cX11_provedOn 50 = .ok (.iconst 0, 1) := by decide +kernel
theorem dX11_provedOn_51 : decode cX11_provedOn 51 = .ok (.ireturn, 1) := by decide +kernel
theorem dX11_provedOn_52 : decode cX11_provedOn 52 = .ok (.iconst 0, 1) := by decide +kernel
theorem dX11_provedOn_53 : decode cX11_provedOn 53 = .ok (.aload_n 0, 1) := by decide +kernel
theorem dX11_provedOn_54 : decode cX11_provedOn 54 = .ok (.getfield 36, 3) := by decide +kernel
theorem dX11_provedOn_57 : decode cX11_provedOn 57 = .ok (.getfield 197, 3) := by decide +kernel
theorem dX11_provedOn_60 : decode cX11_provedOn 60 = .ok (.aload_n 0, 1) := by decide +kernel
theorem dX11_provedOn_61 : decode cX11_provedOn 61 = .ok (.getfield 29, 3) := by decide +kernel
theorem dX11_provedOn_64 : decode cX11_provedOn 64 = .ok (.getfield 277, 3) := by decide +kernel
theorem dX11_provedOn_67 : decode cX11_provedOn 67 = .ok (.iload 4, 2) := by decide +kernel
theorem dX11_provedOn_69 : decode cX11_provedOn 69 = .ok (.iaload, 1) := by decide +kernel
theorem dX11_provedOn_70 : decode cX11_provedOn 70 = .ok (.isub, 1) := by decide +kernel
theorem dX11_provedOn_71 : decode cX11_provedOn 71 = .ok (.invokestatic 321, 3) := by decide +kernel
theorem dX11_provedOn_74 : decode cX11_provedOn 74 = .ok (.ireturn, 1) := by decide +kernel
theorem dX11_runTrial_0 : decode cX11_runTrial 0 = .ok (.aload_n 0, 1) := by decide +kernel
theorem dX11_runTrial_1 : decode cX11_runTrial 1 = .ok (.getfield 16, 3) := by decide +kernel
theorem dX11_runTrial_4 : decode cX11_runTrial 4 = .ok (.aload_n 0, 1) := by decide +kernel
theorem dX11_runTrial_5 : decode cX11_runTrial 5 = .ok (.getfield 10, 3) := by decide +kernel
theorem dX11_runTrial_8 : decode cX11_runTrial 8 = .ok (.invokevirtual 256, 3) := by decide +kernel
theorem dX11_runTrial_11 : decode cX11_runTrial 11 = .ok (.aload_n 0, 1) := by decide +kernel
theorem dX11_runTrial_12 : decode cX11_runTrial 12 = .ok (.getfield 16, 3) := by decide +kernel
theorem dX11_runTrial_15 : decode cX11_runTrial 15 = .ok (.iload_n 1, 1) := by decide +kernel
theorem dX11_runTrial_16 : decode cX11_runTrial 16 = .ok (.invokevirtual 326, 3) := by decide +kernel
theorem dX11_runTrial_19 : decode cX11_runTrial 19 = .ok (.aload_n 0, 1) := by decide +kernel
theorem dX11_runTrial_20 : decode cX11_runTrial 20 = .ok (.getfield 16, 3) := by decide +kernel
theorem dX11_runTrial_23 : decode cX11_runTrial 23 = .ok (.iload_n 2, 1) := by decide +kernel
theorem dX11_runTrial_24 : decode cX11_runTrial 24 = .ok (.putfield 329, 3) := by decide +kernel
theorem dX11_runTrial_27 : decode cX11_runTrial 27 = .ok (.iconst 0, 1) := by decide +kernel
theorem dX11_runTrial_28 : decode cX11_runTrial 28 = .ok (.istore 4, 2) := by decide +kernel
theorem dX11_runTrial_30 : decode cX11_runTrial 30 = .ok (.iload 4, 2) := by decide +kernel
theorem dX11_runTrial_32 : decode cX11_runTrial 32 = .ok (.iload_n 3, 1) := by decide +kernel
theorem dX11_runTrial_33 : decode cX11_runTrial 33 = .ok (.if_icmp .ge 42, 3) := by decide +kernel
theorem dX11_runTrial_36 : decode cX11_runTrial 36 = .ok (.aload_n 0, 1) := by decide +kernel
theorem dX11_runTrial_37 : decode cX11_runTrial 37 = .ok (.getfield 16, 3) := by decide +kernel
theorem dX11_runTrial_40 : decode cX11_runTrial 40 = .ok (.getfield 107, 3) := by decide +kernel
theorem dX11_runTrial_43 : decode cX11_runTrial 43 = .ok (.sipush 720, 3) := by decide +kernel
theorem dX11_runTrial_46 : decode cX11_runTrial 46 = .ok (.if_icmp .ge 29, 3) := by decide +kernel
theorem dX11_runTrial_49 : decode cX11_runTrial 49 = .ok (.aload_n 0, 1) := by decide +kernel
theorem dX11_runTrial_50 : decode cX11_runTrial 50 = .ok (.getfield 16, 3) := by decide +kernel
theorem dX11_runTrial_53 : decode cX11_runTrial 53 = .ok (.aload_n 0, 1) := by decide +kernel
theorem dX11_runTrial_54 : decode cX11_runTrial 54 = .ok (.aload_n 0, 1) := by decide +kernel
theorem dX11_runTrial_55 : decode cX11_runTrial 55 = .ok (.getfield 16, 3) := by decide +kernel
theorem dX11_runTrial_58 : decode cX11_runTrial 58 = .ok (.getfield 107, 3) := by decide +kernel
theorem dX11_runTrial_61 : decode cX11_runTrial 61 = .ok (.iconst 1, 1) := by decide +kernel
theorem dX11_runTrial_62 : decode cX11_runTrial 62 = .ok (.iadd, 1) := by decide +kernel
theorem dX11_runTrial_63 : decode cX11_runTrial 63 = .ok (.invokevirtual 161, 3) := by decide +kernel
theorem dX11_runTrial_66 : decode cX11_runTrial 66 = .ok (.invokevirtual 165, 3) := by decide +kernel
theorem dX11_runTrial_69 : decode cX11_runTrial 69 = .ok (.iinc 4 1, 3) := by decide +kernel
theorem dX11_runTrial_72 : decode cX11_runTrial 72 = .ok (.goto (-42), 3) := by decide +kernel
theorem dX11_runTrial_75 : decode cX11_runTrial 75 = .ok (.return_, 1) := by decide +kernel
theorem dX11_gainsWith_0 : decode cX11_gainsWith 0 = .ok (.aload_n 0, 1) := by decide +kernel
theorem dX11_gainsWith_1 : decode cX11_gainsWith 1 = .ok (.aload_n 0, 1) := by decide +kernel
theorem dX11_gainsWith_2 : decode cX11_gainsWith 2 = .ok (.getfield 10, 3) := by decide +kernel
theorem dX11_gainsWith_5 : decode cX11_gainsWith 5 = .ok (.invokevirtual 245, 3) := by decide +kernel
theorem dX11_gainsWith_8 : decode cX11_gainsWith 8 = .ok (.iload_n 1, 1) := by decide +kernel
theorem dX11_gainsWith_9 : decode cX11_gainsWith 9 = .ok (.bipush 30, 2) := by decide +kernel
theorem dX11_gainsWith_11 : decode cX11_gainsWith 11 = .ok (.invokevirtual 241, 3) := by decide +kernel
theorem dX11_gainsWith_14 : decode cX11_gainsWith 14 = .ok (.iconst 0, 1) := by decide +kernel
theorem dX11_gainsWith_15 : decode cX11_gainsWith 15 = .ok (.istore_n 2, 1) := by decide +kernel
theorem dX11_gainsWith_16 : decode cX11_gainsWith 16 = .ok (.iconst 0, 1) := by decide +kernel
theorem dX11_gainsWith_17 : decode cX11_gainsWith 17 = .ok (.istore_n 3, 1) := by decide +kernel
theorem dX11_gainsWith_18 : decode cX11_gainsWith 18 = .ok (.iload_n 3, 1) := by decide +kernel
theorem dX11_gainsWith_19 : decode cX11_gainsWith 19 = .ok (.aload_n 0, 1) := by decide +kernel
theorem dX11_gainsWith_20 : decode cX11_gainsWith 20 = .ok (.getfield 16, 3) := by decide +kernel
theorem dX11_gainsWith_23 : decode cX11_gainsWith 23 = .ok (.getfield 59, 3) := by decide +kernel
theorem dX11_gainsWith_26 : decode cX11_gainsWith 26 = .ok (.if_icmp .ge 24, 3) := by decide +kernel
theorem dX11_gainsWith_29 : decode cX11_gainsWith 29 = .ok (.iload_n 2, 1) := by decide +kernel
theorem dX11_gainsWith_30 : decode cX11_gainsWith 30 = .ok (.aload_n 0, 1) := by decide +kernel
theorem dX11_gainsWith_31 : decode cX11_gainsWith 31 = .ok (.getfield 16, 3) := by decide +kernel
theorem dX11_gainsWith_34 : decode cX11_gainsWith 34 = .ok (.getfield 63, 3) := by decide +kernel
theorem dX11_gainsWith_37 : decode cX11_gainsWith 37 = .ok (.iload_n 3, 1) := by decide +kernel
theorem dX11_gainsWith_38 : decode cX11_gainsWith 38 = .ok (.aaload, 1) := by decide +kernel
theorem dX11_gainsWith_39 : decode cX11_gainsWith 39 = .ok (.getfield 219, 3) := by decide +kernel
theorem dX11_gainsWith_42 : decode cX11_gainsWith 42 = .ok (.iadd, 1) := by decide +kernel
theorem dX11_gainsWith_43 : decode cX11_gainsWith 43 = .ok (.istore_n 2, 1) := by decide +kernel
theorem dX11_gainsWith_44 : decode cX11_gainsWith 44 = .ok (.iinc 3 1, 3) := by decide +kernel
theorem dX11_gainsWith_47 : decode cX11_gainsWith 47 = .ok (.goto (-29), 3) := by decide +kernel
theorem dX11_gainsWith_50 : decode cX11_gainsWith 50 = .ok (.iload_n 2, 1) := by decide +kernel
theorem dX11_gainsWith_51 : decode cX11_gainsWith 51 = .ok (.ireturn, 1) := by decide +kernel
theorem dX11_leastTempted_0 : decode cX11_leastTempted 0 = .ok (.aload_n 0, 1) := by decide +kernel
theorem dX11_leastTempted_1 : decode cX11_leastTempted 1 = .ok (.iload_n 1, 1) := by decide +kernel
theorem dX11_leastTempted_2 : decode cX11_leastTempted 2 = .ok (.iconst (-1), 1) := by decide +kernel
theorem dX11_leastTempted_3 : decode cX11_leastTempted 3 = .ok (.iload_n 2, 1) := by decide +kernel
theorem dX11_leastTempted_4 : decode cX11_leastTempted 4 = .ok (.invokevirtual 241, 3) := by decide +kernel
theorem dX11_leastTempted_7 : decode cX11_leastTempted 7 = .ok (.iconst 0, 1) := by decide +kernel
theorem dX11_leastTempted_8 : decode cX11_leastTempted 8 = .ok (.istore_n 3, 1) := by decide +kernel
theorem dX11_leastTempted_9 : decode cX11_leastTempted 9 = .ok (.iload_n 3, 1) := by decide +kernel
theorem dX11_leastTempted_10 : decode cX11_leastTempted 10 = .ok (.aload_n 0, 1) := by decide +kernel
theorem dX11_leastTempted_11 : decode cX11_leastTempted 11 = .ok (.getfield 16, 3) := by decide +kernel
theorem dX11_leastTempted_14 : decode cX11_leastTempted 14 = .ok (.getfield 59, 3) := by decide +kernel
theorem dX11_leastTempted_17 : decode cX11_leastTempted 17 = .ok (.if_icmp .ge 27, 3) := by decide +kernel
theorem dX11_leastTempted_20 : decode cX11_leastTempted 20 = .ok (.aload_n 0, 1) := by decide +kernel
theorem dX11_leastTempted_21 : decode cX11_leastTempted 21 = .ok (.getfield 51, 3) := by decide +kernel
theorem dX11_leastTempted_24 : decode cX11_leastTempted 24 = .ok (.iload_n 3, 1) := by decide +kernel
theorem dX11_leastTempted_25 : decode cX11_leastTempted 25 = .ok (.aload_n 0, 1) := by decide +kernel
theorem dX11_leastTempted_26 : decode cX11_leastTempted 26 = .ok (.getfield 16, 3) := by decide +kernel
theorem dX11_leastTempted_29 : decode cX11_leastTempted 29 = .ok (.getfield 63, 3) := by decide +kernel
theorem dX11_leastTempted_32 : decode cX11_leastTempted 32 = .ok (.iload_n 3, 1) := by decide +kernel
theorem dX11_leastTempted_33 : decode cX11_leastTempted 33 = .ok (.aaload, 1) := by decide +kernel
theorem dX11_leastTempted_34 : decode cX11_leastTempted 34 = .ok (.getfield 219, 3) := by decide +kernel
theorem dX11_leastTempted_37 : decode cX11_leastTempted 37 = .ok (.iastore, 1) := by decide +kernel
theorem dX11_leastTempted_38 : decode cX11_leastTempted 38 = .ok (.iinc 3 1, 3) := by decide +kernel
theorem dX11_leastTempted_41 : decode cX11_leastTempted 41 = .ok (.goto (-32), 3) := by decide +kernel
theorem dX11_leastTempted_44 : decode cX11_leastTempted 44 = .ok (.iconst 0, 1) := by decide +kernel
theorem dX11_leastTempted_45 : decode cX11_leastTempted 45 = .ok (.istore_n 3, 1) := by decide +kernel
theorem dX11_leastTempted_46 : decode cX11_leastTempted 46 = .ok (.iload_n 3, 1) := by decide +kernel
theorem dX11_leastTempted_47 : decode cX11_leastTempted 47 = .ok (.aload_n 0, 1) := by decide +kernel
theorem dX11_leastTempted_48 : decode cX11_leastTempted 48 = .ok (.getfield 10, 3) := by decide +kernel
theorem dX11_leastTempted_51 : decode cX11_leastTempted 51 = .ok (.getfield 59, 3) := by decide +kernel
theorem dX11_leastTempted_54 : decode cX11_leastTempted 54 = .ok (.if_icmp .ge 51, 3) := by decide +kernel
theorem dX11_leastTempted_57 : decode cX11_leastTempted 57 = .ok (.iload_n 1, 1) := by decide +kernel
theorem dX11_leastTempted_58 : decode cX11_leastTempted 58 = .ok (.iload_n 3, 1) := by decide +kernel
theorem dX11_leastTempted_59 : decode cX11_leastTempted 59 = .ok (.ishr, 1) := by decide +kernel
theorem dX11_leastTempted_60 : decode cX11_leastTempted 60 = .ok (.iconst 1, 1) := by decide +kernel
theorem dX11_leastTempted_61 : decode cX11_leastTempted 61 = .ok (.iand, 1) := by decide +kernel
theorem dX11_leastTempted_62 : decode cX11_leastTempted 62 = .ok (.ifCond .ne 37, 3) := by decide +kernel
theorem dX11_leastTempted_65 : decode cX11_leastTempted 65 = .ok (.aload_n 0, 1) := by decide +kernel
theorem dX11_leastTempted_66 : decode cX11_leastTempted 66 = .ok (.iload_n 1, 1) := by decide +kernel
theorem dX11_leastTempted_67 : decode cX11_leastTempted 67 = .ok (.iconst 1, 1) := by decide +kernel
theorem dX11_leastTempted_68 : decode cX11_leastTempted 68 = .ok (.iload_n 3, 1) := by decide +kernel
theorem dX11_leastTempted_69 : decode cX11_leastTempted 69 = .ok (.ishl, 1) := by decide +kernel
theorem dX11_leastTempted_70 : decode cX11_leastTempted 70 = .ok (.ior, 1) := by decide +kernel
theorem dX11_leastTempted_71 : decode cX11_leastTempted 71 = .ok (.iconst (-1), 1) := by decide +kernel
theorem dX11_leastTempted_72 : decode cX11_leastTempted 72 = .ok (.iload_n 2, 1) := by decide +kernel
theorem dX11_leastTempted_73 : decode cX11_leastTempted 73 = .ok (.invokevirtual 241, 3) := by decide +kernel
theorem dX11_leastTempted_76 : decode cX11_leastTempted 76 = .ok (.aload_n 0, 1) := by decide +kernel
theorem dX11_leastTempted_77 : decode cX11_leastTempted 77 = .ok (.getfield 16, 3) := by decide +kernel
theorem dX11_leastTempted_80 : decode cX11_leastTempted 80 = .ok (.getfield 63, 3) := by decide +kernel
theorem dX11_leastTempted_83 : decode cX11_leastTempted 83 = .ok (.iload_n 3, 1) := by decide +kernel
theorem dX11_leastTempted_84 : decode cX11_leastTempted 84 = .ok (.aaload, 1) := by decide +kernel
theorem dX11_leastTempted_85 : decode cX11_leastTempted 85 = .ok (.getfield 219, 3) := by decide +kernel
theorem dX11_leastTempted_88 : decode cX11_leastTempted 88 = .ok (.aload_n 0, 1) := by decide +kernel
theorem dX11_leastTempted_89 : decode cX11_leastTempted 89 = .ok (.getfield 51, 3) := by decide +kernel
theorem dX11_leastTempted_92 : decode cX11_leastTempted 92 = .ok (.iload_n 3, 1) := by decide +kernel
theorem dX11_leastTempted_93 : decode cX11_leastTempted 93 = .ok (.iaload, 1) := by decide +kernel
theorem dX11_leastTempted_94 : decode cX11_leastTempted 94 = .ok (.if_icmp .le 5, 3) := by decide +kernel
theorem dX11_leastTempted_97 : decode cX11_leastTempted 97 = .ok (.iload_n 3, 1) := by decide +kernel
theorem dX11_leastTempted_98 : decode cX11_leastTempted 98 = .ok (.ireturn, 1) := by decide +kernel
theorem dX11_leastTempted_99 : decode cX11_leastTempted 99 = .ok (.iinc 3 1, 3) := by decide +kernel
theorem dX11_leastTempted_102 : decode cX11_leastTempted 102 = .ok (.goto (-56), 3) := by decide +kernel
theorem dX11_leastTempted_105 : decode cX11_leastTempted 105 = .ok (.iconst (-1), 1) := by decide +kernel
theorem dX11_leastTempted_106 : decode cX11_leastTempted 106 = .ok (.ireturn, 1) := by decide +kernel
theorem dX12_init_0 : decode cX12_init 0 = .ok (.aload_n 0, 1) := by decide +kernel
theorem dX12_init_1 : decode cX12_init 1 = .ok (.invokespecial 1, 3) := by decide +kernel
theorem dX12_init_4 : decode cX12_init 4 = .ok (.aload_n 0, 1) := by decide +kernel
theorem dX12_init_5 : decode cX12_init 5 = .ok (.iconst 2, 1) := by decide +kernel
theorem dX12_init_6 : decode cX12_init 6 = .ok (.newarray .int, 2) := by decide +kernel
theorem dX12_init_8 : decode cX12_init 8 = .ok (.putfield 7, 3) := by decide +kernel
theorem dX12_init_11 : decode cX12_init 11 = .ok (.aload_n 0, 1) := by decide +kernel
theorem dX12_init_12 : decode cX12_init 12 = .ok (.iconst 2, 1) := by decide +kernel
theorem dX12_init_13 : decode cX12_init 13 = .ok (.newarray .int, 2) := by decide +kernel
theorem dX12_init_15 : decode cX12_init 15 = .ok (.putfield 13, 3) := by decide +kernel
theorem dX12_init_18 : decode cX12_init 18 = .ok (.aload_n 0, 1) := by decide +kernel
theorem dX12_init_19 : decode cX12_init 19 = .ok (.iconst 2, 1) := by decide +kernel
theorem dX12_init_20 : decode cX12_init 20 = .ok (.newarray .int, 2) := by decide +kernel
theorem dX12_init_22 : decode cX12_init 22 = .ok (.putfield 16, 3) := by decide +kernel
theorem dX12_init_25 : decode cX12_init 25 = .ok (.aload_n 0, 1) := by decide +kernel
theorem dX12_init_26 : decode cX12_init 26 = .ok (.iconst 2, 1) := by decide +kernel
theorem dX12_init_27 : decode cX12_init 27 = .ok (.newarray .int, 2) := by decide +kernel
theorem dX12_init_29 : decode cX12_init 29 = .ok (.putfield 19, 3) := by decide +kernel
theorem dX12_init_32 : decode cX12_init 32 = .ok (.aload_n 0, 1) := by decide +kernel
theorem dX12_init_33 : decode cX12_init 33 = .ok (.iconst 2, 1) := by decide +kernel
theorem dX12_init_34 : decode cX12_init 34 = .ok (.newarray .int, 2) := by decide +kernel
theorem dX12_init_36 : decode cX12_init 36 = .ok (.putfield 22, 3) := by decide +kernel
theorem dX12_init_39 : decode cX12_init 39 = .ok (.aload_n 0, 1) := by decide +kernel
theorem dX12_init_40 : decode cX12_init 40 = .ok (.iconst 2, 1) := by decide +kernel
theorem dX12_init_41 : decode cX12_init 41 = .ok (.newarray .int, 2) := by decide +kernel
theorem dX12_init_43 : decode cX12_init 43 = .ok (.putfield 25, 3) := by decide +kernel
theorem dX12_init_46 : decode cX12_init 46 = .ok (.aload_n 0, 1) := by decide +kernel
theorem dX12_init_47 : decode cX12_init 47 = .ok (.iconst 2, 1) := by decide +kernel
theorem dX12_init_48 : decode cX12_init 48 = .ok (.newarray .int, 2) := by decide +kernel
theorem dX12_init_50 : decode cX12_init 50 = .ok (.putfield 28, 3) := by decide +kernel
theorem dX12_init_53 : decode cX12_init 53 = .ok (.aload_n 0, 1) := by decide +kernel
theorem dX12_init_54 : decode cX12_init 54 = .ok (.iconst 2, 1) := by decide +kernel
theorem dX12_init_55 : decode cX12_init 55 = .ok (.newarray .int, 2) := by decide +kernel
theorem dX12_init_57 : decode cX12_init 57 = .ok (.putfield 31, 3) := by decide +kernel
theorem dX12_init_60 : decode cX12_init 60 = .ok (.aload_n 0, 1) := by decide +kernel
theorem dX12_init_61 : decode cX12_init 61 = .ok (.iconst 2, 1) := by decide +kernel
theorem dX12_init_62 : decode cX12_init 62 = .ok (.newarray .int, 2) := by decide +kernel
theorem dX12_init_64 : decode cX12_init 64 = .ok (.putfield 34, 3) := by decide +kernel
theorem dX12_init_67 : decode cX12_init 67 = .ok (.aload_n 0, 1) := by decide +kernel
theorem dX12_init_68 : decode cX12_init 68 = .ok (.iconst 2, 1) := by decide +kernel
theorem dX12_init_69 : decode cX12_init 69 = .ok (.newarray .int, 2) := by decide +kernel
theorem dX12_init_71 : decode cX12_init 71 = .ok (.putfield 37, 3) := by decide +kernel
theorem dX12_init_74 : decode cX12_init 74 = .ok (.aload_n 0, 1) := by decide +kernel
theorem dX12_init_75 : decode cX12_init 75 = .ok (.iconst 2, 1) := by decide +kernel
theorem dX12_init_76 : decode cX12_init 76 = .ok (.newarray .int, 2) := by decide +kernel
theorem dX12_init_78 : decode cX12_init 78 = .ok (.putfield 40, 3) := by decide +kernel
theorem dX12_init_81 : decode cX12_init 81 = .ok (.aload_n 0, 1) := by decide +kernel
theorem dX12_init_82 : decode cX12_init 82 = .ok (.iconst 2, 1) := by decide +kernel
theorem dX12_init_83 : decode cX12_init 83 = .ok (.newarray .int, 2) := by decide +kernel
theorem dX12_init_85 : decode cX12_init 85 = .ok (.putfield 43, 3) := by decide +kernel
theorem dX12_init_88 : decode cX12_init 88 = .ok (.aload_n 0, 1) := by decide +kernel
theorem dX12_init_89 : decode cX12_init 89 = .ok (.iconst 2, 1) := by decide +kernel
theorem dX12_init_90 : decode cX12_init 90 = .ok (.newarray .int, 2) := by decide +kernel
theorem dX12_init_92 : decode cX12_init 92 = .ok (.putfield 46, 3) := by decide +kernel
theorem dX12_init_95 : decode cX12_init 95 = .ok (.aload_n 0, 1) := by decide +kernel
theorem dX12_init_96 : decode cX12_init 96 = .ok (.iconst 2, 1) := by decide +kernel
theorem dX12_init_97 : decode cX12_init 97 = .ok (.newarray .int, 2) := by decide +kernel
theorem dX12_init_99 : decode cX12_init 99 = .ok (.putfield 49, 3) := by decide +kernel
theorem dX12_init_102 : decode cX12_init 102 = .ok (.aload_n 0, 1) := by decide +kernel
theorem dX12_init_103 : decode cX12_init 103 = .ok (.bipush 20, 2) := by decide +kernel
theorem dX12_init_105 : decode cX12_init 105 = .ok (.newarray .int, 2) := by decide +kernel
theorem dX12_init_107 : decode cX12_init 107 = .ok (.putfield 52, 3) := by decide +kernel
theorem dX12_init_110 : decode cX12_init 110 = .ok (.aload_n 0, 1) := by decide +kernel
theorem dX12_init_111 : decode cX12_init 111 = .ok (.bipush 20, 2) := by decide +kernel
theorem dX12_init_113 : decode cX12_init 113 = .ok (.newarray .int, 2) := by decide +kernel
theorem dX12_init_115 : decode cX12_init 115 = .ok (.putfield 55, 3) := by decide +kernel
theorem dX12_init_118 : decode cX12_init 118 = .ok (.aload_n 0, 1) := by decide +kernel
theorem dX12_init_119 : decode cX12_init 119 = .ok (.bipush 20, 2) := by decide +kernel
theorem dX12_init_121 : decode cX12_init 121 = .ok (.newarray .int, 2) := by decide +kernel
theorem dX12_init_123 : decode cX12_init 123 = .ok (.putfield 58, 3) := by decide +kernel
theorem dX12_init_126 : decode cX12_init 126 = .ok (.aload_n 0, 1) := by decide +kernel
theorem dX12_init_127 : decode cX12_init 127 = .ok (.bipush 20, 2) := by decide +kernel
theorem dX12_init_129 : decode cX12_init 129 = .ok (.newarray .int, 2) := by decide +kernel
theorem dX12_init_131 : decode cX12_init 131 = .ok (.putfield 61, 3) := by decide +kernel
theorem dX12_init_134 : decode cX12_init 134 = .ok (.aload_n 0, 1) := by decide +kernel
theorem dX12_init_135 : decode cX12_init 135 = .ok (.bipush 20, 2) := by decide +kernel
theorem dX12_init_137 : decode cX12_init 137 = .ok (.newarray .boolean, 2) := by decide +kernel
theorem dX12_init_139 : decode cX12_init 139 = .ok (.putfield 64, 3) := by decide +kernel
theorem dX12_init_142 : decode cX12_init 142 = .ok (.aload_n 0, 1) := by decide +kernel
theorem dX12_init_143 : decode cX12_init 143 = .ok (.bipush 16, 2) := by decide +kernel
theorem dX12_init_145 : decode cX12_init 145 = .ok (.newarray .int, 2) := by decide +kernel
theorem dX12_init_147 : decode cX12_init 147 = .ok (.putfield 68, 3) := by decide +kernel
theorem dX12_init_150 : decode cX12_init 150 = .ok (.aload_n 0, 1) := by decide +kernel
theorem dX12_init_151 : decode cX12_init 151 = .ok (.bipush 16, 2) := by decide +kernel
theorem dX12_init_153 : decode cX12_init 153 = .ok (.newarray .int, 2) := by decide +kernel
theorem dX12_init_155 : decode cX12_init 155 = .ok (.putfield 71, 3) := by decide +kernel
theorem dX12_init_158 : decode cX12_init 158 = .ok (.aload_n 0, 1) := by decide +kernel
theorem dX12_init_159 : decode cX12_init 159 = .ok (.bipush 16, 2) := by decide +kernel
theorem dX12_init_161 : decode cX12_init 161 = .ok (.newarray .int, 2) := by decide +kernel
theorem dX12_init_163 : decode cX12_init 163 = .ok (.putfield 74, 3) := by decide +kernel
theorem dX12_init_166 : decode cX12_init 166 = .ok (.aload_n 0, 1) := by decide +kernel
theorem dX12_init_167 : decode cX12_init 167 = .ok (.bipush 16, 2) := by decide +kernel
theorem dX12_init_169 : decode cX12_init 169 = .ok (.newarray .int, 2) := by decide +kernel
theorem dX12_init_171 : decode cX12_init 171 = .ok (.putfield 77, 3) := by decide +kernel
theorem dX12_init_174 : decode cX12_init 174 = .ok (.aload_n 0, 1) := by decide +kernel
theorem dX12_init_175 : decode cX12_init 175 = .ok (.sipush 192, 3) := by decide +kernel
theorem dX12_init_178 : decode cX12_init 178 = .ok (.newarray .int, 2) := by decide +kernel
theorem dX12_init_180 : decode cX12_init 180 = .ok (.putfield 80, 3) := by decide +kernel
theorem dX12_init_183 : decode cX12_init 183 = .ok (.aload_n 0, 1) := by decide +kernel
theorem dX12_init_184 : decode cX12_init 184 = .ok (.sipush 480, 3) := by decide +kernel
theorem dX12_init_187 : decode cX12_init 187 = .ok (.newarray .int, 2) := by decide +kernel
theorem dX12_init_189 : decode cX12_init 189 = .ok (.putfield 83, 3) := by decide +kernel
theorem dX12_init_192 : decode cX12_init 192 = .ok (.aload_n 0, 1) := by decide +kernel
theorem dX12_init_193 : decode cX12_init 193 = .ok (.sipush 480, 3) := by decide +kernel
theorem dX12_init_196 : decode cX12_init 196 = .ok (.newarray .int, 2) := by decide +kernel
theorem dX12_init_198 : decode cX12_init 198 = .ok (.putfield 86, 3) := by decide +kernel
theorem dX12_init_201 : decode cX12_init 201 = .ok (.aload_n 0, 1) := by decide +kernel
theorem dX12_init_202 : decode cX12_init 202 = .ok (.sipush 1442, 3) := by decide +kernel
theorem dX12_init_205 : decode cX12_init 205 = .ok (.newarray .boolean, 2) := by decide +kernel
theorem dX12_init_207 : decode cX12_init 207 = .ok (.putfield 89, 3) := by decide +kernel
theorem dX12_init_210 : decode cX12_init 210 = .ok (.aload_n 0, 1) := by decide +kernel
theorem dX12_init_211 : decode cX12_init 211 = .ok (.bipush 10, 2) := by decide +kernel
theorem dX12_init_213 : decode cX12_init 213 = .ok (.newarray .int, 2) := by decide +kernel
theorem dX12_init_215 : decode cX12_init 215 = .ok (.putfield 92, 3) := by decide +kernel
theorem dX12_init_218 : decode cX12_init 218 = .ok (.aload_n 0, 1) := by decide +kernel
theorem dX12_init_219 : decode cX12_init 219 = .ok (.bipush 10, 2) := by decide +kernel
theorem dX12_init_221 : decode cX12_init 221 = .ok (.newarray .int, 2) := by decide +kernel
theorem dX12_init_223 : decode cX12_init 223 = .ok (.putfield 95, 3) := by decide +kernel
theorem dX12_init_226 : decode cX12_init 226 = .ok (.aload_n 0, 1) := by decide +kernel
theorem dX12_init_227 : decode cX12_init 227 = .ok (.bipush 10, 2) := by decide +kernel
theorem dX12_init_229 : decode cX12_init 229 = .ok (.newarray .int, 2) := by decide +kernel
theorem dX12_init_231 : decode cX12_init 231 = .ok (.putfield 98, 3) := by decide +kernel
theorem dX12_init_234 : decode cX12_init 234 = .ok (.aload_n 0, 1) := by decide +kernel
theorem dX12_init_235 : decode cX12_init 235 = .ok (.bipush 10, 2) := by decide +kernel
theorem dX12_init_237 : decode cX12_init 237 = .ok (.newarray .int, 2) := by decide +kernel
theorem dX12_init_239 : decode cX12_init 239 = .ok (.putfield 101, 3) := by decide +kernel
theorem dX12_init_242 : decode cX12_init 242 = .ok (.aload_n 0, 1) := by decide +kernel
theorem dX12_init_243 : decode cX12_init 243 = .ok (.bipush 10, 2) := by decide +kernel
theorem dX12_init_245 : decode cX12_init 245 = .ok (.newarray .int, 2) := by decide +kernel
theorem dX12_init_247 : decode cX12_init 247 = .ok (.putfield 104, 3) := by decide +kernel
theorem dX12_init_250 : decode cX12_init 250 = .ok (.aload_n 0, 1) := by decide +kernel
theorem dX12_init_251 : decode cX12_init 251 = .ok (.bipush 8, 2) := by decide +kernel
theorem dX12_init_253 : decode cX12_init 253 = .ok (.newarray .int, 2) := by decide +kernel
theorem dX12_init_255 : decode cX12_init 255 = .ok (.putfield 107, 3) := by decide +kernel
theorem dX12_init_258 : decode cX12_init 258 = .ok (.aload_n 0, 1) := by decide +kernel
theorem dX12_init_259 : decode cX12_init 259 = .ok (.bipush 8, 2) := by decide +kernel
theorem dX12_init_261 : decode cX12_init 261 = .ok (.newarray .int, 2) := by decide +kernel
theorem dX12_init_263 : decode cX12_init 263 = .ok (.putfield 110, 3) := by decide +kernel
theorem dX12_init_266 : decode cX12_init 266 = .ok (.aload_n 0, 1) := by decide +kernel
theorem dX12_init_267 : decode cX12_init 267 = .ok (.sipush 721, 3) := by decide +kernel
theorem dX12_init_270 : decode cX12_init 270 = .ok (.newarray .int, 2) := by decide +kernel
theorem dX12_init_272 : decode cX12_init 272 = .ok (.putfield 113, 3) := by decide +kernel
theorem dX12_init_275 : decode cX12_init 275 = .ok (.aload_n 0, 1) := by decide +kernel
theorem dX12_init_276 : decode cX12_init 276 = .ok (.bipush 24, 2) := by decide +kernel
theorem dX12_init_278 : decode cX12_init 278 = .ok (.newarray .int, 2) := by decide +kernel
theorem dX12_init_280 : decode cX12_init 280 = .ok (.putfield 116, 3) := by decide +kernel
theorem dX12_init_283 : decode cX12_init 283 = .ok (.aload_n 0, 1) := by decide +kernel
theorem dX12_init_284 : decode cX12_init 284 = .ok (.sipush 1000, 3) := by decide +kernel
theorem dX12_init_287 : decode cX12_init 287 = .ok (.newarray .int, 2) := by decide +kernel
theorem dX12_init_289 : decode cX12_init 289 = .ok (.putfield 119, 3) := by decide +kernel
theorem dX12_init_292 : decode cX12_init 292 = .ok (.aload_n 0, 1) := by decide +kernel
theorem dX12_init_293 : decode cX12_init 293 = .ok (.sipush 286, 3) := by decide +kernel
theorem dX12_init_296 : decode cX12_init 296 = .ok (.newarray .int, 2) := by decide +kernel
theorem dX12_init_298 : decode cX12_init 298 = .ok (.putfield 122, 3) := by decide +kernel
theorem dX12_init_301 : decode cX12_init 301 = .ok (.aload_n 0, 1) := by decide +kernel
theorem dX12_init_302 : decode cX12_init 302 = .ok (.sipush 286, 3) := by decide +kernel
theorem dX12_init_305 : decode cX12_init 305 = .ok (.newarray .int, 2) := by decide +kernel
theorem dX12_init_307 : decode cX12_init 307 = .ok (.putfield 125, 3) := by decide +kernel
theorem dX12_init_310 : decode cX12_init 310 = .ok (.aload_n 0, 1) := by decide +kernel
theorem dX12_init_311 : decode cX12_init 311 = .ok (.bipush 26, 2) := by decide +kernel
theorem dX12_init_313 : decode cX12_init 313 = .ok (.newarray .int, 2) := by decide +kernel
theorem dX12_init_315 : decode cX12_init 315 = .ok (.putfield 128, 3) := by decide +kernel
theorem dX12_init_318 : decode cX12_init 318 = .ok (.aload_n 0, 1) := by decide +kernel
theorem dX12_init_319 : decode cX12_init 319 = .ok (.bipush 26, 2) := by decide +kernel
theorem dX12_init_321 : decode cX12_init 321 = .ok (.newarray .int, 2) := by decide +kernel
theorem dX12_init_323 : decode cX12_init 323 = .ok (.putfield 131, 3) := by decide +kernel
theorem dX12_init_326 : decode cX12_init 326 = .ok (.aload_n 0, 1) := by decide +kernel
theorem dX12_init_327 : decode cX12_init 327 = .ok (.bipush 26, 2) := by decide +kernel
theorem dX12_init_329 : decode cX12_init 329 = .ok (.newarray .int, 2) := by decide +kernel
theorem dX12_init_331 : decode cX12_init 331 = .ok (.putfield 134, 3) := by decide +kernel
theorem dX12_init_334 : decode cX12_init 334 = .ok (.aload_n 0, 1) := by decide +kernel
theorem dX12_init_335 : decode cX12_init 335 = .ok (.sipush 26000, 3) := by decide +kernel
theorem dX12_init_338 : decode cX12_init 338 = .ok (.newarray .int, 2) := by decide +kernel
theorem dX12_init_340 : decode cX12_init 340 = .ok (.putfield 137, 3) := by decide +kernel
theorem dX12_init_343 : decode cX12_init 343 = .ok (.aload_n 0, 1) := by decide +kernel
theorem dX12_init_344 : decode cX12_init 344 = .ok (.bipush 6, 2) := by decide +kernel
theorem dX12_init_346 : decode cX12_init 346 = .ok (.newarray .int, 2) := by decide +kernel
theorem dX12_init_348 : decode cX12_init 348 = .ok (.putfield 140, 3) := by decide +kernel
theorem dX12_init_351 : decode cX12_init 351 = .ok (.aload_n 0, 1) := by decide +kernel
theorem dX12_init_352 : decode cX12_init 352 = .ok (.bipush 6, 2) := by decide +kernel
theorem dX12_init_354 : decode cX12_init 354 = .ok (.newarray .boolean, 2) := by decide +kernel
theorem dX12_init_356 : decode cX12_init 356 = .ok (.putfield 143, 3) := by decide +kernel
theorem dX12_init_359 : decode cX12_init 359 = .ok (.aload_n 0, 1) := by decide +kernel
theorem dX12_init_360 : decode cX12_init 360 = .ok (.bipush 6, 2) := by decide +kernel
theorem dX12_init_362 : decode cX12_init 362 = .ok (.newarray .int, 2) := by decide +kernel
theorem dX12_init_364 : decode cX12_init 364 = .ok (.putfield 146, 3) := by decide +kernel
theorem dX12_init_367 : decode cX12_init 367 = .ok (.aload_n 0, 1) := by decide +kernel
theorem dX12_init_368 : decode cX12_init 368 = .ok (.bipush 6, 2) := by decide +kernel
theorem dX12_init_370 : decode cX12_init 370 = .ok (.newarray .int, 2) := by decide +kernel
theorem dX12_init_372 : decode cX12_init 372 = .ok (.putfield 149, 3) := by decide +kernel
theorem dX12_init_375 : decode cX12_init 375 = .ok (.aload_n 0, 1) := by decide +kernel
theorem dX12_init_376 : decode cX12_init 376 = .ok (.bipush 6, 2) := by decide +kernel
theorem dX12_init_378 : decode cX12_init 378 = .ok (.newarray .int, 2) := by decide +kernel
theorem dX12_init_380 : decode cX12_init 380 = .ok (.putfield 152, 3) := by decide +kernel
theorem dX12_init_383 : decode cX12_init 383 = .ok (.aload_n 0, 1) := by decide +kernel
theorem dX12_init_384 : decode cX12_init 384 = .ok (.bipush 6, 2) := by decide +kernel
theorem dX12_init_386 : decode cX12_init 386 = .ok (.newarray .int, 2) := by decide +kernel
theorem dX12_init_388 : decode cX12_init 388 = .ok (.putfield 155, 3) := by decide +kernel
theorem dX12_init_391 : decode cX12_init 391 = .ok (.aload_n 0, 1) := by decide +kernel
theorem dX12_init_392 : decode cX12_init 392 = .ok (.bipush 6, 2) := by decide +kernel
theorem dX12_init_394 : decode cX12_init 394 = .ok (.newarray .int, 2) := by decide +kernel
theorem dX12_init_396 : decode cX12_init 396 = .ok (.putfield 158, 3) := by decide +kernel
theorem dX12_init_399 : decode cX12_init 399 = .ok (.aload_n 0, 1) := by decide +kernel
theorem dX12_init_400 : decode cX12_init 400 = .ok (.bipush 6, 2) := by decide +kernel
theorem dX12_init_402 : decode cX12_init 402 = .ok (.newarray .int, 2) := by decide +kernel
theorem dX12_init_404 : decode cX12_init 404 = .ok (.putfield 161, 3) := by decide +kernel
theorem dX12_init_407 : decode cX12_init 407 = .ok (.aload_n 0, 1) := by decide +kernel
theorem dX12_init_408 : decode cX12_init 408 = .ok (.bipush 6, 2) := by decide +kernel
theorem dX12_init_410 : decode cX12_init 410 = .ok (.newarray .int, 2) := by decide +kernel
theorem dX12_init_412 : decode cX12_init 412 = .ok (.putfield 164, 3) := by decide +kernel
theorem dX12_init_415 : decode cX12_init 415 = .ok (.aload_n 0, 1) := by decide +kernel
theorem dX12_init_416 : decode cX12_init 416 = .ok (.bipush 6, 2) := by decide +kernel
theorem dX12_init_418 : decode cX12_init 418 = .ok (.newarray .int, 2) := by decide +kernel
theorem dX12_init_420 : decode cX12_init 420 = .ok (.putfield 167, 3) := by decide +kernel
theorem dX12_init_423 : decode cX12_init 423 = .ok (.aload_n 0, 1) := by decide +kernel
theorem dX12_init_424 : decode cX12_init 424 = .ok (.bipush 6, 2) := by decide +kernel
theorem dX12_init_426 : decode cX12_init 426 = .ok (.newarray .int, 2) := by decide +kernel
theorem dX12_init_428 : decode cX12_init 428 = .ok (.putfield 170, 3) := by decide +kernel
theorem dX12_init_431 : decode cX12_init 431 = .ok (.aload_n 0, 1) := by decide +kernel
theorem dX12_init_432 : decode cX12_init 432 = .ok (.bipush 10, 2) := by decide +kernel
theorem dX12_init_434 : decode cX12_init 434 = .ok (.newarray .int, 2) := by decide +kernel
theorem dX12_init_436 : decode cX12_init 436 = .ok (.putfield 173, 3) := by decide +kernel
theorem dX12_init_439 : decode cX12_init 439 = .ok (.aload_n 0, 1) := by decide +kernel
theorem dX12_init_440 : decode cX12_init 440 = .ok (.bipush 10, 2) := by decide +kernel
theorem dX12_init_442 : decode cX12_init 442 = .ok (.newarray .int, 2) := by decide +kernel
theorem dX12_init_444 : decode cX12_init 444 = .ok (.putfield 176, 3) := by decide +kernel
theorem dX12_init_447 : decode cX12_init 447 = .ok (.aload_n 0, 1) := by decide +kernel
theorem dX12_init_448 : decode cX12_init 448 = .ok (.sipush 200, 3) := by decide +kernel
theorem dX12_init_451 : decode cX12_init 451 = .ok (.newarray .int, 2) := by decide +kernel
theorem dX12_init_453 : decode cX12_init 453 = .ok (.putfield 179, 3) := by decide +kernel
theorem dX12_init_456 : decode cX12_init 456 = .ok (.aload_n 0, 1) := by decide +kernel
theorem dX12_init_457 : decode cX12_init 457 = .ok (.sipush 200, 3) := by decide +kernel
theorem dX12_init_460 : decode cX12_init 460 = .ok (.newarray .int, 2) := by decide +kernel
theorem dX12_init_462 : decode cX12_init 462 = .ok (.putfield 182, 3) := by decide +kernel
theorem dX12_init_465 : decode cX12_init 465 = .ok (.aload_n 0, 1) := by decide +kernel
theorem dX12_init_466 : decode cX12_init 466 = .ok (.sipush 200, 3) := by decide +kernel
theorem dX12_init_469 : decode cX12_init 469 = .ok (.newarray .int, 2) := by decide +kernel
theorem dX12_init_471 : decode cX12_init 471 = .ok (.putfield 185, 3) := by decide +kernel
theorem dX12_init_474 : decode cX12_init 474 = .ok (.aload_n 0, 1) := by decide +kernel
theorem dX12_init_475 : decode cX12_init 475 = .ok (.sipush 200, 3) := by decide +kernel
theorem dX12_init_478 : decode cX12_init 478 = .ok (.newarray .int, 2) := by decide +kernel
theorem dX12_init_480 : decode cX12_init 480 = .ok (.putfield 188, 3) := by decide +kernel
theorem dX12_init_483 : decode cX12_init 483 = .ok (.aload_n 0, 1) := by decide +kernel
theorem dX12_init_484 : decode cX12_init 484 = .ok (.sipush 200, 3) := by decide +kernel
theorem dX12_init_487 : decode cX12_init 487 = .ok (.newarray .int, 2) := by decide +kernel
theorem dX12_init_489 : decode cX12_init 489 = .ok (.putfield 191, 3) := by decide +kernel
theorem dX12_init_492 : decode cX12_init 492 = .ok (.aload_n 0, 1) := by decide +kernel
theorem dX12_init_493 : decode cX12_init 493 = .ok (.sipush 240, 3) := by decide +kernel
theorem dX12_init_496 : decode cX12_init 496 = .ok (.newarray .boolean, 2) := by decide +kernel
theorem dX12_init_498 : decode cX12_init 498 = .ok (.putfield 194, 3) := by decide +kernel
theorem dX12_init_501 : decode cX12_init 501 = .ok (.aload_n 0, 1) := by decide +kernel
theorem dX12_init_502 : decode cX12_init 502 = .ok (.bipush 60, 2) := by decide +kernel
theorem dX12_init_504 : decode cX12_init 504 = .ok (.newarray .int, 2) := by decide +kernel
theorem dX12_init_506 : decode cX12_init 506 = .ok (.putfield 197, 3) := by decide +kernel
theorem dX12_init_509 : decode cX12_init 509 = .ok (.aload_n 0, 1) := by decide +kernel
theorem dX12_init_510 : decode cX12_init 510 = .ok (.bipush 60, 2) := by decide +kernel
theorem dX12_init_512 : decode cX12_init 512 = .ok (.newarray .int, 2) := by decide +kernel
theorem dX12_init_514 : decode cX12_init 514 = .ok (.putfield 200, 3) := by decide +kernel
theorem dX12_init_517 : decode cX12_init 517 = .ok (.aload_n 0, 1) := by decide +kernel
theorem dX12_init_518 : decode cX12_init 518 = .ok (.bipush 60, 2) := by decide +kernel
theorem dX12_init_520 : decode cX12_init 520 = .ok (.newarray .int, 2) := by decide +kernel
theorem dX12_init_522 : decode cX12_init 522 = .ok (.putfield 203, 3) := by decide +kernel
theorem dX12_init_525 : decode cX12_init 525 = .ok (.aload_n 0, 1) := by decide +kernel
theorem dX12_init_526 : decode cX12_init 526 = .ok (.getfield 13, 3) := by decide +kernel
theorem dX12_init_529 : decode cX12_init 529 = .ok (.iconst 0, 1) := by decide +kernel
theorem dX12_init_530 : decode cX12_init 530 = .ok (.iconst 2, 1) := by decide +kernel
theorem dX12_init_531 : decode cX12_init 531 = .ok (.iastore, 1) := by decide +kernel
theorem dX12_init_532 : decode cX12_init 532 = .ok (.aload_n 0, 1) := by decide +kernel
theorem dX12_init_533 : decode cX12_init 533 = .ok (.getfield 22, 3) := by decide +kernel
theorem dX12_init_536 : decode cX12_init 536 = .ok (.iconst 0, 1) := by decide +kernel
theorem dX12_init_537 : decode cX12_init 537 = .ok (.bipush 20, 2) := by decide +kernel
theorem dX12_init_539 : decode cX12_init 539 = .ok (.iastore, 1) := by decide +kernel
theorem dX12_init_540 : decode cX12_init 540 = .ok (.aload_n 0, 1) := by decide +kernel
theorem dX12_init_541 : decode cX12_init 541 = .ok (.getfield 25, 3) := by decide +kernel
theorem dX12_init_544 : decode cX12_init 544 = .ok (.iconst 0, 1) := by decide +kernel
theorem dX12_init_545 : decode cX12_init 545 = .ok (.bipush 100, 2) := by decide +kernel
theorem dX12_init_547 : decode cX12_init 547 = .ok (.iastore, 1) := by decide +kernel
theorem dX12_init_548 : decode cX12_init 548 = .ok (.aload_n 0, 1) := by decide +kernel
theorem dX12_init_549 : decode cX12_init 549 = .ok (.getfield 28, 3) := by decide +kernel
theorem dX12_init_552 : decode cX12_init 552 = .ok (.iconst 0, 1) := by decide +kernel
theorem dX12_init_553 : decode cX12_init 553 = .ok (.iconst (-1), 1) := by decide +kernel
theorem dX12_init_554 : decode cX12_init 554 = .ok (.iastore, 1) := by decide +kernel
theorem dX12_init_555 : decode cX12_init 555 = .ok (.iconst 0, 1) := by decide +kernel
theorem dX12_init_556 : decode cX12_init 556 = .ok (.istore_n 1, 1) := by decide +kernel
theorem dX12_init_557 : decode cX12_init 557 = .ok (.iload_n 1, 1) := by decide +kernel
theorem dX12_init_558 : decode cX12_init 558 = .ok (.bipush 24, 2) := by decide +kernel
theorem dX12_init_560 : decode cX12_init 560 = .ok (.if_icmp .ge 16, 3) := by decide +kernel
theorem dX12_init_563 : decode cX12_init 563 = .ok (.aload_n 0, 1) := by decide +kernel
theorem dX12_init_564 : decode cX12_init 564 = .ok (.getfield 116, 3) := by decide +kernel
theorem dX12_init_567 : decode cX12_init 567 = .ok (.iload_n 1, 1) := by decide +kernel
theorem dX12_init_568 : decode cX12_init 568 = .ok (.iconst (-1), 1) := by decide +kernel
theorem dX12_init_569 : decode cX12_init 569 = .ok (.iastore, 1) := by decide +kernel
theorem dX12_init_570 : decode cX12_init 570 = .ok (.iinc 1 1, 3) := by decide +kernel
theorem dX12_init_573 : decode cX12_init 573 = .ok (.goto (-16), 3) := by decide +kernel
theorem dX12_init_576 : decode cX12_init 576 = .ok (.return_, 1) := by decide +kernel
theorem dX12_thrown_0 : decode cX12_thrown 0 = .ok (.aload_n 0, 1) := by decide +kernel
theorem dX12_thrown_1 : decode cX12_thrown 1 = .ok (.getfield 206, 3) := by decide +kernel
theorem dX12_thrown_4 : decode cX12_thrown 4 = .ok (.ireturn, 1) := by decide +kernel
theorem dX12_within_0 : decode cX12_within 0 = .ok (.iload_n 0, 1) := by decide +kernel
theorem dX12_within_1 : decode cX12_within 1 = .ok (.iload_n 1, 1) := by decide +kernel
theorem dX12_within_2 : decode cX12_within 2 = .ok (.if_icmp .lt 12, 3) := by decide +kernel
theorem dX12_within_5 : decode cX12_within 5 = .ok (.iload_n 0, 1) := by decide +kernel
theorem dX12_within_6 : decode cX12_within 6 = .ok (.iload_n 2, 1) := by decide +kernel
theorem dX12_within_7 : decode cX12_within 7 = .ok (.if_icmp .gt 7, 3) := by decide +kernel
theorem dX12_within_10 : decode cX12_within 10 = .ok (.iconst 1, 1) := by decide +kernel
theorem dX12_within_11 : decode cX12_within 11 = .ok (.goto 4, 3) := by decide +kernel
theorem dX12_within_14 : decode cX12_within 14 = .ok (.iconst 0, 1) := by decide +kernel
theorem dX12_within_15 : decode cX12_within 15 = .ok (.ireturn, 1) := by decide +kernel
theorem dX12_isOwner_0 : decode cX12_isOwner 0 = .ok (.iload_n 1, 1) := by decide +kernel
theorem dX12_isOwner_1 : decode cX12_isOwner 1 = .ok (.iconst 0, 1) := by decide +kernel
theorem dX12_isOwner_2 : decode cX12_isOwner 2 = .ok (.aload_n 0, 1) := by decide +kernel
theorem dX12_isOwner_3 : decode cX12_isOwner 3 = .ok (.getfield 210, 3) := by decide +kernel
theorem dX12_isOwner_6 : decode cX12_isOwner 6 = .ok (.iconst 1, 1) := by decide +kernel
theorem dX12_isOwner_7 : decode cX12_isOwner 7 = .ok (.isub, 1) := by decide +kernel
theorem dX12_isOwner_8 : decode cX12_isOwner 8 = .ok (.invokestatic 213, 3) := by decide +kernel
theorem dX12_isOwner_11 : decode cX12_isOwner 11 = .ok (.ireturn, 1) := by decide +kernel
theorem dX12_owner_0 : decode cX12_owner 0 = .ok (.aload_n 0, 1) := by decide +kernel
theorem dX12_owner_1 : decode cX12_owner 1 = .ok (.iconst 0, 1) := by decide +kernel
theorem dX12_owner_2 : decode cX12_owner 2 = .ok (.putfield 206, 3) := by decide +kernel
theorem dX12_owner_5 : decode cX12_owner 5 = .ok (.iload_n 1, 1) := by decide +kernel
theorem dX12_owner_6 : decode cX12_owner 6 = .ok (.iconst 0, 1) := by decide +kernel
theorem dX12_owner_7 : decode cX12_owner 7 = .ok (.iconst 4, 1) := by decide +kernel
theorem dX12_owner_8 : decode cX12_owner 8 = .ok (.invokestatic 213, 3) := by decide +kernel
theorem dX12_owner_11 : decode cX12_owner 11 = .ok (.ifCond .eq 44, 3) := by decide +kernel
theorem dX12_owner_14 : decode cX12_owner 14 = .ok (.iload_n 2, 1) := by decide +kernel
theorem dX12_owner_15 : decode cX12_owner 15 = .ok (.iconst 1, 1) := by decide +kernel
theorem dX12_owner_16 : decode cX12_owner 16 = .ok (.sipush 999, 3) := by decide +kernel
theorem dX12_owner_19 : decode cX12_owner 19 = .ok (.invokestatic 213, 3) := by decide +kernel
theorem dX12_owner_22 : decode cX12_owner 22 = .ok (.ifCond .eq 33, 3) := by decide +kernel
theorem dX12_owner_25 : decode cX12_owner 25 = .ok (.iload_n 3, 1) := by decide +kernel
theorem dX12_owner_26 : decode cX12_owner 26 = .ok (.iconst 0, 1) := by decide +kernel
theorem dX12_owner_27 : decode cX12_owner 27 = .ok (.bipush 99, 2) := by decide +kernel
theorem dX12_owner_29 : decode cX12_owner 29 = .ok (.invokestatic 213, 3) := by decide +kernel
theorem dX12_owner_32 : decode cX12_owner 32 = .ok (.ifCond .eq 23, 3) := by decide +kernel
theorem dX12_owner_35 : decode cX12_owner 35 = .ok (.iload 4, 2) := by decide +kernel
theorem dX12_owner_37 : decode cX12_owner 37 = .ok (.iconst 0, 1) := by decide +kernel
theorem dX12_owner_38 : decode cX12_owner 38 = .ok (.bipush 99, 2) := by decide +kernel
theorem dX12_owner_40 : decode cX12_owner 40 = .ok (.invokestatic 213, 3) := by decide +kernel
theorem dX12_owner_43 : decode cX12_owner 43 = .ok (.ifCond .eq 12, 3) := by decide +kernel
theorem dX12_owner_46 : decode cX12_owner 46 = .ok (.aload_n 0, 1) := by decide +kernel
theorem dX12_owner_47 : decode cX12_owner 47 = .ok (.getfield 210, 3) := by decide +kernel
theorem dX12_owner_50 : decode cX12_owner 50 = .ok (.bipush 10, 2) := by decide +kernel
theorem dX12_owner_52 : decode cX12_owner 52 = .ok (.if_icmp .ne 5, 3) := by decide +kernel
theorem dX12_owner_55 : decode cX12_owner 55 = .ok (.iconst (-1), 1) := by decide +kernel
theorem dX12_owner_56 : decode cX12_owner 56 = .ok (.ireturn, 1) := by decide +kernel
theorem dX12_owner_57 : decode cX12_owner 57 = .ok (.aload_n 0, 1) := by decide +kernel
theorem dX12_owner_58 : decode cX12_owner 58 = .ok (.getfield 92, 3) := by decide +kernel
theorem dX12_owner_61 : decode cX12_owner 61 = .ok (.aload_n 0, 1) := by decide +kernel
theorem dX12_owner_62 : decode cX12_owner 62 = .ok (.getfield 210, 3) := by decide +kernel
theorem dX12_owner_65 : decode cX12_owner 65 = .ok (.iload_n 1, 1) := by decide +kernel
theorem dX12_owner_66 : decode cX12_owner 66 = .ok (.iastore, 1) := by decide +kernel
theorem dX12_owner_67 : decode cX12_owner 67 = .ok (.aload_n 0, 1) := by decide +kernel
theorem dX12_owner_68 : decode cX12_owner 68 = .ok (.getfield 95, 3) := by decide +kernel
theorem dX12_owner_71 : decode cX12_owner 71 = .ok (.aload_n 0, 1) := by decide +kernel
theorem dX12_owner_72 : decode cX12_owner 72 = .ok (.getfield 210, 3) := by decide +kernel
theorem dX12_owner_75 : decode cX12_owner 75 = .ok (.iload_n 2, 1) := by decide +kernel
theorem dX12_owner_76 : decode cX12_owner 76 = .ok (.iastore, 1) := by decide +kernel
theorem dX12_owner_77 : decode cX12_owner 77 = .ok (.aload_n 0, 1) := by decide +kernel
theorem dX12_owner_78 : decode cX12_owner 78 = .ok (.getfield 98, 3) := by decide +kernel
theorem dX12_owner_81 : decode cX12_owner 81 = .ok (.aload_n 0, 1) := by decide +kernel
theorem dX12_owner_82 : decode cX12_owner 82 = .ok (.getfield 210, 3) := by decide +kernel
theorem dX12_owner_85 : decode cX12_owner 85 = .ok (.iload_n 3, 1) := by decide +kernel
theorem dX12_owner_86 : decode cX12_owner 86 = .ok (.iastore, 1) := by decide +kernel
theorem dX12_owner_87 : decode cX12_owner 87 = .ok (.aload_n 0, 1) := by decide +kernel
theorem dX12_owner_88 : decode cX12_owner 88 = .ok (.getfield 101, 3) := by decide +kernel
theorem dX12_owner_91 : decode cX12_owner 91 = .ok (.aload_n 0, 1) := by decide +kernel
theorem dX12_owner_92 : decode cX12_owner 92 = .ok (.getfield 210, 3) := by decide +kernel
theorem dX12_owner_95 : decode cX12_owner 95 = .ok (.iload 4, 2) := by decide +kernel
theorem dX12_owner_97 : decode cX12_owner 97 = .ok (.iastore, 1) := by decide +kernel
theorem dX12_owner_98 : decode cX12_owner 98 = .ok (.aload_n 0, 1) := by decide +kernel
theorem dX12_owner_99 : decode cX12_owner 99 = .ok (.dup, 1) := by decide +kernel
theorem dX12_owner_100 : decode cX12_owner 100 = .ok (.getfield 210, 3) := by decide +kernel
theorem dX12_owner_103 : decode cX12_owner 103 = .ok (.iconst 1, 1) := by decide +kernel
theorem dX12_owner_104 : decode cX12_owner 104 = .ok (.iadd, 1) := by decide +kernel
theorem dX12_owner_105 : decode cX12_owner 105 = .ok (.putfield 210, 3) := by decide +kernel
theorem dX12_owner_108 : decode cX12_owner 108 = .ok (.aload_n 0, 1) := by decide +kernel
theorem dX12_owner_109 : decode cX12_owner 109 = .ok (.getfield 210, 3) := by decide +kernel
theorem dX12_owner_112 : decode cX12_owner 112 = .ok (.iconst 1, 1) := by decide +kernel
theorem dX12_owner_113 : decode cX12_owner 113 = .ok (.isub, 1) := by decide +kernel
theorem dX12_owner_114 : decode cX12_owner 114 = .ok (.ireturn, 1) := by decide +kernel
theorem dX12_digs_0 : decode cX12_digs 0 = .ok (.aload_n 0, 1) := by decide +kernel
theorem dX12_digs_1 : decode cX12_digs 1 = .ok (.iconst 0, 1) := by decide +kernel
theorem dX12_digs_2 : decode cX12_digs 2 = .ok (.putfield 206, 3) := by decide +kernel
theorem dX12_digs_5 : decode cX12_digs 5 = .ok (.aload_n 0, 1) := by decide +kernel
theorem dX12_digs_6 : decode cX12_digs 6 = .ok (.iload_n 1, 1) := by decide +kernel
theorem dX12_digs_7 : decode cX12_digs 7 = .ok (.invokevirtual 217, 3) := by decide +kernel
theorem dX12_digs_10 : decode cX12_digs 10 = .ok (.ifCond .eq 13, 3) := by decide +kernel
theorem dX12_digs_13 : decode cX12_digs 13 = .ok (.iload_n 2, 1) := by decide +kernel
theorem dX12_digs_14 : decode cX12_digs 14 = .ok (.iconst 0, 1) := by decide +kernel
theorem dX12_digs_15 : decode cX12_digs 15 = .ok (.bipush 99, 2) := by decide +kernel
theorem dX12_digs_17 : decode cX12_digs 17 = .ok (.invokestatic 213, 3) := by decide +kernel
theorem dX12_digs_20 : decode cX12_digs 20 = .ok (.ifCond .ne 5, 3) := by decide +kernel
theorem dX12_digs_23 : decode cX12_digs 23 = .ok (.iconst 0, 1) := by decide +kernel
theorem dX12_digs_24 : decode cX12_digs 24 = .ok (.ireturn, 1) := by decide +kernel
theorem dX12_digs_25 : decode cX12_digs 25 = .ok (.aload_n 0, 1) := by decide +kernel
theorem dX12_digs_26 : decode cX12_digs 26 = .ok (.getfield 98, 3) := by decide +kernel
theorem dX12_digs_29 : decode cX12_digs 29 = .ok (.iload_n 1, 1) := by decide +kernel
theorem dX12_digs_30 : decode cX12_digs 30 = .ok (.iload_n 2, 1) := by decide +kernel
theorem dX12_digs_31 : decode cX12_digs 31 = .ok (.iastore, 1) := by decide +kernel
theorem dX12_digs_32 : decode cX12_digs 32 = .ok (.iconst 1, 1) := by decide +kernel
theorem dX12_digs_33 : decode cX12_digs 33 = .ok (.ireturn, 1) := by decide +kernel
theorem dX12_rebate_0 : decode cX12_rebate 0 = .ok (.aload_n 0, 1) := by decide +kernel
theorem dX12_rebate_1 : decode cX12_rebate 1 = .ok (.iconst 0, 1) := by decide +kernel
theorem dX12_rebate_2 : decode cX12_rebate 2 = .ok (.putfield 206, 3) := by decide +kernel
theorem dX12_rebate_5 : decode cX12_rebate 5 = .ok (.aload_n 0, 1) := by decide +kernel
theorem dX12_rebate_6 : decode cX12_rebate 6 = .ok (.iload_n 1, 1) := by decide +kernel
theorem dX12_rebate_7 : decode cX12_rebate 7 = .ok (.invokevirtual 217, 3) := by decide +kernel
theorem dX12_rebate_10 : decode cX12_rebate 10 = .ok (.ifCond .eq 13, 3) := by decide +kernel
theorem dX12_rebate_13 : decode cX12_rebate 13 = .ok (.iload_n 2, 1) := by decide +kernel
theorem dX12_rebate_14 : decode cX12_rebate 14 = .ok (.iconst 0, 1) := by decide +kernel
theorem dX12_rebate_15 : decode cX12_rebate 15 = .ok (.bipush 50, 2) := by decide +kernel
theorem dX12_rebate_17 : decode cX12_rebate 17 = .ok (.invokestatic 213, 3) := by decide +kernel
theorem dX12_rebate_20 : decode cX12_rebate 20 = .ok (.ifCond .ne 5, 3) := by decide +kernel
theorem dX12_rebate_23 : decode cX12_rebate 23 = .ok (.iconst 0, 1) := by decide +kernel
theorem dX12_rebate_24 : decode cX12_rebate 24 = .ok (.ireturn, 1) := by decide +kernel
theorem dX12_rebate_25 : decode cX12_rebate 25 = .ok (.aload_n 0, 1) := by decide +kernel
theorem dX12_rebate_26 : decode cX12_rebate 26 = .ok (.getfield 104, 3) := by decide +kernel
theorem dX12_rebate_29 : decode cX12_rebate 29 = .ok (.iload_n 1, 1) := by decide +kernel
theorem dX12_rebate_30 : decode cX12_rebate 30 = .ok (.iload_n 2, 1) := by decide +kernel
theorem dX12_rebate_31 : decode cX12_rebate 31 = .ok (.iastore, 1) := by decide +kernel
theorem dX12_rebate_32 : decode cX12_rebate 32 = .ok (.iconst 1, 1) := by decide +kernel
theorem dX12_rebate_33 : decode cX12_rebate 33 = .ok (.ireturn, 1) := by decide +kernel
theorem dX12_breaker_0 : decode cX12_breaker 0 = .ok (.aload_n 0, 1) := by decide +kernel
theorem dX12_breaker_1 : decode cX12_breaker 1 = .ok (.iconst 0, 1) := by decide +kernel
theorem dX12_breaker_2 : decode cX12_breaker 2 = .ok (.putfield 206, 3) := by decide +kernel
theorem dX12_breaker_5 : decode cX12_breaker 5 = .ok (.aload_n 0, 1) := by decide +kernel
theorem dX12_breaker_6 : decode cX12_breaker 6 = .ok (.iload_n 1, 1) := by decide +kernel
theorem dX12_breaker_7 : decode cX12_breaker 7 = .ok (.invokevirtual 217, 3) := by decide +kernel
theorem dX12_breaker_10 : decode cX12_breaker 10 = .ok (.ifCond .ne 5, 3) := by decide +kernel
theorem dX12_breaker_13 : decode cX12_breaker 13 = .ok (.iconst 0, 1) := by decide +kernel
theorem dX12_breaker_14 : decode cX12_breaker 14 = .ok (.ireturn, 1) := by decide +kernel
theorem dX12_breaker_15 : decode cX12_breaker 15 = .ok (.aload_n 0, 1) := by decide +kernel
theorem dX12_breaker_16 : decode cX12_breaker 16 = .ok (.getfield 64, 3) := by decide +kernel
theorem dX12_breaker_19 : decode cX12_breaker 19 = .ok (.iload_n 1, 1) := by decide +kernel
theorem dX12_breaker_20 : decode cX12_breaker 20 = .ok (.iload_n 2, 1) := by decide +kernel
theorem dX12_breaker_21 : decode cX12_breaker 21 = .ok (.bastore, 1) := by decide +kernel
theorem dX12_breaker_22 : decode cX12_breaker 22 = .ok (.iconst 1, 1) := by decide +kernel
theorem dX12_breaker_23 : decode cX12_breaker 23 = .ok (.ireturn, 1) := by decide +kernel
theorem dX12_ship_0 : decode cX12_ship 0 = .ok (.aload_n 0, 1) := by decide +kernel
theorem dX12_ship_1 : decode cX12_ship 1 = .ok (.iconst 0, 1) := by decide +kernel
theorem dX12_ship_2 : decode cX12_ship 2 = .ok (.putfield 206, 3) := by decide +kernel
theorem dX12_ship_5 : decode cX12_ship 5 = .ok (.iload_n 1, 1) := by decide +kernel
theorem dX12_ship_6 : decode cX12_ship 6 = .ok (.bipush 8, 2) := by decide +kernel
theorem dX12_ship_8 : decode cX12_ship 8 = .ok (.bipush 96, 2) := by decide +kernel
theorem dX12_ship_10 : decode cX12_ship 10 = .ok (.invokestatic 213, 3) := by decide +kernel
theorem dX12_ship_13 : decode cX12_ship 13 = .ok (.ifCond .eq 21, 3) := by decide +kernel
theorem dX12_ship_16 : decode cX12_ship 16 = .ok (.iload_n 2, 1) := by decide +kernel
theorem dX12_ship_17 : decode cX12_ship 17 = .ok (.iconst 0, 1) := by decide +kernel
theorem dX12_ship_18 : decode cX12_ship 18 = .ok (.iconst 4, 1) := by decide +kernel
theorem dX12_ship_19 : decode cX12_ship 19 = .ok (.invokestatic 213, 3) := by decide +kernel
theorem dX12_ship_22 : decode cX12_ship 22 = .ok (.ifCond .eq 12, 3) := by decide +kernel
theorem dX12_ship_25 : decode cX12_ship 25 = .ok (.aload_n 0, 1) := by decide +kernel
theorem dX12_ship_26 : decode cX12_ship 26 = .ok (.getfield 221, 3) := by decide +kernel
theorem dX12_ship_29 : decode cX12_ship 29 = .ok (.bipush 8, 2) := by decide +kernel
theorem dX12_ship_31 : decode cX12_ship 31 = .ok (.if_icmp .ne 5, 3) := by decide +kernel
theorem dX12_ship_34 : decode cX12_ship 34 = .ok (.iconst (-1), 1) := by decide +kernel
theorem dX12_ship_35 : decode cX12_ship 35 = .ok (.ireturn, 1) := by decide +kernel
theorem dX12_ship_36 : decode cX12_ship 36 = .ok (.aload_n 0, 1) := by decide +kernel
theorem dX12_ship_37 : decode cX12_ship 37 = .ok (.getfield 107, 3) := by decide +kernel
theorem dX12_ship_40 : decode cX12_ship 40 = .ok (.aload_n 0, 1) := by decide +kernel
theorem dX12_ship_41 : decode cX12_ship 41 = .ok (.getfield 221, 3) := by decide +kernel
theorem dX12_ship_44 : decode cX12_ship 44 = .ok (.iload_n 1, 1) := by decide +kernel
theorem dX12_ship_45 : decode cX12_ship 45 = .ok (.iastore, 1) := by decide +kernel
theorem dX12_ship_46 : decode cX12_ship 46 = .ok (.aload_n 0, 1) := by decide +kernel
theorem dX12_ship_47 : decode cX12_ship 47 = .ok (.getfield 110, 3) := by decide +kernel
theorem dX12_ship_50 : decode cX12_ship 50 = .ok (.aload_n 0, 1) := by decide +kernel
theorem dX12_ship_51 : decode cX12_ship 51 = .ok (.getfield 221, 3) := by decide +kernel
theorem dX12_ship_54 : decode cX12_ship 54 = .ok (.iload_n 2, 1) := by decide +kernel
theorem dX12_ship_55 : decode cX12_ship 55 = .ok (.iastore, 1) := by decide +kernel
theorem dX12_ship_56 : decode cX12_ship 56 = .ok (.aload_n 0, 1) := by decide +kernel
theorem dX12_ship_57 : decode cX12_ship 57 = .ok (.getfield 77, 3) := by decide +kernel
theorem dX12_ship_60 : decode cX12_ship 60 = .ok (.aload_n 0, 1) := by decide +kernel
theorem dX12_ship_61 : decode cX12_ship 61 = .ok (.getfield 221, 3) := by decide +kernel
theorem dX12_ship_64 : decode cX12_ship 64 = .ok (.aload_n 0, 1) := by decide +kernel
theorem dX12_ship_65 : decode cX12_ship 65 = .ok (.getfield 7, 3) := by decide +kernel
theorem dX12_ship_68 : decode cX12_ship 68 = .ok (.iconst 0, 1) := by decide +kernel
theorem dX12_ship_69 : decode cX12_ship 69 = .ok (.iaload, 1) := by decide +kernel
theorem dX12_ship_70 : decode cX12_ship 70 = .ok (.iastore, 1) := by decide +kernel
theorem dX12_ship_71 : decode cX12_ship 71 = .ok (.aload_n 0, 1) := by decide +kernel
theorem dX12_ship_72 : decode cX12_ship 72 = .ok (.dup, 1) := by decide +kernel
theorem dX12_ship_73 : decode cX12_ship 73 = .ok (.getfield 221, 3) := by decide +kernel
theorem dX12_ship_76 : decode cX12_ship 76 = .ok (.iconst 1, 1) := by decide +kernel
theorem dX12_ship_77 : decode cX12_ship 77 = .ok (.iadd, 1) := by decide +kernel
theorem dX12_ship_78 : decode cX12_ship 78 = .ok (.putfield 221, 3) := by decide +kernel
theorem dX12_ship_81 : decode cX12_ship 81 = .ok (.aload_n 0, 1) := by decide +kernel
theorem dX12_ship_82 : decode cX12_ship 82 = .ok (.getfield 221, 3) := by decide +kernel
theorem dX12_ship_85 : decode cX12_ship 85 = .ok (.iconst 1, 1) := by decide +kernel
theorem dX12_ship_86 : decode cX12_ship 86 = .ok (.isub, 1) := by decide +kernel
theorem dX12_ship_87 : decode cX12_ship 87 = .ok (.ireturn, 1) := by decide +kernel
theorem dX12_keels_0 : decode cX12_keels 0 = .ok (.aload_n 0, 1) := by decide +kernel
theorem dX12_keels_1 : decode cX12_keels 1 = .ok (.iconst 0, 1) := by decide +kernel
theorem dX12_keels_2 : decode cX12_keels 2 = .ok (.putfield 206, 3) := by decide +kernel
theorem dX12_keels_5 : decode cX12_keels 5 = .ok (.iload_n 1, 1) := by decide +kernel
theorem dX12_keels_6 : decode cX12_keels 6 = .ok (.iconst 0, 1) := by decide +kernel
theorem dX12_keels_7 : decode cX12_keels 7 = .ok (.bipush 6, 2) := by decide +kernel
theorem dX12_keels_9 : decode cX12_keels 9 = .ok (.invokestatic 213, 3) := by decide +kernel
theorem dX12_keels_12 : decode cX12_keels 12 = .ok (.ifCond .ne 5, 3) := by decide +kernel
theorem dX12_keels_15 : decode cX12_keels 15 = .ok (.iconst 0, 1) := by decide +kernel
theorem dX12_keels_16 : decode cX12_keels 16 = .ok (.ireturn, 1) := by decide +kernel
theorem dX12_keels_17 : decode cX12_keels 17 = .ok (.aload_n 0, 1) := by decide +kernel
theorem dX12_keels_18 : decode cX12_keels 18 = .ok (.getfield 13, 3) := by decide +kernel
theorem dX12_keels_21 : decode cX12_keels 21 = .ok (.iconst 0, 1) := by decide +kernel
theorem dX12_keels_22 : decode cX12_keels 22 = .ok (.iload_n 1, 1) := by decide +kernel
theorem dX12_keels_23 : decode cX12_keels 23 = .ok (.iastore, 1) := by decide +kernel
theorem dX12_keels_24 : decode cX12_keels 24 = .ok (.iconst 1, 1) := by decide +kernel
theorem dX12_keels_25 : decode cX12_keels 25 = .ok (.ireturn, 1) := by decide +kernel
theorem dX12_winds_0 : decode cX12_winds 0 = .ok (.aload_n 0, 1) := by decide +kernel
theorem dX12_winds_1 : decode cX12_winds 1 = .ok (.iconst 0, 1) := by decide +kernel
theorem dX12_winds_2 : decode cX12_winds 2 = .ok (.putfield 206, 3) := by decide +kernel
theorem dX12_winds_5 : decode cX12_winds 5 = .ok (.iload_n 1, 1) := by decide +kernel
theorem dX12_winds_6 : decode cX12_winds 6 = .ok (.iconst 0, 1) := by decide +kernel
theorem dX12_winds_7 : decode cX12_winds 7 = .ok (.iconst 3, 1) := by decide +kernel
theorem dX12_winds_8 : decode cX12_winds 8 = .ok (.invokestatic 213, 3) := by decide +kernel
theorem dX12_winds_11 : decode cX12_winds 11 = .ok (.ifCond .eq 25, 3) := by decide +kernel
theorem dX12_winds_14 : decode cX12_winds 14 = .ok (.iload_n 2, 1) := by decide +kernel
theorem dX12_winds_15 : decode cX12_winds 15 = .ok (.iconst 1, 1) := by decide +kernel
theorem dX12_winds_16 : decode cX12_winds 16 = .ok (.bipush 60, 2) := by decide +kernel
theorem dX12_winds_18 : decode cX12_winds 18 = .ok (.invokestatic 213, 3) := by decide +kernel
theorem dX12_winds_21 : decode cX12_winds 21 = .ok (.ifCond .eq 15, 3) := by decide +kernel
theorem dX12_winds_24 : decode cX12_winds 24 = .ok (.aload_n 0, 1) := by decide +kernel
theorem dX12_winds_25 : decode cX12_winds 25 = .ok (.getfield 224, 3) := by decide +kernel
theorem dX12_winds_28 : decode cX12_winds 28 = .ok (.iload_n 2, 1) := by decide +kernel
theorem dX12_winds_29 : decode cX12_winds 29 = .ok (.iadd, 1) := by decide +kernel
theorem dX12_winds_30 : decode cX12_winds 30 = .ok (.sipush 720, 3) := by decide +kernel
theorem dX12_winds_33 : decode cX12_winds 33 = .ok (.if_icmp .le 5, 3) := by decide +kernel
theorem dX12_winds_36 : decode cX12_winds 36 = .ok (.iconst (-1), 1) := by decide +kernel
theorem dX12_winds_37 : decode cX12_winds 37 = .ok (.ireturn, 1) := by decide +kernel
theorem dX12_winds_38 : decode cX12_winds 38 = .ok (.iconst 0, 1) := by decide +kernel
theorem dX12_winds_39 : decode cX12_winds 39 = .ok (.istore_n 3, 1) := by decide +kernel
theorem dX12_winds_40 : decode cX12_winds 40 = .ok (.iload_n 3, 1) := by decide +kernel
theorem dX12_winds_41 : decode cX12_winds 41 = .ok (.iload_n 2, 1) := by decide +kernel
theorem dX12_winds_42 : decode cX12_winds 42 = .ok (.if_icmp .ge 29, 3) := by decide +kernel
theorem dX12_winds_45 : decode cX12_winds 45 = .ok (.aload_n 0, 1) := by decide +kernel
theorem dX12_winds_46 : decode cX12_winds 46 = .ok (.dup, 1) := by decide +kernel
theorem dX12_winds_47 : decode cX12_winds 47 = .ok (.getfield 224, 3) := by decide +kernel
theorem dX12_winds_50 : decode cX12_winds 50 = .ok (.iconst 1, 1) := by decide +kernel
theorem dX12_winds_51 : decode cX12_winds 51 = .ok (.iadd, 1) := by decide +kernel
theorem dX12_winds_52 : decode cX12_winds 52 = .ok (.putfield 224, 3) := by decide +kernel
theorem dX12_winds_55 : decode cX12_winds 55 = .ok (.aload_n 0, 1) := by decide +kernel
theorem dX12_winds_56 : decode cX12_winds 56 = .ok (.getfield 113, 3) := by decide +kernel
theorem dX12_winds_59 : decode cX12_winds 59 = .ok (.aload_n 0, 1) := by decide +kernel
theorem dX12_winds_60 : decode cX12_winds 60 = .ok (.getfield 224, 3) := by decide +kernel
theorem dX12_winds_63 : decode cX12_winds 63 = .ok (.iload_n 1, 1) := by decide +kernel
theorem dX12_winds_64 : decode cX12_winds 64 = .ok (.iastore, 1) := by decide +kernel
theorem dX12_winds_65 : decode cX12_winds 65 = .ok (.iinc 3 1, 3) := by decide +kernel
theorem dX12_winds_68 : decode cX12_winds 68 = .ok (.goto (-28), 3) := by decide +kernel
theorem dX12_winds_71 : decode cX12_winds 71 = .ok (.aload_n 0, 1) := by decide +kernel
theorem dX12_winds_72 : decode cX12_winds 72 = .ok (.getfield 224, 3) := by decide +kernel
theorem dX12_winds_75 : decode cX12_winds 75 = .ok (.ireturn, 1) := by decide +kernel
theorem dX12_city_0 : decode cX12_city 0 = .ok (.aload_n 0, 1) := by decide +kernel
theorem dX12_city_1 : decode cX12_city 1 = .ok (.iconst 0, 1) := by decide +kernel
theorem dX12_city_2 : decode cX12_city 2 = .ok (.putfield 206, 3) := by decide +kernel
theorem dX12_city_5 : decode cX12_city 5 = .ok (.iload_n 1, 1) := by decide +kernel
theorem dX12_city_6 : decode cX12_city 6 = .ok (.iconst 0, 1) := by decide +kernel
theorem dX12_city_7 : decode cX12_city 7 = .ok (.ldc 227, 2) := by decide +kernel
theorem dX12_city_9 : decode cX12_city 9 = .ok (.invokestatic 213, 3) := by decide +kernel
theorem dX12_city_12 : decode cX12_city 12 = .ok (.ifCond .eq 25, 3) := by decide +kernel
theorem dX12_city_15 : decode cX12_city 15 = .ok (.iload_n 2, 1) := by decide +kernel
theorem dX12_city_16 : decode cX12_city 16 = .ok (.iconst 0, 1) := by decide +kernel
theorem dX12_city_17 : decode cX12_city 17 = .ok (.sipush 999, 3) := by decide +kernel
theorem dX12_city_20 : decode cX12_city 20 = .ok (.invokestatic 213, 3) := by decide +kernel
theorem dX12_city_23 : decode cX12_city 23 = .ok (.ifCond .eq 14, 3) := by decide +kernel
theorem dX12_city_26 : decode cX12_city 26 = .ok (.iload_n 3, 1) := by decide +kernel
theorem dX12_city_27 : decode cX12_city 27 = .ok (.iconst 1, 1) := by decide +kernel
theorem dX12_city_28 : decode cX12_city 28 = .ok (.sipush 999, 3) := by decide +kernel
theorem dX12_city_31 : decode cX12_city 31 = .ok (.invokestatic 213, 3) := by decide +kernel
theorem dX12_city_34 : decode cX12_city 34 = .ok (.ifCond .ne 5, 3) := by decide +kernel
theorem dX12_city_37 : decode cX12_city 37 = .ok (.iconst 0, 1) := by decide +kernel
theorem dX12_city_38 : decode cX12_city 38 = .ok (.ireturn, 1) := by decide +kernel
theorem dX12_city_39 : decode cX12_city 39 = .ok (.aload_n 0, 1) := by decide +kernel
theorem dX12_city_40 : decode cX12_city 40 = .ok (.getfield 19, 3) := by decide +kernel
theorem dX12_city_43 : decode cX12_city 43 = .ok (.iconst 0, 1) := by decide +kernel
theorem dX12_city_44 : decode cX12_city 44 = .ok (.iload_n 1, 1) := by decide +kernel
theorem dX12_city_45 : decode cX12_city 45 = .ok (.iastore, 1) := by decide +kernel
theorem dX12_city_46 : decode cX12_city 46 = .ok (.aload_n 0, 1) := by decide +kernel
theorem dX12_city_47 : decode cX12_city 47 = .ok (.getfield 22, 3) := by decide +kernel
theorem dX12_city_50 : decode cX12_city 50 = .ok (.iconst 0, 1) := by decide +kernel
theorem dX12_city_51 : decode cX12_city 51 = .ok (.iload_n 2, 1) := by decide +kernel
theorem dX12_city_52 : decode cX12_city 52 = .ok (.iastore, 1) := by decide +kernel
theorem dX12_city_53 : decode cX12_city 53 = .ok (.aload_n 0, 1) := by decide +kernel
theorem dX12_city_54 : decode cX12_city 54 = .ok (.getfield 25, 3) := by decide +kernel
theorem dX12_city_57 : decode cX12_city 57 = .ok (.iconst 0, 1) := by decide +kernel
theorem dX12_city_58 : decode cX12_city 58 = .ok (.iload_n 3, 1) := by decide +kernel
theorem dX12_city_59 : decode cX12_city 59 = .ok (.iastore, 1) := by decide +kernel
theorem dX12_city_60 : decode cX12_city 60 = .ok (.iconst 1, 1) := by decide +kernel
theorem dX12_city_61 : decode cX12_city 61 = .ok (.ireturn, 1) := by decide +kernel
theorem dX12_priceAt_0 : decode cX12_priceAt 0 = .ok (.aload_n 0, 1) := by decide +kernel
theorem dX12_priceAt_1 : decode cX12_priceAt 1 = .ok (.getfield 19, 3) := by decide +kernel
theorem dX12_priceAt_4 : decode cX12_priceAt 4 = .ok (.iload_n 1, 1) := by decide +kernel
theorem dX12_priceAt_5 : decode cX12_priceAt 5 = .ok (.iaload, 1) := by decide +kernel
theorem dX12_priceAt_6 : decode cX12_priceAt 6 = .ok (.bipush 30, 2) := by decide +kernel
theorem dX12_priceAt_8 : decode cX12_priceAt 8 = .ok (.aload_n 0, 1) := by decide +kernel
theorem dX12_priceAt_9 : decode cX12_priceAt 9 = .ok (.getfield 22, 3) := by decide +kernel
theorem dX12_priceAt_12 : decode cX12_priceAt 12 = .ok (.iload_n 1, 1) := by decide +kernel
theorem dX12_priceAt_13 : decode cX12_priceAt 13 = .ok (.iaload, 1) := by decide +kernel
theorem dX12_priceAt_14 : decode cX12_priceAt 14 = .ok (.imul, 1) := by decide +kernel
theorem dX12_priceAt_15 : decode cX12_priceAt 15 = .ok (.iadd, 1) := by decide +kernel
theorem dX12_priceAt_16 : decode cX12_priceAt 16 = .ok (.istore_n 3, 1) := by decide +kernel
theorem dX12_priceAt_17 : decode cX12_priceAt 17 = .ok (.iload_n 3, 1) := by decide +kernel
theorem dX12_priceAt_18 : decode cX12_priceAt 18 = .ok (.ifCond .ne 7, 3) := by decide +kernel
theorem dX12_priceAt_21 : decode cX12_priceAt 21 = .ok (.iconst 0, 1) := by decide +kernel
theorem dX12_priceAt_22 : decode cX12_priceAt 22 = .ok (.goto 21, 3) := by decide +kernel
theorem dX12_priceAt_25 : decode cX12_priceAt 25 = .ok (.aload_n 0, 1) := by decide +kernel
theorem dX12_priceAt_26 : decode cX12_priceAt 26 = .ok (.getfield 25, 3) := by decide +kernel
theorem dX12_priceAt_29 : decode cX12_priceAt 29 = .ok (.iload_n 1, 1) := by decide +kernel
theorem dX12_priceAt_30 : decode cX12_priceAt 30 = .ok (.iaload, 1) := by decide +kernel
theorem dX12_priceAt_31 : decode cX12_priceAt 31 = .ok (.bipush 60, 2) := by decide +kernel
theorem dX12_priceAt_33 : decode cX12_priceAt 33 = .ok (.imul, 1) := by decide +kernel
theorem dX12_priceAt_34 : decode cX12_priceAt 34 = .ok (.aload_n 0, 1) := by decide +kernel
theorem dX12_priceAt_35 : decode cX12_priceAt 35 = .ok (.getfield 22, 3) := by decide +kernel
theorem dX12_priceAt_38 : decode cX12_priceAt 38 = .ok (.iload_n 1, 1) := by decide +kernel
theorem dX12_priceAt_39 : decode cX12_priceAt 39 = .ok (.iaload, 1) := by decide +kernel
theorem dX12_priceAt_40 : decode cX12_priceAt 40 = .ok (.imul, 1) := by decide +kernel
theorem dX12_priceAt_41 : decode cX12_priceAt 41 = .ok (.iload_n 3, 1) := by decide +kernel
theorem dX12_priceAt_42 : decode cX12_priceAt 42 = .ok (.idiv, 1) := by decide +kernel
theorem dX12_priceAt_43 : decode cX12_priceAt 43 = .ok (.istore 4, 2) := by decide +kernel
theorem dX12_priceAt_45 : decode cX12_priceAt 45 = .ok (.iconst 1, 1) := by decide +kernel
theorem dX12_priceAt_46 : decode cX12_priceAt 46 = .ok (.iload 4, 2) := by decide +kernel
theorem dX12_priceAt_48 : decode cX12_priceAt 48 = .ok (.aload_n 0, 1) := by decide +kernel
theorem dX12_priceAt_49 : decode cX12_priceAt 49 = .ok (.getfield 25, 3) := by decide +kernel
theorem dX12_priceAt_52 : decode cX12_priceAt 52 = .ok (.iload_n 1, 1) := by decide +kernel
theorem dX12_priceAt_53 : decode cX12_priceAt 53 = .ok (.iaload, 1) := by decide +kernel
theorem dX12_priceAt_54 : decode cX12_priceAt 54 = .ok (.iload_n 2, 1) := by decide +kernel
theorem dX12_priceAt_55 : decode cX12_priceAt 55 = .ok (.imul, 1) := by decide +kernel
theorem dX12_priceAt_56 : decode cX12_priceAt 56 = .ok (.bipush 20, 2) := by decide +kernel
theorem dX12_priceAt_58 : decode cX12_priceAt 58 = .ok (.idiv, 1) := by decide +kernel
theorem dX12_priceAt_59 : decode cX12_priceAt 59 = .ok (.iadd, 1) := by decide +kernel
theorem dX12_priceAt_60 : decode cX12_priceAt 60 = .ok (.invokestatic 228, 3) := by decide +kernel
theorem dX12_priceAt_63 : decode cX12_priceAt 63 = .ok (.ireturn, 1) := by decide +kernel
theorem dX12_price_0 : decode cX12_price 0 = .ok (.aload_n 0, 1) := by decide +kernel
theorem dX12_price_1 : decode cX12_price 1 = .ok (.iconst 0, 1) := by decide +kernel
theorem dX12_price_2 : decode cX12_price 2 = .ok (.putfield 206, 3) := by decide +kernel
theorem dX12_price_5 : decode cX12_price 5 = .ok (.iload_n 1, 1) := by decide +kernel
theorem dX12_price_6 : decode cX12_price 6 = .ok (.iconst 0, 1) := by decide +kernel
theorem dX12_price_7 : decode cX12_price 7 = .ok (.iconst 4, 1) := by decide +kernel
theorem dX12_price_8 : decode cX12_price 8 = .ok (.invokestatic 213, 3) := by decide +kernel
theorem dX12_price_11 : decode cX12_price 11 = .ok (.ifCond .eq 12, 3) := by decide +kernel
theorem dX12_price_14 : decode cX12_price 14 = .ok (.aload_n 0, 1) := by decide +kernel
theorem dX12_price_15 : decode cX12_price 15 = .ok (.iconst 0, 1) := by decide +kernel
theorem dX12_price_16 : decode cX12_price 16 = .ok (.iload_n 1, 1) := by decide +kernel
theorem dX12_price_17 : decode cX12_price 17 = .ok (.invokevirtual 234, 3) := by decide +kernel
theorem dX12_price_20 : decode cX12_price 20 = .ok (.goto 4, 3) := by decide +kernel
theorem dX12_price_23 : decode cX12_price 23 = .ok (.iconst (-1), 1) := by decide +kernel
theorem dX12_price_24 : decode cX12_price 24 = .ok (.ireturn, 1) := by decide +kernel
theorem dX12_feed_0 : decode cX12_feed 0 = .ok (.aload_n 0, 1) := by decide +kernel
theorem dX12_feed_1 : decode cX12_feed 1 = .ok (.iconst 0, 1) := by decide +kernel
theorem dX12_feed_2 : decode cX12_feed 2 = .ok (.putfield 206, 3) := by decide +kernel
theorem dX12_feed_5 : decode cX12_feed 5 = .ok (.iconst 0, 1) := by decide +kernel
theorem dX12_feed_6 : decode cX12_feed 6 = .ok (.istore 7, 2) := by decide +kernel
theorem dX12_feed_8 : decode cX12_feed 8 = .ok (.iload 7, 2) := by decide +kernel
theorem dX12_feed_10 : decode cX12_feed 10 = .ok (.bipush 24, 2) := by decide +kernel
theorem dX12_feed_12 : decode cX12_feed 12 = .ok (.if_icmp .ge 108, 3) := by decide +kernel
theorem dX12_feed_15 : decode cX12_feed 15 = .ok (.iload 7, 2) := by decide +kernel
theorem dX12_feed_17 : decode cX12_feed 17 = .ok (.bipush 8, 2) := by decide +kernel
theorem dX12_feed_19 : decode cX12_feed 19 = .ok (.if_icmp .ge 7, 3) := by decide +kernel
theorem dX12_feed_22 : decode cX12_feed 22 = .ok (.lload_n 1, 1) := by decide +kernel
theorem dX12_feed_23 : decode cX12_feed 23 = .ok (.goto 16, 3) := by decide +kernel
theorem dX12_feed_26 : decode cX12_feed 26 = .ok (.iload 7, 2) := by decide +kernel
theorem dX12_feed_28 : decode cX12_feed 28 = .ok (.bipush 16, 2) := by decide +kernel
theorem dX12_feed_30 : decode cX12_feed 30 = .ok (.if_icmp .ge 7, 3) := by decide +kernel
theorem dX12_feed_33 : decode cX12_feed 33 = .ok (.lload_n 3, 1) := by decide +kernel
theorem dX12_feed_34 : decode cX12_feed 34 = .ok (.goto 5, 3) := by decide +kernel
theorem dX12_feed_37 : decode cX12_feed 37 = .ok (.lload 5, 2) := by decide +kernel
theorem dX12_feed_39 : decode cX12_feed 39 = .ok (.lstore 8, 2) := by decide +kernel
theorem dX12_feed_41 : decode cX12_feed 41 = .ok (.lload 8, 2) := by decide +kernel
theorem dX12_feed_43 : decode cX12_feed 43 = .ok (.bipush 56, 2) := by decide +kernel
theorem dX12_feed_45 : decode cX12_feed 45 = .ok (.bipush 8, 2) := by decide +kernel
theorem dX12_feed_47 : decode cX12_feed 47 = .ok (.iload 7, 2) := by decide +kernel
theorem dX12_feed_49 : decode cX12_feed 49 = .ok (.bipush 7, 2) := by decide +kernel
theorem dX12_feed_51 : decode cX12_feed 51 = .ok (.iand, 1) := by decide +kernel
theorem dX12_feed_52 : decode cX12_feed 52 = .ok (.imul, 1) := by decide +kernel
theorem dX12_feed_53 : decode cX12_feed 53 = .ok (.isub, 1) := by decide +kernel
theorem dX12_feed_54 : decode cX12_feed 54 = .ok (.lushr, 1) := by decide +kernel
theorem dX12_feed_55 : decode cX12_feed 55 = .ok (.ldc2_w 237, 3) := by decide +kernel
theorem dX12_feed_58 : decode cX12_feed 58 = .ok (.land, 1) := by decide +kernel
theorem dX12_feed_59 : decode cX12_feed 59 = .ok (.l2i, 1) := by decide +kernel
theorem dX12_feed_60 : decode cX12_feed 60 = .ok (.istore 10, 2) := by decide +kernel
theorem dX12_feed_62 : decode cX12_feed 62 = .ok (.aload_n 0, 1) := by decide +kernel
theorem dX12_feed_63 : decode cX12_feed 63 = .ok (.getfield 239, 3) := by decide +kernel
theorem dX12_feed_66 : decode cX12_feed 66 = .ok (.sipush 1000, 3) := by decide +kernel
theorem dX12_feed_69 : decode cX12_feed 69 = .ok (.if_icmp .ge 45, 3) := by decide +kernel
theorem dX12_feed_72 : decode cX12_feed 72 = .ok (.iload 10, 2) := by decide +kernel
theorem dX12_feed_74 : decode cX12_feed 74 = .ok (.bipush 10, 2) := by decide +kernel
theorem dX12_feed_76 : decode cX12_feed 76 = .ok (.if_icmp .eq 17, 3) := by decide +kernel
theorem dX12_feed_79 : decode cX12_feed 79 = .ok (.iload 10, 2) := by decide +kernel
theorem dX12_feed_81 : decode cX12_feed 81 = .ok (.bipush 32, 2) := by decide +kernel
theorem dX12_feed_83 : decode cX12_feed 83 = .ok (.if_icmp .lt 31, 3) := by decide +kernel
theorem dX12_feed_86 : decode cX12_feed 86 = .ok (.iload 10, 2) := by decide +kernel
theorem dX12_feed_88 : decode cX12_feed 88 = .ok (.bipush 126, 2) := by decide +kernel
theorem dX12_feed_90 : decode cX12_feed 90 = .ok (.if_icmp .gt 24, 3) := by decide +kernel
theorem dX12_feed_93 : decode cX12_feed 93 = .ok (.aload_n 0, 1) := by decide +kernel
theorem dX12_feed_94 : decode cX12_feed 94 = .ok (.getfield 119, 3) := by decide +kernel
theorem dX12_feed_97 : decode cX12_feed 97 = .ok (.aload_n 0, 1) := by decide +kernel
theorem dX12_feed_98 : decode cX12_feed 98 = .ok (.getfield 239, 3) := by decide +kernel
theorem dX12_feed_101 : decode cX12_feed 101 = .ok (.iload 10, 2) := by decide +kernel
theorem dX12_feed_103 : decode cX12_feed 103 = .ok (.iastore, 1) := by decide +kernel
theorem dX12_feed_104 : decode cX12_feed 104 = .ok (.aload_n 0, 1) := by decide +kernel
theorem dX12_feed_105 : decode cX12_feed 105 = .ok (.dup, 1) := by decide +kernel
theorem dX12_feed_106 : decode cX12_feed 106 = .ok (.getfield 239, 3) := by decide +kernel
theorem dX12_feed_109 : decode cX12_feed 109 = .ok (.iconst 1, 1) := by decide +kernel
theorem dX12_feed_110 : decode cX12_feed 110 = .ok (.iadd, 1) := by decide +kernel
theorem dX12_feed_111 : decode cX12_feed 111 = .ok (.putfield 239, 3) := by decide +kernel
theorem dX12_feed_114 : decode cX12_feed 114 = .ok (.iinc 7 1, 3) := by decide +kernel
theorem dX12_feed_117 : decode cX12_feed 117 = .ok (.goto (-109), 3) := by decide +kernel
theorem dX12_feed_120 : decode cX12_feed 120 = .ok (.aload_n 0, 1) := by decide +kernel
theorem dX12_feed_121 : decode cX12_feed 121 = .ok (.getfield 239, 3) := by decide +kernel
theorem dX12_feed_124 : decode cX12_feed 124 = .ok (.ireturn, 1) := by decide +kernel
theorem dX12_signAt_0 : decode cX12_signAt 0 = .ok (.iload_n 1, 1) := by decide +kernel
theorem dX12_signAt_1 : decode cX12_signAt 1 = .ok (.aload_n 0, 1) := by decide +kernel
theorem dX12_signAt_2 : decode cX12_signAt 2 = .ok (.getfield 242, 3) := by decide +kernel
theorem dX12_signAt_5 : decode cX12_signAt 5 = .ok (.if_icmp .ge 12, 3) := by decide +kernel
theorem dX12_signAt_8 : decode cX12_signAt 8 = .ok (.aload_n 0, 1) := by decide +kernel
theorem dX12_signAt_9 : decode cX12_signAt 9 = .ok (.getfield 119, 3) := by decide +kernel
theorem dX12_signAt_12 : decode cX12_signAt 12 = .ok (.iload_n 1, 1) := by decide +kernel
theorem dX12_signAt_13 : decode cX12_signAt 13 = .ok (.iaload, 1) := by decide +kernel
theorem dX12_signAt_14 : decode cX12_signAt 14 = .ok (.goto 4, 3) := by decide +kernel
theorem dX12_signAt_17 : decode cX12_signAt 17 = .ok (.iconst 0, 1) := by decide +kernel
theorem dX12_signAt_18 : decode cX12_signAt 18 = .ok (.ireturn, 1) := by decide +kernel
theorem dX12_next_0 : decode cX12_next 0 = .ok (.aload_n 0, 1) := by decide +kernel
theorem dX12_next_1 : decode cX12_next 1 = .ok (.getfield 245, 3) := by decide +kernel
theorem dX12_next_4 : decode cX12_next 4 = .ok (.aload_n 0, 1) := by decide +kernel
theorem dX12_next_5 : decode cX12_next 5 = .ok (.getfield 242, 3) := by decide +kernel
theorem dX12_next_8 : decode cX12_next 8 = .ok (.if_icmp .ge 44, 3) := by decide +kernel
theorem dX12_next_11 : decode cX12_next 11 = .ok (.aload_n 0, 1) := by decide +kernel
theorem dX12_next_12 : decode cX12_next 12 = .ok (.getfield 119, 3) := by decide +kernel
theorem dX12_next_15 : decode cX12_next 15 = .ok (.aload_n 0, 1) := by decide +kernel
theorem dX12_next_16 : decode cX12_next 16 = .ok (.getfield 245, 3) := by decide +kernel
theorem dX12_next_19 : decode cX12_next 19 = .ok (.iaload, 1) := by decide +kernel
theorem dX12_next_20 : decode cX12_next 20 = .ok (.bipush 32, 2) := by decide +kernel
theorem dX12_next_22 : decode cX12_next 22 = .ok (.if_icmp .eq 17, 3) := by decide +kernel
theorem dX12_next_25 : decode cX12_next 25 = .ok (.aload_n 0, 1) := by decide +kernel
theorem dX12_next_26 : decode cX12_next 26 = .ok (.getfield 119, 3) := by decide +kernel
theorem dX12_next_29 : decode cX12_next 29 = .ok (.aload_n 0, 1) := by decide +kernel
theorem dX12_next_30 : decode cX12_next 30 = .ok (.getfield 245, 3) := by decide +kernel
theorem dX12_next_33 : decode cX12_next 33 = .ok (.iaload, 1) := by decide +kernel
theorem dX12_next_34 : decode cX12_next 34 = .ok (.bipush 10, 2) := by decide +kernel
theorem dX12_next_36 : decode cX12_next 36 = .ok (.if_icmp .ne 16, 3) := by decide +kernel
theorem dX12_next_39 : decode cX12_next 39 = .ok (.aload_n 0, 1) := by decide +kernel
theorem dX12_next_40 : decode cX12_next 40 = .ok (.dup, 1) := by decide +kernel
theorem dX12_next_41 : decode cX12_next 41 = .ok (.getfield 245, 3) := by decide +kernel
theorem dX12_next_44 : decode cX12_next 44 = .ok (.iconst 1, 1) := by decide +kernel
theorem dX12_next_45 : decode cX12_next 45 = .ok (.iadd, 1) := by decide +kernel
theorem dX12_next_46 : decode cX12_next 46 = .ok (.putfield 245, 3) := by decide +kernel
theorem dX12_next_49 : decode cX12_next 49 = .ok (.goto (-49), 3) := by decide +kernel
theorem dX12_next_52 : decode cX12_next 52 = .ok (.aload_n 0, 1) := by decide +kernel
theorem dX12_next_53 : decode cX12_next 53 = .ok (.aload_n 0, 1) := by decide +kernel
theorem dX12_next_54 : decode cX12_next 54 = .ok (.getfield 245, 3) := by decide +kernel
theorem dX12_next_57 : decode cX12_next 57 = .ok (.putfield 248, 3) := by decide +kernel
theorem dX12_next_60 : decode cX12_next 60 = .ok (.aload_n 0, 1) := by decide +kernel
theorem dX12_next_61 : decode cX12_next 61 = .ok (.lconst 0, 1) := by decide +kernel
theorem dX12_next_62 : decode cX12_next 62 = .ok (.putfield 251, 3) := by decide +kernel
theorem dX12_next_65 : decode cX12_next 65 = .ok (.aload_n 0, 1) := by decide +kernel
theorem dX12_next_66 : decode cX12_next 66 = .ok (.iconst 0, 1) := by decide +kernel
theorem dX12_next_67 : decode cX12_next 67 = .ok (.putfield 255, 3) := by decide +kernel
theorem dX12_next_70 : decode cX12_next 70 = .ok (.aload_n 0, 1) := by decide +kernel
theorem dX12_next_71 : decode cX12_next 71 = .ok (.getfield 245, 3) := by decide +kernel
theorem dX12_next_74 : decode cX12_next 74 = .ok (.aload_n 0, 1) := by decide +kernel
theorem dX12_next_75 : decode cX12_next 75 = .ok (.getfield 242, 3) := by decide +kernel
theorem dX12_next_78 : decode cX12_next 78 = .ok (.if_icmp .ne 9, 3) := by decide +kernel
theorem dX12_next_81 : decode cX12_next 81 = .ok (.aload_n 0, 1) := by decide +kernel
theorem dX12_next_82 : decode cX12_next 82 = .ok (.iconst 0, 1) := by decide +kernel
theorem dX12_next_83 : decode cX12_next 83 = .ok (.putfield 258, 3) := by decide +kernel
theorem dX12_next_86 : decode cX12_next 86 = .ok (.return_, 1) := by decide +kernel
theorem dX12_next_87 : decode cX12_next 87 = .ok (.aload_n 0, 1) := by decide +kernel
theorem dX12_next_88 : decode cX12_next 88 = .ok (.getfield 119, 3) := by decide +kernel
theorem dX12_next_91 : decode cX12_next 91 = .ok (.aload_n 0, 1) := by decide +kernel
theorem dX12_next_92 : decode cX12_next 92 = .ok (.getfield 245, 3) := by decide +kernel
theorem dX12_next_95 : decode cX12_next 95 = .ok (.iaload, 1) := by decide +kernel
theorem dX12_next_96 : decode cX12_next 96 = .ok (.istore_n 1, 1) := by decide +kernel
theorem dX12_next_97 : decode cX12_next 97 = .ok (.iload_n 1, 1) := by decide +kernel
theorem dX12_next_98 : decode cX12_next 98 = .ok (.bipush 97, 2) := by decide +kernel
theorem dX12_next_100 : decode cX12_next 100 = .ok (.if_icmp .lt 112, 3) := by decide +kernel
theorem dX12_next_103 : decode cX12_next 103 = .ok (.iload_n 1, 1) := by decide +kernel
theorem dX12_next_104 : decode cX12_next 104 = .ok (.bipush 122, 2) := by decide +kernel
theorem dX12_next_106 : decode cX12_next 106 = .ok (.if_icmp .gt 106, 3) := by decide +kernel
theorem dX12_next_109 : decode cX12_next 109 = .ok (.aload_n 0, 1) := by decide +kernel
theorem dX12_next_110 : decode cX12_next 110 = .ok (.aload_n 0, 1) := by decide +kernel
theorem dX12_next_111 : decode cX12_next 111 = .ok (.getfield 245, 3) := by decide +kernel
theorem dX12_next_114 : decode cX12_next 114 = .ok (.invokevirtual 261, 3) := by decide +kernel
theorem dX12_next_117 : decode cX12_next 117 = .ok (.bipush 97, 2) := by decide +kernel
theorem dX12_next_119 : decode cX12_next 119 = .ok (.if_icmp .lt 69, 3) := by decide +kernel
theorem dX12_next_122 : decode cX12_next 122 = .ok (.aload_n 0, 1) := by decide +kernel
theorem dX12_next_123 : decode cX12_next 123 = .ok (.aload_n 0, 1) := by decide +kernel
theorem dX12_next_124 : decode cX12_next 124 = .ok (.getfield 245, 3) := by decide +kernel
theorem dX12_next_127 : decode cX12_next 127 = .ok (.invokevirtual 261, 3) := by decide +kernel
theorem dX12_next_130 : decode cX12_next 130 = .ok (.bipush 122, 2) := by decide +kernel
theorem dX12_next_132 : decode cX12_next 132 = .ok (.if_icmp .gt 56, 3) := by decide +kernel
theorem dX12_next_135 : decode cX12_next 135 = .ok (.aload_n 0, 1) := by decide +kernel
theorem dX12_next_136 : decode cX12_next 136 = .ok (.getfield 245, 3) := by decide +kernel
theorem dX12_next_139 : decode cX12_next 139 = .ok (.aload_n 0, 1) := by decide +kernel
theorem dX12_next_140 : decode cX12_next 140 = .ok (.getfield 248, 3) := by decide +kernel
theorem dX12_next_143 : decode cX12_next 143 = .ok (.isub, 1) := by decide +kernel
theorem dX12_next_144 : decode cX12_next 144 = .ok (.bipush 8, 2) := by decide +kernel
theorem dX12_next_146 : decode cX12_next 146 = .ok (.if_icmp .ge 29, 3) := by decide +kernel
theorem dX12_next_149 : decode cX12_next 149 = .ok (.aload_n 0, 1) := by decide +kernel
theorem dX12_next_150 : decode cX12_next 150 = .ok (.aload_n 0, 1) := by decide +kernel
theorem dX12_next_151 : decode cX12_next 151 = .ok (.getfield 251, 3) := by decide +kernel
theorem dX12_next_154 : decode cX12_next 154 = .ok (.ldc2_w 265, 3) := by decide +kernel
theorem dX12_next_157 : decode cX12_next 157 = .ok (.lmul, 1) := by decide +kernel
theorem dX12_next_158 : decode cX12_next 158 = .ok (.aload_n 0, 1) := by decide +kernel
theorem dX12_next_159 : decode cX12_next 159 = .ok (.aload_n 0, 1) := by decide +kernel
theorem dX12_next_160 : decode cX12_next 160 = .ok (.getfield 245, 3) := by decide +kernel
theorem dX12_next_163 : decode cX12_next 163 = .ok (.invokevirtual 261, 3) := by decide +kernel
theorem dX12_next_166 : decode cX12_next 166 = .ok (.i2l, 1) := by decide +kernel
theorem dX12_next_167 : decode cX12_next 167 = .ok (.ladd, 1) := by decide +kernel
theorem dX12_next_168 : decode cX12_next 168 = .ok (.ldc2_w 267, 3) := by decide +kernel
theorem dX12_next_171 : decode cX12_next 171 = .ok (.lsub, 1) := by decide +kernel
theorem dX12_next_172 : decode cX12_next 172 = .ok (.putfield 251, 3) := by decide +kernel
theorem dX12_next_175 : decode cX12_next 175 = .ok (.aload_n 0, 1) := by decide +kernel
theorem dX12_next_176 : decode cX12_next 176 = .ok (.dup, 1) := by decide +kernel
theorem dX12_next_177 : decode cX12_next 177 = .ok (.getfield 245, 3) := by decide +kernel
theorem dX12_next_180 : decode cX12_next 180 = .ok (.iconst 1, 1) := by decide +kernel
theorem dX12_next_181 : decode cX12_next 181 = .ok (.iadd, 1) := by decide +kernel
theorem dX12_next_182 : decode cX12_next 182 = .ok (.putfield 245, 3) := by decide +kernel
theorem dX12_next_185 : decode cX12_next 185 = .ok (.goto (-76), 3) := by decide +kernel
theorem dX12_next_188 : decode cX12_next 188 = .ok (.aload_n 0, 1) := by decide +kernel
theorem dX12_next_189 : decode cX12_next 189 = .ok (.aload_n 0, 1) := by decide +kernel
theorem dX12_next_190 : decode cX12_next 190 = .ok (.getfield 245, 3) := by decide +kernel
theorem dX12_next_193 : decode cX12_next 193 = .ok (.aload_n 0, 1) := by decide +kernel
theorem dX12_next_194 : decode cX12_next 194 = .ok (.getfield 248, 3) := by decide +kernel
theorem dX12_next_197 : decode cX12_next 197 = .ok (.isub, 1) := by decide +kernel
theorem dX12_next_198 : decode cX12_next 198 = .ok (.bipush 8, 2) := by decide +kernel
theorem dX12_next_200 : decode cX12_next 200 = .ok (.if_icmp .le 7, 3) := by decide +kernel
theorem dX12_next_203 : decode cX12_next 203 = .ok (.iconst 4, 1) := by decide +kernel
theorem dX12_next_204 : decode cX12_next 204 = .ok (.goto 4, 3) := by decide +kernel
theorem dX12_next_207 : decode cX12_next 207 = .ok (.iconst 1, 1) := by decide +kernel
theorem dX12_next_208 : decode cX12_next 208 = .ok (.putfield 258, 3) := by decide +kernel
theorem dX12_next_211 : decode cX12_next 211 = .ok (.return_, 1) := by decide +kernel
theorem dX12_next_212 : decode cX12_next 212 = .ok (.iload_n 1, 1) := by decide +kernel
theorem dX12_next_213 : decode cX12_next 213 = .ok (.bipush 48, 2) := by decide +kernel
theorem dX12_next_215 : decode cX12_next 215 = .ok (.if_icmp .lt 107, 3) := by decide +kernel
theorem dX12_next_218 : decode cX12_next 218 = .ok (.iload_n 1, 1) := by decide +kernel
theorem dX12_next_219 : decode cX12_next 219 = .ok (.bipush 57, 2) := by decide +kernel
theorem dX12_next_221 : decode cX12_next 221 = .ok (.if_icmp .gt 101, 3) := by decide +kernel
theorem dX12_next_224 : decode cX12_next 224 = .ok (.aload_n 0, 1) := by decide +kernel
theorem dX12_next_225 : decode cX12_next 225 = .ok (.aload_n 0, 1) := by decide +kernel
theorem dX12_next_226 : decode cX12_next 226 = .ok (.getfield 245, 3) := by decide +kernel
theorem dX12_next_229 : decode cX12_next 229 = .ok (.invokevirtual 261, 3) := by decide +kernel
theorem dX12_next_232 : decode cX12_next 232 = .ok (.bipush 48, 2) := by decide +kernel
theorem dX12_next_234 : decode cX12_next 234 = .ok (.if_icmp .lt 65, 3) := by decide +kernel
theorem dX12_next_237 : decode cX12_next 237 = .ok (.aload_n 0, 1) := by decide +kernel
theorem dX12_next_238 : decode cX12_next 238 = .ok (.aload_n 0, 1) := by decide +kernel
theorem dX12_next_239 : decode cX12_next 239 = .ok (.getfield 245, 3) := by decide +kernel
theorem dX12_next_242 : decode cX12_next 242 = .ok (.invokevirtual 261, 3) := by decide +kernel
theorem dX12_next_245 : decode cX12_next 245 = .ok (.bipush 57, 2) := by decide +kernel
theorem dX12_next_247 : decode cX12_next 247 = .ok (.if_icmp .gt 52, 3) := by decide +kernel
theorem dX12_next_250 : decode cX12_next 250 = .ok (.aload_n 0, 1) := by decide +kernel
theorem dX12_next_251 : decode cX12_next 251 = .ok (.getfield 245, 3) := by decide +kernel
theorem dX12_next_254 : decode cX12_next 254 = .ok (.aload_n 0, 1) := by decide +kernel
theorem dX12_next_255 : decode cX12_next 255 = .ok (.getfield 248, 3) := by decide +kernel
theorem dX12_next_258 : decode cX12_next 258 = .ok (.isub, 1) := by decide +kernel
theorem dX12_next_259 : decode cX12_next 259 = .ok (.iconst 4, 1) := by decide +kernel
theorem dX12_next_260 : decode cX12_next 260 = .ok (.if_icmp .ge 26, 3) := by decide +kernel
theorem dX12_next_263 : decode cX12_next 263 = .ok (.aload_n 0, 1) := by decide +kernel
theorem dX12_next_264 : decode cX12_next 264 = .ok (.aload_n 0, 1) := by decide +kernel
theorem dX12_next_265 : decode cX12_next 265 = .ok (.getfield 255, 3) := by decide +kernel
theorem dX12_next_268 : decode cX12_next 268 = .ok (.bipush 10, 2) := by decide +kernel
theorem dX12_next_270 : decode cX12_next 270 = .ok (.imul, 1) := by decide +kernel
theorem dX12_next_271 : decode cX12_next 271 = .ok (.aload_n 0, 1) := by decide +kernel
theorem dX12_next_272 : decode cX12_next 272 = .ok (.aload_n 0, 1) := by decide +kernel
theorem dX12_next_273 : decode cX12_next 273 = .ok (.getfield 245, 3) := by decide +kernel
theorem dX12_next_276 : decode cX12_next 276 = .ok (.invokevirtual 261, 3) := by decide +kernel
theorem dX12_next_279 : decode cX12_next 279 = .ok (.iadd, 1) := by decide +kernel
theorem dX12_next_280 : decode cX12_next 280 = .ok (.bipush 48, 2) := by decide +kernel
theorem dX12_next_282 : decode cX12_next 282 = .ok (.isub, 1) := by decide +kernel
theorem dX12_next_283 : decode cX12_next 283 = .ok (.putfield 255, 3) := by decide +kernel
theorem dX12_next_286 : decode cX12_next 286 = .ok (.aload_n 0, 1) := by decide +kernel
theorem dX12_next_287 : decode cX12_next 287 = .ok (.dup, 1) := by decide +kernel
theorem dX12_next_288 : decode cX12_next 288 = .ok (.getfield 245, 3) := by decide +kernel
theorem dX12_next_291 : decode cX12_next 291 = .ok (.iconst 1, 1) := by decide +kernel
theorem dX12_next_292 : decode cX12_next 292 = .ok (.iadd, 1) := by decide +kernel
theorem dX12_next_293 : decode cX12_next 293 = .ok (.putfield 245, 3) := by decide +kernel
theorem dX12_next_296 : decode cX12_next 296 = .ok (.goto (-72), 3) := by decide +kernel
theorem dX12_next_299 : decode cX12_next 299 = .ok (.aload_n 0, 1) := by decide +kernel
theorem dX12_next_300 : decode cX12_next 300 = .ok (.aload_n 0, 1) := by decide +kernel
theorem dX12_next_301 : decode cX12_next 301 = .ok (.getfield 245, 3) := by decide +kernel
theorem dX12_next_304 : decode cX12_next 304 = .ok (.aload_n 0, 1) := by decide +kernel
theorem dX12_next_305 : decode cX12_next 305 = .ok (.getfield 248, 3) := by decide +kernel
theorem dX12_next_308 : decode cX12_next 308 = .ok (.isub, 1) := by decide +kernel
theorem dX12_next_309 : decode cX12_next 309 = .ok (.iconst 4, 1) := by decide +kernel
theorem dX12_next_310 : decode cX12_next 310 = .ok (.if_icmp .le 7, 3) := by decide +kernel
theorem dX12_next_313 : decode cX12_next 313 = .ok (.iconst 4, 1) := by decide +kernel
theorem dX12_next_314 : decode cX12_next 314 = .ok (.goto 4, 3) := by decide +kernel
theorem dX12_next_317 : decode cX12_next 317 = .ok (.iconst 2, 1) := by decide +kernel
theorem dX12_next_318 : decode cX12_next 318 = .ok (.putfield 258, 3) := by decide +kernel
theorem dX12_next_321 : decode cX12_next 321 = .ok (.return_, 1) := by decide +kernel
theorem dX12_next_322 : decode cX12_next 322 = .ok (.aload_n 0, 1) := by decide +kernel
theorem dX12_next_323 : decode cX12_next 323 = .ok (.dup, 1) := by decide +kernel
theorem dX12_next_324 : decode cX12_next 324 = .ok (.getfield 245, 3) := by decide +kernel
theorem dX12_next_327 : decode cX12_next 327 = .ok (.iconst 1, 1) := by decide +kernel
theorem dX12_next_328 : decode cX12_next 328 = .ok (.iadd, 1) := by decide +kernel
theorem dX12_next_329 : decode cX12_next 329 = .ok (.putfield 245, 3) := by decide +kernel
theorem dX12_next_332 : decode cX12_next 332 = .ok (.aload_n 0, 1) := by decide +kernel
theorem dX12_next_333 : decode cX12_next 333 = .ok (.iload_n 1, 1) := by decide +kernel
theorem dX12_next_334 : decode cX12_next 334 = .ok (.bipush 40, 2) := by decide +kernel
theorem dX12_next_336 : decode cX12_next 336 = .ok (.if_icmp .lt 9, 3) := by decide +kernel
theorem dX12_next_339 : decode cX12_next 339 = .ok (.iload_n 1, 1) := by decide +kernel
theorem dX12_next_340 : decode cX12_next 340 = .ok (.bipush 43, 2) := by decide +kernel
theorem dX12_next_342 : decode cX12_next 342 = .ok (.if_icmp .le 27, 3) := by decide +kernel
theorem dX12_next_345 : decode cX12_next 345 = .ok (.iload_n 1, 1) := by decide +kernel
theorem dX12_next_346 : decode cX12_next 346 = .ok (.bipush 45, 2) := by decide +kernel
theorem dX12_next_348 : decode cX12_next 348 = .ok (.if_icmp .eq 21, 3) := by decide +kernel
theorem dX12_next_351 : decode cX12_next 351 = .ok (.iload_n 1, 1) := by decide +kernel
theorem dX12_next_352 : decode cX12_next 352 = .ok (.bipush 47, 2) := by decide +kernel
theorem dX12_next_354 : decode cX12_next 354 = .ok (.if_icmp .eq 15, 3) := by decide +kernel
theorem dX12_next_357 : decode cX12_next 357 = .ok (.iload_n 1, 1) := by decide +kernel
theorem dX12_next_358 : decode cX12_next 358 = .ok (.bipush 59, 2) := by decide +kernel
theorem dX12_next_360 : decode cX12_next 360 = .ok (.if_icmp .lt 13, 3) := by decide +kernel
theorem dX12_next_363 : decode cX12_next 363 = .ok (.iload_n 1, 1) := by decide +kernel
theorem dX12_next_364 : decode cX12_next 364 = .ok (.bipush 61, 2) := by decide +kernel
theorem dX12_next_366 : decode cX12_next 366 = .ok (.if_icmp .gt 7, 3) := by decide +kernel
theorem dX12_next_369 : decode cX12_next 369 = .ok (.iconst 3, 1) := by decide +kernel
theorem dX12_next_370 : decode cX12_next 370 = .ok (.goto 4, 3) := by decide +kernel
theorem dX12_next_373 : decode cX12_next 373 = .ok (.iconst 4, 1) := by decide +kernel
theorem dX12_next_374 : decode cX12_next 374 = .ok (.putfield 258, 3) := by decide +kernel
theorem dX12_next_377 : decode cX12_next 377 = .ok (.return_, 1) := by decide +kernel
theorem dX12_isWord_0 : decode cX12_isWord 0 = .ok (.aload_n 0, 1) := by decide +kernel
theorem dX12_isWord_1 : decode cX12_isWord 1 = .ok (.getfield 258, 3) := by decide +kernel
theorem dX12_isWord_4 : decode cX12_isWord 4 = .ok (.iconst 1, 1) := by decide +kernel
theorem dX12_isWord_5 : decode cX12_isWord 5 = .ok (.if_icmp .ne 16, 3) := by decide +kernel
theorem dX12_isWord_8 : decode cX12_isWord 8 = .ok (.aload_n 0, 1) := by decide +kernel
theorem dX12_isWord_9 : decode cX12_isWord 9 = .ok (.getfield 251, 3) := by decide +kernel
theorem dX12_isWord_12 : decode cX12_isWord 12 = .ok (.lload_n 1, 1) := by decide +kernel
theorem dX12_isWord_13 : decode cX12_isWord 13 = .ok (.lcmp, 1) := by decide +kernel
theorem dX12_isWord_14 : decode cX12_isWord 14 = .ok (.ifCond .ne 7, 3) := by decide +kernel
theorem dX12_isWord_17 : decode cX12_isWord 17 = .ok (.iconst 1, 1) := by decide +kernel
theorem dX12_isWord_18 : decode cX12_isWord 18 = .ok (.goto 4, 3) := by decide +kernel
theorem dX12_isWord_21 : decode cX12_isWord 21 = .ok (.iconst 0, 1) := by decide +kernel
theorem dX12_isWord_22 : decode cX12_isWord 22 = .ok (.ireturn, 1) := by decide +kernel
theorem dX12_isSign_0 : decode cX12_isSign 0 = .ok (.aload_n 0, 1) := by decide +kernel
theorem dX12_isSign_1 : decode cX12_isSign 1 = .ok (.getfield 258, 3) := by decide +kernel
theorem dX12_isSign_4 : decode cX12_isSign 4 = .ok (.iconst 3, 1) := by decide +kernel
theorem dX12_isSign_5 : decode cX12_isSign 5 = .ok (.if_icmp .ne 20, 3) := by decide +kernel
theorem dX12_isSign_8 : decode cX12_isSign 8 = .ok (.aload_n 0, 1) := by decide +kernel
theorem dX12_isSign_9 : decode cX12_isSign 9 = .ok (.getfield 119, 3) := by decide +kernel
theorem dX12_isSign_12 : decode cX12_isSign 12 = .ok (.aload_n 0, 1) := by decide +kernel
theorem dX12_isSign_13 : decode cX12_isSign 13 = .ok (.getfield 248, 3) := by decide +kernel
theorem dX12_isSign_16 : decode cX12_isSign 16 = .ok (.iaload, 1) := by decide +kernel
theorem dX12_isSign_17 : decode cX12_isSign 17 = .ok (.iload_n 1, 1) := by decide +kernel
theorem dX12_isSign_18 : decode cX12_isSign 18 = .ok (.if_icmp .ne 7, 3) := by decide +kernel
theorem dX12_isSign_21 : decode cX12_isSign 21 = .ok (.iconst 1, 1) := by decide +kernel
theorem dX12_isSign_22 : decode cX12_isSign 22 = .ok (.goto 4, 3) := by decide +kernel
theorem dX12_isSign_25 : decode cX12_isSign 25 = .ok (.iconst 0, 1) := by decide +kernel
theorem dX12_isSign_26 : decode cX12_isSign 26 = .ok (.ireturn, 1) := by decide +kernel
theorem dX12_fails_0 : decode cX12_fails 0 = .ok (.aload_n 0, 1) := by decide +kernel
theorem dX12_fails_1 : decode cX12_fails 1 = .ok (.iload_n 1, 1) := by decide +kernel
theorem dX12_fails_2 : decode cX12_fails 2 = .ok (.bipush 16, 2) := by decide +kernel
theorem dX12_fails_4 : decode cX12_fails 4 = .ok (.aload_n 0, 1) := by decide +kernel
theorem dX12_fails_5 : decode cX12_fails 5 = .ok (.getfield 248, 3) := by decide +kernel
theorem dX12_fails_8 : decode cX12_fails 8 = .ok (.imul, 1) := by decide +kernel
theorem dX12_fails_9 : decode cX12_fails 9 = .ok (.iadd, 1) := by decide +kernel
theorem dX12_fails_10 : decode cX12_fails 10 = .ok (.putfield 269, 3) := by decide +kernel
theorem dX12_fails_13 : decode cX12_fails 13 = .ok (.iconst 0, 1) := by decide +kernel
theorem dX12_fails_14 : decode cX12_fails 14 = .ok (.ireturn, 1) := by decide +kernel
theorem dX12_ends_0 : decode cX12_ends 0 = .ok (.aload_n 0, 1) := by decide +kernel
theorem dX12_ends_1 : decode cX12_ends 1 = .ok (.bipush 59, 2) := by decide +kernel
theorem dX12_ends_3 : decode cX12_ends 3 = .ok (.invokevirtual 272, 3) := by decide +kernel
theorem dX12_ends_6 : decode cX12_ends 6 = .ok (.ifCond .ne 9, 3) := by decide +kernel
theorem dX12_ends_9 : decode cX12_ends 9 = .ok (.aload_n 0, 1) := by decide +kernel
theorem dX12_ends_10 : decode cX12_ends 10 = .ok (.iconst 1, 1) := by decide +kernel
theorem dX12_ends_11 : decode cX12_ends 11 = .ok (.invokevirtual 275, 3) := by decide +kernel
theorem dX12_ends_14 : decode cX12_ends 14 = .ok (.ireturn, 1) := by decide +kernel
theorem dX12_ends_15 : decode cX12_ends 15 = .ok (.aload_n 0, 1) := by decide +kernel
theorem dX12_ends_16 : decode cX12_ends 16 = .ok (.invokevirtual 278, 3) := by decide +kernel
theorem dX12_ends_19 : decode cX12_ends 19 = .ok (.iconst 1, 1) := by decide +kernel
theorem dX12_ends_20 : decode cX12_ends 20 = .ok (.ireturn, 1) := by decide +kernel
theorem dX12_puts_0 : decode cX12_puts 0 = .ok (.aload_n 0, 1) := by decide +kernel
theorem dX12_puts_1 : decode cX12_puts 1 = .ok (.getfield 137, 3) := by decide +kernel
theorem dX12_puts_4 : decode cX12_puts 4 = .ok (.aload_n 0, 1) := by decide +kernel
theorem dX12_puts_5 : decode cX12_puts 5 = .ok (.getfield 281, 3) := by decide +kernel
theorem dX12_puts_8 : decode cX12_puts 8 = .ok (.iload_n 1, 1) := by decide +kernel
theorem dX12_puts_9 : decode cX12_puts 9 = .ok (.iastore, 1) := by decide +kernel
theorem dX12_puts_10 : decode cX12_puts 10 = .ok (.aload_n 0, 1) := by decide +kernel
theorem dX12_puts_11 : decode cX12_puts 11 = .ok (.dup, 1) := by decide +kernel
theorem dX12_puts_12 : decode cX12_puts 12 = .ok (.getfield 281, 3) := by decide +kernel
theorem dX12_puts_15 : decode cX12_puts 15 = .ok (.iconst 1, 1) := by decide +kernel
theorem dX12_puts_16 : decode cX12_puts 16 = .ok (.iadd, 1) := by decide +kernel
theorem dX12_puts_17 : decode cX12_puts 17 = .ok (.putfield 281, 3) := by decide +kernel
theorem dX12_puts_20 : decode cX12_puts 20 = .ok (.return_, 1) := by decide +kernel
theorem dX12_factAtHand_0 : decode cX12_factAtHand 0 = .ok (.aload_n 0, 1) := by decide +kernel
theorem dX12_factAtHand_1 : decode cX12_factAtHand 1 = .ok (.getfield 258, 3) := by decide +kernel
theorem dX12_factAtHand_4 : decode cX12_factAtHand 4 = .ok (.iconst 1, 1) := by decide +kernel
theorem dX12_factAtHand_5 : decode cX12_factAtHand 5 = .ok (.if_icmp .eq 5, 3) := by decide +kernel
theorem dX12_factAtHand_8 : decode cX12_factAtHand 8 = .ok (.iconst 0, 1) := by decide +kernel
theorem dX12_factAtHand_9 : decode cX12_factAtHand 9 = .ok (.ireturn, 1) := by decide +kernel
theorem dX12_factAtHand_10 : decode cX12_factAtHand 10 = .ok (.aload_n 0, 1) := by decide +kernel
theorem dX12_factAtHand_11 : decode cX12_factAtHand 11 = .ok (.getfield 251, 3) := by decide +kernel
theorem dX12_factAtHand_14 : decode cX12_factAtHand 14 = .ok (.ldc2_w 284, 3) := by decide +kernel
theorem dX12_factAtHand_17 : decode cX12_factAtHand 17 = .ok (.lcmp, 1) := by decide +kernel
theorem dX12_factAtHand_18 : decode cX12_factAtHand 18 = .ok (.ifCond .ne 7, 3) := by decide +kernel
theorem dX12_factAtHand_21 : decode cX12_factAtHand 21 = .ok (.iconst 1, 1) := by decide +kernel
theorem dX12_factAtHand_22 : decode cX12_factAtHand 22 = .ok (.goto 208, 3) := by decide +kernel
theorem dX12_factAtHand_25 : decode cX12_factAtHand 25 = .ok (.aload_n 0, 1) := by decide +kernel
theorem dX12_factAtHand_26 : decode cX12_factAtHand 26 = .ok (.getfield 251, 3) := by decide +kernel
theorem dX12_factAtHand_29 : decode cX12_factAtHand 29 = .ok (.ldc2_w 286, 3) := by decide +kernel
theorem dX12_factAtHand_32 : decode cX12_factAtHand 32 = .ok (.lcmp, 1) := by decide +kernel
theorem dX12_factAtHand_33 : decode cX12_factAtHand 33 = .ok (.ifCond .ne 7, 3) := by decide +kernel
theorem dX12_factAtHand_36 : decode cX12_factAtHand 36 = .ok (.iconst 2, 1) := by decide +kernel
theorem dX12_factAtHand_37 : decode cX12_factAtHand 37 = .ok (.goto 193, 3) := by decide +kernel
theorem dX12_factAtHand_40 : decode cX12_factAtHand 40 = .ok (.aload_n 0, 1) := by decide +kernel
theorem dX12_factAtHand_41 : decode cX12_factAtHand 41 = .ok (.getfield 251, 3) := by decide +kernel
theorem dX12_factAtHand_44 : decode cX12_factAtHand 44 = .ok (.ldc2_w 288, 3) := by decide +kernel
theorem dX12_factAtHand_47 : decode cX12_factAtHand 47 = .ok (.lcmp, 1) := by decide +kernel
theorem dX12_factAtHand_48 : decode cX12_factAtHand 48 = .ok (.ifCond .ne 7, 3) := by decide +kernel
theorem dX12_factAtHand_51 : decode cX12_factAtHand 51 = .ok (.iconst 3, 1) := by decide +kernel
theorem dX12_factAtHand_52 : decode cX12_factAtHand 52 = .ok (.goto 178, 3) := by decide +kernel
theorem dX12_factAtHand_55 : decode cX12_factAtHand 55 = .ok (.aload_n 0, 1) := by decide +kernel
theorem dX12_factAtHand_56 : decode cX12_factAtHand 56 = .ok (.getfield 251, 3) := by decide +kernel
theorem dX12_factAtHand_59 : decode cX12_factAtHand 59 = .ok (.ldc2_w 290, 3) := by decide +kernel
theorem dX12_factAtHand_62 : decode cX12_factAtHand 62 = .ok (.lcmp, 1) := by decide +kernel
theorem dX12_factAtHand_63 : decode cX12_factAtHand 63 = .ok (.ifCond .ne 7, 3) := by decide +kernel
theorem dX12_factAtHand_66 : decode cX12_factAtHand 66 = .ok (.iconst 4, 1) := by decide +kernel
theorem dX12_factAtHand_67 : decode cX12_factAtHand 67 = .ok (.goto 163, 3) := by decide +kernel
theorem dX12_factAtHand_70 : decode cX12_factAtHand 70 = .ok (.aload_n 0, 1) := by decide +kernel
theorem dX12_factAtHand_71 : decode cX12_factAtHand 71 = .ok (.getfield 251, 3) := by decide +kernel
theorem dX12_factAtHand_74 : decode cX12_factAtHand 74 = .ok (.ldc2_w 292, 3) := by decide +kernel
theorem dX12_factAtHand_77 : decode cX12_factAtHand 77 = .ok (.lcmp, 1) := by decide +kernel
theorem dX12_factAtHand_78 : decode cX12_factAtHand 78 = .ok (.ifCond .ne 7, 3) := by decide +kernel
theorem dX12_factAtHand_81 : decode cX12_factAtHand 81 = .ok (.iconst 5, 1) := by decide +kernel
theorem dX12_factAtHand_82 : decode cX12_factAtHand 82 = .ok (.goto 148, 3) := by decide +kernel
theorem dX12_factAtHand_85 : decode cX12_factAtHand 85 = .ok (.aload_n 0, 1) := by decide +kernel
theorem dX12_factAtHand_86 : decode cX12_factAtHand 86 = .ok (.getfield 251, 3) := by decide +kernel
theorem dX12_factAtHand_89 : decode cX12_factAtHand 89 = .ok (.ldc2_w 294, 3) := by decide +kernel
theorem dX12_factAtHand_92 : decode cX12_factAtHand 92 = .ok (.lcmp, 1) := by decide +kernel
theorem dX12_factAtHand_93 : decode cX12_factAtHand 93 = .ok (.ifCond .ne 8, 3) := by decide +kernel
theorem dX12_factAtHand_96 : decode cX12_factAtHand 96 = .ok (.bipush 6, 2) := by decide +kernel
theorem dX12_factAtHand_98 : decode cX12_factAtHand 98 = .ok (.goto 132, 3) := by decide +kernel
theorem dX12_factAtHand_101 : decode cX12_factAtHand 101 = .ok (.aload_n 0, 1) := by decide +kernel
theorem dX12_factAtHand_102 : decode cX12_factAtHand 102 = .ok (.getfield 251, 3) := by decide +kernel
theorem dX12_factAtHand_105 : decode cX12_factAtHand 105 = .ok (.ldc2_w 296, 3) := by decide +kernel
theorem dX12_factAtHand_108 : decode cX12_factAtHand 108 = .ok (.lcmp, 1) := by decide +kernel
theorem dX12_factAtHand_109 : decode cX12_factAtHand 109 = .ok (.ifCond .ne 8, 3) := by decide +kernel
theorem dX12_factAtHand_112 : decode cX12_factAtHand 112 = .ok (.bipush 7, 2) := by decide +kernel
theorem dX12_factAtHand_114 : decode cX12_factAtHand 114 = .ok (.goto 116, 3) := by decide +kernel
theorem dX12_factAtHand_117 : decode cX12_factAtHand 117 = .ok (.aload_n 0, 1) := by decide +kernel
theorem dX12_factAtHand_118 : decode cX12_factAtHand 118 = .ok (.getfield 251, 3) := by decide +kernel
theorem dX12_factAtHand_121 : decode cX12_factAtHand 121 = .ok (.ldc2_w 298, 3) := by decide +kernel
theorem dX12_factAtHand_124 : decode cX12_factAtHand 124 = .ok (.lcmp, 1) := by decide +kernel
theorem dX12_factAtHand_125 : decode cX12_factAtHand 125 = .ok (.ifCond .ne 8, 3) := by decide +kernel
theorem dX12_factAtHand_128 : decode cX12_factAtHand 128 = .ok (.bipush 8, 2) := by decide +kernel
theorem dX12_factAtHand_130 : decode cX12_factAtHand 130 = .ok (.goto 100, 3) := by decide +kernel
theorem dX12_factAtHand_133 : decode cX12_factAtHand 133 = .ok (.aload_n 0, 1) := by decide +kernel
theorem dX12_factAtHand_134 : decode cX12_factAtHand 134 = .ok (.getfield 251, 3) := by decide +kernel
theorem dX12_factAtHand_137 : decode cX12_factAtHand 137 = .ok (.ldc2_w 300, 3) := by decide +kernel
theorem dX12_factAtHand_140 : decode cX12_factAtHand 140 = .ok (.lcmp, 1) := by decide +kernel
theorem dX12_factAtHand_141 : decode cX12_factAtHand 141 = .ok (.ifCond .ne 8, 3) := by decide +kernel
theorem dX12_factAtHand_144 : decode cX12_factAtHand 144 = .ok (.bipush 9, 2) := by decide +kernel
theorem dX12_factAtHand_146 : decode cX12_factAtHand 146 = .ok (.goto 84, 3) := by decide +kernel
theorem dX12_factAtHand_149 : decode cX12_factAtHand 149 = .ok (.aload_n 0, 1) := by decide +kernel
theorem dX12_factAtHand_150 : decode cX12_factAtHand 150 = .ok (.getfield 251, 3) := by decide +kernel
theorem dX12_factAtHand_153 : decode cX12_factAtHand 153 = .ok (.ldc2_w 302, 3) := by decide +kernel
theorem dX12_factAtHand_156 : decode cX12_factAtHand 156 = .ok (.lcmp, 1) := by decide +kernel
theorem dX12_factAtHand_157 : decode cX12_factAtHand 157 = .ok (.ifCond .ne 8, 3) := by decide +kernel
theorem dX12_factAtHand_160 : decode cX12_factAtHand 160 = .ok (.bipush 10, 2) := by decide +kernel
theorem dX12_factAtHand_162 : decode cX12_factAtHand 162 = .ok (.goto 68, 3) := by decide +kernel
theorem dX12_factAtHand_165 : decode cX12_factAtHand 165 = .ok (.aload_n 0, 1) := by decide +kernel
theorem dX12_factAtHand_166 : decode cX12_factAtHand 166 = .ok (.getfield 251, 3) := by decide +kernel
theorem dX12_factAtHand_169 : decode cX12_factAtHand 169 = .ok (.ldc2_w 304, 3) := by decide +kernel
theorem dX12_factAtHand_172 : decode cX12_factAtHand 172 = .ok (.lcmp, 1) := by decide +kernel
theorem dX12_factAtHand_173 : decode cX12_factAtHand 173 = .ok (.ifCond .ne 8, 3) := by decide +kernel
theorem dX12_factAtHand_176 : decode cX12_factAtHand 176 = .ok (.bipush 11, 2) := by decide +kernel
theorem dX12_factAtHand_178 : decode cX12_factAtHand 178 = .ok (.goto 52, 3) := by decide +kernel
theorem dX12_factAtHand_181 : decode cX12_factAtHand 181 = .ok (.aload_n 0, 1) := by decide +kernel
theorem dX12_factAtHand_182 : decode cX12_factAtHand 182 = .ok (.getfield 251, 3) := by decide +kernel
theorem dX12_factAtHand_185 : decode cX12_factAtHand 185 = .ok (.ldc2_w 306, 3) := by decide +kernel
theorem dX12_factAtHand_188 : decode cX12_factAtHand 188 = .ok (.lcmp, 1) := by decide +kernel
theorem dX12_factAtHand_189 : decode cX12_factAtHand 189 = .ok (.ifCond .ne 8, 3) := by decide +kernel
theorem dX12_factAtHand_192 : decode cX12_factAtHand 192 = .ok (.bipush 12, 2) := by decide +kernel
theorem dX12_factAtHand_194 : decode cX12_factAtHand 194 = .ok (.goto 36, 3) := by decide +kernel
theorem dX12_factAtHand_197 : decode cX12_factAtHand 197 = .ok (.aload_n 0, 1) := by decide +kernel
theorem dX12_factAtHand_198 : decode cX12_factAtHand 198 = .ok (.getfield 251, 3) := by decide +kernel
theorem dX12_factAtHand_201 : decode cX12_factAtHand 201 = .ok (.ldc2_w 308, 3) := by decide +kernel
theorem dX12_factAtHand_204 : decode cX12_factAtHand 204 = .ok (.lcmp, 1) := by decide +kernel
theorem dX12_factAtHand_205 : decode cX12_factAtHand 205 = .ok (.ifCond .ne 8, 3) := by decide +kernel
theorem dX12_factAtHand_208 : decode cX12_factAtHand 208 = .ok (.bipush 13, 2) := by decide +kernel
theorem dX12_factAtHand_210 : decode cX12_factAtHand 210 = .ok (.goto 20, 3) := by decide +kernel
theorem dX12_factAtHand_213 : decode cX12_factAtHand 213 = .ok (.aload_n 0, 1) := by decide +kernel
theorem dX12_factAtHand_214 : decode cX12_factAtHand 214 = .ok (.getfield 251, 3) := by decide +kernel
theorem dX12_factAtHand_217 : decode cX12_factAtHand 217 = .ok (.ldc2_w 310, 3) := by decide +kernel
theorem dX12_factAtHand_220 : decode cX12_factAtHand 220 = .ok (.lcmp, 1) := by decide +kernel
theorem dX12_factAtHand_221 : decode cX12_factAtHand 221 = .ok (.ifCond .ne 8, 3) := by decide +kernel
theorem dX12_factAtHand_224 : decode cX12_factAtHand 224 = .ok (.bipush 14, 2) := by decide +kernel
theorem dX12_factAtHand_226 : decode cX12_factAtHand 226 = .ok (.goto 4, 3) := by decide +kernel
theorem dX12_factAtHand_229 : decode cX12_factAtHand 229 = .ok (.iconst 0, 1) := by decide +kernel
theorem dX12_factAtHand_230 : decode cX12_factAtHand 230 = .ok (.ireturn, 1) := by decide +kernel
theorem dX12_reads_0 : decode cX12_reads 0 = .ok (.iconst 0, 1) := by decide +kernel
theorem dX12_reads_1 : decode cX12_reads 1 = .ok (.istore_n 2, 1) := by decide +kernel
theorem dX12_reads_2 : decode cX12_reads 2 = .ok (.iconst 1, 1) := by decide +kernel
theorem dX12_reads_3 : decode cX12_reads 3 = .ok (.istore_n 3, 1) := by decide +kernel
theorem dX12_reads_4 : decode cX12_reads 4 = .ok (.aload_n 0, 1) := by decide +kernel
theorem dX12_reads_5 : decode cX12_reads 5 = .ok (.getfield 143, 3) := by decide +kernel
theorem dX12_reads_8 : decode cX12_reads 8 = .ok (.iconst 0, 1) := by decide +kernel
theorem dX12_reads_9 : decode cX12_reads 9 = .ok (.iconst 0, 1) := by decide +kernel
theorem dX12_reads_10 : decode cX12_reads 10 = .ok (.bastore, 1) := by decide +kernel
theorem dX12_reads_11 : decode cX12_reads 11 = .ok (.aload_n 0, 1) := by decide +kernel
theorem dX12_reads_12 : decode cX12_reads 12 = .ok (.getfield 122, 3) := by decide +kernel
theorem dX12_reads_15 : decode cX12_reads 15 = .ok (.sipush 275, 3) := by decide +kernel
theorem dX12_reads_18 : decode cX12_reads 18 = .ok (.iload_n 1, 1) := by decide +kernel
theorem dX12_reads_19 : decode cX12_reads 19 = .ok (.iadd, 1) := by decide +kernel
theorem dX12_reads_20 : decode cX12_reads 20 = .ok (.aload_n 0, 1) := by decide +kernel
theorem dX12_reads_21 : decode cX12_reads 21 = .ok (.getfield 281, 3) := by decide +kernel
theorem dX12_reads_24 : decode cX12_reads 24 = .ok (.iastore, 1) := by decide +kernel
