theorem dX12_isOver_27 : decode cX12_isOver 27 = .ok (.imul, 1) := by decide +kernel
theorem dX12_isOver_28 : decode cX12_isOver 28 = .ok (.bipush 30, 2) := by decide +kernel
theorem dX12_isOver_30 : decode cX12_isOver 30 = .ok (.iadd, 1) := by decide +kernel
theorem dX12_isOver_31 : decode cX12_isOver 31 = .ok (.if_icmp .lt 7, 3) := by decide +kernel
theorem dX12_isOver_34 : decode cX12_isOver 34 = .ok (.iconst 1, 1) := by decide +kernel
theorem dX12_isOver_35 : decode cX12_isOver 35 = .ok (.goto 4, 3) := by decide +kernel
theorem dX12_isOver_38 : decode cX12_isOver 38 = .ok (.iconst 0, 1) := by decide +kernel
theorem dX12_isOver_39 : decode cX12_isOver 39 = .ok (.ireturn, 1) := by decide +kernel
theorem dX12_report_0 : decode cX12_report 0 = .ok (.aload_n 0, 1) := by decide +kernel
theorem dX12_report_1 : decode cX12_report 1 = .ok (.iconst 0, 1) := by decide +kernel
theorem dX12_report_2 : decode cX12_report 2 = .ok (.putfield 206, 3) := by decide +kernel
theorem dX12_report_5 : decode cX12_report 5 = .ok (.aload_n 0, 1) := by decide +kernel
theorem dX12_report_6 : decode cX12_report 6 = .ok (.iload_n 1, 1) := by decide +kernel
theorem dX12_report_7 : decode cX12_report 7 = .ok (.iload_n 2, 1) := by decide +kernel
theorem dX12_report_8 : decode cX12_report 8 = .ok (.invokevirtual 430, 3) := by decide +kernel
theorem dX12_report_11 : decode cX12_report 11 = .ok (.ifCond .eq 34, 3) := by decide +kernel
theorem dX12_report_14 : decode cX12_report 14 = .ok (.iload_n 3, 1) := by decide +kernel
theorem dX12_report_15 : decode cX12_report 15 = .ok (.iconst 0, 1) := by decide +kernel
theorem dX12_report_16 : decode cX12_report 16 = .ok (.iconst 2, 1) := by decide +kernel
theorem dX12_report_17 : decode cX12_report 17 = .ok (.invokestatic 213, 3) := by decide +kernel
theorem dX12_report_20 : decode cX12_report 20 = .ok (.ifCond .eq 25, 3) := by decide +kernel
theorem dX12_report_23 : decode cX12_report 23 = .ok (.iload 4, 2) := by decide +kernel
theorem dX12_report_25 : decode cX12_report 25 = .ok (.iconst 0, 1) := by decide +kernel
theorem dX12_report_26 : decode cX12_report 26 = .ok (.sipush 9999, 3) := by decide +kernel
theorem dX12_report_29 : decode cX12_report 29 = .ok (.invokestatic 213, 3) := by decide +kernel
theorem dX12_report_32 : decode cX12_report 32 = .ok (.ifCond .eq 13, 3) := by decide +kernel
theorem dX12_report_35 : decode cX12_report 35 = .ok (.aload_n 0, 1) := by decide +kernel
theorem dX12_report_36 : decode cX12_report 36 = .ok (.getfield 433, 3) := by decide +kernel
theorem dX12_report_39 : decode cX12_report 39 = .ok (.sipush 200, 3) := by decide +kernel
theorem dX12_report_42 : decode cX12_report 42 = .ok (.if_icmp .ne 5, 3) := by decide +kernel
theorem dX12_report_45 : decode cX12_report 45 = .ok (.iconst (-1), 1) := by decide +kernel
theorem dX12_report_46 : decode cX12_report 46 = .ok (.ireturn, 1) := by decide +kernel
theorem dX12_report_47 : decode cX12_report 47 = .ok (.aload_n 0, 1) := by decide +kernel
theorem dX12_report_48 : decode cX12_report 48 = .ok (.getfield 179, 3) := by decide +kernel
theorem dX12_report_51 : decode cX12_report 51 = .ok (.aload_n 0, 1) := by decide +kernel
theorem dX12_report_52 : decode cX12_report 52 = .ok (.getfield 433, 3) := by decide +kernel
theorem dX12_report_55 : decode cX12_report 55 = .ok (.iload_n 1, 1) := by decide +kernel
theorem dX12_report_56 : decode cX12_report 56 = .ok (.iastore, 1) := by decide +kernel
theorem dX12_report_57 : decode cX12_report 57 = .ok (.aload_n 0, 1) := by decide +kernel
theorem dX12_report_58 : decode cX12_report 58 = .ok (.getfield 182, 3) := by decide +kernel
theorem dX12_report_61 : decode cX12_report 61 = .ok (.aload_n 0, 1) := by decide +kernel
theorem dX12_report_62 : decode cX12_report 62 = .ok (.getfield 433, 3) := by decide +kernel
theorem dX12_report_65 : decode cX12_report 65 = .ok (.iload_n 2, 1) := by decide +kernel
theorem dX12_report_66 : decode cX12_report 66 = .ok (.iastore, 1) := by decide +kernel
theorem dX12_report_67 : decode cX12_report 67 = .ok (.aload_n 0, 1) := by decide +kernel
theorem dX12_report_68 : decode cX12_report 68 = .ok (.getfield 185, 3) := by decide +kernel
theorem dX12_report_71 : decode cX12_report 71 = .ok (.aload_n 0, 1) := by decide +kernel
theorem dX12_report_72 : decode cX12_report 72 = .ok (.getfield 433, 3) := by decide +kernel
theorem dX12_report_75 : decode cX12_report 75 = .ok (.iload_n 3, 1) := by decide +kernel
theorem dX12_report_76 : decode cX12_report 76 = .ok (.ifCond .ne 11, 3) := by decide +kernel
theorem dX12_report_79 : decode cX12_report 79 = .ok (.bipush 7, 2) := by decide +kernel
theorem dX12_report_81 : decode cX12_report 81 = .ok (.iload 4, 2) := by decide +kernel
theorem dX12_report_83 : decode cX12_report 83 = .ok (.imul, 1) := by decide +kernel
theorem dX12_report_84 : decode cX12_report 84 = .ok (.goto 23, 3) := by decide +kernel
theorem dX12_report_87 : decode cX12_report 87 = .ok (.iload_n 3, 1) := by decide +kernel
theorem dX12_report_88 : decode cX12_report 88 = .ok (.iconst 1, 1) := by decide +kernel
theorem dX12_report_89 : decode cX12_report 89 = .ok (.if_icmp .ne 14, 3) := by decide +kernel
theorem dX12_report_92 : decode cX12_report 92 = .ok (.iload 4, 2) := by decide +kernel
theorem dX12_report_94 : decode cX12_report 94 = .ok (.iload 4, 2) := by decide +kernel
theorem dX12_report_96 : decode cX12_report 96 = .ok (.bipush 50, 2) := by decide +kernel
theorem dX12_report_98 : decode cX12_report 98 = .ok (.idiv, 1) := by decide +kernel
theorem dX12_report_99 : decode cX12_report 99 = .ok (.isub, 1) := by decide +kernel
theorem dX12_report_100 : decode cX12_report 100 = .ok (.goto 7, 3) := by decide +kernel
theorem dX12_report_103 : decode cX12_report 103 = .ok (.iload 4, 2) := by decide +kernel
theorem dX12_report_105 : decode cX12_report 105 = .ok (.iconst 4, 1) := by decide +kernel
theorem dX12_report_106 : decode cX12_report 106 = .ok (.idiv, 1) := by decide +kernel
theorem dX12_report_107 : decode cX12_report 107 = .ok (.iastore, 1) := by decide +kernel
theorem dX12_report_108 : decode cX12_report 108 = .ok (.aload_n 0, 1) := by decide +kernel
theorem dX12_report_109 : decode cX12_report 109 = .ok (.getfield 188, 3) := by decide +kernel
theorem dX12_report_112 : decode cX12_report 112 = .ok (.aload_n 0, 1) := by decide +kernel
theorem dX12_report_113 : decode cX12_report 113 = .ok (.getfield 433, 3) := by decide +kernel
theorem dX12_report_116 : decode cX12_report 116 = .ok (.iload_n 3, 1) := by decide +kernel
theorem dX12_report_117 : decode cX12_report 117 = .ok (.ifCond .ne 11, 3) := by decide +kernel
theorem dX12_report_120 : decode cX12_report 120 = .ok (.bipush 9, 2) := by decide +kernel
theorem dX12_report_122 : decode cX12_report 122 = .ok (.iload 4, 2) := by decide +kernel
theorem dX12_report_124 : decode cX12_report 124 = .ok (.imul, 1) := by decide +kernel
theorem dX12_report_125 : decode cX12_report 125 = .ok (.goto 25, 3) := by decide +kernel
theorem dX12_report_128 : decode cX12_report 128 = .ok (.iload_n 3, 1) := by decide +kernel
theorem dX12_report_129 : decode cX12_report 129 = .ok (.iconst 1, 1) := by decide +kernel
theorem dX12_report_130 : decode cX12_report 130 = .ok (.if_icmp .ne 14, 3) := by decide +kernel
theorem dX12_report_133 : decode cX12_report 133 = .ok (.iload 4, 2) := by decide +kernel
theorem dX12_report_135 : decode cX12_report 135 = .ok (.iload 4, 2) := by decide +kernel
theorem dX12_report_137 : decode cX12_report 137 = .ok (.bipush 50, 2) := by decide +kernel
theorem dX12_report_139 : decode cX12_report 139 = .ok (.idiv, 1) := by decide +kernel
theorem dX12_report_140 : decode cX12_report 140 = .ok (.iadd, 1) := by decide +kernel
theorem dX12_report_141 : decode cX12_report 141 = .ok (.goto 9, 3) := by decide +kernel
theorem dX12_report_144 : decode cX12_report 144 = .ok (.iload 4, 2) := by decide +kernel
theorem dX12_report_146 : decode cX12_report 146 = .ok (.iconst 2, 1) := by decide +kernel
theorem dX12_report_147 : decode cX12_report 147 = .ok (.iadd, 1) := by decide +kernel
theorem dX12_report_148 : decode cX12_report 148 = .ok (.iconst 3, 1) := by decide +kernel
theorem dX12_report_149 : decode cX12_report 149 = .ok (.idiv, 1) := by decide +kernel
theorem dX12_report_150 : decode cX12_report 150 = .ok (.iastore, 1) := by decide +kernel
theorem dX12_report_151 : decode cX12_report 151 = .ok (.aload_n 0, 1) := by decide +kernel
theorem dX12_report_152 : decode cX12_report 152 = .ok (.getfield 191, 3) := by decide +kernel
theorem dX12_report_155 : decode cX12_report 155 = .ok (.aload_n 0, 1) := by decide +kernel
theorem dX12_report_156 : decode cX12_report 156 = .ok (.getfield 433, 3) := by decide +kernel
theorem dX12_report_159 : decode cX12_report 159 = .ok (.aload_n 0, 1) := by decide +kernel
theorem dX12_report_160 : decode cX12_report 160 = .ok (.getfield 7, 3) := by decide +kernel
theorem dX12_report_163 : decode cX12_report 163 = .ok (.iconst 0, 1) := by decide +kernel
theorem dX12_report_164 : decode cX12_report 164 = .ok (.iaload, 1) := by decide +kernel
theorem dX12_report_165 : decode cX12_report 165 = .ok (.iastore, 1) := by decide +kernel
theorem dX12_report_166 : decode cX12_report 166 = .ok (.aload_n 0, 1) := by decide +kernel
theorem dX12_report_167 : decode cX12_report 167 = .ok (.dup, 1) := by decide +kernel
theorem dX12_report_168 : decode cX12_report 168 = .ok (.getfield 433, 3) := by decide +kernel
theorem dX12_report_171 : decode cX12_report 171 = .ok (.iconst 1, 1) := by decide +kernel
theorem dX12_report_172 : decode cX12_report 172 = .ok (.iadd, 1) := by decide +kernel
theorem dX12_report_173 : decode cX12_report 173 = .ok (.putfield 433, 3) := by decide +kernel
theorem dX12_report_176 : decode cX12_report 176 = .ok (.aload_n 0, 1) := by decide +kernel
theorem dX12_report_177 : decode cX12_report 177 = .ok (.getfield 433, 3) := by decide +kernel
theorem dX12_report_180 : decode cX12_report 180 = .ok (.iconst 1, 1) := by decide +kernel
theorem dX12_report_181 : decode cX12_report 181 = .ok (.isub, 1) := by decide +kernel
theorem dX12_report_182 : decode cX12_report 182 = .ok (.ireturn, 1) := by decide +kernel
theorem dX12_knownLow_0 : decode cX12_knownLow 0 = .ok (.iconst 0, 1) := by decide +kernel
theorem dX12_knownLow_1 : decode cX12_knownLow 1 = .ok (.istore 4, 2) := by decide +kernel
theorem dX12_knownLow_3 : decode cX12_knownLow 3 = .ok (.iconst 0, 1) := by decide +kernel
theorem dX12_knownLow_4 : decode cX12_knownLow 4 = .ok (.istore 5, 2) := by decide +kernel
theorem dX12_knownLow_6 : decode cX12_knownLow 6 = .ok (.iload 5, 2) := by decide +kernel
theorem dX12_knownLow_8 : decode cX12_knownLow 8 = .ok (.aload_n 0, 1) := by decide +kernel
theorem dX12_knownLow_9 : decode cX12_knownLow 9 = .ok (.getfield 433, 3) := by decide +kernel
theorem dX12_knownLow_12 : decode cX12_knownLow 12 = .ok (.if_icmp .ge 63, 3) := by decide +kernel
theorem dX12_knownLow_15 : decode cX12_knownLow 15 = .ok (.aload_n 0, 1) := by decide +kernel
theorem dX12_knownLow_16 : decode cX12_knownLow 16 = .ok (.getfield 179, 3) := by decide +kernel
theorem dX12_knownLow_19 : decode cX12_knownLow 19 = .ok (.iload 5, 2) := by decide +kernel
theorem dX12_knownLow_21 : decode cX12_knownLow 21 = .ok (.iaload, 1) := by decide +kernel
theorem dX12_knownLow_22 : decode cX12_knownLow 22 = .ok (.iload_n 1, 1) := by decide +kernel
theorem dX12_knownLow_23 : decode cX12_knownLow 23 = .ok (.if_icmp .ne 46, 3) := by decide +kernel
theorem dX12_knownLow_26 : decode cX12_knownLow 26 = .ok (.aload_n 0, 1) := by decide +kernel
theorem dX12_knownLow_27 : decode cX12_knownLow 27 = .ok (.getfield 182, 3) := by decide +kernel
theorem dX12_knownLow_30 : decode cX12_knownLow 30 = .ok (.iload 5, 2) := by decide +kernel
theorem dX12_knownLow_32 : decode cX12_knownLow 32 = .ok (.iaload, 1) := by decide +kernel
theorem dX12_knownLow_33 : decode cX12_knownLow 33 = .ok (.iload_n 2, 1) := by decide +kernel
theorem dX12_knownLow_34 : decode cX12_knownLow 34 = .ok (.if_icmp .ne 35, 3) := by decide +kernel
theorem dX12_knownLow_37 : decode cX12_knownLow 37 = .ok (.aload_n 0, 1) := by decide +kernel
theorem dX12_knownLow_38 : decode cX12_knownLow 38 = .ok (.getfield 191, 3) := by decide +kernel
theorem dX12_knownLow_41 : decode cX12_knownLow 41 = .ok (.iload 5, 2) := by decide +kernel
theorem dX12_knownLow_43 : decode cX12_knownLow 43 = .ok (.iaload, 1) := by decide +kernel
theorem dX12_knownLow_44 : decode cX12_knownLow 44 = .ok (.iload_n 3, 1) := by decide +kernel
theorem dX12_knownLow_45 : decode cX12_knownLow 45 = .ok (.if_icmp .gt 24, 3) := by decide +kernel
theorem dX12_knownLow_48 : decode cX12_knownLow 48 = .ok (.aload_n 0, 1) := by decide +kernel
theorem dX12_knownLow_49 : decode cX12_knownLow 49 = .ok (.getfield 185, 3) := by decide +kernel
theorem dX12_knownLow_52 : decode cX12_knownLow 52 = .ok (.iload 5, 2) := by decide +kernel
theorem dX12_knownLow_54 : decode cX12_knownLow 54 = .ok (.iaload, 1) := by decide +kernel
theorem dX12_knownLow_55 : decode cX12_knownLow 55 = .ok (.iload 4, 2) := by decide +kernel
theorem dX12_knownLow_57 : decode cX12_knownLow 57 = .ok (.if_icmp .le 12, 3) := by decide +kernel
theorem dX12_knownLow_60 : decode cX12_knownLow 60 = .ok (.aload_n 0, 1) := by decide +kernel
theorem dX12_knownLow_61 : decode cX12_knownLow 61 = .ok (.getfield 185, 3) := by decide +kernel
theorem dX12_knownLow_64 : decode cX12_knownLow 64 = .ok (.iload 5, 2) := by decide +kernel
theorem dX12_knownLow_66 : decode cX12_knownLow 66 = .ok (.iaload, 1) := by decide +kernel
theorem dX12_knownLow_67 : decode cX12_knownLow 67 = .ok (.istore 4, 2) := by decide +kernel
theorem dX12_knownLow_69 : decode cX12_knownLow 69 = .ok (.iinc 5 1, 3) := by decide +kernel
theorem dX12_knownLow_72 : decode cX12_knownLow 72 = .ok (.goto (-66), 3) := by decide +kernel
theorem dX12_knownLow_75 : decode cX12_knownLow 75 = .ok (.iload 4, 2) := by decide +kernel
theorem dX12_knownLow_77 : decode cX12_knownLow 77 = .ok (.ireturn, 1) := by decide +kernel
theorem dX12_knownHigh_0 : decode cX12_knownHigh 0 = .ok (.iconst (-1), 1) := by decide +kernel
theorem dX12_knownHigh_1 : decode cX12_knownHigh 1 = .ok (.istore 4, 2) := by decide +kernel
theorem dX12_knownHigh_3 : decode cX12_knownHigh 3 = .ok (.iconst 0, 1) := by decide +kernel
theorem dX12_knownHigh_4 : decode cX12_knownHigh 4 = .ok (.istore 5, 2) := by decide +kernel
theorem dX12_knownHigh_6 : decode cX12_knownHigh 6 = .ok (.iload 5, 2) := by decide +kernel
theorem dX12_knownHigh_8 : decode cX12_knownHigh 8 = .ok (.aload_n 0, 1) := by decide +kernel
theorem dX12_knownHigh_9 : decode cX12_knownHigh 9 = .ok (.getfield 433, 3) := by decide +kernel
theorem dX12_knownHigh_12 : decode cX12_knownHigh 12 = .ok (.if_icmp .ge 68, 3) := by decide +kernel
theorem dX12_knownHigh_15 : decode cX12_knownHigh 15 = .ok (.aload_n 0, 1) := by decide +kernel
theorem dX12_knownHigh_16 : decode cX12_knownHigh 16 = .ok (.getfield 179, 3) := by decide +kernel
theorem dX12_knownHigh_19 : decode cX12_knownHigh 19 = .ok (.iload 5, 2) := by decide +kernel
theorem dX12_knownHigh_21 : decode cX12_knownHigh 21 = .ok (.iaload, 1) := by decide +kernel
theorem dX12_knownHigh_22 : decode cX12_knownHigh 22 = .ok (.iload_n 1, 1) := by decide +kernel
theorem dX12_knownHigh_23 : decode cX12_knownHigh 23 = .ok (.if_icmp .ne 51, 3) := by decide +kernel
theorem dX12_knownHigh_26 : decode cX12_knownHigh 26 = .ok (.aload_n 0, 1) := by decide +kernel
theorem dX12_knownHigh_27 : decode cX12_knownHigh 27 = .ok (.getfield 182, 3) := by decide +kernel
theorem dX12_knownHigh_30 : decode cX12_knownHigh 30 = .ok (.iload 5, 2) := by decide +kernel
theorem dX12_knownHigh_32 : decode cX12_knownHigh 32 = .ok (.iaload, 1) := by decide +kernel
theorem dX12_knownHigh_33 : decode cX12_knownHigh 33 = .ok (.iload_n 2, 1) := by decide +kernel
theorem dX12_knownHigh_34 : decode cX12_knownHigh 34 = .ok (.if_icmp .ne 40, 3) := by decide +kernel
theorem dX12_knownHigh_37 : decode cX12_knownHigh 37 = .ok (.aload_n 0, 1) := by decide +kernel
theorem dX12_knownHigh_38 : decode cX12_knownHigh 38 = .ok (.getfield 191, 3) := by decide +kernel
theorem dX12_knownHigh_41 : decode cX12_knownHigh 41 = .ok (.iload 5, 2) := by decide +kernel
theorem dX12_knownHigh_43 : decode cX12_knownHigh 43 = .ok (.iaload, 1) := by decide +kernel
theorem dX12_knownHigh_44 : decode cX12_knownHigh 44 = .ok (.iload_n 3, 1) := by decide +kernel
theorem dX12_knownHigh_45 : decode cX12_knownHigh 45 = .ok (.if_icmp .gt 29, 3) := by decide +kernel
theorem dX12_knownHigh_48 : decode cX12_knownHigh 48 = .ok (.iload 4, 2) := by decide +kernel
theorem dX12_knownHigh_50 : decode cX12_knownHigh 50 = .ok (.ifCond .lt 15, 3) := by decide +kernel
theorem dX12_knownHigh_53 : decode cX12_knownHigh 53 = .ok (.aload_n 0, 1) := by decide +kernel
theorem dX12_knownHigh_54 : decode cX12_knownHigh 54 = .ok (.getfield 188, 3) := by decide +kernel
theorem dX12_knownHigh_57 : decode cX12_knownHigh 57 = .ok (.iload 5, 2) := by decide +kernel
theorem dX12_knownHigh_59 : decode cX12_knownHigh 59 = .ok (.iaload, 1) := by decide +kernel
theorem dX12_knownHigh_60 : decode cX12_knownHigh 60 = .ok (.iload 4, 2) := by decide +kernel
theorem dX12_knownHigh_62 : decode cX12_knownHigh 62 = .ok (.if_icmp .ge 12, 3) := by decide +kernel
theorem dX12_knownHigh_65 : decode cX12_knownHigh 65 = .ok (.aload_n 0, 1) := by decide +kernel
theorem dX12_knownHigh_66 : decode cX12_knownHigh 66 = .ok (.getfield 188, 3) := by decide +kernel
theorem dX12_knownHigh_69 : decode cX12_knownHigh 69 = .ok (.iload 5, 2) := by decide +kernel
theorem dX12_knownHigh_71 : decode cX12_knownHigh 71 = .ok (.iaload, 1) := by decide +kernel
theorem dX12_knownHigh_72 : decode cX12_knownHigh 72 = .ok (.istore 4, 2) := by decide +kernel
theorem dX12_knownHigh_74 : decode cX12_knownHigh 74 = .ok (.iinc 5 1, 3) := by decide +kernel
theorem dX12_knownHigh_77 : decode cX12_knownHigh 77 = .ok (.goto (-71), 3) := by decide +kernel
theorem dX12_knownHigh_80 : decode cX12_knownHigh 80 = .ok (.iload 4, 2) := by decide +kernel
theorem dX12_knownHigh_82 : decode cX12_knownHigh 82 = .ok (.ifCond .ge 9, 3) := by decide +kernel
theorem dX12_knownHigh_85 : decode cX12_knownHigh 85 = .ok (.sipush 9999, 3) := by decide +kernel
theorem dX12_knownHigh_88 : decode cX12_knownHigh 88 = .ok (.goto 5, 3) := by decide +kernel
theorem dX12_knownHigh_91 : decode cX12_knownHigh 91 = .ok (.iload 4, 2) := by decide +kernel
theorem dX12_knownHigh_93 : decode cX12_knownHigh 93 = .ok (.ireturn, 1) := by decide +kernel
theorem dX12_known_0 : decode cX12_known 0 = .ok (.aload_n 0, 1) := by decide +kernel
theorem dX12_known_1 : decode cX12_known 1 = .ok (.iconst 0, 1) := by decide +kernel
theorem dX12_known_2 : decode cX12_known 2 = .ok (.putfield 206, 3) := by decide +kernel
theorem dX12_known_5 : decode cX12_known 5 = .ok (.aload_n 0, 1) := by decide +kernel
theorem dX12_known_6 : decode cX12_known 6 = .ok (.iload_n 1, 1) := by decide +kernel
theorem dX12_known_7 : decode cX12_known 7 = .ok (.iload_n 2, 1) := by decide +kernel
theorem dX12_known_8 : decode cX12_known 8 = .ok (.invokevirtual 430, 3) := by decide +kernel
theorem dX12_known_11 : decode cX12_known 11 = .ok (.ifCond .eq 27, 3) := by decide +kernel
theorem dX12_known_14 : decode cX12_known 14 = .ok (.iload_n 3, 1) := by decide +kernel
theorem dX12_known_15 : decode cX12_known 15 = .ok (.iconst 0, 1) := by decide +kernel
theorem dX12_known_16 : decode cX12_known 16 = .ok (.aload_n 0, 1) := by decide +kernel
theorem dX12_known_17 : decode cX12_known 17 = .ok (.getfield 7, 3) := by decide +kernel
theorem dX12_known_20 : decode cX12_known 20 = .ok (.iconst 0, 1) := by decide +kernel
theorem dX12_known_21 : decode cX12_known 21 = .ok (.iaload, 1) := by decide +kernel
theorem dX12_known_22 : decode cX12_known 22 = .ok (.invokestatic 213, 3) := by decide +kernel
theorem dX12_known_25 : decode cX12_known 25 = .ok (.ifCond .eq 13, 3) := by decide +kernel
theorem dX12_known_28 : decode cX12_known 28 = .ok (.iload 4, 2) := by decide +kernel
theorem dX12_known_30 : decode cX12_known 30 = .ok (.iconst 0, 1) := by decide +kernel
theorem dX12_known_31 : decode cX12_known 31 = .ok (.iconst 2, 1) := by decide +kernel
theorem dX12_known_32 : decode cX12_known 32 = .ok (.invokestatic 213, 3) := by decide +kernel
theorem dX12_known_35 : decode cX12_known 35 = .ok (.ifCond .ne 5, 3) := by decide +kernel
theorem dX12_known_38 : decode cX12_known 38 = .ok (.iconst (-1), 1) := by decide +kernel
theorem dX12_known_39 : decode cX12_known 39 = .ok (.ireturn, 1) := by decide +kernel
theorem dX12_known_40 : decode cX12_known 40 = .ok (.aload_n 0, 1) := by decide +kernel
theorem dX12_known_41 : decode cX12_known 41 = .ok (.iload_n 1, 1) := by decide +kernel
theorem dX12_known_42 : decode cX12_known 42 = .ok (.iload_n 2, 1) := by decide +kernel
theorem dX12_known_43 : decode cX12_known 43 = .ok (.iload_n 3, 1) := by decide +kernel
theorem dX12_known_44 : decode cX12_known 44 = .ok (.invokevirtual 436, 3) := by decide +kernel
theorem dX12_known_47 : decode cX12_known 47 = .ok (.istore 5, 2) := by decide +kernel
theorem dX12_known_49 : decode cX12_known 49 = .ok (.aload_n 0, 1) := by decide +kernel
theorem dX12_known_50 : decode cX12_known 50 = .ok (.iload_n 1, 1) := by decide +kernel
theorem dX12_known_51 : decode cX12_known 51 = .ok (.iload_n 2, 1) := by decide +kernel
theorem dX12_known_52 : decode cX12_known 52 = .ok (.iload_n 3, 1) := by decide +kernel
theorem dX12_known_53 : decode cX12_known 53 = .ok (.invokevirtual 439, 3) := by decide +kernel
theorem dX12_known_56 : decode cX12_known 56 = .ok (.istore 6, 2) := by decide +kernel
theorem dX12_known_58 : decode cX12_known 58 = .ok (.iload 4, 2) := by decide +kernel
theorem dX12_known_60 : decode cX12_known 60 = .ok (.ifCond .ne 8, 3) := by decide +kernel
theorem dX12_known_63 : decode cX12_known 63 = .ok (.iload 5, 2) := by decide +kernel
theorem dX12_known_65 : decode cX12_known 65 = .ok (.goto 26, 3) := by decide +kernel
theorem dX12_known_68 : decode cX12_known 68 = .ok (.iload 4, 2) := by decide +kernel
theorem dX12_known_70 : decode cX12_known 70 = .ok (.iconst 1, 1) := by decide +kernel
theorem dX12_known_71 : decode cX12_known 71 = .ok (.if_icmp .ne 8, 3) := by decide +kernel
theorem dX12_known_74 : decode cX12_known 74 = .ok (.iload 6, 2) := by decide +kernel
theorem dX12_known_76 : decode cX12_known 76 = .ok (.goto 15, 3) := by decide +kernel
theorem dX12_known_79 : decode cX12_known 79 = .ok (.iload 5, 2) := by decide +kernel
theorem dX12_known_81 : decode cX12_known 81 = .ok (.iload 6, 2) := by decide +kernel
theorem dX12_known_83 : decode cX12_known 83 = .ok (.if_icmp .le 7, 3) := by decide +kernel
theorem dX12_known_86 : decode cX12_known 86 = .ok (.iconst 1, 1) := by decide +kernel
theorem dX12_known_87 : decode cX12_known 87 = .ok (.goto 4, 3) := by decide +kernel
theorem dX12_known_90 : decode cX12_known 90 = .ok (.iconst 0, 1) := by decide +kernel
theorem dX12_known_91 : decode cX12_known 91 = .ok (.ireturn, 1) := by decide +kernel
theorem dX12_provedOn_0 : decode cX12_provedOn 0 = .ok (.aload_n 0, 1) := by decide +kernel
theorem dX12_provedOn_1 : decode cX12_provedOn 1 = .ok (.iload_n 1, 1) := by decide +kernel
theorem dX12_provedOn_2 : decode cX12_provedOn 2 = .ok (.iload_n 2, 1) := by decide +kernel
theorem dX12_provedOn_3 : decode cX12_provedOn 3 = .ok (.iload_n 3, 1) := by decide +kernel
theorem dX12_provedOn_4 : decode cX12_provedOn 4 = .ok (.invokevirtual 436, 3) := by decide +kernel
theorem dX12_provedOn_7 : decode cX12_provedOn 7 = .ok (.istore 4, 2) := by decide +kernel
theorem dX12_provedOn_9 : decode cX12_provedOn 9 = .ok (.iload 4, 2) := by decide +kernel
theorem dX12_provedOn_11 : decode cX12_provedOn 11 = .ok (.aload_n 0, 1) := by decide +kernel
theorem dX12_provedOn_12 : decode cX12_provedOn 12 = .ok (.iload_n 1, 1) := by decide +kernel
theorem dX12_provedOn_13 : decode cX12_provedOn 13 = .ok (.iload_n 2, 1) := by decide +kernel
theorem dX12_provedOn_14 : decode cX12_provedOn 14 = .ok (.iload_n 3, 1) := by decide +kernel
theorem dX12_provedOn_15 : decode cX12_provedOn 15 = .ok (.invokevirtual 439, 3) := by decide +kernel
theorem dX12_provedOn_18 : decode cX12_provedOn 18 = .ok (.if_icmp .gt 12, 3) := by decide +kernel
theorem dX12_provedOn_21 : decode cX12_provedOn 21 = .ok (.aload_n 0, 1) := by decide +kernel
theorem dX12_provedOn_22 : decode cX12_provedOn 22 = .ok (.getfield 116, 3) := by decide +kernel
theorem dX12_provedOn_25 : decode cX12_provedOn 25 = .ok (.iload_n 2, 1) := by decide +kernel
theorem dX12_provedOn_26 : decode cX12_provedOn 26 = .ok (.iaload, 1) := by decide +kernel
theorem dX12_provedOn_27 : decode cX12_provedOn 27 = .ok (.ifCond .ge 5, 3) := by decide +kernel
theorem dX12_provedOn_30 : decode cX12_provedOn 30 = .ok (.iconst 0, 1) := by decide +kernel
theorem dX12_provedOn_31 : decode cX12_provedOn 31 = .ok (.ireturn, 1) := by decide +kernel
theorem dX12_provedOn_32 : decode cX12_provedOn 32 = .ok (.iconst 0, 1) := by decide +kernel
theorem dX12_provedOn_33 : decode cX12_provedOn 33 = .ok (.iload 4, 2) := by decide +kernel
theorem dX12_provedOn_35 : decode cX12_provedOn 35 = .ok (.iconst 0, 1) := by decide +kernel
theorem dX12_provedOn_36 : decode cX12_provedOn 36 = .ok (.aload_n 0, 1) := by decide +kernel
theorem dX12_provedOn_37 : decode cX12_provedOn 37 = .ok (.getfield 86, 3) := by decide +kernel
theorem dX12_provedOn_40 : decode cX12_provedOn 40 = .ok (.bipush 10, 2) := by decide +kernel
theorem dX12_provedOn_42 : decode cX12_provedOn 42 = .ok (.iload_n 2, 1) := by decide +kernel
theorem dX12_provedOn_43 : decode cX12_provedOn 43 = .ok (.imul, 1) := by decide +kernel
theorem dX12_provedOn_44 : decode cX12_provedOn 44 = .ok (.iload_n 1, 1) := by decide +kernel
theorem dX12_provedOn_45 : decode cX12_provedOn 45 = .ok (.iadd, 1) := by decide +kernel
theorem dX12_provedOn_46 : decode cX12_provedOn 46 = .ok (.iaload, 1) := by decide +kernel
theorem dX12_provedOn_47 : decode cX12_provedOn 47 = .ok (.invokestatic 228, 3) := by decide +kernel
theorem dX12_provedOn_50 : decode cX12_provedOn 50 = .ok (.isub, 1) := by decide +kernel
theorem dX12_provedOn_51 : decode cX12_provedOn 51 = .ok (.invokestatic 228, 3) := by decide +kernel
theorem dX12_provedOn_54 : decode cX12_provedOn 54 = .ok (.ireturn, 1) := by decide +kernel
theorem dX12_proved_0 : decode cX12_proved 0 = .ok (.aload_n 0, 1) := by decide +kernel
theorem dX12_proved_1 : decode cX12_proved 1 = .ok (.iconst 0, 1) := by decide +kernel
theorem dX12_proved_2 : decode cX12_proved 2 = .ok (.putfield 206, 3) := by decide +kernel
theorem dX12_proved_5 : decode cX12_proved 5 = .ok (.aload_n 0, 1) := by decide +kernel
theorem dX12_proved_6 : decode cX12_proved 6 = .ok (.iload_n 1, 1) := by decide +kernel
theorem dX12_proved_7 : decode cX12_proved 7 = .ok (.iload_n 2, 1) := by decide +kernel
theorem dX12_proved_8 : decode cX12_proved 8 = .ok (.invokevirtual 430, 3) := by decide +kernel
theorem dX12_proved_11 : decode cX12_proved 11 = .ok (.ifCond .eq 27, 3) := by decide +kernel
theorem dX12_proved_14 : decode cX12_proved 14 = .ok (.iload_n 3, 1) := by decide +kernel
theorem dX12_proved_15 : decode cX12_proved 15 = .ok (.iconst 0, 1) := by decide +kernel
theorem dX12_proved_16 : decode cX12_proved 16 = .ok (.aload_n 0, 1) := by decide +kernel
theorem dX12_proved_17 : decode cX12_proved 17 = .ok (.getfield 7, 3) := by decide +kernel
theorem dX12_proved_20 : decode cX12_proved 20 = .ok (.iconst 0, 1) := by decide +kernel
theorem dX12_proved_21 : decode cX12_proved 21 = .ok (.iaload, 1) := by decide +kernel
theorem dX12_proved_22 : decode cX12_proved 22 = .ok (.invokestatic 213, 3) := by decide +kernel
theorem dX12_proved_25 : decode cX12_proved 25 = .ok (.ifCond .eq 13, 3) := by decide +kernel
theorem dX12_proved_28 : decode cX12_proved 28 = .ok (.aload_n 0, 1) := by decide +kernel
theorem dX12_proved_29 : decode cX12_proved 29 = .ok (.iload_n 1, 1) := by decide +kernel
theorem dX12_proved_30 : decode cX12_proved 30 = .ok (.iload_n 2, 1) := by decide +kernel
theorem dX12_proved_31 : decode cX12_proved 31 = .ok (.iload_n 3, 1) := by decide +kernel
theorem dX12_proved_32 : decode cX12_proved 32 = .ok (.invokevirtual 442, 3) := by decide +kernel
theorem dX12_proved_35 : decode cX12_proved 35 = .ok (.goto 4, 3) := by decide +kernel
theorem dX12_proved_38 : decode cX12_proved 38 = .ok (.iconst (-1), 1) := by decide +kernel
theorem dX12_proved_39 : decode cX12_proved 39 = .ok (.ireturn, 1) := by decide +kernel
theorem dX12_fine_0 : decode cX12_fine 0 = .ok (.aload_n 0, 1) := by decide +kernel
theorem dX12_fine_1 : decode cX12_fine 1 = .ok (.iconst 0, 1) := by decide +kernel
theorem dX12_fine_2 : decode cX12_fine 2 = .ok (.putfield 206, 3) := by decide +kernel
theorem dX12_fine_5 : decode cX12_fine 5 = .ok (.aload_n 0, 1) := by decide +kernel
theorem dX12_fine_6 : decode cX12_fine 6 = .ok (.iload_n 1, 1) := by decide +kernel
theorem dX12_fine_7 : decode cX12_fine 7 = .ok (.iload_n 2, 1) := by decide +kernel
theorem dX12_fine_8 : decode cX12_fine 8 = .ok (.invokevirtual 430, 3) := by decide +kernel
theorem dX12_fine_11 : decode cX12_fine 11 = .ok (.ifCond .eq 17, 3) := by decide +kernel
theorem dX12_fine_14 : decode cX12_fine 14 = .ok (.aload_n 0, 1) := by decide +kernel
theorem dX12_fine_15 : decode cX12_fine 15 = .ok (.getfield 194, 3) := by decide +kernel
theorem dX12_fine_18 : decode cX12_fine 18 = .ok (.bipush 10, 2) := by decide +kernel
theorem dX12_fine_20 : decode cX12_fine 20 = .ok (.iload_n 2, 1) := by decide +kernel
theorem dX12_fine_21 : decode cX12_fine 21 = .ok (.imul, 1) := by decide +kernel
theorem dX12_fine_22 : decode cX12_fine 22 = .ok (.iload_n 1, 1) := by decide +kernel
theorem dX12_fine_23 : decode cX12_fine 23 = .ok (.iadd, 1) := by decide +kernel
theorem dX12_fine_24 : decode cX12_fine 24 = .ok (.baload, 1) := by decide +kernel
theorem dX12_fine_25 : decode cX12_fine 25 = .ok (.ifCond .eq 5, 3) := by decide +kernel
theorem dX12_fine_28 : decode cX12_fine 28 = .ok (.iconst (-1), 1) := by decide +kernel
theorem dX12_fine_29 : decode cX12_fine 29 = .ok (.ireturn, 1) := by decide +kernel
theorem dX12_fine_30 : decode cX12_fine 30 = .ok (.aload_n 0, 1) := by decide +kernel
theorem dX12_fine_31 : decode cX12_fine 31 = .ok (.iload_n 1, 1) := by decide +kernel
theorem dX12_fine_32 : decode cX12_fine 32 = .ok (.iload_n 2, 1) := by decide +kernel
theorem dX12_fine_33 : decode cX12_fine 33 = .ok (.aload_n 0, 1) := by decide +kernel
theorem dX12_fine_34 : decode cX12_fine 34 = .ok (.getfield 7, 3) := by decide +kernel
theorem dX12_fine_37 : decode cX12_fine 37 = .ok (.iconst 0, 1) := by decide +kernel
theorem dX12_fine_38 : decode cX12_fine 38 = .ok (.iaload, 1) := by decide +kernel
theorem dX12_fine_39 : decode cX12_fine 39 = .ok (.invokevirtual 442, 3) := by decide +kernel
theorem dX12_fine_42 : decode cX12_fine 42 = .ok (.istore_n 3, 1) := by decide +kernel
theorem dX12_fine_43 : decode cX12_fine 43 = .ok (.iload_n 3, 1) := by decide +kernel
theorem dX12_fine_44 : decode cX12_fine 44 = .ok (.ifCond .ne 5, 3) := by decide +kernel
theorem dX12_fine_47 : decode cX12_fine 47 = .ok (.iconst (-1), 1) := by decide +kernel
theorem dX12_fine_48 : decode cX12_fine 48 = .ok (.ireturn, 1) := by decide +kernel
theorem dX12_fine_49 : decode cX12_fine 49 = .ok (.aload_n 0, 1) := by decide +kernel
theorem dX12_fine_50 : decode cX12_fine 50 = .ok (.getfield 194, 3) := by decide +kernel
theorem dX12_fine_53 : decode cX12_fine 53 = .ok (.bipush 10, 2) := by decide +kernel
theorem dX12_fine_55 : decode cX12_fine 55 = .ok (.iload_n 2, 1) := by decide +kernel
theorem dX12_fine_56 : decode cX12_fine 56 = .ok (.imul, 1) := by decide +kernel
theorem dX12_fine_57 : decode cX12_fine 57 = .ok (.iload_n 1, 1) := by decide +kernel
theorem dX12_fine_58 : decode cX12_fine 58 = .ok (.iadd, 1) := by decide +kernel
theorem dX12_fine_59 : decode cX12_fine 59 = .ok (.iconst 1, 1) := by decide +kernel
theorem dX12_fine_60 : decode cX12_fine 60 = .ok (.bastore, 1) := by decide +kernel
theorem dX12_fine_61 : decode cX12_fine 61 = .ok (.iconst 0, 1) := by decide +kernel
theorem dX12_fine_62 : decode cX12_fine 62 = .ok (.istore 4, 2) := by decide +kernel
theorem dX12_fine_64 : decode cX12_fine 64 = .ok (.aload_n 0, 1) := by decide +kernel
theorem dX12_fine_65 : decode cX12_fine 65 = .ok (.getfield 122, 3) := by decide +kernel
theorem dX12_fine_68 : decode cX12_fine 68 = .ok (.bipush 11, 2) := by decide +kernel
theorem dX12_fine_70 : decode cX12_fine 70 = .ok (.aload_n 0, 1) := by decide +kernel
theorem dX12_fine_71 : decode cX12_fine 71 = .ok (.getfield 116, 3) := by decide +kernel
theorem dX12_fine_74 : decode cX12_fine 74 = .ok (.iload_n 2, 1) := by decide +kernel
theorem dX12_fine_75 : decode cX12_fine 75 = .ok (.iaload, 1) := by decide +kernel
theorem dX12_fine_76 : decode cX12_fine 76 = .ok (.imul, 1) := by decide +kernel
theorem dX12_fine_77 : decode cX12_fine 77 = .ok (.iconst 2, 1) := by decide +kernel
theorem dX12_fine_78 : decode cX12_fine 78 = .ok (.iadd, 1) := by decide +kernel
theorem dX12_fine_79 : decode cX12_fine 79 = .ok (.iaload, 1) := by decide +kernel
theorem dX12_fine_80 : decode cX12_fine 80 = .ok (.ifCond .lt 38, 3) := by decide +kernel
theorem dX12_fine_83 : decode cX12_fine 83 = .ok (.aload_n 0, 1) := by decide +kernel
theorem dX12_fine_84 : decode cX12_fine 84 = .ok (.getfield 40, 3) := by decide +kernel
theorem dX12_fine_87 : decode cX12_fine 87 = .ok (.iconst 0, 1) := by decide +kernel
theorem dX12_fine_88 : decode cX12_fine 88 = .ok (.iaload, 1) := by decide +kernel
theorem dX12_fine_89 : decode cX12_fine 89 = .ok (.iconst 4, 1) := by decide +kernel
theorem dX12_fine_90 : decode cX12_fine 90 = .ok (.iand, 1) := by decide +kernel
theorem dX12_fine_91 : decode cX12_fine 91 = .ok (.ifCond .ne 27, 3) := by decide +kernel
theorem dX12_fine_94 : decode cX12_fine 94 = .ok (.aload_n 0, 1) := by decide +kernel
theorem dX12_fine_95 : decode cX12_fine 95 = .ok (.iload_n 1, 1) := by decide +kernel
theorem dX12_fine_96 : decode cX12_fine 96 = .ok (.putfield 373, 3) := by decide +kernel
theorem dX12_fine_99 : decode cX12_fine 99 = .ok (.aload_n 0, 1) := by decide +kernel
theorem dX12_fine_100 : decode cX12_fine 100 = .ok (.iload_n 3, 1) := by decide +kernel
theorem dX12_fine_101 : decode cX12_fine 101 = .ok (.putfield 376, 3) := by decide +kernel
theorem dX12_fine_104 : decode cX12_fine 104 = .ok (.aload_n 0, 1) := by decide +kernel
theorem dX12_fine_105 : decode cX12_fine 105 = .ok (.iconst 0, 1) := by decide +kernel
theorem dX12_fine_106 : decode cX12_fine 106 = .ok (.aload_n 0, 1) := by decide +kernel
theorem dX12_fine_107 : decode cX12_fine 107 = .ok (.getfield 116, 3) := by decide +kernel
theorem dX12_fine_110 : decode cX12_fine 110 = .ok (.iload_n 2, 1) := by decide +kernel
theorem dX12_fine_111 : decode cX12_fine 111 = .ok (.iaload, 1) := by decide +kernel
theorem dX12_fine_112 : decode cX12_fine 112 = .ok (.iconst 2, 1) := by decide +kernel
theorem dX12_fine_113 : decode cX12_fine 113 = .ok (.invokevirtual 398, 3) := by decide +kernel
theorem dX12_fine_116 : decode cX12_fine 116 = .ok (.istore 4, 2) := by decide +kernel
theorem dX12_fine_118 : decode cX12_fine 118 = .ok (.aload_n 0, 1) := by decide +kernel
theorem dX12_fine_119 : decode cX12_fine 119 = .ok (.getfield 61, 3) := by decide +kernel
theorem dX12_fine_122 : decode cX12_fine 122 = .ok (.iload_n 1, 1) := by decide +kernel
theorem dX12_fine_123 : decode cX12_fine 123 = .ok (.dup2, 1) := by decide +kernel
theorem dX12_fine_124 : decode cX12_fine 124 = .ok (.iaload, 1) := by decide +kernel
theorem dX12_fine_125 : decode cX12_fine 125 = .ok (.iload 4, 2) := by decide +kernel
theorem dX12_fine_127 : decode cX12_fine 127 = .ok (.isub, 1) := by decide +kernel
theorem dX12_fine_128 : decode cX12_fine 128 = .ok (.iastore, 1) := by decide +kernel
theorem dX12_fine_129 : decode cX12_fine 129 = .ok (.iload 4, 2) := by decide +kernel
theorem dX12_fine_131 : decode cX12_fine 131 = .ok (.ireturn, 1) := by decide +kernel
theorem dX12_sale_0 : decode cX12_sale 0 = .ok (.aload_n 0, 1) := by decide +kernel
theorem dX12_sale_1 : decode cX12_sale 1 = .ok (.iconst 0, 1) := by decide +kernel
theorem dX12_sale_2 : decode cX12_sale 2 = .ok (.putfield 206, 3) := by decide +kernel
theorem dX12_sale_5 : decode cX12_sale 5 = .ok (.iload_n 1, 1) := by decide +kernel
theorem dX12_sale_6 : decode cX12_sale 6 = .ok (.iconst 1, 1) := by decide +kernel
theorem dX12_sale_7 : decode cX12_sale 7 = .ok (.if_icmp .lt 44, 3) := by decide +kernel
theorem dX12_sale_10 : decode cX12_sale 10 = .ok (.iload_n 1, 1) := by decide +kernel
theorem dX12_sale_11 : decode cX12_sale 11 = .ok (.iconst 1, 1) := by decide +kernel
theorem dX12_sale_12 : decode cX12_sale 12 = .ok (.aload_n 0, 1) := by decide +kernel
theorem dX12_sale_13 : decode cX12_sale 13 = .ok (.getfield 210, 3) := by decide +kernel
theorem dX12_sale_16 : decode cX12_sale 16 = .ok (.ishl, 1) := by decide +kernel
theorem dX12_sale_17 : decode cX12_sale 17 = .ok (.if_icmp .ge 34, 3) := by decide +kernel
theorem dX12_sale_20 : decode cX12_sale 20 = .ok (.iload_n 2, 1) := by decide +kernel
theorem dX12_sale_21 : decode cX12_sale 21 = .ok (.iconst 1, 1) := by decide +kernel
theorem dX12_sale_22 : decode cX12_sale 22 = .ok (.sipush 9999, 3) := by decide +kernel
theorem dX12_sale_25 : decode cX12_sale 25 = .ok (.invokestatic 213, 3) := by decide +kernel
theorem dX12_sale_28 : decode cX12_sale 28 = .ok (.ifCond .eq 23, 3) := by decide +kernel
theorem dX12_sale_31 : decode cX12_sale 31 = .ok (.iload_n 3, 1) := by decide +kernel
theorem dX12_sale_32 : decode cX12_sale 32 = .ok (.iconst 1, 1) := by decide +kernel
theorem dX12_sale_33 : decode cX12_sale 33 = .ok (.sipush 9999, 3) := by decide +kernel
theorem dX12_sale_36 : decode cX12_sale 36 = .ok (.invokestatic 213, 3) := by decide +kernel
theorem dX12_sale_39 : decode cX12_sale 39 = .ok (.ifCond .eq 12, 3) := by decide +kernel
theorem dX12_sale_42 : decode cX12_sale 42 = .ok (.aload_n 0, 1) := by decide +kernel
theorem dX12_sale_43 : decode cX12_sale 43 = .ok (.getfield 445, 3) := by decide +kernel
theorem dX12_sale_46 : decode cX12_sale 46 = .ok (.bipush 60, 2) := by decide +kernel
theorem dX12_sale_48 : decode cX12_sale 48 = .ok (.if_icmp .ne 5, 3) := by decide +kernel
theorem dX12_sale_51 : decode cX12_sale 51 = .ok (.iconst (-1), 1) := by decide +kernel
theorem dX12_sale_52 : decode cX12_sale 52 = .ok (.ireturn, 1) := by decide +kernel
theorem dX12_sale_53 : decode cX12_sale 53 = .ok (.aload_n 0, 1) := by decide +kernel
theorem dX12_sale_54 : decode cX12_sale 54 = .ok (.getfield 197, 3) := by decide +kernel
theorem dX12_sale_57 : decode cX12_sale 57 = .ok (.aload_n 0, 1) := by decide +kernel
theorem dX12_sale_58 : decode cX12_sale 58 = .ok (.getfield 445, 3) := by decide +kernel
theorem dX12_sale_61 : decode cX12_sale 61 = .ok (.iload_n 1, 1) := by decide +kernel
theorem dX12_sale_62 : decode cX12_sale 62 = .ok (.iastore, 1) := by decide +kernel
theorem dX12_sale_63 : decode cX12_sale 63 = .ok (.aload_n 0, 1) := by decide +kernel
theorem dX12_sale_64 : decode cX12_sale 64 = .ok (.getfield 200, 3) := by decide +kernel
theorem dX12_sale_67 : decode cX12_sale 67 = .ok (.aload_n 0, 1) := by decide +kernel
theorem dX12_sale_68 : decode cX12_sale 68 = .ok (.getfield 445, 3) := by decide +kernel
theorem dX12_sale_71 : decode cX12_sale 71 = .ok (.iload_n 2, 1) := by decide +kernel
theorem dX12_sale_72 : decode cX12_sale 72 = .ok (.iastore, 1) := by decide +kernel
theorem dX12_sale_73 : decode cX12_sale 73 = .ok (.aload_n 0, 1) := by decide +kernel
theorem dX12_sale_74 : decode cX12_sale 74 = .ok (.getfield 203, 3) := by decide +kernel
theorem dX12_sale_77 : decode cX12_sale 77 = .ok (.aload_n 0, 1) := by decide +kernel
theorem dX12_sale_78 : decode cX12_sale 78 = .ok (.getfield 445, 3) := by decide +kernel
theorem dX12_sale_81 : decode cX12_sale 81 = .ok (.iload_n 3, 1) := by decide +kernel
theorem dX12_sale_82 : decode cX12_sale 82 = .ok (.iastore, 1) := by decide +kernel
theorem dX12_sale_83 : decode cX12_sale 83 = .ok (.aload_n 0, 1) := by decide +kernel
theorem dX12_sale_84 : decode cX12_sale 84 = .ok (.dup, 1) := by decide +kernel
theorem dX12_sale_85 : decode cX12_sale 85 = .ok (.getfield 445, 3) := by decide +kernel
theorem dX12_sale_88 : decode cX12_sale 88 = .ok (.iconst 1, 1) := by decide +kernel
theorem dX12_sale_89 : decode cX12_sale 89 = .ok (.iadd, 1) := by decide +kernel
theorem dX12_sale_90 : decode cX12_sale 90 = .ok (.putfield 445, 3) := by decide +kernel
theorem dX12_sale_93 : decode cX12_sale 93 = .ok (.aload_n 0, 1) := by decide +kernel
theorem dX12_sale_94 : decode cX12_sale 94 = .ok (.getfield 445, 3) := by decide +kernel
theorem dX12_sale_97 : decode cX12_sale 97 = .ok (.iconst 1, 1) := by decide +kernel
theorem dX12_sale_98 : decode cX12_sale 98 = .ok (.isub, 1) := by decide +kernel
theorem dX12_sale_99 : decode cX12_sale 99 = .ok (.ireturn, 1) := by decide +kernel
theorem dX12_isBad_0 : decode cX12_isBad 0 = .ok (.aload_n 0, 1) := by decide +kernel
theorem dX12_isBad_1 : decode cX12_isBad 1 = .ok (.getfield 28, 3) := by decide +kernel
theorem dX12_isBad_4 : decode cX12_isBad 4 = .ok (.iconst 0, 1) := by decide +kernel
theorem dX12_isBad_5 : decode cX12_isBad 5 = .ok (.iaload, 1) := by decide +kernel
theorem dX12_isBad_6 : decode cX12_isBad 6 = .ok (.ifCond .lt 29, 3) := by decide +kernel
theorem dX12_isBad_9 : decode cX12_isBad 9 = .ok (.aload_n 0, 1) := by decide +kernel
theorem dX12_isBad_10 : decode cX12_isBad 10 = .ok (.getfield 134, 3) := by decide +kernel
theorem dX12_isBad_13 : decode cX12_isBad 13 = .ok (.aload_n 0, 1) := by decide +kernel
theorem dX12_isBad_14 : decode cX12_isBad 14 = .ok (.getfield 28, 3) := by decide +kernel
theorem dX12_isBad_17 : decode cX12_isBad 17 = .ok (.iconst 0, 1) := by decide +kernel
theorem dX12_isBad_18 : decode cX12_isBad 18 = .ok (.iaload, 1) := by decide +kernel
theorem dX12_isBad_19 : decode cX12_isBad 19 = .ok (.iaload, 1) := by decide +kernel
theorem dX12_isBad_20 : decode cX12_isBad 20 = .ok (.ifCond .lt 15, 3) := by decide +kernel
theorem dX12_isBad_23 : decode cX12_isBad 23 = .ok (.aload_n 0, 1) := by decide +kernel
theorem dX12_isBad_24 : decode cX12_isBad 24 = .ok (.getfield 40, 3) := by decide +kernel
theorem dX12_isBad_27 : decode cX12_isBad 27 = .ok (.iconst 0, 1) := by decide +kernel
theorem dX12_isBad_28 : decode cX12_isBad 28 = .ok (.iaload, 1) := by decide +kernel
theorem dX12_isBad_29 : decode cX12_isBad 29 = .ok (.bipush 32, 2) := by decide +kernel
theorem dX12_isBad_31 : decode cX12_isBad 31 = .ok (.iand, 1) := by decide +kernel
theorem dX12_isBad_32 : decode cX12_isBad 32 = .ok (.ifCond .eq 5, 3) := by decide +kernel
theorem dX12_isBad_35 : decode cX12_isBad 35 = .ok (.iconst 0, 1) := by decide +kernel
theorem dX12_isBad_36 : decode cX12_isBad 36 = .ok (.ireturn, 1) := by decide +kernel
theorem dX12_isBad_37 : decode cX12_isBad 37 = .ok (.aload_n 0, 1) := by decide +kernel
theorem dX12_isBad_38 : decode cX12_isBad 38 = .ok (.getfield 200, 3) := by decide +kernel
theorem dX12_isBad_41 : decode cX12_isBad 41 = .ok (.iload_n 1, 1) := by decide +kernel
theorem dX12_isBad_42 : decode cX12_isBad 42 = .ok (.iaload, 1) := by decide +kernel
theorem dX12_isBad_43 : decode cX12_isBad 43 = .ok (.aload_n 0, 1) := by decide +kernel
theorem dX12_isBad_44 : decode cX12_isBad 44 = .ok (.getfield 203, 3) := by decide +kernel
theorem dX12_isBad_47 : decode cX12_isBad 47 = .ok (.iload_n 1, 1) := by decide +kernel
theorem dX12_isBad_48 : decode cX12_isBad 48 = .ok (.iaload, 1) := by decide +kernel
theorem dX12_isBad_49 : decode cX12_isBad 49 = .ok (.isub, 1) := by decide +kernel
theorem dX12_isBad_50 : decode cX12_isBad 50 = .ok (.bipush 100, 2) := by decide +kernel
theorem dX12_isBad_52 : decode cX12_isBad 52 = .ok (.imul, 1) := by decide +kernel
theorem dX12_isBad_53 : decode cX12_isBad 53 = .ok (.aload_n 0, 1) := by decide +kernel
theorem dX12_isBad_54 : decode cX12_isBad 54 = .ok (.getfield 200, 3) := by decide +kernel
theorem dX12_isBad_57 : decode cX12_isBad 57 = .ok (.iload_n 1, 1) := by decide +kernel
theorem dX12_isBad_58 : decode cX12_isBad 58 = .ok (.iaload, 1) := by decide +kernel
theorem dX12_isBad_59 : decode cX12_isBad 59 = .ok (.aload_n 0, 1) := by decide +kernel
theorem dX12_isBad_60 : decode cX12_isBad 60 = .ok (.getfield 134, 3) := by decide +kernel
theorem dX12_isBad_63 : decode cX12_isBad 63 = .ok (.aload_n 0, 1) := by decide +kernel
theorem dX12_isBad_64 : decode cX12_isBad 64 = .ok (.getfield 28, 3) := by decide +kernel
theorem dX12_isBad_67 : decode cX12_isBad 67 = .ok (.iconst 0, 1) := by decide +kernel
theorem dX12_isBad_68 : decode cX12_isBad 68 = .ok (.iaload, 1) := by decide +kernel
theorem dX12_isBad_69 : decode cX12_isBad 69 = .ok (.iaload, 1) := by decide +kernel
theorem dX12_isBad_70 : decode cX12_isBad 70 = .ok (.imul, 1) := by decide +kernel
theorem dX12_isBad_71 : decode cX12_isBad 71 = .ok (.if_icmp .le 7, 3) := by decide +kernel
theorem dX12_isBad_74 : decode cX12_isBad 74 = .ok (.iconst 1, 1) := by decide +kernel
theorem dX12_isBad_75 : decode cX12_isBad 75 = .ok (.goto 4, 3) := by decide +kernel
theorem dX12_isBad_78 : decode cX12_isBad 78 = .ok (.iconst 0, 1) := by decide +kernel
theorem dX12_isBad_79 : decode cX12_isBad 79 = .ok (.ireturn, 1) := by decide +kernel
theorem dX12_bads_0 : decode cX12_bads 0 = .ok (.iconst 0, 1) := by decide +kernel
theorem dX12_bads_1 : decode cX12_bads 1 = .ok (.istore_n 1, 1) := by decide +kernel
theorem dX12_bads_2 : decode cX12_bads 2 = .ok (.iconst 0, 1) := by decide +kernel
theorem dX12_bads_3 : decode cX12_bads 3 = .ok (.istore_n 2, 1) := by decide +kernel
theorem dX12_bads_4 : decode cX12_bads 4 = .ok (.iload_n 2, 1) := by decide +kernel
theorem dX12_bads_5 : decode cX12_bads 5 = .ok (.aload_n 0, 1) := by decide +kernel
theorem dX12_bads_6 : decode cX12_bads 6 = .ok (.getfield 445, 3) := by decide +kernel
theorem dX12_bads_9 : decode cX12_bads 9 = .ok (.if_icmp .ge 20, 3) := by decide +kernel
theorem dX12_bads_12 : decode cX12_bads 12 = .ok (.aload_n 0, 1) := by decide +kernel
theorem dX12_bads_13 : decode cX12_bads 13 = .ok (.iload_n 2, 1) := by decide +kernel
theorem dX12_bads_14 : decode cX12_bads 14 = .ok (.invokevirtual 448, 3) := by decide +kernel
theorem dX12_bads_17 : decode cX12_bads 17 = .ok (.ifCond .eq 6, 3) := by decide +kernel
theorem dX12_bads_20 : decode cX12_bads 20 = .ok (.iinc 1 1, 3) := by decide +kernel
theorem dX12_bads_23 : decode cX12_bads 23 = .ok (.iinc 2 1, 3) := by decide +kernel
theorem dX12_bads_26 : decode cX12_bads 26 = .ok (.goto (-22), 3) := by decide +kernel
theorem dX12_bads_29 : decode cX12_bads 29 = .ok (.iload_n 1, 1) := by decide +kernel
theorem dX12_bads_30 : decode cX12_bads 30 = .ok (.ireturn, 1) := by decide +kernel
theorem dX12_named_0 : decode cX12_named 0 = .ok (.aload_n 0, 1) := by decide +kernel
theorem dX12_named_1 : decode cX12_named 1 = .ok (.iconst 0, 1) := by decide +kernel
theorem dX12_named_2 : decode cX12_named 2 = .ok (.putfield 206, 3) := by decide +kernel
theorem dX12_named_5 : decode cX12_named 5 = .ok (.aload_n 0, 1) := by decide +kernel
theorem dX12_named_6 : decode cX12_named 6 = .ok (.invokevirtual 451, 3) := by decide +kernel
theorem dX12_named_9 : decode cX12_named 9 = .ok (.iconst 2, 1) := by decide +kernel
theorem dX12_named_10 : decode cX12_named 10 = .ok (.if_icmp .ge 5, 3) := by decide +kernel
theorem dX12_named_13 : decode cX12_named 13 = .ok (.iconst (-1), 1) := by decide +kernel
theorem dX12_named_14 : decode cX12_named 14 = .ok (.ireturn, 1) := by decide +kernel
theorem dX12_named_15 : decode cX12_named 15 = .ok (.bipush 11, 2) := by decide +kernel
theorem dX12_named_17 : decode cX12_named 17 = .ok (.istore_n 2, 1) := by decide +kernel
theorem dX12_named_18 : decode cX12_named 18 = .ok (.iconst 0, 1) := by decide +kernel
theorem dX12_named_19 : decode cX12_named 19 = .ok (.istore_n 3, 1) := by decide +kernel
theorem dX12_named_20 : decode cX12_named 20 = .ok (.iconst 0, 1) := by decide +kernel
theorem dX12_named_21 : decode cX12_named 21 = .ok (.istore 4, 2) := by decide +kernel
theorem dX12_named_23 : decode cX12_named 23 = .ok (.iload 4, 2) := by decide +kernel
theorem dX12_named_25 : decode cX12_named 25 = .ok (.iconst 1, 1) := by decide +kernel
theorem dX12_named_26 : decode cX12_named 26 = .ok (.aload_n 0, 1) := by decide +kernel
theorem dX12_named_27 : decode cX12_named 27 = .ok (.getfield 210, 3) := by decide +kernel
theorem dX12_named_30 : decode cX12_named 30 = .ok (.ishl, 1) := by decide +kernel
theorem dX12_named_31 : decode cX12_named 31 = .ok (.if_icmp .ge 121, 3) := by decide +kernel
theorem dX12_named_34 : decode cX12_named 34 = .ok (.iconst 0, 1) := by decide +kernel
theorem dX12_named_35 : decode cX12_named 35 = .ok (.istore 5, 2) := by decide +kernel
theorem dX12_named_37 : decode cX12_named 37 = .ok (.iconst 0, 1) := by decide +kernel
theorem dX12_named_38 : decode cX12_named 38 = .ok (.istore 6, 2) := by decide +kernel
theorem dX12_named_40 : decode cX12_named 40 = .ok (.iload 6, 2) := by decide +kernel
theorem dX12_named_42 : decode cX12_named 42 = .ok (.aload_n 0, 1) := by decide +kernel
theorem dX12_named_43 : decode cX12_named 43 = .ok (.getfield 210, 3) := by decide +kernel
theorem dX12_named_46 : decode cX12_named 46 = .ok (.if_icmp .ge 21, 3) := by decide +kernel
theorem dX12_named_49 : decode cX12_named 49 = .ok (.iload 5, 2) := by decide +kernel
theorem dX12_named_51 : decode cX12_named 51 = .ok (.iload 4, 2) := by decide +kernel
theorem dX12_named_53 : decode cX12_named 53 = .ok (.iload 6, 2) := by decide +kernel
theorem dX12_named_55 : decode cX12_named 55 = .ok (.ishr, 1) := by decide +kernel
theorem dX12_named_56 : decode cX12_named 56 = .ok (.iconst 1, 1) := by decide +kernel
theorem dX12_named_57 : decode cX12_named 57 = .ok (.iand, 1) := by decide +kernel
theorem dX12_named_58 : decode cX12_named 58 = .ok (.iadd, 1) := by decide +kernel
theorem dX12_named_59 : decode cX12_named 59 = .ok (.istore 5, 2) := by decide +kernel
theorem dX12_named_61 : decode cX12_named 61 = .ok (.iinc 6 1, 3) := by decide +kernel
theorem dX12_named_64 : decode cX12_named 64 = .ok (.goto (-24), 3) := by decide +kernel
theorem dX12_named_67 : decode cX12_named 67 = .ok (.iconst 1, 1) := by decide +kernel
theorem dX12_named_68 : decode cX12_named 68 = .ok (.istore 6, 2) := by decide +kernel
theorem dX12_named_70 : decode cX12_named 70 = .ok (.iconst 0, 1) := by decide +kernel
theorem dX12_named_71 : decode cX12_named 71 = .ok (.istore 7, 2) := by decide +kernel
theorem dX12_named_73 : decode cX12_named 73 = .ok (.iload 7, 2) := by decide +kernel
theorem dX12_named_75 : decode cX12_named 75 = .ok (.aload_n 0, 1) := by decide +kernel
theorem dX12_named_76 : decode cX12_named 76 = .ok (.getfield 445, 3) := by decide +kernel
theorem dX12_named_79 : decode cX12_named 79 = .ok (.if_icmp .ge 34, 3) := by decide +kernel
theorem dX12_named_82 : decode cX12_named 82 = .ok (.aload_n 0, 1) := by decide +kernel
theorem dX12_named_83 : decode cX12_named 83 = .ok (.iload 7, 2) := by decide +kernel
theorem dX12_named_85 : decode cX12_named 85 = .ok (.invokevirtual 448, 3) := by decide +kernel
theorem dX12_named_88 : decode cX12_named 88 = .ok (.ifCond .eq 19, 3) := by decide +kernel
theorem dX12_named_91 : decode cX12_named 91 = .ok (.aload_n 0, 1) := by decide +kernel
theorem dX12_named_92 : decode cX12_named 92 = .ok (.getfield 197, 3) := by decide +kernel
theorem dX12_named_95 : decode cX12_named 95 = .ok (.iload 7, 2) := by decide +kernel
theorem dX12_named_97 : decode cX12_named 97 = .ok (.iaload, 1) := by decide +kernel
theorem dX12_named_98 : decode cX12_named 98 = .ok (.iload 4, 2) := by decide +kernel
theorem dX12_named_100 : decode cX12_named 100 = .ok (.iand, 1) := by decide +kernel
theorem dX12_named_101 : decode cX12_named 101 = .ok (.ifCond .ne 6, 3) := by decide +kernel
theorem dX12_named_104 : decode cX12_named 104 = .ok (.iconst 0, 1) := by decide +kernel
theorem dX12_named_105 : decode cX12_named 105 = .ok (.istore 6, 2) := by decide +kernel
theorem dX12_named_107 : decode cX12_named 107 = .ok (.iinc 7 1, 3) := by decide +kernel
theorem dX12_named_110 : decode cX12_named 110 = .ok (.goto (-37), 3) := by decide +kernel
theorem dX12_named_113 : decode cX12_named 113 = .ok (.iload 6, 2) := by decide +kernel
theorem dX12_named_115 : decode cX12_named 115 = .ok (.ifCond .eq 31, 3) := by decide +kernel
theorem dX12_named_118 : decode cX12_named 118 = .ok (.iload 5, 2) := by decide +kernel
theorem dX12_named_120 : decode cX12_named 120 = .ok (.iload_n 2, 1) := by decide +kernel
theorem dX12_named_121 : decode cX12_named 121 = .ok (.if_icmp .le 6, 3) := by decide +kernel
theorem dX12_named_124 : decode cX12_named 124 = .ok (.goto 22, 3) := by decide +kernel
theorem dX12_named_127 : decode cX12_named 127 = .ok (.iload 5, 2) := by decide +kernel
theorem dX12_named_129 : decode cX12_named 129 = .ok (.iload_n 2, 1) := by decide +kernel
theorem dX12_named_130 : decode cX12_named 130 = .ok (.if_icmp .ge 8, 3) := by decide +kernel
theorem dX12_named_133 : decode cX12_named 133 = .ok (.iload 4, 2) := by decide +kernel
theorem dX12_named_135 : decode cX12_named 135 = .ok (.goto 7, 3) := by decide +kernel
theorem dX12_named_138 : decode cX12_named 138 = .ok (.iload_n 3, 1) := by decide +kernel
theorem dX12_named_139 : decode cX12_named 139 = .ok (.iload 4, 2) := by decide +kernel
theorem dX12_named_141 : decode cX12_named 141 = .ok (.iand, 1) := by decide +kernel
theorem dX12_named_142 : decode cX12_named 142 = .ok (.istore_n 3, 1) := by decide +kernel
theorem dX12_named_143 : decode cX12_named 143 = .ok (.iload 5, 2) := by decide +kernel
theorem dX12_named_145 : decode cX12_named 145 = .ok (.istore_n 2, 1) := by decide +kernel
theorem dX12_named_146 : decode cX12_named 146 = .ok (.iinc 4 1, 3) := by decide +kernel
theorem dX12_named_149 : decode cX12_named 149 = .ok (.goto (-126), 3) := by decide +kernel
theorem dX12_named_152 : decode cX12_named 152 = .ok (.iconst 0, 1) := by decide +kernel
theorem dX12_named_153 : decode cX12_named 153 = .ok (.istore 4, 2) := by decide +kernel
theorem dX12_named_155 : decode cX12_named 155 = .ok (.iconst 0, 1) := by decide +kernel
theorem dX12_named_156 : decode cX12_named 156 = .ok (.istore 5, 2) := by decide +kernel
theorem dX12_named_158 : decode cX12_named 158 = .ok (.iload 5, 2) := by decide +kernel
theorem dX12_named_160 : decode cX12_named 160 = .ok (.aload_n 0, 1) := by decide +kernel
theorem dX12_named_161 : decode cX12_named 161 = .ok (.getfield 210, 3) := by decide +kernel
theorem dX12_named_164 : decode cX12_named 164 = .ok (.if_icmp .ge 33, 3) := by decide +kernel
theorem dX12_named_167 : decode cX12_named 167 = .ok (.iload_n 3, 1) := by decide +kernel
theorem dX12_named_168 : decode cX12_named 168 = .ok (.iload 5, 2) := by decide +kernel
theorem dX12_named_170 : decode cX12_named 170 = .ok (.ishr, 1) := by decide +kernel
theorem dX12_named_171 : decode cX12_named 171 = .ok (.iconst 1, 1) := by decide +kernel
theorem dX12_named_172 : decode cX12_named 172 = .ok (.iand, 1) := by decide +kernel
theorem dX12_named_173 : decode cX12_named 173 = .ok (.ifCond .ne 6, 3) := by decide +kernel
theorem dX12_named_176 : decode cX12_named 176 = .ok (.goto 15, 3) := by decide +kernel
theorem dX12_named_179 : decode cX12_named 179 = .ok (.iload 4, 2) := by decide +kernel
theorem dX12_named_181 : decode cX12_named 181 = .ok (.iload_n 1, 1) := by decide +kernel
theorem dX12_named_182 : decode cX12_named 182 = .ok (.if_icmp .ne 6, 3) := by decide +kernel
theorem dX12_named_185 : decode cX12_named 185 = .ok (.iload 5, 2) := by decide +kernel
theorem dX12_named_187 : decode cX12_named 187 = .ok (.ireturn, 1) := by decide +kernel
theorem dX12_named_188 : decode cX12_named 188 = .ok (.iinc 4 1, 3) := by decide +kernel
theorem dX12_named_191 : decode cX12_named 191 = .ok (.iinc 5 1, 3) := by decide +kernel
theorem dX12_named_194 : decode cX12_named 194 = .ok (.goto (-36), 3) := by decide +kernel
theorem dX12_named_197 : decode cX12_named 197 = .ok (.iconst (-1), 1) := by decide +kernel
theorem dX12_named_198 : decode cX12_named 198 = .ok (.ireturn, 1) := by decide +kernel
theorem dX12_tries_0 : decode cX12_tries 0 = .ok (.aload_n 0, 1) := by decide +kernel
theorem dX12_tries_1 : decode cX12_tries 1 = .ok (.getfield 7, 3) := by decide +kernel
theorem dX12_tries_4 : decode cX12_tries 4 = .ok (.iconst 1, 1) := by decide +kernel
theorem dX12_tries_5 : decode cX12_tries 5 = .ok (.aload_n 0, 1) := by decide +kernel
theorem dX12_tries_6 : decode cX12_tries 6 = .ok (.getfield 7, 3) := by decide +kernel
theorem dX12_tries_9 : decode cX12_tries 9 = .ok (.iconst 0, 1) := by decide +kernel
theorem dX12_tries_10 : decode cX12_tries 10 = .ok (.iaload, 1) := by decide +kernel
theorem dX12_tries_11 : decode cX12_tries 11 = .ok (.iastore, 1) := by decide +kernel
theorem dX12_tries_12 : decode cX12_tries 12 = .ok (.aload_n 0, 1) := by decide +kernel
theorem dX12_tries_13 : decode cX12_tries 13 = .ok (.getfield 13, 3) := by decide +kernel
theorem dX12_tries_16 : decode cX12_tries 16 = .ok (.iconst 1, 1) := by decide +kernel
theorem dX12_tries_17 : decode cX12_tries 17 = .ok (.aload_n 0, 1) := by decide +kernel
theorem dX12_tries_18 : decode cX12_tries 18 = .ok (.getfield 13, 3) := by decide +kernel
theorem dX12_tries_21 : decode cX12_tries 21 = .ok (.iconst 0, 1) := by decide +kernel
theorem dX12_tries_22 : decode cX12_tries 22 = .ok (.iaload, 1) := by decide +kernel
theorem dX12_tries_23 : decode cX12_tries 23 = .ok (.iastore, 1) := by decide +kernel
theorem dX12_tries_24 : decode cX12_tries 24 = .ok (.aload_n 0, 1) := by decide +kernel
theorem dX12_tries_25 : decode cX12_tries 25 = .ok (.getfield 16, 3) := by decide +kernel
theorem dX12_tries_28 : decode cX12_tries 28 = .ok (.iconst 1, 1) := by decide +kernel
theorem dX12_tries_29 : decode cX12_tries 29 = .ok (.aload_n 0, 1) := by decide +kernel
theorem dX12_tries_30 : decode cX12_tries 30 = .ok (.getfield 16, 3) := by decide +kernel
theorem dX12_tries_33 : decode cX12_tries 33 = .ok (.iconst 0, 1) := by decide +kernel
theorem dX12_tries_34 : decode cX12_tries 34 = .ok (.iaload, 1) := by decide +kernel
theorem dX12_tries_35 : decode cX12_tries 35 = .ok (.iastore, 1) := by decide +kernel
theorem dX12_tries_36 : decode cX12_tries 36 = .ok (.aload_n 0, 1) := by decide +kernel
theorem dX12_tries_37 : decode cX12_tries 37 = .ok (.getfield 19, 3) := by decide +kernel
theorem dX12_tries_40 : decode cX12_tries 40 = .ok (.iconst 1, 1) := by decide +kernel
theorem dX12_tries_41 : decode cX12_tries 41 = .ok (.aload_n 0, 1) := by decide +kernel
theorem dX12_tries_42 : decode cX12_tries 42 = .ok (.getfield 19, 3) := by decide +kernel
theorem dX12_tries_45 : decode cX12_tries 45 = .ok (.iconst 0, 1) := by decide +kernel
theorem dX12_tries_46 : decode cX12_tries 46 = .ok (.iaload, 1) := by decide +kernel
theorem dX12_tries_47 : decode cX12_tries 47 = .ok (.iastore, 1) := by decide +kernel
theorem dX12_tries_48 : decode cX12_tries 48 = .ok (.aload_n 0, 1) := by decide +kernel
theorem dX12_tries_49 : decode cX12_tries 49 = .ok (.getfield 22, 3) := by decide +kernel
theorem dX12_tries_52 : decode cX12_tries 52 = .ok (.iconst 1, 1) := by decide +kernel
theorem dX12_tries_53 : decode cX12_tries 53 = .ok (.aload_n 0, 1) := by decide +kernel
theorem dX12_tries_54 : decode cX12_tries 54 = .ok (.getfield 22, 3) := by decide +kernel
theorem dX12_tries_57 : decode cX12_tries 57 = .ok (.iconst 0, 1) := by decide +kernel
theorem dX12_tries_58 : decode cX12_tries 58 = .ok (.iaload, 1) := by decide +kernel
theorem dX12_tries_59 : decode cX12_tries 59 = .ok (.iastore, 1) := by decide +kernel
theorem dX12_tries_60 : decode cX12_tries 60 = .ok (.aload_n 0, 1) := by decide +kernel
theorem dX12_tries_61 : decode cX12_tries 61 = .ok (.getfield 25, 3) := by decide +kernel
theorem dX12_tries_64 : decode cX12_tries 64 = .ok (.iconst 1, 1) := by decide +kernel
theorem dX12_tries_65 : decode cX12_tries 65 = .ok (.aload_n 0, 1) := by decide +kernel
theorem dX12_tries_66 : decode cX12_tries 66 = .ok (.getfield 25, 3) := by decide +kernel
theorem dX12_tries_69 : decode cX12_tries 69 = .ok (.iconst 0, 1) := by decide +kernel
theorem dX12_tries_70 : decode cX12_tries 70 = .ok (.iaload, 1) := by decide +kernel
theorem dX12_tries_71 : decode cX12_tries 71 = .ok (.iastore, 1) := by decide +kernel
theorem dX12_tries_72 : decode cX12_tries 72 = .ok (.aload_n 0, 1) := by decide +kernel
theorem dX12_tries_73 : decode cX12_tries 73 = .ok (.getfield 28, 3) := by decide +kernel
theorem dX12_tries_76 : decode cX12_tries 76 = .ok (.iconst 1, 1) := by decide +kernel
theorem dX12_tries_77 : decode cX12_tries 77 = .ok (.aload_n 0, 1) := by decide +kernel
theorem dX12_tries_78 : decode cX12_tries 78 = .ok (.getfield 28, 3) := by decide +kernel
theorem dX12_tries_81 : decode cX12_tries 81 = .ok (.iconst 0, 1) := by decide +kernel
theorem dX12_tries_82 : decode cX12_tries 82 = .ok (.iaload, 1) := by decide +kernel
theorem dX12_tries_83 : decode cX12_tries 83 = .ok (.iastore, 1) := by decide +kernel
theorem dX12_tries_84 : decode cX12_tries 84 = .ok (.aload_n 0, 1) := by decide +kernel
theorem dX12_tries_85 : decode cX12_tries 85 = .ok (.getfield 31, 3) := by decide +kernel
theorem dX12_tries_88 : decode cX12_tries 88 = .ok (.iconst 1, 1) := by decide +kernel
theorem dX12_tries_89 : decode cX12_tries 89 = .ok (.aload_n 0, 1) := by decide +kernel
theorem dX12_tries_90 : decode cX12_tries 90 = .ok (.getfield 31, 3) := by decide +kernel
theorem dX12_tries_93 : decode cX12_tries 93 = .ok (.iconst 0, 1) := by decide +kernel
theorem dX12_tries_94 : decode cX12_tries 94 = .ok (.iaload, 1) := by decide +kernel
theorem dX12_tries_95 : decode cX12_tries 95 = .ok (.iastore, 1) := by decide +kernel
theorem dX12_tries_96 : decode cX12_tries 96 = .ok (.aload_n 0, 1) := by decide +kernel
theorem dX12_tries_97 : decode cX12_tries 97 = .ok (.getfield 34, 3) := by decide +kernel
theorem dX12_tries_100 : decode cX12_tries 100 = .ok (.iconst 1, 1) := by decide +kernel
theorem dX12_tries_101 : decode cX12_tries 101 = .ok (.aload_n 0, 1) := by decide +kernel
theorem dX12_tries_102 : decode cX12_tries 102 = .ok (.getfield 34, 3) := by decide +kernel
theorem dX12_tries_105 : decode cX12_tries 105 = .ok (.iconst 0, 1) := by decide +kernel
theorem dX12_tries_106 : decode cX12_tries 106 = .ok (.iaload, 1) := by decide +kernel
theorem dX12_tries_107 : decode cX12_tries 107 = .ok (.iastore, 1) := by decide +kernel
theorem dX12_tries_108 : decode cX12_tries 108 = .ok (.aload_n 0, 1) := by decide +kernel
theorem dX12_tries_109 : decode cX12_tries 109 = .ok (.getfield 37, 3) := by decide +kernel
theorem dX12_tries_112 : decode cX12_tries 112 = .ok (.iconst 1, 1) := by decide +kernel
theorem dX12_tries_113 : decode cX12_tries 113 = .ok (.aload_n 0, 1) := by decide +kernel
theorem dX12_tries_114 : decode cX12_tries 114 = .ok (.getfield 37, 3) := by decide +kernel
theorem dX12_tries_117 : decode cX12_tries 117 = .ok (.iconst 0, 1) := by decide +kernel
theorem dX12_tries_118 : decode cX12_tries 118 = .ok (.iaload, 1) := by decide +kernel
theorem dX12_tries_119 : decode cX12_tries 119 = .ok (.iastore, 1) := by decide +kernel
theorem dX12_tries_120 : decode cX12_tries 120 = .ok (.aload_n 0, 1) := by decide +kernel
theorem dX12_tries_121 : decode cX12_tries 121 = .ok (.getfield 40, 3) := by decide +kernel
theorem dX12_tries_124 : decode cX12_tries 124 = .ok (.iconst 1, 1) := by decide +kernel
theorem dX12_tries_125 : decode cX12_tries 125 = .ok (.aload_n 0, 1) := by decide +kernel
theorem dX12_tries_126 : decode cX12_tries 126 = .ok (.getfield 40, 3) := by decide +kernel
theorem dX12_tries_129 : decode cX12_tries 129 = .ok (.iconst 0, 1) := by decide +kernel
theorem dX12_tries_130 : decode cX12_tries 130 = .ok (.iaload, 1) := by decide +kernel
theorem dX12_tries_131 : decode cX12_tries 131 = .ok (.iastore, 1) := by decide +kernel
theorem dX12_tries_132 : decode cX12_tries 132 = .ok (.aload_n 0, 1) := by decide +kernel
theorem dX12_tries_133 : decode cX12_tries 133 = .ok (.getfield 43, 3) := by decide +kernel
theorem dX12_tries_136 : decode cX12_tries 136 = .ok (.iconst 1, 1) := by decide +kernel
theorem dX12_tries_137 : decode cX12_tries 137 = .ok (.aload_n 0, 1) := by decide +kernel
theorem dX12_tries_138 : decode cX12_tries 138 = .ok (.getfield 43, 3) := by decide +kernel
theorem dX12_tries_141 : decode cX12_tries 141 = .ok (.iconst 0, 1) := by decide +kernel
theorem dX12_tries_142 : decode cX12_tries 142 = .ok (.iaload, 1) := by decide +kernel
theorem dX12_tries_143 : decode cX12_tries 143 = .ok (.iastore, 1) := by decide +kernel
theorem dX12_tries_144 : decode cX12_tries 144 = .ok (.aload_n 0, 1) := by decide +kernel
theorem dX12_tries_145 : decode cX12_tries 145 = .ok (.getfield 46, 3) := by decide +kernel
theorem dX12_tries_148 : decode cX12_tries 148 = .ok (.iconst 1, 1) := by decide +kernel
theorem dX12_tries_149 : decode cX12_tries 149 = .ok (.aload_n 0, 1) := by decide +kernel
theorem dX12_tries_150 : decode cX12_tries 150 = .ok (.getfield 46, 3) := by decide +kernel
theorem dX12_tries_153 : decode cX12_tries 153 = .ok (.iconst 0, 1) := by decide +kernel
theorem dX12_tries_154 : decode cX12_tries 154 = .ok (.iaload, 1) := by decide +kernel
theorem dX12_tries_155 : decode cX12_tries 155 = .ok (.iastore, 1) := by decide +kernel
theorem dX12_tries_156 : decode cX12_tries 156 = .ok (.aload_n 0, 1) := by decide +kernel
theorem dX12_tries_157 : decode cX12_tries 157 = .ok (.getfield 49, 3) := by decide +kernel
theorem dX12_tries_160 : decode cX12_tries 160 = .ok (.iconst 1, 1) := by decide +kernel
theorem dX12_tries_161 : decode cX12_tries 161 = .ok (.aload_n 0, 1) := by decide +kernel
theorem dX12_tries_162 : decode cX12_tries 162 = .ok (.getfield 49, 3) := by decide +kernel
theorem dX12_tries_165 : decode cX12_tries 165 = .ok (.iconst 0, 1) := by decide +kernel
theorem dX12_tries_166 : decode cX12_tries 166 = .ok (.iaload, 1) := by decide +kernel
theorem dX12_tries_167 : decode cX12_tries 167 = .ok (.iastore, 1) := by decide +kernel
theorem dX12_tries_168 : decode cX12_tries 168 = .ok (.iconst 0, 1) := by decide +kernel
theorem dX12_tries_169 : decode cX12_tries 169 = .ok (.istore 5, 2) := by decide +kernel
theorem dX12_tries_171 : decode cX12_tries 171 = .ok (.iload 5, 2) := by decide +kernel
theorem dX12_tries_173 : decode cX12_tries 173 = .ok (.bipush 10, 2) := by decide +kernel
theorem dX12_tries_175 : decode cX12_tries 175 = .ok (.if_icmp .ge 102, 3) := by decide +kernel
theorem dX12_tries_178 : decode cX12_tries 178 = .ok (.aload_n 0, 1) := by decide +kernel
theorem dX12_tries_179 : decode cX12_tries 179 = .ok (.getfield 52, 3) := by decide +kernel
theorem dX12_tries_182 : decode cX12_tries 182 = .ok (.bipush 10, 2) := by decide +kernel
theorem dX12_tries_184 : decode cX12_tries 184 = .ok (.iload 5, 2) := by decide +kernel
theorem dX12_tries_186 : decode cX12_tries 186 = .ok (.iadd, 1) := by decide +kernel
theorem dX12_tries_187 : decode cX12_tries 187 = .ok (.aload_n 0, 1) := by decide +kernel
theorem dX12_tries_188 : decode cX12_tries 188 = .ok (.getfield 52, 3) := by decide +kernel
theorem dX12_tries_191 : decode cX12_tries 191 = .ok (.iload 5, 2) := by decide +kernel
theorem dX12_tries_193 : decode cX12_tries 193 = .ok (.iaload, 1) := by decide +kernel
theorem dX12_tries_194 : decode cX12_tries 194 = .ok (.iastore, 1) := by decide +kernel
theorem dX12_tries_195 : decode cX12_tries 195 = .ok (.aload_n 0, 1) := by decide +kernel
theorem dX12_tries_196 : decode cX12_tries 196 = .ok (.getfield 55, 3) := by decide +kernel
theorem dX12_tries_199 : decode cX12_tries 199 = .ok (.bipush 10, 2) := by decide +kernel
theorem dX12_tries_201 : decode cX12_tries 201 = .ok (.iload 5, 2) := by decide +kernel
theorem dX12_tries_203 : decode cX12_tries 203 = .ok (.iadd, 1) := by decide +kernel
theorem dX12_tries_204 : decode cX12_tries 204 = .ok (.aload_n 0, 1) := by decide +kernel
theorem dX12_tries_205 : decode cX12_tries 205 = .ok (.getfield 55, 3) := by decide +kernel
theorem dX12_tries_208 : decode cX12_tries 208 = .ok (.iload 5, 2) := by decide +kernel
theorem dX12_tries_210 : decode cX12_tries 210 = .ok (.iaload, 1) := by decide +kernel
theorem dX12_tries_211 : decode cX12_tries 211 = .ok (.iastore, 1) := by decide +kernel
theorem dX12_tries_212 : decode cX12_tries 212 = .ok (.aload_n 0, 1) := by decide +kernel
theorem dX12_tries_213 : decode cX12_tries 213 = .ok (.getfield 58, 3) := by decide +kernel
theorem dX12_tries_216 : decode cX12_tries 216 = .ok (.bipush 10, 2) := by decide +kernel
theorem dX12_tries_218 : decode cX12_tries 218 = .ok (.iload 5, 2) := by decide +kernel
theorem dX12_tries_220 : decode cX12_tries 220 = .ok (.iadd, 1) := by decide +kernel
theorem dX12_tries_221 : decode cX12_tries 221 = .ok (.aload_n 0, 1) := by decide +kernel
theorem dX12_tries_222 : decode cX12_tries 222 = .ok (.getfield 58, 3) := by decide +kernel
theorem dX12_tries_225 : decode cX12_tries 225 = .ok (.iload 5, 2) := by decide +kernel
theorem dX12_tries_227 : decode cX12_tries 227 = .ok (.iaload, 1) := by decide +kernel
theorem dX12_tries_228 : decode cX12_tries 228 = .ok (.iastore, 1) := by decide +kernel
theorem dX12_tries_229 : decode cX12_tries 229 = .ok (.aload_n 0, 1) := by decide +kernel
theorem dX12_tries_230 : decode cX12_tries 230 = .ok (.getfield 61, 3) := by decide +kernel
theorem dX12_tries_233 : decode cX12_tries 233 = .ok (.bipush 10, 2) := by decide +kernel
theorem dX12_tries_235 : decode cX12_tries 235 = .ok (.iload 5, 2) := by decide +kernel
theorem dX12_tries_237 : decode cX12_tries 237 = .ok (.iadd, 1) := by decide +kernel
theorem dX12_tries_238 : decode cX12_tries 238 = .ok (.aload_n 0, 1) := by decide +kernel
theorem dX12_tries_239 : decode cX12_tries 239 = .ok (.getfield 61, 3) := by decide +kernel
theorem dX12_tries_242 : decode cX12_tries 242 = .ok (.iload 5, 2) := by decide +kernel
theorem dX12_tries_244 : decode cX12_tries 244 = .ok (.iaload, 1) := by decide +kernel
theorem dX12_tries_245 : decode cX12_tries 245 = .ok (.iastore, 1) := by decide +kernel
theorem dX12_tries_246 : decode cX12_tries 246 = .ok (.aload_n 0, 1) := by decide +kernel
theorem dX12_tries_247 : decode cX12_tries 247 = .ok (.getfield 64, 3) := by decide +kernel
theorem dX12_tries_250 : decode cX12_tries 250 = .ok (.bipush 10, 2) := by decide +kernel
theorem dX12_tries_252 : decode cX12_tries 252 = .ok (.iload 5, 2) := by decide +kernel
theorem dX12_tries_254 : decode cX12_tries 254 = .ok (.iadd, 1) := by decide +kernel
theorem dX12_tries_255 : decode cX12_tries 255 = .ok (.iload_n 1, 1) := by decide +kernel
theorem dX12_tries_256 : decode cX12_tries 256 = .ok (.iload 5, 2) := by decide +kernel
theorem dX12_tries_258 : decode cX12_tries 258 = .ok (.ishr, 1) := by decide +kernel
theorem dX12_tries_259 : decode cX12_tries 259 = .ok (.iconst 1, 1) := by decide +kernel
theorem dX12_tries_260 : decode cX12_tries 260 = .ok (.iand, 1) := by decide +kernel
theorem dX12_tries_261 : decode cX12_tries 261 = .ok (.iconst 1, 1) := by decide +kernel
theorem dX12_tries_262 : decode cX12_tries 262 = .ok (.if_icmp .ne 7, 3) := by decide +kernel
theorem dX12_tries_265 : decode cX12_tries 265 = .ok (.iconst 1, 1) := by decide +kernel
theorem dX12_tries_266 : decode cX12_tries 266 = .ok (.goto 4, 3) := by decide +kernel
theorem dX12_tries_269 : decode cX12_tries 269 = .ok (.iconst 0, 1) := by decide +kernel
theorem dX12_tries_270 : decode cX12_tries 270 = .ok (.bastore, 1) := by decide +kernel
theorem dX12_tries_271 : decode cX12_tries 271 = .ok (.iinc 5 1, 3) := by decide +kernel
theorem dX12_tries_274 : decode cX12_tries 274 = .ok (.goto (-103), 3) := by decide +kernel
theorem dX12_tries_277 : decode cX12_tries 277 = .ok (.iconst 0, 1) := by decide +kernel
theorem dX12_tries_278 : decode cX12_tries 278 = .ok (.istore 5, 2) := by decide +kernel
theorem dX12_tries_280 : decode cX12_tries 280 = .ok (.iload 5, 2) := by decide +kernel
theorem dX12_tries_282 : decode cX12_tries 282 = .ok (.bipush 8, 2) := by decide +kernel
theorem dX12_tries_284 : decode cX12_tries 284 = .ok (.if_icmp .ge 77, 3) := by decide +kernel
theorem dX12_tries_287 : decode cX12_tries 287 = .ok (.aload_n 0, 1) := by decide +kernel
theorem dX12_tries_288 : decode cX12_tries 288 = .ok (.getfield 68, 3) := by decide +kernel
theorem dX12_tries_291 : decode cX12_tries 291 = .ok (.bipush 8, 2) := by decide +kernel
theorem dX12_tries_293 : decode cX12_tries 293 = .ok (.iload 5, 2) := by decide +kernel
theorem dX12_tries_295 : decode cX12_tries 295 = .ok (.iadd, 1) := by decide +kernel
theorem dX12_tries_296 : decode cX12_tries 296 = .ok (.aload_n 0, 1) := by decide +kernel
theorem dX12_tries_297 : decode cX12_tries 297 = .ok (.getfield 68, 3) := by decide +kernel
theorem dX12_tries_300 : decode cX12_tries 300 = .ok (.iload 5, 2) := by decide +kernel
theorem dX12_tries_302 : decode cX12_tries 302 = .ok (.iaload, 1) := by decide +kernel
theorem dX12_tries_303 : decode cX12_tries 303 = .ok (.iastore, 1) := by decide +kernel
theorem dX12_tries_304 : decode cX12_tries 304 = .ok (.aload_n 0, 1) := by decide +kernel
theorem dX12_tries_305 : decode cX12_tries 305 = .ok (.getfield 71, 3) := by decide +kernel
theorem dX12_tries_308 : decode cX12_tries 308 = .ok (.bipush 8, 2) := by decide +kernel
theorem dX12_tries_310 : decode cX12_tries 310 = .ok (.iload 5, 2) := by decide +kernel
theorem dX12_tries_312 : decode cX12_tries 312 = .ok (.iadd, 1) := by decide +kernel
theorem dX12_tries_313 : decode cX12_tries 313 = .ok (.aload_n 0, 1) := by decide +kernel
theorem dX12_tries_314 : decode cX12_tries 314 = .ok (.getfield 71, 3) := by decide +kernel
theorem dX12_tries_317 : decode cX12_tries 317 = .ok (.iload 5, 2) := by decide +kernel
theorem dX12_tries_319 : decode cX12_tries 319 = .ok (.iaload, 1) := by decide +kernel
theorem dX12_tries_320 : decode cX12_tries 320 = .ok (.iastore, 1) := by decide +kernel
theorem dX12_tries_321 : decode cX12_tries 321 = .ok (.aload_n 0, 1) := by decide +kernel
theorem dX12_tries_322 : decode cX12_tries 322 = .ok (.getfield 74, 3) := by decide +kernel
theorem dX12_tries_325 : decode cX12_tries 325 = .ok (.bipush 8, 2) := by decide +kernel
theorem dX12_tries_327 : decode cX12_tries 327 = .ok (.iload 5, 2) := by decide +kernel
theorem dX12_tries_329 : decode cX12_tries 329 = .ok (.iadd, 1) := by decide +kernel
theorem dX12_tries_330 : decode cX12_tries 330 = .ok (.aload_n 0, 1) := by decide +kernel
theorem dX12_tries_331 : decode cX12_tries 331 = .ok (.getfield 74, 3) := by decide +kernel
theorem dX12_tries_334 : decode cX12_tries 334 = .ok (.iload 5, 2) := by decide +kernel
theorem dX12_tries_336 : decode cX12_tries 336 = .ok (.iaload, 1) := by decide +kernel
theorem dX12_tries_337 : decode cX12_tries 337 = .ok (.iastore, 1) := by decide +kernel
theorem dX12_tries_338 : decode cX12_tries 338 = .ok (.aload_n 0, 1) := by decide +kernel
theorem dX12_tries_339 : decode cX12_tries 339 = .ok (.getfield 77, 3) := by decide +kernel
theorem dX12_tries_342 : decode cX12_tries 342 = .ok (.bipush 8, 2) := by decide +kernel
theorem dX12_tries_344 : decode cX12_tries 344 = .ok (.iload 5, 2) := by decide +kernel
theorem dX12_tries_346 : decode cX12_tries 346 = .ok (.iadd, 1) := by decide +kernel
theorem dX12_tries_347 : decode cX12_tries 347 = .ok (.aload_n 0, 1) := by decide +kernel
theorem dX12_tries_348 : decode cX12_tries 348 = .ok (.getfield 77, 3) := by decide +kernel
theorem dX12_tries_351 : decode cX12_tries 351 = .ok (.iload 5, 2) := by decide +kernel
theorem dX12_tries_353 : decode cX12_tries 353 = .ok (.iaload, 1) := by decide +kernel
theorem dX12_tries_354 : decode cX12_tries 354 = .ok (.iastore, 1) := by decide +kernel
theorem dX12_tries_355 : decode cX12_tries 355 = .ok (.iinc 5 1, 3) := by decide +kernel
theorem dX12_tries_358 : decode cX12_tries 358 = .ok (.goto (-78), 3) := by decide +kernel
theorem dX12_tries_361 : decode cX12_tries 361 = .ok (.iconst 0, 1) := by decide +kernel
theorem dX12_tries_362 : decode cX12_tries 362 = .ok (.istore 5, 2) := by decide +kernel
theorem dX12_tries_364 : decode cX12_tries 364 = .ok (.iload 5, 2) := by decide +kernel
theorem dX12_tries_366 : decode cX12_tries 366 = .ok (.bipush 96, 2) := by decide +kernel
theorem dX12_tries_368 : decode cX12_tries 368 = .ok (.if_icmp .ge 26, 3) := by decide +kernel
theorem dX12_tries_371 : decode cX12_tries 371 = .ok (.aload_n 0, 1) := by decide +kernel
theorem dX12_tries_372 : decode cX12_tries 372 = .ok (.getfield 80, 3) := by decide +kernel
theorem dX12_tries_375 : decode cX12_tries 375 = .ok (.bipush 96, 2) := by decide +kernel
theorem dX12_tries_377 : decode cX12_tries 377 = .ok (.iload 5, 2) := by decide +kernel
theorem dX12_tries_379 : decode cX12_tries 379 = .ok (.iadd, 1) := by decide +kernel
theorem dX12_tries_380 : decode cX12_tries 380 = .ok (.aload_n 0, 1) := by decide +kernel
theorem dX12_tries_381 : decode cX12_tries 381 = .ok (.getfield 80, 3) := by decide +kernel
theorem dX12_tries_384 : decode cX12_tries 384 = .ok (.iload 5, 2) := by decide +kernel
theorem dX12_tries_386 : decode cX12_tries 386 = .ok (.iaload, 1) := by decide +kernel
theorem dX12_tries_387 : decode cX12_tries 387 = .ok (.iastore, 1) := by decide +kernel
theorem dX12_tries_388 : decode cX12_tries 388 = .ok (.iinc 5 1, 3) := by decide +kernel
theorem dX12_tries_391 : decode cX12_tries 391 = .ok (.goto (-27), 3) := by decide +kernel
theorem dX12_tries_394 : decode cX12_tries 394 = .ok (.iconst 0, 1) := by decide +kernel
theorem dX12_tries_395 : decode cX12_tries 395 = .ok (.istore 5, 2) := by decide +kernel
theorem dX12_tries_397 : decode cX12_tries 397 = .ok (.iload 5, 2) := by decide +kernel
theorem dX12_tries_399 : decode cX12_tries 399 = .ok (.sipush 240, 3) := by decide +kernel
theorem dX12_tries_402 : decode cX12_tries 402 = .ok (.if_icmp .ge 45, 3) := by decide +kernel
theorem dX12_tries_405 : decode cX12_tries 405 = .ok (.aload_n 0, 1) := by decide +kernel
theorem dX12_tries_406 : decode cX12_tries 406 = .ok (.getfield 83, 3) := by decide +kernel
theorem dX12_tries_409 : decode cX12_tries 409 = .ok (.sipush 240, 3) := by decide +kernel
theorem dX12_tries_412 : decode cX12_tries 412 = .ok (.iload 5, 2) := by decide +kernel
theorem dX12_tries_414 : decode cX12_tries 414 = .ok (.iadd, 1) := by decide +kernel
theorem dX12_tries_415 : decode cX12_tries 415 = .ok (.aload_n 0, 1) := by decide +kernel
theorem dX12_tries_416 : decode cX12_tries 416 = .ok (.getfield 83, 3) := by decide +kernel
theorem dX12_tries_419 : decode cX12_tries 419 = .ok (.iload 5, 2) := by decide +kernel
theorem dX12_tries_421 : decode cX12_tries 421 = .ok (.iaload, 1) := by decide +kernel
theorem dX12_tries_422 : decode cX12_tries 422 = .ok (.iastore, 1) := by decide +kernel
theorem dX12_tries_423 : decode cX12_tries 423 = .ok (.aload_n 0, 1) := by decide +kernel
theorem dX12_tries_424 : decode cX12_tries 424 = .ok (.getfield 86, 3) := by decide +kernel
theorem dX12_tries_427 : decode cX12_tries 427 = .ok (.sipush 240, 3) := by decide +kernel
theorem dX12_tries_430 : decode cX12_tries 430 = .ok (.iload 5, 2) := by decide +kernel
theorem dX12_tries_432 : decode cX12_tries 432 = .ok (.iadd, 1) := by decide +kernel
theorem dX12_tries_433 : decode cX12_tries 433 = .ok (.aload_n 0, 1) := by decide +kernel
theorem dX12_tries_434 : decode cX12_tries 434 = .ok (.getfield 86, 3) := by decide +kernel
theorem dX12_tries_437 : decode cX12_tries 437 = .ok (.iload 5, 2) := by decide +kernel
theorem dX12_tries_439 : decode cX12_tries 439 = .ok (.iaload, 1) := by decide +kernel
theorem dX12_tries_440 : decode cX12_tries 440 = .ok (.iastore, 1) := by decide +kernel
theorem dX12_tries_441 : decode cX12_tries 441 = .ok (.iinc 5 1, 3) := by decide +kernel
theorem dX12_tries_444 : decode cX12_tries 444 = .ok (.goto (-47), 3) := by decide +kernel
theorem dX12_tries_447 : decode cX12_tries 447 = .ok (.iconst 0, 1) := by decide +kernel
theorem dX12_tries_448 : decode cX12_tries 448 = .ok (.istore 5, 2) := by decide +kernel
theorem dX12_tries_450 : decode cX12_tries 450 = .ok (.iload 5, 2) := by decide +kernel
theorem dX12_tries_452 : decode cX12_tries 452 = .ok (.sipush 720, 3) := by decide +kernel
theorem dX12_tries_455 : decode cX12_tries 455 = .ok (.if_icmp .gt 27, 3) := by decide +kernel
theorem dX12_tries_458 : decode cX12_tries 458 = .ok (.aload_n 0, 1) := by decide +kernel
theorem dX12_tries_459 : decode cX12_tries 459 = .ok (.getfield 89, 3) := by decide +kernel
theorem dX12_tries_462 : decode cX12_tries 462 = .ok (.sipush 721, 3) := by decide +kernel
theorem dX12_tries_465 : decode cX12_tries 465 = .ok (.iload 5, 2) := by decide +kernel
theorem dX12_tries_467 : decode cX12_tries 467 = .ok (.iadd, 1) := by decide +kernel
theorem dX12_tries_468 : decode cX12_tries 468 = .ok (.aload_n 0, 1) := by decide +kernel
theorem dX12_tries_469 : decode cX12_tries 469 = .ok (.getfield 89, 3) := by decide +kernel
theorem dX12_tries_472 : decode cX12_tries 472 = .ok (.iload 5, 2) := by decide +kernel
theorem dX12_tries_474 : decode cX12_tries 474 = .ok (.baload, 1) := by decide +kernel
theorem dX12_tries_475 : decode cX12_tries 475 = .ok (.bastore, 1) := by decide +kernel
theorem dX12_tries_476 : decode cX12_tries 476 = .ok (.iinc 5 1, 3) := by decide +kernel
theorem dX12_tries_479 : decode cX12_tries 479 = .ok (.goto (-29), 3) := by decide +kernel
theorem dX12_tries_482 : decode cX12_tries 482 = .ok (.iconst 0, 1) := by decide +kernel
theorem dX12_tries_483 : decode cX12_tries 483 = .ok (.istore 5, 2) := by decide +kernel
theorem dX12_tries_485 : decode cX12_tries 485 = .ok (.iload 5, 2) := by decide +kernel
theorem dX12_tries_487 : decode cX12_tries 487 = .ok (.iload_n 2, 1) := by decide +kernel
theorem dX12_tries_488 : decode cX12_tries 488 = .ok (.if_icmp .ge 29, 3) := by decide +kernel
theorem dX12_tries_491 : decode cX12_tries 491 = .ok (.aload_n 0, 1) := by decide +kernel
theorem dX12_tries_492 : decode cX12_tries 492 = .ok (.getfield 7, 3) := by decide +kernel
theorem dX12_tries_495 : decode cX12_tries 495 = .ok (.iconst 1, 1) := by decide +kernel
theorem dX12_tries_496 : decode cX12_tries 496 = .ok (.iaload, 1) := by decide +kernel
theorem dX12_tries_497 : decode cX12_tries 497 = .ok (.sipush 720, 3) := by decide +kernel
theorem dX12_tries_500 : decode cX12_tries 500 = .ok (.if_icmp .ge 17, 3) := by decide +kernel
theorem dX12_tries_503 : decode cX12_tries 503 = .ok (.aload_n 0, 1) := by decide +kernel
theorem dX12_tries_504 : decode cX12_tries 504 = .ok (.iconst 1, 1) := by decide +kernel
theorem dX12_tries_505 : decode cX12_tries 505 = .ok (.iload_n 3, 1) := by decide +kernel
theorem dX12_tries_506 : decode cX12_tries 506 = .ok (.iload 4, 2) := by decide +kernel
theorem dX12_tries_508 : decode cX12_tries 508 = .ok (.invokevirtual 426, 3) := by decide +kernel
theorem dX12_tries_511 : decode cX12_tries 511 = .ok (.iinc 5 1, 3) := by decide +kernel
theorem dX12_tries_514 : decode cX12_tries 514 = .ok (.goto (-29), 3) := by decide +kernel
theorem dX12_tries_517 : decode cX12_tries 517 = .ok (.return_, 1) := by decide +kernel
theorem dX12_breakers_0 : decode cX12_breakers 0 = .ok (.iconst 0, 1) := by decide +kernel
theorem dX12_breakers_1 : decode cX12_breakers 1 = .ok (.istore_n 1, 1) := by decide +kernel
theorem dX12_breakers_2 : decode cX12_breakers 2 = .ok (.iconst 0, 1) := by decide +kernel
theorem dX12_breakers_3 : decode cX12_breakers 3 = .ok (.istore_n 2, 1) := by decide +kernel
theorem dX12_breakers_4 : decode cX12_breakers 4 = .ok (.iload_n 2, 1) := by decide +kernel
theorem dX12_breakers_5 : decode cX12_breakers 5 = .ok (.aload_n 0, 1) := by decide +kernel
theorem dX12_breakers_6 : decode cX12_breakers 6 = .ok (.getfield 210, 3) := by decide +kernel
theorem dX12_breakers_9 : decode cX12_breakers 9 = .ok (.if_icmp .ge 24, 3) := by decide +kernel
theorem dX12_breakers_12 : decode cX12_breakers 12 = .ok (.aload_n 0, 1) := by decide +kernel
theorem dX12_breakers_13 : decode cX12_breakers 13 = .ok (.getfield 64, 3) := by decide +kernel
theorem dX12_breakers_16 : decode cX12_breakers 16 = .ok (.iload_n 2, 1) := by decide +kernel
theorem dX12_breakers_17 : decode cX12_breakers 17 = .ok (.baload, 1) := by decide +kernel
theorem dX12_breakers_18 : decode cX12_breakers 18 = .ok (.ifCond .eq 9, 3) := by decide +kernel
theorem dX12_breakers_21 : decode cX12_breakers 21 = .ok (.iload_n 1, 1) := by decide +kernel
theorem dX12_breakers_22 : decode cX12_breakers 22 = .ok (.iconst 1, 1) := by decide +kernel
theorem dX12_breakers_23 : decode cX12_breakers 23 = .ok (.iload_n 2, 1) := by decide +kernel
theorem dX12_breakers_24 : decode cX12_breakers 24 = .ok (.ishl, 1) := by decide +kernel
theorem dX12_breakers_25 : decode cX12_breakers 25 = .ok (.ior, 1) := by decide +kernel
theorem dX12_breakers_26 : decode cX12_breakers 26 = .ok (.istore_n 1, 1) := by decide +kernel
theorem dX12_breakers_27 : decode cX12_breakers 27 = .ok (.iinc 2 1, 3) := by decide +kernel
theorem dX12_breakers_30 : decode cX12_breakers 30 = .ok (.goto (-26), 3) := by decide +kernel
theorem dX12_breakers_33 : decode cX12_breakers 33 = .ok (.iload_n 1, 1) := by decide +kernel
theorem dX12_breakers_34 : decode cX12_breakers 34 = .ok (.ireturn, 1) := by decide +kernel
theorem dX12_isSet_0 : decode cX12_isSet 0 = .ok (.iload_n 1, 1) := by decide +kernel
theorem dX12_isSet_1 : decode cX12_isSet 1 = .ok (.ifCond .lt 17, 3) := by decide +kernel
theorem dX12_isSet_4 : decode cX12_isSet 4 = .ok (.iload_n 1, 1) := by decide +kernel
theorem dX12_isSet_5 : decode cX12_isSet 5 = .ok (.iconst 1, 1) := by decide +kernel
theorem dX12_isSet_6 : decode cX12_isSet 6 = .ok (.aload_n 0, 1) := by decide +kernel
theorem dX12_isSet_7 : decode cX12_isSet 7 = .ok (.getfield 210, 3) := by decide +kernel
theorem dX12_isSet_10 : decode cX12_isSet 10 = .ok (.ishl, 1) := by decide +kernel
theorem dX12_isSet_11 : decode cX12_isSet 11 = .ok (.if_icmp .ge 7, 3) := by decide +kernel
theorem dX12_isSet_14 : decode cX12_isSet 14 = .ok (.iconst 1, 1) := by decide +kernel
theorem dX12_isSet_15 : decode cX12_isSet 15 = .ok (.goto 4, 3) := by decide +kernel
theorem dX12_isSet_18 : decode cX12_isSet 18 = .ok (.iconst 0, 1) := by decide +kernel
theorem dX12_isSet_19 : decode cX12_isSet 19 = .ok (.ireturn, 1) := by decide +kernel
theorem dX12_whatIf_0 : decode cX12_whatIf 0 = .ok (.aload_n 0, 1) := by decide +kernel
theorem dX12_whatIf_1 : decode cX12_whatIf 1 = .ok (.iconst 0, 1) := by decide +kernel
theorem dX12_whatIf_2 : decode cX12_whatIf 2 = .ok (.putfield 206, 3) := by decide +kernel
theorem dX12_whatIf_5 : decode cX12_whatIf 5 = .ok (.aload_n 0, 1) := by decide +kernel
theorem dX12_whatIf_6 : decode cX12_whatIf 6 = .ok (.iload_n 1, 1) := by decide +kernel
theorem dX12_whatIf_7 : decode cX12_whatIf 7 = .ok (.invokevirtual 454, 3) := by decide +kernel
theorem dX12_whatIf_10 : decode cX12_whatIf 10 = .ok (.ifCond .eq 21, 3) := by decide +kernel
theorem dX12_whatIf_13 : decode cX12_whatIf 13 = .ok (.aload_n 0, 1) := by decide +kernel
theorem dX12_whatIf_14 : decode cX12_whatIf 14 = .ok (.iload_n 2, 1) := by decide +kernel
theorem dX12_whatIf_15 : decode cX12_whatIf 15 = .ok (.invokevirtual 217, 3) := by decide +kernel
theorem dX12_whatIf_18 : decode cX12_whatIf 18 = .ok (.ifCond .eq 13, 3) := by decide +kernel
theorem dX12_whatIf_21 : decode cX12_whatIf 21 = .ok (.iload_n 3, 1) := by decide +kernel
theorem dX12_whatIf_22 : decode cX12_whatIf 22 = .ok (.iconst 0, 1) := by decide +kernel
theorem dX12_whatIf_23 : decode cX12_whatIf 23 = .ok (.bipush 60, 2) := by decide +kernel
theorem dX12_whatIf_25 : decode cX12_whatIf 25 = .ok (.invokestatic 213, 3) := by decide +kernel
theorem dX12_whatIf_28 : decode cX12_whatIf 28 = .ok (.ifCond .ne 10, 3) := by decide +kernel
theorem dX12_whatIf_31 : decode cX12_whatIf 31 = .ok (.aload_n 0, 1) := by decide +kernel
theorem dX12_whatIf_32 : decode cX12_whatIf 32 = .ok (.iconst 1, 1) := by decide +kernel
theorem dX12_whatIf_33 : decode cX12_whatIf 33 = .ok (.putfield 206, 3) := by decide +kernel
theorem dX12_whatIf_36 : decode cX12_whatIf 36 = .ok (.iconst 0, 1) := by decide +kernel
theorem dX12_whatIf_37 : decode cX12_whatIf 37 = .ok (.ireturn, 1) := by decide +kernel
theorem dX12_whatIf_38 : decode cX12_whatIf 38 = .ok (.aload_n 0, 1) := by decide +kernel
theorem dX12_whatIf_39 : decode cX12_whatIf 39 = .ok (.iload_n 1, 1) := by decide +kernel
theorem dX12_whatIf_40 : decode cX12_whatIf 40 = .ok (.iload_n 3, 1) := by decide +kernel
theorem dX12_whatIf_41 : decode cX12_whatIf 41 = .ok (.iconst 0, 1) := by decide +kernel
theorem dX12_whatIf_42 : decode cX12_whatIf 42 = .ok (.iconst (-1), 1) := by decide +kernel
theorem dX12_whatIf_43 : decode cX12_whatIf 43 = .ok (.invokevirtual 457, 3) := by decide +kernel
theorem dX12_whatIf_46 : decode cX12_whatIf 46 = .ok (.aload_n 0, 1) := by decide +kernel
theorem dX12_whatIf_47 : decode cX12_whatIf 47 = .ok (.getfield 61, 3) := by decide +kernel
theorem dX12_whatIf_50 : decode cX12_whatIf 50 = .ok (.bipush 10, 2) := by decide +kernel
theorem dX12_whatIf_52 : decode cX12_whatIf 52 = .ok (.iload_n 2, 1) := by decide +kernel
theorem dX12_whatIf_53 : decode cX12_whatIf 53 = .ok (.iadd, 1) := by decide +kernel
theorem dX12_whatIf_54 : decode cX12_whatIf 54 = .ok (.iaload, 1) := by decide +kernel
theorem dX12_whatIf_55 : decode cX12_whatIf 55 = .ok (.aload_n 0, 1) := by decide +kernel
theorem dX12_whatIf_56 : decode cX12_whatIf 56 = .ok (.getfield 61, 3) := by decide +kernel
theorem dX12_whatIf_59 : decode cX12_whatIf 59 = .ok (.iload_n 2, 1) := by decide +kernel
theorem dX12_whatIf_60 : decode cX12_whatIf 60 = .ok (.iaload, 1) := by decide +kernel
theorem dX12_whatIf_61 : decode cX12_whatIf 61 = .ok (.isub, 1) := by decide +kernel
theorem dX12_whatIf_62 : decode cX12_whatIf 62 = .ok (.ireturn, 1) := by decide +kernel
theorem dX12_isTempted_0 : decode cX12_isTempted 0 = .ok (.aload_n 0, 1) := by decide +kernel
theorem dX12_isTempted_1 : decode cX12_isTempted 1 = .ok (.iload_n 1, 1) := by decide +kernel
theorem dX12_isTempted_2 : decode cX12_isTempted 2 = .ok (.iconst 1, 1) := by decide +kernel
theorem dX12_isTempted_3 : decode cX12_isTempted 3 = .ok (.iload_n 2, 1) := by decide +kernel
theorem dX12_isTempted_4 : decode cX12_isTempted 4 = .ok (.ishl, 1) := by decide +kernel
theorem dX12_isTempted_5 : decode cX12_isTempted 5 = .ok (.iconst (-1), 1) := by decide +kernel
theorem dX12_isTempted_6 : decode cX12_isTempted 6 = .ok (.ixor, 1) := by decide +kernel
theorem dX12_isTempted_7 : decode cX12_isTempted 7 = .ok (.iand, 1) := by decide +kernel
theorem dX12_isTempted_8 : decode cX12_isTempted 8 = .ok (.iload_n 3, 1) := by decide +kernel
theorem dX12_isTempted_9 : decode cX12_isTempted 9 = .ok (.iconst 0, 1) := by decide +kernel
theorem dX12_isTempted_10 : decode cX12_isTempted 10 = .ok (.iconst (-1), 1) := by decide +kernel
theorem dX12_isTempted_11 : decode cX12_isTempted 11 = .ok (.invokevirtual 457, 3) := by decide +kernel
theorem dX12_isTempted_14 : decode cX12_isTempted 14 = .ok (.aload_n 0, 1) := by decide +kernel
theorem dX12_isTempted_15 : decode cX12_isTempted 15 = .ok (.getfield 61, 3) := by decide +kernel
theorem dX12_isTempted_18 : decode cX12_isTempted 18 = .ok (.bipush 10, 2) := by decide +kernel
theorem dX12_isTempted_20 : decode cX12_isTempted 20 = .ok (.iload_n 2, 1) := by decide +kernel
theorem dX12_isTempted_21 : decode cX12_isTempted 21 = .ok (.iadd, 1) := by decide +kernel
theorem dX12_isTempted_22 : decode cX12_isTempted 22 = .ok (.iaload, 1) := by decide +kernel
theorem dX12_isTempted_23 : decode cX12_isTempted 23 = .ok (.istore 4, 2) := by decide +kernel
theorem dX12_isTempted_25 : decode cX12_isTempted 25 = .ok (.aload_n 0, 1) := by decide +kernel
theorem dX12_isTempted_26 : decode cX12_isTempted 26 = .ok (.iload_n 1, 1) := by decide +kernel
theorem dX12_isTempted_27 : decode cX12_isTempted 27 = .ok (.iconst 1, 1) := by decide +kernel
theorem dX12_isTempted_28 : decode cX12_isTempted 28 = .ok (.iload_n 2, 1) := by decide +kernel
theorem dX12_isTempted_29 : decode cX12_isTempted 29 = .ok (.ishl, 1) := by decide +kernel
theorem dX12_isTempted_30 : decode cX12_isTempted 30 = .ok (.ior, 1) := by decide +kernel
theorem dX12_isTempted_31 : decode cX12_isTempted 31 = .ok (.iload_n 3, 1) := by decide +kernel
theorem dX12_isTempted_32 : decode cX12_isTempted 32 = .ok (.iconst 0, 1) := by decide +kernel
theorem dX12_isTempted_33 : decode cX12_isTempted 33 = .ok (.iconst (-1), 1) := by decide +kernel
theorem dX12_isTempted_34 : decode cX12_isTempted 34 = .ok (.invokevirtual 457, 3) := by decide +kernel
theorem dX12_isTempted_37 : decode cX12_isTempted 37 = .ok (.aload_n 0, 1) := by decide +kernel
theorem dX12_isTempted_38 : decode cX12_isTempted 38 = .ok (.getfield 61, 3) := by decide +kernel
theorem dX12_isTempted_41 : decode cX12_isTempted 41 = .ok (.bipush 10, 2) := by decide +kernel
theorem dX12_isTempted_43 : decode cX12_isTempted 43 = .ok (.iload_n 2, 1) := by decide +kernel
theorem dX12_isTempted_44 : decode cX12_isTempted 44 = .ok (.iadd, 1) := by decide +kernel
theorem dX12_isTempted_45 : decode cX12_isTempted 45 = .ok (.iaload, 1) := by decide +kernel
theorem dX12_isTempted_46 : decode cX12_isTempted 46 = .ok (.iload 4, 2) := by decide +kernel
theorem dX12_isTempted_48 : decode cX12_isTempted 48 = .ok (.if_icmp .le 7, 3) := by decide +kernel
theorem dX12_isTempted_51 : decode cX12_isTempted 51 = .ok (.iconst 1, 1) := by decide +kernel
theorem dX12_isTempted_52 : decode cX12_isTempted 52 = .ok (.goto 4, 3) := by decide +kernel
theorem dX12_isTempted_55 : decode cX12_isTempted 55 = .ok (.iconst 0, 1) := by decide +kernel
theorem dX12_isTempted_56 : decode cX12_isTempted 56 = .ok (.ireturn, 1) := by decide +kernel
theorem dX12_tempted_0 : decode cX12_tempted 0 = .ok (.aload_n 0, 1) := by decide +kernel
theorem dX12_tempted_1 : decode cX12_tempted 1 = .ok (.iconst 0, 1) := by decide +kernel
theorem dX12_tempted_2 : decode cX12_tempted 2 = .ok (.putfield 206, 3) := by decide +kernel
theorem dX12_tempted_5 : decode cX12_tempted 5 = .ok (.aload_n 0, 1) := by decide +kernel
theorem dX12_tempted_6 : decode cX12_tempted 6 = .ok (.iload_n 1, 1) := by decide +kernel
theorem dX12_tempted_7 : decode cX12_tempted 7 = .ok (.invokevirtual 454, 3) := by decide +kernel
theorem dX12_tempted_10 : decode cX12_tempted 10 = .ok (.ifCond .eq 21, 3) := by decide +kernel
theorem dX12_tempted_13 : decode cX12_tempted 13 = .ok (.aload_n 0, 1) := by decide +kernel
theorem dX12_tempted_14 : decode cX12_tempted 14 = .ok (.iload_n 2, 1) := by decide +kernel
theorem dX12_tempted_15 : decode cX12_tempted 15 = .ok (.invokevirtual 217, 3) := by decide +kernel
theorem dX12_tempted_18 : decode cX12_tempted 18 = .ok (.ifCond .eq 13, 3) := by decide +kernel
theorem dX12_tempted_21 : decode cX12_tempted 21 = .ok (.iload_n 3, 1) := by decide +kernel
theorem dX12_tempted_22 : decode cX12_tempted 22 = .ok (.iconst 0, 1) := by decide +kernel
theorem dX12_tempted_23 : decode cX12_tempted 23 = .ok (.bipush 60, 2) := by decide +kernel
theorem dX12_tempted_25 : decode cX12_tempted 25 = .ok (.invokestatic 213, 3) := by decide +kernel
theorem dX12_tempted_28 : decode cX12_tempted 28 = .ok (.ifCond .ne 5, 3) := by decide +kernel
theorem dX12_tempted_31 : decode cX12_tempted 31 = .ok (.iconst (-1), 1) := by decide +kernel
theorem dX12_tempted_32 : decode cX12_tempted 32 = .ok (.ireturn, 1) := by decide +kernel
theorem dX12_tempted_33 : decode cX12_tempted 33 = .ok (.aload_n 0, 1) := by decide +kernel
theorem dX12_tempted_34 : decode cX12_tempted 34 = .ok (.iload_n 1, 1) := by decide +kernel
theorem dX12_tempted_35 : decode cX12_tempted 35 = .ok (.iload_n 2, 1) := by decide +kernel
theorem dX12_tempted_36 : decode cX12_tempted 36 = .ok (.iload_n 3, 1) := by decide +kernel
theorem dX12_tempted_37 : decode cX12_tempted 37 = .ok (.invokevirtual 461, 3) := by decide +kernel
theorem dX12_tempted_40 : decode cX12_tempted 40 = .ok (.ifCond .eq 7, 3) := by decide +kernel
theorem dX12_tempted_43 : decode cX12_tempted 43 = .ok (.iconst 1, 1) := by decide +kernel
theorem dX12_tempted_44 : decode cX12_tempted 44 = .ok (.goto 4, 3) := by decide +kernel
theorem dX12_tempted_47 : decode cX12_tempted 47 = .ok (.iconst 0, 1) := by decide +kernel
theorem dX12_tempted_48 : decode cX12_tempted 48 = .ok (.ireturn, 1) := by decide +kernel
theorem dX12_slide_0 : decode cX12_slide 0 = .ok (.aload_n 0, 1) := by decide +kernel
theorem dX12_slide_1 : decode cX12_slide 1 = .ok (.iconst 0, 1) := by decide +kernel
theorem dX12_slide_2 : decode cX12_slide 2 = .ok (.putfield 206, 3) := by decide +kernel
theorem dX12_slide_5 : decode cX12_slide 5 = .ok (.iload_n 1, 1) := by decide +kernel
theorem dX12_slide_6 : decode cX12_slide 6 = .ok (.iconst 1, 1) := by decide +kernel
theorem dX12_slide_7 : decode cX12_slide 7 = .ok (.bipush 30, 2) := by decide +kernel
theorem dX12_slide_9 : decode cX12_slide 9 = .ok (.invokestatic 213, 3) := by decide +kernel
theorem dX12_slide_12 : decode cX12_slide 12 = .ok (.ifCond .eq 12, 3) := by decide +kernel
theorem dX12_slide_15 : decode cX12_slide 15 = .ok (.iload_n 2, 1) := by decide +kernel
theorem dX12_slide_16 : decode cX12_slide 16 = .ok (.iconst 0, 1) := by decide +kernel
theorem dX12_slide_17 : decode cX12_slide 17 = .ok (.iconst 1, 1) := by decide +kernel
theorem dX12_slide_18 : decode cX12_slide 18 = .ok (.invokestatic 213, 3) := by decide +kernel
theorem dX12_slide_21 : decode cX12_slide 21 = .ok (.ifCond .ne 5, 3) := by decide +kernel
theorem dX12_slide_24 : decode cX12_slide 24 = .ok (.iconst (-1), 1) := by decide +kernel
theorem dX12_slide_25 : decode cX12_slide 25 = .ok (.ireturn, 1) := by decide +kernel
theorem dX12_slide_26 : decode cX12_slide 26 = .ok (.aload_n 0, 1) := by decide +kernel
theorem dX12_slide_27 : decode cX12_slide 27 = .ok (.invokevirtual 464, 3) := by decide +kernel
theorem dX12_slide_30 : decode cX12_slide 30 = .ok (.istore_n 3, 1) := by decide +kernel
theorem dX12_slide_31 : decode cX12_slide 31 = .ok (.iconst 0, 1) := by decide +kernel
theorem dX12_slide_32 : decode cX12_slide 32 = .ok (.istore 4, 2) := by decide +kernel
theorem dX12_slide_34 : decode cX12_slide 34 = .ok (.iconst 1, 1) := by decide +kernel
theorem dX12_slide_35 : decode cX12_slide 35 = .ok (.istore 5, 2) := by decide +kernel
theorem dX12_slide_37 : decode cX12_slide 37 = .ok (.iload 5, 2) := by decide +kernel
theorem dX12_slide_39 : decode cX12_slide 39 = .ok (.ifCond .eq 69, 3) := by decide +kernel
theorem dX12_slide_42 : decode cX12_slide 42 = .ok (.iconst 0, 1) := by decide +kernel
theorem dX12_slide_43 : decode cX12_slide 43 = .ok (.istore 5, 2) := by decide +kernel
theorem dX12_slide_45 : decode cX12_slide 45 = .ok (.iconst 0, 1) := by decide +kernel
theorem dX12_slide_46 : decode cX12_slide 46 = .ok (.istore 6, 2) := by decide +kernel
theorem dX12_slide_48 : decode cX12_slide 48 = .ok (.iload 6, 2) := by decide +kernel
theorem dX12_slide_50 : decode cX12_slide 50 = .ok (.aload_n 0, 1) := by decide +kernel
theorem dX12_slide_51 : decode cX12_slide 51 = .ok (.getfield 210, 3) := by decide +kernel
theorem dX12_slide_54 : decode cX12_slide 54 = .ok (.if_icmp .ge 51, 3) := by decide +kernel
theorem dX12_slide_57 : decode cX12_slide 57 = .ok (.iload 5, 2) := by decide +kernel
theorem dX12_slide_59 : decode cX12_slide 59 = .ok (.ifCond .ne 46, 3) := by decide +kernel
theorem dX12_slide_62 : decode cX12_slide 62 = .ok (.iload_n 3, 1) := by decide +kernel
theorem dX12_slide_63 : decode cX12_slide 63 = .ok (.iload 6, 2) := by decide +kernel
theorem dX12_slide_65 : decode cX12_slide 65 = .ok (.ishr, 1) := by decide +kernel
theorem dX12_slide_66 : decode cX12_slide 66 = .ok (.iconst 1, 1) := by decide +kernel
theorem dX12_slide_67 : decode cX12_slide 67 = .ok (.iand, 1) := by decide +kernel
theorem dX12_slide_68 : decode cX12_slide 68 = .ok (.iconst 1, 1) := by decide +kernel
theorem dX12_slide_69 : decode cX12_slide 69 = .ok (.if_icmp .eq 30, 3) := by decide +kernel
theorem dX12_slide_72 : decode cX12_slide 72 = .ok (.aload_n 0, 1) := by decide +kernel
theorem dX12_slide_73 : decode cX12_slide 73 = .ok (.iload_n 3, 1) := by decide +kernel
theorem dX12_slide_74 : decode cX12_slide 74 = .ok (.iload 6, 2) := by decide +kernel
theorem dX12_slide_76 : decode cX12_slide 76 = .ok (.iload_n 1, 1) := by decide +kernel
theorem dX12_slide_77 : decode cX12_slide 77 = .ok (.invokevirtual 461, 3) := by decide +kernel
theorem dX12_slide_80 : decode cX12_slide 80 = .ok (.ifCond .ne 6, 3) := by decide +kernel
theorem dX12_slide_83 : decode cX12_slide 83 = .ok (.goto 16, 3) := by decide +kernel
theorem dX12_slide_86 : decode cX12_slide 86 = .ok (.iload_n 3, 1) := by decide +kernel
theorem dX12_slide_87 : decode cX12_slide 87 = .ok (.iconst 1, 1) := by decide +kernel
theorem dX12_slide_88 : decode cX12_slide 88 = .ok (.iload 6, 2) := by decide +kernel
theorem dX12_slide_90 : decode cX12_slide 90 = .ok (.ishl, 1) := by decide +kernel
theorem dX12_slide_91 : decode cX12_slide 91 = .ok (.ior, 1) := by decide +kernel
theorem dX12_slide_92 : decode cX12_slide 92 = .ok (.istore_n 3, 1) := by decide +kernel
theorem dX12_slide_93 : decode cX12_slide 93 = .ok (.iinc 4 1, 3) := by decide +kernel
theorem dX12_slide_96 : decode cX12_slide 96 = .ok (.iconst 1, 1) := by decide +kernel
theorem dX12_slide_97 : decode cX12_slide 97 = .ok (.istore 5, 2) := by decide +kernel
theorem dX12_slide_99 : decode cX12_slide 99 = .ok (.iinc 6 1, 3) := by decide +kernel
theorem dX12_slide_102 : decode cX12_slide 102 = .ok (.goto (-54), 3) := by decide +kernel
theorem dX12_slide_105 : decode cX12_slide 105 = .ok (.goto (-68), 3) := by decide +kernel
theorem dX12_slide_108 : decode cX12_slide 108 = .ok (.iload_n 2, 1) := by decide +kernel
theorem dX12_slide_109 : decode cX12_slide 109 = .ok (.ifCond .ne 7, 3) := by decide +kernel
theorem dX12_slide_112 : decode cX12_slide 112 = .ok (.iload_n 3, 1) := by decide +kernel
theorem dX12_slide_113 : decode cX12_slide 113 = .ok (.goto 5, 3) := by decide +kernel
theorem dX12_slide_116 : decode cX12_slide 116 = .ok (.iload 4, 2) := by decide +kernel
theorem dX12_slide_118 : decode cX12_slide 118 = .ok (.ireturn, 1) := by decide +kernel
theorem dX12_triedWith_0 : decode cX12_triedWith 0 = .ok (.aload_n 0, 1) := by decide +kernel
theorem dX12_triedWith_1 : decode cX12_triedWith 1 = .ok (.aload_n 0, 1) := by decide +kernel
theorem dX12_triedWith_2 : decode cX12_triedWith 2 = .ok (.invokevirtual 464, 3) := by decide +kernel
theorem dX12_triedWith_5 : decode cX12_triedWith 5 = .ok (.bipush 30, 2) := by decide +kernel
theorem dX12_triedWith_7 : decode cX12_triedWith 7 = .ok (.iconst 0, 1) := by decide +kernel
theorem dX12_triedWith_8 : decode cX12_triedWith 8 = .ok (.iload_n 1, 1) := by decide +kernel
theorem dX12_triedWith_9 : decode cX12_triedWith 9 = .ok (.invokevirtual 457, 3) := by decide +kernel
theorem dX12_triedWith_12 : decode cX12_triedWith 12 = .ok (.iconst 0, 1) := by decide +kernel
theorem dX12_triedWith_13 : decode cX12_triedWith 13 = .ok (.istore_n 2, 1) := by decide +kernel
theorem dX12_triedWith_14 : decode cX12_triedWith 14 = .ok (.iconst 0, 1) := by decide +kernel
theorem dX12_triedWith_15 : decode cX12_triedWith 15 = .ok (.istore_n 3, 1) := by decide +kernel
theorem dX12_triedWith_16 : decode cX12_triedWith 16 = .ok (.iload_n 3, 1) := by decide +kernel
theorem dX12_triedWith_17 : decode cX12_triedWith 17 = .ok (.aload_n 0, 1) := by decide +kernel
theorem dX12_triedWith_18 : decode cX12_triedWith 18 = .ok (.getfield 210, 3) := by decide +kernel
theorem dX12_triedWith_21 : decode cX12_triedWith 21 = .ok (.if_icmp .ge 21, 3) := by decide +kernel
theorem dX12_triedWith_24 : decode cX12_triedWith 24 = .ok (.iload_n 2, 1) := by decide +kernel
theorem dX12_triedWith_25 : decode cX12_triedWith 25 = .ok (.aload_n 0, 1) := by decide +kernel
theorem dX12_triedWith_26 : decode cX12_triedWith 26 = .ok (.getfield 61, 3) := by decide +kernel
theorem dX12_triedWith_29 : decode cX12_triedWith 29 = .ok (.bipush 10, 2) := by decide +kernel
theorem dX12_triedWith_31 : decode cX12_triedWith 31 = .ok (.iload_n 3, 1) := by decide +kernel
theorem dX12_triedWith_32 : decode cX12_triedWith 32 = .ok (.iadd, 1) := by decide +kernel
theorem dX12_triedWith_33 : decode cX12_triedWith 33 = .ok (.iaload, 1) := by decide +kernel
theorem dX12_triedWith_34 : decode cX12_triedWith 34 = .ok (.iadd, 1) := by decide +kernel
theorem dX12_triedWith_35 : decode cX12_triedWith 35 = .ok (.istore_n 2, 1) := by decide +kernel
theorem dX12_triedWith_36 : decode cX12_triedWith 36 = .ok (.iinc 3 1, 3) := by decide +kernel
theorem dX12_triedWith_39 : decode cX12_triedWith 39 = .ok (.goto (-23), 3) := by decide +kernel
theorem dX12_triedWith_42 : decode cX12_triedWith 42 = .ok (.iload_n 2, 1) := by decide +kernel
theorem dX12_triedWith_43 : decode cX12_triedWith 43 = .ok (.ireturn, 1) := by decide +kernel
theorem dX12_tried_0 : decode cX12_tried 0 = .ok (.aload_n 0, 1) := by decide +kernel
theorem dX12_tried_1 : decode cX12_tried 1 = .ok (.iconst 0, 1) := by decide +kernel
theorem dX12_tried_2 : decode cX12_tried 2 = .ok (.putfield 206, 3) := by decide +kernel
theorem dX12_tried_5 : decode cX12_tried 5 = .ok (.iload_n 1, 1) := by decide +kernel
theorem dX12_tried_6 : decode cX12_tried 6 = .ok (.iconst 0, 1) := by decide +kernel
theorem dX12_tried_7 : decode cX12_tried 7 = .ok (.sipush 9999, 3) := by decide +kernel
theorem dX12_tried_10 : decode cX12_tried 10 = .ok (.invokestatic 213, 3) := by decide +kernel
theorem dX12_tried_13 : decode cX12_tried 13 = .ok (.ifCond .ne 10, 3) := by decide +kernel
theorem dX12_tried_16 : decode cX12_tried 16 = .ok (.aload_n 0, 1) := by decide +kernel
theorem dX12_tried_17 : decode cX12_tried 17 = .ok (.iconst 1, 1) := by decide +kernel
theorem dX12_tried_18 : decode cX12_tried 18 = .ok (.putfield 206, 3) := by decide +kernel
theorem dX12_tried_21 : decode cX12_tried 21 = .ok (.iconst 0, 1) := by decide +kernel
theorem dX12_tried_22 : decode cX12_tried 22 = .ok (.ireturn, 1) := by decide +kernel
theorem dX12_tried_23 : decode cX12_tried 23 = .ok (.aload_n 0, 1) := by decide +kernel
theorem dX12_tried_24 : decode cX12_tried 24 = .ok (.iload_n 1, 1) := by decide +kernel
theorem dX12_tried_25 : decode cX12_tried 25 = .ok (.invokevirtual 467, 3) := by decide +kernel
theorem dX12_tried_28 : decode cX12_tried 28 = .ok (.ireturn, 1) := by decide +kernel
theorem dX12_best_0 : decode cX12_best 0 = .ok (.aload_n 0, 1) := by decide +kernel
theorem dX12_best_1 : decode cX12_best 1 = .ok (.iconst 0, 1) := by decide +kernel
theorem dX12_best_2 : decode cX12_best 2 = .ok (.putfield 206, 3) := by decide +kernel
theorem dX12_best_5 : decode cX12_best 5 = .ok (.iload_n 1, 1) := by decide +kernel
theorem dX12_best_6 : decode cX12_best 6 = .ok (.iconst 1, 1) := by decide +kernel
theorem dX12_best_7 : decode cX12_best 7 = .ok (.sipush 400, 3) := by decide +kernel
theorem dX12_best_10 : decode cX12_best 10 = .ok (.invokestatic 213, 3) := by decide +kernel
theorem dX12_best_13 : decode cX12_best 13 = .ok (.ifCond .ne 5, 3) := by decide +kernel
theorem dX12_best_16 : decode cX12_best 16 = .ok (.iconst (-1), 1) := by decide +kernel
theorem dX12_best_17 : decode cX12_best 17 = .ok (.ireturn, 1) := by decide +kernel
theorem dX12_best_18 : decode cX12_best 18 = .ok (.iconst 0, 1) := by decide +kernel
theorem dX12_best_19 : decode cX12_best 19 = .ok (.istore_n 2, 1) := by decide +kernel
theorem dX12_best_20 : decode cX12_best 20 = .ok (.aload_n 0, 1) := by decide +kernel
theorem dX12_best_21 : decode cX12_best 21 = .ok (.iconst 0, 1) := by decide +kernel
theorem dX12_best_22 : decode cX12_best 22 = .ok (.invokevirtual 467, 3) := by decide +kernel
theorem dX12_best_25 : decode cX12_best 25 = .ok (.istore_n 3, 1) := by decide +kernel
theorem dX12_best_26 : decode cX12_best 26 = .ok (.iconst 1, 1) := by decide +kernel
theorem dX12_best_27 : decode cX12_best 27 = .ok (.istore 4, 2) := by decide +kernel
theorem dX12_best_29 : decode cX12_best 29 = .ok (.iload 4, 2) := by decide +kernel
theorem dX12_best_31 : decode cX12_best 31 = .ok (.bipush 20, 2) := by decide +kernel
theorem dX12_best_33 : decode cX12_best 33 = .ok (.if_icmp .gt 36, 3) := by decide +kernel
theorem dX12_best_36 : decode cX12_best 36 = .ok (.aload_n 0, 1) := by decide +kernel
theorem dX12_best_37 : decode cX12_best 37 = .ok (.iload 4, 2) := by decide +kernel
theorem dX12_best_39 : decode cX12_best 39 = .ok (.iload_n 1, 1) := by decide +kernel
theorem dX12_best_40 : decode cX12_best 40 = .ok (.imul, 1) := by decide +kernel
theorem dX12_best_41 : decode cX12_best 41 = .ok (.invokevirtual 467, 3) := by decide +kernel
theorem dX12_best_44 : decode cX12_best 44 = .ok (.istore 5, 2) := by decide +kernel
theorem dX12_best_46 : decode cX12_best 46 = .ok (.iload 5, 2) := by decide +kernel
theorem dX12_best_48 : decode cX12_best 48 = .ok (.iload_n 3, 1) := by decide +kernel
theorem dX12_best_49 : decode cX12_best 49 = .ok (.if_icmp .gt 6, 3) := by decide +kernel
theorem dX12_best_52 : decode cX12_best 52 = .ok (.goto 11, 3) := by decide +kernel
theorem dX12_best_55 : decode cX12_best 55 = .ok (.iload 5, 2) := by decide +kernel
theorem dX12_best_57 : decode cX12_best 57 = .ok (.istore_n 3, 1) := by decide +kernel
theorem dX12_best_58 : decode cX12_best 58 = .ok (.iload 4, 2) := by decide +kernel
theorem dX12_best_60 : decode cX12_best 60 = .ok (.iload_n 1, 1) := by decide +kernel
theorem dX12_best_61 : decode cX12_best 61 = .ok (.imul, 1) := by decide +kernel
theorem dX12_best_62 : decode cX12_best 62 = .ok (.istore_n 2, 1) := by decide +kernel
theorem dX12_best_63 : decode cX12_best 63 = .ok (.iinc 4 1, 3) := by decide +kernel
theorem dX12_best_66 : decode cX12_best 66 = .ok (.goto (-37), 3) := by decide +kernel
theorem dX12_best_69 : decode cX12_best 69 = .ok (.iload_n 2, 1) := by decide +kernel
theorem dX12_best_70 : decode cX12_best 70 = .ok (.ireturn, 1) := by decide +kernel
theorem dX12_foretold_0 : decode cX12_foretold 0 = .ok (.aload_n 0, 1) := by decide +kernel
theorem dX12_foretold_1 : decode cX12_foretold 1 = .ok (.iconst 0, 1) := by decide +kernel
theorem dX12_foretold_2 : decode cX12_foretold 2 = .ok (.putfield 206, 3) := by decide +kernel
theorem dX12_foretold_5 : decode cX12_foretold 5 = .ok (.aload_n 0, 1) := by decide +kernel
theorem dX12_foretold_6 : decode cX12_foretold 6 = .ok (.aload_n 0, 1) := by decide +kernel
theorem dX12_foretold_7 : decode cX12_foretold 7 = .ok (.invokevirtual 464, 3) := by decide +kernel
theorem dX12_foretold_10 : decode cX12_foretold 10 = .ok (.bipush 60, 2) := by decide +kernel
theorem dX12_foretold_12 : decode cX12_foretold 12 = .ok (.iload_n 1, 1) := by decide +kernel
theorem dX12_foretold_13 : decode cX12_foretold 13 = .ok (.iconst (-1), 1) := by decide +kernel
theorem dX12_foretold_14 : decode cX12_foretold 14 = .ok (.invokevirtual 457, 3) := by decide +kernel
theorem dX12_foretold_17 : decode cX12_foretold 17 = .ok (.aload_n 0, 1) := by decide +kernel
theorem dX12_foretold_18 : decode cX12_foretold 18 = .ok (.getfield 7, 3) := by decide +kernel
theorem dX12_foretold_21 : decode cX12_foretold 21 = .ok (.iconst 0, 1) := by decide +kernel
theorem dX12_foretold_22 : decode cX12_foretold 22 = .ok (.iaload, 1) := by decide +kernel
theorem dX12_foretold_23 : decode cX12_foretold 23 = .ok (.iconst 1, 1) := by decide +kernel
theorem dX12_foretold_24 : decode cX12_foretold 24 = .ok (.iadd, 1) := by decide +kernel
theorem dX12_foretold_25 : decode cX12_foretold 25 = .ok (.istore_n 2, 1) := by decide +kernel
theorem dX12_foretold_26 : decode cX12_foretold 26 = .ok (.iload_n 2, 1) := by decide +kernel
theorem dX12_foretold_27 : decode cX12_foretold 27 = .ok (.aload_n 0, 1) := by decide +kernel
theorem dX12_foretold_28 : decode cX12_foretold 28 = .ok (.getfield 7, 3) := by decide +kernel
theorem dX12_foretold_31 : decode cX12_foretold 31 = .ok (.iconst 1, 1) := by decide +kernel
theorem dX12_foretold_32 : decode cX12_foretold 32 = .ok (.iaload, 1) := by decide +kernel
theorem dX12_foretold_33 : decode cX12_foretold 33 = .ok (.if_icmp .gt 24, 3) := by decide +kernel
theorem dX12_foretold_36 : decode cX12_foretold 36 = .ok (.aload_n 0, 1) := by decide +kernel
theorem dX12_foretold_37 : decode cX12_foretold 37 = .ok (.getfield 89, 3) := by decide +kernel
theorem dX12_foretold_40 : decode cX12_foretold 40 = .ok (.sipush 721, 3) := by decide +kernel
theorem dX12_foretold_43 : decode cX12_foretold 43 = .ok (.iload_n 2, 1) := by decide +kernel
theorem dX12_foretold_44 : decode cX12_foretold 44 = .ok (.iadd, 1) := by decide +kernel
theorem dX12_foretold_45 : decode cX12_foretold 45 = .ok (.baload, 1) := by decide +kernel
theorem dX12_foretold_46 : decode cX12_foretold 46 = .ok (.ifCond .eq 5, 3) := by decide +kernel
theorem dX12_foretold_49 : decode cX12_foretold 49 = .ok (.iload_n 2, 1) := by decide +kernel
theorem dX12_foretold_50 : decode cX12_foretold 50 = .ok (.ireturn, 1) := by decide +kernel
theorem dX12_foretold_51 : decode cX12_foretold 51 = .ok (.iinc 2 1, 3) := by decide +kernel
theorem dX12_foretold_54 : decode cX12_foretold 54 = .ok (.goto (-28), 3) := by decide +kernel
theorem dX12_foretold_57 : decode cX12_foretold 57 = .ok (.iconst (-1), 1) := by decide +kernel
theorem dX12_foretold_58 : decode cX12_foretold 58 = .ok (.ireturn, 1) := by decide +kernel
theorem dX12_look_0 : decode cX12_look 0 = .ok (.aload_n 0, 1) := by decide +kernel
theorem dX12_look_1 : decode cX12_look 1 = .ok (.iconst 0, 1) := by decide +kernel
theorem dX12_look_2 : decode cX12_look 2 = .ok (.putfield 206, 3) := by decide +kernel
theorem dX12_look_5 : decode cX12_look 5 = .ok (.aload_n 0, 1) := by decide +kernel
theorem dX12_look_6 : decode cX12_look 6 = .ok (.iload_n 1, 1) := by decide +kernel
theorem dX12_look_7 : decode cX12_look 7 = .ok (.invokevirtual 217, 3) := by decide +kernel
theorem dX12_look_10 : decode cX12_look 10 = .ok (.ifCond .eq 13, 3) := by decide +kernel
theorem dX12_look_13 : decode cX12_look 13 = .ok (.iload_n 2, 1) := by decide +kernel
theorem dX12_look_14 : decode cX12_look 14 = .ok (.iconst 0, 1) := by decide +kernel
theorem dX12_look_15 : decode cX12_look 15 = .ok (.bipush 9, 2) := by decide +kernel
theorem dX12_look_17 : decode cX12_look 17 = .ok (.invokestatic 213, 3) := by decide +kernel
theorem dX12_look_20 : decode cX12_look 20 = .ok (.ifCond .ne 10, 3) := by decide +kernel
theorem dX12_look_23 : decode cX12_look 23 = .ok (.aload_n 0, 1) := by decide +kernel
theorem dX12_look_24 : decode cX12_look 24 = .ok (.iconst 1, 1) := by decide +kernel
theorem dX12_look_25 : decode cX12_look 25 = .ok (.putfield 206, 3) := by decide +kernel
theorem dX12_look_28 : decode cX12_look 28 = .ok (.iconst 0, 1) := by decide +kernel
theorem dX12_look_29 : decode cX12_look 29 = .ok (.ireturn, 1) := by decide +kernel
theorem dX12_look_30 : decode cX12_look 30 = .ok (.iload_n 2, 1) := by decide +kernel
theorem dX12_look_31 : decode cX12_look 31 = .ok (.tableswitch 137 0 8 #[49, 56, 63, 87, 94, 109, 116, 123, 130], 49) := by decide +kernel
theorem dX12_look_80 : decode cX12_look 80 = .ok (.aload_n 0, 1) := by decide +kernel
theorem dX12_look_81 : decode cX12_look 81 = .ok (.getfield 52, 3) := by decide +kernel
theorem dX12_look_84 : decode cX12_look 84 = .ok (.iload_n 1, 1) := by decide +kernel
theorem dX12_look_85 : decode cX12_look 85 = .ok (.iaload, 1) := by decide +kernel
theorem dX12_look_86 : decode cX12_look 86 = .ok (.ireturn, 1) := by decide +kernel
theorem dX12_look_87 : decode cX12_look 87 = .ok (.aload_n 0, 1) := by decide +kernel
theorem dX12_look_88 : decode cX12_look 88 = .ok (.getfield 55, 3) := by decide +kernel
theorem dX12_look_91 : decode cX12_look 91 = .ok (.iload_n 1, 1) := by decide +kernel
theorem dX12_look_92 : decode cX12_look 92 = .ok (.iaload, 1) := by decide +kernel
theorem dX12_look_93 : decode cX12_look 93 = .ok (.ireturn, 1) := by decide +kernel
theorem dX12_look_94 : decode cX12_look 94 = .ok (.aload_n 0, 1) := by decide +kernel
theorem dX12_look_95 : decode cX12_look 95 = .ok (.getfield 28, 3) := by decide +kernel
theorem dX12_look_98 : decode cX12_look 98 = .ok (.iconst 0, 1) := by decide +kernel
theorem dX12_look_99 : decode cX12_look 99 = .ok (.iaload, 1) := by decide +kernel
theorem dX12_look_100 : decode cX12_look 100 = .ok (.ifCond .ge 7, 3) := by decide +kernel
theorem dX12_look_103 : decode cX12_look 103 = .ok (.iconst (-1), 1) := by decide +kernel
theorem dX12_look_104 : decode cX12_look 104 = .ok (.goto 13, 3) := by decide +kernel
theorem dX12_look_107 : decode cX12_look 107 = .ok (.iconst 0, 1) := by decide +kernel
theorem dX12_look_108 : decode cX12_look 108 = .ok (.aload_n 0, 1) := by decide +kernel
theorem dX12_look_109 : decode cX12_look 109 = .ok (.getfield 58, 3) := by decide +kernel
theorem dX12_look_112 : decode cX12_look 112 = .ok (.iload_n 1, 1) := by decide +kernel
theorem dX12_look_113 : decode cX12_look 113 = .ok (.iaload, 1) := by decide +kernel
theorem dX12_look_114 : decode cX12_look 114 = .ok (.invokestatic 228, 3) := by decide +kernel
theorem dX12_look_117 : decode cX12_look 117 = .ok (.ireturn, 1) := by decide +kernel
theorem dX12_look_118 : decode cX12_look 118 = .ok (.aload_n 0, 1) := by decide +kernel
theorem dX12_look_119 : decode cX12_look 119 = .ok (.getfield 61, 3) := by decide +kernel
theorem dX12_look_122 : decode cX12_look 122 = .ok (.iload_n 1, 1) := by decide +kernel
theorem dX12_look_123 : decode cX12_look 123 = .ok (.iaload, 1) := by decide +kernel
theorem dX12_look_124 : decode cX12_look 124 = .ok (.ireturn, 1) := by decide +kernel
theorem dX12_look_125 : decode cX12_look 125 = .ok (.aload_n 0, 1) := by decide +kernel
theorem dX12_look_126 : decode cX12_look 126 = .ok (.getfield 64, 3) := by decide +kernel
theorem dX12_look_129 : decode cX12_look 129 = .ok (.iload_n 1, 1) := by decide +kernel
theorem dX12_look_130 : decode cX12_look 130 = .ok (.baload, 1) := by decide +kernel
theorem dX12_look_131 : decode cX12_look 131 = .ok (.ifCond .eq 7, 3) := by decide +kernel
theorem dX12_look_134 : decode cX12_look 134 = .ok (.iconst 1, 1) := by decide +kernel
theorem dX12_look_135 : decode cX12_look 135 = .ok (.goto 4, 3) := by decide +kernel
theorem dX12_look_138 : decode cX12_look 138 = .ok (.iconst 0, 1) := by decide +kernel
theorem dX12_look_139 : decode cX12_look 139 = .ok (.ireturn, 1) := by decide +kernel
theorem dX12_look_140 : decode cX12_look 140 = .ok (.aload_n 0, 1) := by decide +kernel
theorem dX12_look_141 : decode cX12_look 141 = .ok (.getfield 92, 3) := by decide +kernel
theorem dX12_look_144 : decode cX12_look 144 = .ok (.iload_n 1, 1) := by decide +kernel
theorem dX12_look_145 : decode cX12_look 145 = .ok (.iaload, 1) := by decide +kernel
theorem dX12_look_146 : decode cX12_look 146 = .ok (.ireturn, 1) := by decide +kernel
theorem dX12_look_147 : decode cX12_look 147 = .ok (.aload_n 0, 1) := by decide +kernel
theorem dX12_look_148 : decode cX12_look 148 = .ok (.getfield 95, 3) := by decide +kernel
theorem dX12_look_151 : decode cX12_look 151 = .ok (.iload_n 1, 1) := by decide +kernel
theorem dX12_look_152 : decode cX12_look 152 = .ok (.iaload, 1) := by decide +kernel
theorem dX12_look_153 : decode cX12_look 153 = .ok (.ireturn, 1) := by decide +kernel
theorem dX12_look_154 : decode cX12_look 154 = .ok (.aload_n 0, 1) := by decide +kernel
theorem dX12_look_155 : decode cX12_look 155 = .ok (.getfield 98, 3) := by decide +kernel
theorem dX12_look_158 : decode cX12_look 158 = .ok (.iload_n 1, 1) := by decide +kernel
theorem dX12_look_159 : decode cX12_look 159 = .ok (.iaload, 1) := by decide +kernel
theorem dX12_look_160 : decode cX12_look 160 = .ok (.ireturn, 1) := by decide +kernel
theorem dX12_look_161 : decode cX12_look 161 = .ok (.aload_n 0, 1) := by decide +kernel
theorem dX12_look_162 : decode cX12_look 162 = .ok (.getfield 101, 3) := by decide +kernel
theorem dX12_look_165 : decode cX12_look 165 = .ok (.iload_n 1, 1) := by decide +kernel
theorem dX12_look_166 : decode cX12_look 166 = .ok (.iaload, 1) := by decide +kernel
theorem dX12_look_167 : decode cX12_look 167 = .ok (.ireturn, 1) := by decide +kernel
theorem dX12_look_168 : decode cX12_look 168 = .ok (.aload_n 0, 1) := by decide +kernel
theorem dX12_look_169 : decode cX12_look 169 = .ok (.getfield 104, 3) := by decide +kernel
theorem dX12_look_172 : decode cX12_look 172 = .ok (.iload_n 1, 1) := by decide +kernel
theorem dX12_look_173 : decode cX12_look 173 = .ok (.iaload, 1) := by decide +kernel
theorem dX12_look_174 : decode cX12_look 174 = .ok (.ireturn, 1) := by decide +kernel
theorem dX12_month_0 : decode cX12_month 0 = .ok (.aload_n 0, 1) := by decide +kernel
theorem dX12_month_1 : decode cX12_month 1 = .ok (.iconst 0, 1) := by decide +kernel
theorem dX12_month_2 : decode cX12_month 2 = .ok (.putfield 206, 3) := by decide +kernel
theorem dX12_month_5 : decode cX12_month 5 = .ok (.aload_n 0, 1) := by decide +kernel
theorem dX12_month_6 : decode cX12_month 6 = .ok (.iload_n 1, 1) := by decide +kernel
theorem dX12_month_7 : decode cX12_month 7 = .ok (.iload_n 2, 1) := by decide +kernel
theorem dX12_month_8 : decode cX12_month 8 = .ok (.invokevirtual 430, 3) := by decide +kernel
theorem dX12_month_11 : decode cX12_month 11 = .ok (.ifCond .eq 12, 3) := by decide +kernel
theorem dX12_month_14 : decode cX12_month 14 = .ok (.iload_n 3, 1) := by decide +kernel
theorem dX12_month_15 : decode cX12_month 15 = .ok (.iconst 0, 1) := by decide +kernel
theorem dX12_month_16 : decode cX12_month 16 = .ok (.iconst 1, 1) := by decide +kernel
theorem dX12_month_17 : decode cX12_month 17 = .ok (.invokestatic 213, 3) := by decide +kernel
theorem dX12_month_20 : decode cX12_month 20 = .ok (.ifCond .ne 5, 3) := by decide +kernel
theorem dX12_month_23 : decode cX12_month 23 = .ok (.iconst (-1), 1) := by decide +kernel
theorem dX12_month_24 : decode cX12_month 24 = .ok (.ireturn, 1) := by decide +kernel
theorem dX12_month_25 : decode cX12_month 25 = .ok (.iload_n 3, 1) := by decide +kernel
theorem dX12_month_26 : decode cX12_month 26 = .ok (.ifCond .ne 17, 3) := by decide +kernel
theorem dX12_month_29 : decode cX12_month 29 = .ok (.aload_n 0, 1) := by decide +kernel
theorem dX12_month_30 : decode cX12_month 30 = .ok (.getfield 83, 3) := by decide +kernel
theorem dX12_month_33 : decode cX12_month 33 = .ok (.bipush 10, 2) := by decide +kernel
theorem dX12_month_35 : decode cX12_month 35 = .ok (.iload_n 2, 1) := by decide +kernel
theorem dX12_month_36 : decode cX12_month 36 = .ok (.imul, 1) := by decide +kernel
theorem dX12_month_37 : decode cX12_month 37 = .ok (.iload_n 1, 1) := by decide +kernel
theorem dX12_month_38 : decode cX12_month 38 = .ok (.iadd, 1) := by decide +kernel
theorem dX12_month_39 : decode cX12_month 39 = .ok (.iaload, 1) := by decide +kernel
theorem dX12_month_40 : decode cX12_month 40 = .ok (.goto 31, 3) := by decide +kernel
theorem dX12_month_43 : decode cX12_month 43 = .ok (.aload_n 0, 1) := by decide +kernel
theorem dX12_month_44 : decode cX12_month 44 = .ok (.getfield 116, 3) := by decide +kernel
theorem dX12_month_47 : decode cX12_month 47 = .ok (.iload_n 2, 1) := by decide +kernel
theorem dX12_month_48 : decode cX12_month 48 = .ok (.iaload, 1) := by decide +kernel
theorem dX12_month_49 : decode cX12_month 49 = .ok (.ifCond .ge 7, 3) := by decide +kernel
theorem dX12_month_52 : decode cX12_month 52 = .ok (.iconst (-1), 1) := by decide +kernel
theorem dX12_month_53 : decode cX12_month 53 = .ok (.goto 18, 3) := by decide +kernel
theorem dX12_month_56 : decode cX12_month 56 = .ok (.iconst 0, 1) := by decide +kernel
theorem dX12_month_57 : decode cX12_month 57 = .ok (.aload_n 0, 1) := by decide +kernel
theorem dX12_month_58 : decode cX12_month 58 = .ok (.getfield 86, 3) := by decide +kernel
theorem dX12_month_61 : decode cX12_month 61 = .ok (.bipush 10, 2) := by decide +kernel
theorem dX12_month_63 : decode cX12_month 63 = .ok (.iload_n 2, 1) := by decide +kernel
theorem dX12_month_64 : decode cX12_month 64 = .ok (.imul, 1) := by decide +kernel
theorem dX12_month_65 : decode cX12_month 65 = .ok (.iload_n 1, 1) := by decide +kernel
theorem dX12_month_66 : decode cX12_month 66 = .ok (.iadd, 1) := by decide +kernel
theorem dX12_month_67 : decode cX12_month 67 = .ok (.iaload, 1) := by decide +kernel
theorem dX12_month_68 : decode cX12_month 68 = .ok (.invokestatic 228, 3) := by decide +kernel
theorem dX12_month_71 : decode cX12_month 71 = .ok (.ireturn, 1) := by decide +kernel
theorem dX12_lies_0 : decode cX12_lies 0 = .ok (.aload_n 0, 1) := by decide +kernel
theorem dX12_lies_1 : decode cX12_lies 1 = .ok (.iconst 0, 1) := by decide +kernel
theorem dX12_lies_2 : decode cX12_lies 2 = .ok (.putfield 206, 3) := by decide +kernel
theorem dX12_lies_5 : decode cX12_lies 5 = .ok (.iload_n 1, 1) := by decide +kernel
theorem dX12_lies_6 : decode cX12_lies 6 = .ok (.iconst 0, 1) := by decide +kernel
theorem dX12_lies_7 : decode cX12_lies 7 = .ok (.aload_n 0, 1) := by decide +kernel
theorem dX12_lies_8 : decode cX12_lies 8 = .ok (.getfield 221, 3) := by decide +kernel
theorem dX12_lies_11 : decode cX12_lies 11 = .ok (.iconst 1, 1) := by decide +kernel
theorem dX12_lies_12 : decode cX12_lies 12 = .ok (.isub, 1) := by decide +kernel
theorem dX12_lies_13 : decode cX12_lies 13 = .ok (.invokestatic 213, 3) := by decide +kernel
theorem dX12_lies_16 : decode cX12_lies 16 = .ok (.ifCond .eq 12, 3) := by decide +kernel
theorem dX12_lies_19 : decode cX12_lies 19 = .ok (.iload_n 2, 1) := by decide +kernel
theorem dX12_lies_20 : decode cX12_lies 20 = .ok (.iconst 0, 1) := by decide +kernel
theorem dX12_lies_21 : decode cX12_lies 21 = .ok (.iconst 3, 1) := by decide +kernel
theorem dX12_lies_22 : decode cX12_lies 22 = .ok (.invokestatic 213, 3) := by decide +kernel
theorem dX12_lies_25 : decode cX12_lies 25 = .ok (.ifCond .ne 5, 3) := by decide +kernel
theorem dX12_lies_28 : decode cX12_lies 28 = .ok (.iconst (-1), 1) := by decide +kernel
theorem dX12_lies_29 : decode cX12_lies 29 = .ok (.ireturn, 1) := by decide +kernel
theorem dX12_lies_30 : decode cX12_lies 30 = .ok (.iload_n 2, 1) := by decide +kernel
theorem dX12_lies_31 : decode cX12_lies 31 = .ok (.ifCond .ne 12, 3) := by decide +kernel
theorem dX12_lies_34 : decode cX12_lies 34 = .ok (.aload_n 0, 1) := by decide +kernel
theorem dX12_lies_35 : decode cX12_lies 35 = .ok (.getfield 68, 3) := by decide +kernel
theorem dX12_lies_38 : decode cX12_lies 38 = .ok (.iload_n 1, 1) := by decide +kernel
theorem dX12_lies_39 : decode cX12_lies 39 = .ok (.iaload, 1) := by decide +kernel
theorem dX12_lies_40 : decode cX12_lies 40 = .ok (.goto 53, 3) := by decide +kernel
theorem dX12_lies_43 : decode cX12_lies 43 = .ok (.iload_n 2, 1) := by decide +kernel
theorem dX12_lies_44 : decode cX12_lies 44 = .ok (.iconst 1, 1) := by decide +kernel
theorem dX12_lies_45 : decode cX12_lies 45 = .ok (.if_icmp .ne 12, 3) := by decide +kernel
theorem dX12_lies_48 : decode cX12_lies 48 = .ok (.aload_n 0, 1) := by decide +kernel
theorem dX12_lies_49 : decode cX12_lies 49 = .ok (.getfield 71, 3) := by decide +kernel
theorem dX12_lies_52 : decode cX12_lies 52 = .ok (.iload_n 1, 1) := by decide +kernel
theorem dX12_lies_53 : decode cX12_lies 53 = .ok (.iaload, 1) := by decide +kernel
theorem dX12_lies_54 : decode cX12_lies 54 = .ok (.goto 39, 3) := by decide +kernel
theorem dX12_lies_57 : decode cX12_lies 57 = .ok (.iload_n 2, 1) := by decide +kernel
theorem dX12_lies_58 : decode cX12_lies 58 = .ok (.iconst 2, 1) := by decide +kernel
theorem dX12_lies_59 : decode cX12_lies 59 = .ok (.if_icmp .ne 28, 3) := by decide +kernel
theorem dX12_lies_62 : decode cX12_lies 62 = .ok (.aload_n 0, 1) := by decide +kernel
theorem dX12_lies_63 : decode cX12_lies 63 = .ok (.getfield 68, 3) := by decide +kernel
theorem dX12_lies_66 : decode cX12_lies 66 = .ok (.iload_n 1, 1) := by decide +kernel
theorem dX12_lies_67 : decode cX12_lies 67 = .ok (.iaload, 1) := by decide +kernel
theorem dX12_lies_68 : decode cX12_lies 68 = .ok (.iconst 1, 1) := by decide +kernel
theorem dX12_lies_69 : decode cX12_lies 69 = .ok (.iand, 1) := by decide +kernel
theorem dX12_lies_70 : decode cX12_lies 70 = .ok (.iconst 1, 1) := by decide +kernel
theorem dX12_lies_71 : decode cX12_lies 71 = .ok (.if_icmp .ne 12, 3) := by decide +kernel
theorem dX12_lies_74 : decode cX12_lies 74 = .ok (.aload_n 0, 1) := by decide +kernel
theorem dX12_lies_75 : decode cX12_lies 75 = .ok (.getfield 74, 3) := by decide +kernel
theorem dX12_lies_78 : decode cX12_lies 78 = .ok (.iload_n 1, 1) := by decide +kernel
theorem dX12_lies_79 : decode cX12_lies 79 = .ok (.iaload, 1) := by decide +kernel
theorem dX12_lies_80 : decode cX12_lies 80 = .ok (.goto 13, 3) := by decide +kernel
theorem dX12_lies_83 : decode cX12_lies 83 = .ok (.iconst 0, 1) := by decide +kernel
theorem dX12_lies_84 : decode cX12_lies 84 = .ok (.goto 9, 3) := by decide +kernel
theorem dX12_lies_87 : decode cX12_lies 87 = .ok (.aload_n 0, 1) := by decide +kernel
theorem dX12_lies_88 : decode cX12_lies 88 = .ok (.getfield 77, 3) := by decide +kernel
theorem dX12_lies_91 : decode cX12_lies 91 = .ok (.iload_n 1, 1) := by decide +kernel
theorem dX12_lies_92 : decode cX12_lies 92 = .ok (.iaload, 1) := by decide +kernel
theorem dX12_lies_93 : decode cX12_lies 93 = .ok (.ireturn, 1) := by decide +kernel
theorem dX12_load_0 : decode cX12_load 0 = .ok (.aload_n 0, 1) := by decide +kernel
theorem dX12_load_1 : decode cX12_load 1 = .ok (.iconst 0, 1) := by decide +kernel
theorem dX12_load_2 : decode cX12_load 2 = .ok (.putfield 206, 3) := by decide +kernel
theorem dX12_load_5 : decode cX12_load 5 = .ok (.iload_n 1, 1) := by decide +kernel
theorem dX12_load_6 : decode cX12_load 6 = .ok (.iconst 0, 1) := by decide +kernel
theorem dX12_load_7 : decode cX12_load 7 = .ok (.aload_n 0, 1) := by decide +kernel
theorem dX12_load_8 : decode cX12_load 8 = .ok (.getfield 221, 3) := by decide +kernel
theorem dX12_load_11 : decode cX12_load 11 = .ok (.iconst 1, 1) := by decide +kernel
theorem dX12_load_12 : decode cX12_load 12 = .ok (.isub, 1) := by decide +kernel
theorem dX12_load_13 : decode cX12_load 13 = .ok (.invokestatic 213, 3) := by decide +kernel
theorem dX12_load_16 : decode cX12_load 16 = .ok (.ifCond .eq 33, 3) := by decide +kernel
theorem dX12_load_19 : decode cX12_load 19 = .ok (.iload_n 2, 1) := by decide +kernel
theorem dX12_load_20 : decode cX12_load 20 = .ok (.iconst 0, 1) := by decide +kernel
theorem dX12_load_21 : decode cX12_load 21 = .ok (.aload_n 0, 1) := by decide +kernel
theorem dX12_load_22 : decode cX12_load 22 = .ok (.getfield 71, 3) := by decide +kernel
theorem dX12_load_25 : decode cX12_load 25 = .ok (.iload_n 1, 1) := by decide +kernel
theorem dX12_load_26 : decode cX12_load 26 = .ok (.iaload, 1) := by decide +kernel
theorem dX12_load_27 : decode cX12_load 27 = .ok (.iconst 1, 1) := by decide +kernel
theorem dX12_load_28 : decode cX12_load 28 = .ok (.isub, 1) := by decide +kernel
theorem dX12_load_29 : decode cX12_load 29 = .ok (.invokestatic 213, 3) := by decide +kernel
theorem dX12_load_32 : decode cX12_load 32 = .ok (.ifCond .eq 17, 3) := by decide +kernel
theorem dX12_load_35 : decode cX12_load 35 = .ok (.aload_n 0, 1) := by decide +kernel
theorem dX12_load_36 : decode cX12_load 36 = .ok (.getfield 80, 3) := by decide +kernel
theorem dX12_load_39 : decode cX12_load 39 = .ok (.bipush 12, 2) := by decide +kernel
theorem dX12_load_41 : decode cX12_load 41 = .ok (.iload_n 1, 1) := by decide +kernel
theorem dX12_load_42 : decode cX12_load 42 = .ok (.imul, 1) := by decide +kernel
theorem dX12_load_43 : decode cX12_load 43 = .ok (.iload_n 2, 1) := by decide +kernel
theorem dX12_load_44 : decode cX12_load 44 = .ok (.iadd, 1) := by decide +kernel
theorem dX12_load_45 : decode cX12_load 45 = .ok (.iaload, 1) := by decide +kernel
theorem dX12_load_46 : decode cX12_load 46 = .ok (.goto 4, 3) := by decide +kernel
theorem dX12_load_49 : decode cX12_load 49 = .ok (.iconst (-1), 1) := by decide +kernel
theorem dX12_load_50 : decode cX12_load 50 = .ok (.ireturn, 1) := by decide +kernel
theorem dX12_count_0 : decode cX12_count 0 = .ok (.aload_n 0, 1) := by decide +kernel
theorem dX12_count_1 : decode cX12_count 1 = .ok (.iconst 0, 1) := by decide +kernel
theorem dX12_count_2 : decode cX12_count 2 = .ok (.putfield 206, 3) := by decide +kernel
theorem dX12_count_5 : decode cX12_count 5 = .ok (.iload_n 1, 1) := by decide +kernel
theorem dX12_count_6 : decode cX12_count 6 = .ok (.tableswitch 233 0 16 #[82, 89, 94, 99, 106, 113, 128, 148, 153, 158, 163, 170, 177, 209, 214, 219, 226], 82) := by decide +kernel
theorem dX12_count_88 : decode cX12_count 88 = .ok (.aload_n 0, 1) := by decide +kernel
theorem dX12_count_89 : decode cX12_count 89 = .ok (.getfield 7, 3) := by decide +kernel
theorem dX12_count_92 : decode cX12_count 92 = .ok (.iconst 0, 1) := by decide +kernel
theorem dX12_count_93 : decode cX12_count 93 = .ok (.iaload, 1) := by decide +kernel
theorem dX12_count_94 : decode cX12_count 94 = .ok (.ireturn, 1) := by decide +kernel
theorem dX12_count_95 : decode cX12_count 95 = .ok (.aload_n 0, 1) := by decide +kernel
theorem dX12_count_96 : decode cX12_count 96 = .ok (.getfield 210, 3) := by decide +kernel
theorem dX12_count_99 : decode cX12_count 99 = .ok (.ireturn, 1) := by decide +kernel
theorem dX12_count_100 : decode cX12_count 100 = .ok (.aload_n 0, 1) := by decide +kernel
theorem dX12_count_101 : decode cX12_count 101 = .ok (.getfield 221, 3) := by decide +kernel
theorem dX12_count_104 : decode cX12_count 104 = .ok (.ireturn, 1) := by decide +kernel
theorem dX12_count_105 : decode cX12_count 105 = .ok (.aload_n 0, 1) := by decide +kernel
theorem dX12_count_106 : decode cX12_count 106 = .ok (.getfield 13, 3) := by decide +kernel
theorem dX12_count_109 : decode cX12_count 109 = .ok (.iconst 0, 1) := by decide +kernel
theorem dX12_count_110 : decode cX12_count 110 = .ok (.iaload, 1) := by decide +kernel
theorem dX12_count_111 : decode cX12_count 111 = .ok (.ireturn, 1) := by decide +kernel
theorem dX12_count_112 : decode cX12_count 112 = .ok (.aload_n 0, 1) := by decide +kernel
theorem dX12_count_113 : decode cX12_count 113 = .ok (.getfield 19, 3) := by decide +kernel
theorem dX12_count_116 : decode cX12_count 116 = .ok (.iconst 0, 1) := by decide +kernel
theorem dX12_count_117 : decode cX12_count 117 = .ok (.iaload, 1) := by decide +kernel
theorem dX12_count_118 : decode cX12_count 118 = .ok (.ireturn, 1) := by decide +kernel
theorem dX12_count_119 : decode cX12_count 119 = .ok (.aload_n 0, 1) := by decide +kernel
theorem dX12_count_120 : decode cX12_count 120 = .ok (.getfield 28, 3) := by decide +kernel
theorem dX12_count_123 : decode cX12_count 123 = .ok (.iconst 0, 1) := by decide +kernel
theorem dX12_count_124 : decode cX12_count 124 = .ok (.iaload, 1) := by decide +kernel
theorem dX12_count_125 : decode cX12_count 125 = .ok (.ifCond .ge 7, 3) := by decide +kernel
theorem dX12_count_128 : decode cX12_count 128 = .ok (.iconst 0, 1) := by decide +kernel
theorem dX12_count_129 : decode cX12_count 129 = .ok (.goto 4, 3) := by decide +kernel
theorem dX12_count_132 : decode cX12_count 132 = .ok (.iconst 1, 1) := by decide +kernel
theorem dX12_count_133 : decode cX12_count 133 = .ok (.ireturn, 1) := by decide +kernel
theorem dX12_count_134 : decode cX12_count 134 = .ok (.aload_n 0, 1) := by decide +kernel
theorem dX12_count_135 : decode cX12_count 135 = .ok (.getfield 28, 3) := by decide +kernel
theorem dX12_count_138 : decode cX12_count 138 = .ok (.iconst 0, 1) := by decide +kernel
theorem dX12_count_139 : decode cX12_count 139 = .ok (.iaload, 1) := by decide +kernel
theorem dX12_count_140 : decode cX12_count 140 = .ok (.ifCond .ge 7, 3) := by decide +kernel
theorem dX12_count_143 : decode cX12_count 143 = .ok (.iconst (-1), 1) := by decide +kernel
theorem dX12_count_144 : decode cX12_count 144 = .ok (.goto 9, 3) := by decide +kernel
theorem dX12_count_147 : decode cX12_count 147 = .ok (.aload_n 0, 1) := by decide +kernel
theorem dX12_count_148 : decode cX12_count 148 = .ok (.getfield 31, 3) := by decide +kernel
theorem dX12_count_151 : decode cX12_count 151 = .ok (.iconst 0, 1) := by decide +kernel
theorem dX12_count_152 : decode cX12_count 152 = .ok (.iaload, 1) := by decide +kernel
theorem dX12_count_153 : decode cX12_count 153 = .ok (.ireturn, 1) := by decide +kernel
theorem dX12_count_154 : decode cX12_count 154 = .ok (.aload_n 0, 1) := by decide +kernel
theorem dX12_count_155 : decode cX12_count 155 = .ok (.getfield 433, 3) := by decide +kernel
theorem dX12_count_158 : decode cX12_count 158 = .ok (.ireturn, 1) := by decide +kernel
theorem dX12_count_159 : decode cX12_count 159 = .ok (.aload_n 0, 1) := by decide +kernel
theorem dX12_count_160 : decode cX12_count 160 = .ok (.getfield 445, 3) := by decide +kernel
theorem dX12_count_163 : decode cX12_count 163 = .ok (.ireturn, 1) := by decide +kernel
theorem dX12_count_164 : decode cX12_count 164 = .ok (.aload_n 0, 1) := by decide +kernel
theorem dX12_count_165 : decode cX12_count 165 = .ok (.invokevirtual 451, 3) := by decide +kernel
theorem dX12_count_168 : decode cX12_count 168 = .ok (.ireturn, 1) := by decide +kernel
theorem dX12_count_169 : decode cX12_count 169 = .ok (.aload_n 0, 1) := by decide +kernel
theorem dX12_count_170 : decode cX12_count 170 = .ok (.getfield 49, 3) := by decide +kernel
theorem dX12_count_173 : decode cX12_count 173 = .ok (.iconst 0, 1) := by decide +kernel
theorem dX12_count_174 : decode cX12_count 174 = .ok (.iaload, 1) := by decide +kernel
theorem dX12_count_175 : decode cX12_count 175 = .ok (.ireturn, 1) := by decide +kernel
theorem dX12_count_176 : decode cX12_count 176 = .ok (.aload_n 0, 1) := by decide +kernel
theorem dX12_count_177 : decode cX12_count 177 = .ok (.getfield 16, 3) := by decide +kernel
theorem dX12_count_180 : decode cX12_count 180 = .ok (.iconst 0, 1) := by decide +kernel
theorem dX12_count_181 : decode cX12_count 181 = .ok (.iaload, 1) := by decide +kernel
theorem dX12_count_182 : decode cX12_count 182 = .ok (.ireturn, 1) := by decide +kernel
theorem dX12_count_183 : decode cX12_count 183 = .ok (.iconst 0, 1) := by decide +kernel
theorem dX12_count_184 : decode cX12_count 184 = .ok (.istore_n 2, 1) := by decide +kernel
theorem dX12_count_185 : decode cX12_count 185 = .ok (.iconst 0, 1) := by decide +kernel
theorem dX12_count_186 : decode cX12_count 186 = .ok (.istore_n 3, 1) := by decide +kernel
theorem dX12_count_187 : decode cX12_count 187 = .ok (.iload_n 3, 1) := by decide +kernel
theorem dX12_count_188 : decode cX12_count 188 = .ok (.aload_n 0, 1) := by decide +kernel
theorem dX12_count_189 : decode cX12_count 189 = .ok (.getfield 210, 3) := by decide +kernel
theorem dX12_count_192 : decode cX12_count 192 = .ok (.if_icmp .ge 21, 3) := by decide +kernel
theorem dX12_count_195 : decode cX12_count 195 = .ok (.aload_n 0, 1) := by decide +kernel
theorem dX12_count_196 : decode cX12_count 196 = .ok (.getfield 64, 3) := by decide +kernel
theorem dX12_count_199 : decode cX12_count 199 = .ok (.iload_n 3, 1) := by decide +kernel
theorem dX12_count_200 : decode cX12_count 200 = .ok (.baload, 1) := by decide +kernel
theorem dX12_count_201 : decode cX12_count 201 = .ok (.ifCond .eq 6, 3) := by decide +kernel
theorem dX12_count_204 : decode cX12_count 204 = .ok (.iinc 2 1, 3) := by decide +kernel
theorem dX12_count_207 : decode cX12_count 207 = .ok (.iinc 3 1, 3) := by decide +kernel
theorem dX12_count_210 : decode cX12_count 210 = .ok (.goto (-23), 3) := by decide +kernel
theorem dX12_count_213 : decode cX12_count 213 = .ok (.iload_n 2, 1) := by decide +kernel
theorem dX12_count_214 : decode cX12_count 214 = .ok (.ireturn, 1) := by decide +kernel
theorem dX12_count_215 : decode cX12_count 215 = .ok (.aload_n 0, 1) := by decide +kernel
theorem dX12_count_216 : decode cX12_count 216 = .ok (.getfield 239, 3) := by decide +kernel
theorem dX12_count_219 : decode cX12_count 219 = .ok (.ireturn, 1) := by decide +kernel
theorem dX12_count_220 : decode cX12_count 220 = .ok (.aload_n 0, 1) := by decide +kernel
theorem dX12_count_221 : decode cX12_count 221 = .ok (.getfield 224, 3) := by decide +kernel
theorem dX12_count_224 : decode cX12_count 224 = .ok (.ireturn, 1) := by decide +kernel
theorem dX12_count_225 : decode cX12_count 225 = .ok (.aload_n 0, 1) := by decide +kernel
theorem dX12_count_226 : decode cX12_count 226 = .ok (.getfield 46, 3) := by decide +kernel
theorem dX12_count_229 : decode cX12_count 229 = .ok (.iconst 0, 1) := by decide +kernel
theorem dX12_count_230 : decode cX12_count 230 = .ok (.iaload, 1) := by decide +kernel
theorem dX12_count_231 : decode cX12_count 231 = .ok (.ireturn, 1) := by decide +kernel
theorem dX12_count_232 : decode cX12_count 232 = .ok (.aload_n 0, 1) := by decide +kernel
theorem dX12_count_233 : decode cX12_count 233 = .ok (.getfield 34, 3) := by decide +kernel
theorem dX12_count_236 : decode cX12_count 236 = .ok (.iconst 0, 1) := by decide +kernel
theorem dX12_count_237 : decode cX12_count 237 = .ok (.iaload, 1) := by decide +kernel
theorem dX12_count_238 : decode cX12_count 238 = .ok (.ireturn, 1) := by decide +kernel
theorem dX12_count_239 : decode cX12_count 239 = .ok (.iconst (-1), 1) := by decide +kernel
theorem dX12_count_240 : decode cX12_count 240 = .ok (.ireturn, 1) := by decide +kernel
theorem dX0_init_0 : decode cX0_init 0 = .ok (.aload_n 0, 1) := by decide +kernel
theorem dX0_init_1 : decode cX0_init 1 = .ok (.invokespecial 3, 3) := by decide +kernel
theorem dX0_init_4 : decode cX0_init 4 = .ok (.aload_n 0, 1) := by decide +kernel
theorem dX0_init_5 : decode cX0_init 5 = .ok (.bipush 20, 2) := by decide +kernel
theorem dX0_init_7 : decode cX0_init 7 = .ok (.putfield 9, 3) := by decide +kernel
theorem dX0_init_10 : decode cX0_init 10 = .ok (.aload_n 0, 1) := by decide +kernel
theorem dX0_init_11 : decode cX0_init 11 = .ok (.bipush 100, 2) := by decide +kernel
theorem dX0_init_13 : decode cX0_init 13 = .ok (.putfield 15, 3) := by decide +kernel
theorem dX0_init_16 : decode cX0_init 16 = .ok (.return_, 1) := by decide +kernel
theorem dX0_priceOf_0 : decode cX0_priceOf 0 = .ok (.aload_n 0, 1) := by decide +kernel
theorem dX0_priceOf_1 : decode cX0_priceOf 1 = .ok (.getfield 18, 3) := by decide +kernel
theorem dX0_priceOf_4 : decode cX0_priceOf 4 = .ok (.bipush 30, 2) := by decide +kernel
theorem dX0_priceOf_6 : decode cX0_priceOf 6 = .ok (.aload_n 0, 1) := by decide +kernel
theorem dX0_priceOf_7 : decode cX0_priceOf 7 = .ok (.getfield 9, 3) := by decide +kernel
theorem dX0_priceOf_10 : decode cX0_priceOf 10 = .ok (.imul, 1) := by decide +kernel
theorem dX0_priceOf_11 : decode cX0_priceOf 11 = .ok (.iadd, 1) := by decide +kernel
theorem dX0_priceOf_12 : decode cX0_priceOf 12 = .ok (.istore_n 2, 1) := by decide +kernel
theorem dX0_priceOf_13 : decode cX0_priceOf 13 = .ok (.iload_n 2, 1) := by decide +kernel
theorem dX0_priceOf_14 : decode cX0_priceOf 14 = .ok (.ifCond .ne 7, 3) := by decide +kernel
theorem dX0_priceOf_17 : decode cX0_priceOf 17 = .ok (.iconst 0, 1) := by decide +kernel
theorem dX0_priceOf_18 : decode cX0_priceOf 18 = .ok (.goto 17, 3) := by decide +kernel
theorem dX0_priceOf_21 : decode cX0_priceOf 21 = .ok (.aload_n 0, 1) := by decide +kernel
theorem dX0_priceOf_22 : decode cX0_priceOf 22 = .ok (.getfield 15, 3) := by decide +kernel
theorem dX0_priceOf_25 : decode cX0_priceOf 25 = .ok (.bipush 60, 2) := by decide +kernel
theorem dX0_priceOf_27 : decode cX0_priceOf 27 = .ok (.imul, 1) := by decide +kernel
theorem dX0_priceOf_28 : decode cX0_priceOf 28 = .ok (.aload_n 0, 1) := by decide +kernel
theorem dX0_priceOf_29 : decode cX0_priceOf 29 = .ok (.getfield 9, 3) := by decide +kernel
theorem dX0_priceOf_32 : decode cX0_priceOf 32 = .ok (.imul, 1) := by decide +kernel
theorem dX0_priceOf_33 : decode cX0_priceOf 33 = .ok (.iload_n 2, 1) := by decide +kernel
theorem dX0_priceOf_34 : decode cX0_priceOf 34 = .ok (.idiv, 1) := by decide +kernel
theorem dX0_priceOf_35 : decode cX0_priceOf 35 = .ok (.istore_n 3, 1) := by decide +kernel
theorem dX0_priceOf_36 : decode cX0_priceOf 36 = .ok (.iconst 1, 1) := by decide +kernel
theorem dX0_priceOf_37 : decode cX0_priceOf 37 = .ok (.iload_n 3, 1) := by decide +kernel
theorem dX0_priceOf_38 : decode cX0_priceOf 38 = .ok (.aload_n 0, 1) := by decide +kernel
theorem dX0_priceOf_39 : decode cX0_priceOf 39 = .ok (.getfield 15, 3) := by decide +kernel
theorem dX0_priceOf_42 : decode cX0_priceOf 42 = .ok (.iload_n 1, 1) := by decide +kernel
theorem dX0_priceOf_43 : decode cX0_priceOf 43 = .ok (.imul, 1) := by decide +kernel
theorem dX0_priceOf_44 : decode cX0_priceOf 44 = .ok (.bipush 20, 2) := by decide +kernel
theorem dX0_priceOf_46 : decode cX0_priceOf 46 = .ok (.idiv, 1) := by decide +kernel
theorem dX0_priceOf_47 : decode cX0_priceOf 47 = .ok (.iadd, 1) := by decide +kernel
theorem dX0_priceOf_48 : decode cX0_priceOf 48 = .ok (.invokestatic 21, 3) := by decide +kernel
theorem dX0_priceOf_51 : decode cX0_priceOf 51 = .ok (.ireturn, 1) := by decide +kernel
theorem dX0_addLoads_0 : decode cX0_addLoads 0 = .ok (.aload_n 0, 1) := by decide +kernel
theorem dX0_addLoads_1 : decode cX0_addLoads 1 = .ok (.ldc 27, 2) := by decide +kernel
theorem dX0_addLoads_3 : decode cX0_addLoads 3 = .ok (.aload_n 0, 1) := by decide +kernel
theorem dX0_addLoads_4 : decode cX0_addLoads 4 = .ok (.getfield 18, 3) := by decide +kernel
theorem dX0_addLoads_7 : decode cX0_addLoads 7 = .ok (.bipush 8, 2) := by decide +kernel
theorem dX0_addLoads_9 : decode cX0_addLoads 9 = .ok (.iload_n 1, 1) := by decide +kernel
theorem dX0_addLoads_10 : decode cX0_addLoads 10 = .ok (.imul, 1) := by decide +kernel
theorem dX0_addLoads_11 : decode cX0_addLoads 11 = .ok (.iadd, 1) := by decide +kernel
theorem dX0_addLoads_12 : decode cX0_addLoads 12 = .ok (.invokestatic 28, 3) := by decide +kernel
theorem dX0_addLoads_15 : decode cX0_addLoads 15 = .ok (.putfield 18, 3) := by decide +kernel
theorem dX0_addLoads_18 : decode cX0_addLoads 18 = .ok (.return_, 1) := by decide +kernel
theorem dX0_useWant_0 : decode cX0_useWant 0 = .ok (.iload_n 1, 1) := by decide +kernel
theorem dX0_useWant_1 : decode cX0_useWant 1 = .ok (.ifCond .eq 12, 3) := by decide +kernel
theorem dX0_useWant_4 : decode cX0_useWant 4 = .ok (.iconst 2, 1) := by decide +kernel
theorem dX0_useWant_5 : decode cX0_useWant 5 = .ok (.aload_n 0, 1) := by decide +kernel
theorem dX0_useWant_6 : decode cX0_useWant 6 = .ok (.getfield 9, 3) := by decide +kernel
theorem dX0_useWant_9 : decode cX0_useWant 9 = .ok (.imul, 1) := by decide +kernel
theorem dX0_useWant_10 : decode cX0_useWant 10 = .ok (.goto 7, 3) := by decide +kernel
theorem dX0_useWant_13 : decode cX0_useWant 13 = .ok (.aload_n 0, 1) := by decide +kernel
theorem dX0_useWant_14 : decode cX0_useWant 14 = .ok (.getfield 9, 3) := by decide +kernel
theorem dX0_useWant_17 : decode cX0_useWant 17 = .ok (.istore_n 2, 1) := by decide +kernel
theorem dX0_useWant_18 : decode cX0_useWant 18 = .ok (.aload_n 0, 1) := by decide +kernel
theorem dX0_useWant_19 : decode cX0_useWant 19 = .ok (.getfield 18, 3) := by decide +kernel
theorem dX0_useWant_22 : decode cX0_useWant 22 = .ok (.iload_n 2, 1) := by decide +kernel
theorem dX0_useWant_23 : decode cX0_useWant 23 = .ok (.if_icmp .ge 7, 3) := by decide +kernel
theorem dX0_useWant_26 : decode cX0_useWant 26 = .ok (.iconst 1, 1) := by decide +kernel
theorem dX0_useWant_27 : decode cX0_useWant 27 = .ok (.goto 4, 3) := by decide +kernel
theorem dX0_useWant_30 : decode cX0_useWant 30 = .ok (.iconst 0, 1) := by decide +kernel
theorem dX0_useWant_31 : decode cX0_useWant 31 = .ok (.istore_n 3, 1) := by decide +kernel
theorem dX0_useWant_32 : decode cX0_useWant 32 = .ok (.aload_n 0, 1) := by decide +kernel
theorem dX0_useWant_33 : decode cX0_useWant 33 = .ok (.iload_n 3, 1) := by decide +kernel
theorem dX0_useWant_34 : decode cX0_useWant 34 = .ok (.ifCond .eq 7, 3) := by decide +kernel
theorem dX0_useWant_37 : decode cX0_useWant 37 = .ok (.iconst 0, 1) := by decide +kernel
theorem dX0_useWant_38 : decode cX0_useWant 38 = .ok (.goto 9, 3) := by decide +kernel
theorem dX0_useWant_41 : decode cX0_useWant 41 = .ok (.aload_n 0, 1) := by decide +kernel
theorem dX0_useWant_42 : decode cX0_useWant 42 = .ok (.getfield 18, 3) := by decide +kernel
theorem dX0_useWant_45 : decode cX0_useWant 45 = .ok (.iload_n 2, 1) := by decide +kernel
theorem dX0_useWant_46 : decode cX0_useWant 46 = .ok (.isub, 1) := by decide +kernel
theorem dX0_useWant_47 : decode cX0_useWant 47 = .ok (.putfield 18, 3) := by decide +kernel
theorem dX0_useWant_50 : decode cX0_useWant 50 = .ok (.aload_n 0, 1) := by decide +kernel
theorem dX0_useWant_51 : decode cX0_useWant 51 = .ok (.aload_n 0, 1) := by decide +kernel
theorem dX0_useWant_52 : decode cX0_useWant 52 = .ok (.getfield 31, 3) := by decide +kernel
theorem dX0_useWant_55 : decode cX0_useWant 55 = .ok (.iconst 1, 1) := by decide +kernel
theorem dX0_useWant_56 : decode cX0_useWant 56 = .ok (.ishl, 1) := by decide +kernel
theorem dX0_useWant_57 : decode cX0_useWant 57 = .ok (.iload_n 3, 1) := by decide +kernel
theorem dX0_useWant_58 : decode cX0_useWant 58 = .ok (.ifCond .eq 7, 3) := by decide +kernel
theorem dX0_useWant_61 : decode cX0_useWant 61 = .ok (.iconst 1, 1) := by decide +kernel
theorem dX0_useWant_62 : decode cX0_useWant 62 = .ok (.goto 4, 3) := by decide +kernel
theorem dX0_useWant_65 : decode cX0_useWant 65 = .ok (.iconst 0, 1) := by decide +kernel
theorem dX0_useWant_66 : decode cX0_useWant 66 = .ok (.ior, 1) := by decide +kernel
theorem dX0_useWant_67 : decode cX0_useWant 67 = .ok (.ldc 34, 2) := by decide +kernel
theorem dX0_useWant_69 : decode cX0_useWant 69 = .ok (.iand, 1) := by decide +kernel
theorem dX0_useWant_70 : decode cX0_useWant 70 = .ok (.putfield 31, 3) := by decide +kernel
theorem dX0_useWant_73 : decode cX0_useWant 73 = .ok (.aload_n 0, 1) := by decide +kernel
theorem dX0_useWant_74 : decode cX0_useWant 74 = .ok (.dup, 1) := by decide +kernel
theorem dX0_useWant_75 : decode cX0_useWant 75 = .ok (.getfield 35, 3) := by decide +kernel
theorem dX0_useWant_78 : decode cX0_useWant 78 = .ok (.iload_n 3, 1) := by decide +kernel
theorem dX0_useWant_79 : decode cX0_useWant 79 = .ok (.ifCond .eq 7, 3) := by decide +kernel
theorem dX0_useWant_82 : decode cX0_useWant 82 = .ok (.iconst 1, 1) := by decide +kernel
theorem dX0_useWant_83 : decode cX0_useWant 83 = .ok (.goto 4, 3) := by decide +kernel
theorem dX0_useWant_86 : decode cX0_useWant 86 = .ok (.iconst 0, 1) := by decide +kernel
theorem dX0_useWant_87 : decode cX0_useWant 87 = .ok (.iadd, 1) := by decide +kernel
theorem dX0_useWant_88 : decode cX0_useWant 88 = .ok (.putfield 35, 3) := by decide +kernel
theorem dX0_useWant_91 : decode cX0_useWant 91 = .ok (.return_, 1) := by decide +kernel
theorem dX0_wasHungry_0 : decode cX0_wasHungry 0 = .ok (.aload_n 0, 1) := by decide +kernel
theorem dX0_wasHungry_1 : decode cX0_wasHungry 1 = .ok (.getfield 31, 3) := by decide +kernel
theorem dX0_wasHungry_4 : decode cX0_wasHungry 4 = .ok (.iconst 1, 1) := by decide +kernel
theorem dX0_wasHungry_5 : decode cX0_wasHungry 5 = .ok (.iand, 1) := by decide +kernel
theorem dX0_wasHungry_6 : decode cX0_wasHungry 6 = .ok (.iconst 1, 1) := by decide +kernel
theorem dX0_wasHungry_7 : decode cX0_wasHungry 7 = .ok (.if_icmp .ne 7, 3) := by decide +kernel
theorem dX0_wasHungry_10 : decode cX0_wasHungry 10 = .ok (.iconst 1, 1) := by decide +kernel
theorem dX0_wasHungry_11 : decode cX0_wasHungry 11 = .ok (.goto 4, 3) := by decide +kernel
theorem dX0_wasHungry_14 : decode cX0_wasHungry 14 = .ok (.iconst 0, 1) := by decide +kernel
theorem dX0_wasHungry_15 : decode cX0_wasHungry 15 = .ok (.ireturn, 1) := by decide +kernel
theorem dX0_hungryOfLast30_0 : decode cX0_hungryOfLast30 0 = .ok (.aload_n 0, 1) := by decide +kernel
theorem dX0_hungryOfLast30_1 : decode cX0_hungryOfLast30 1 = .ok (.getfield 31, 3) := by decide +kernel
theorem dX0_hungryOfLast30_4 : decode cX0_hungryOfLast30 4 = .ok (.invokestatic 38, 3) := by decide +kernel
theorem dX0_hungryOfLast30_7 : decode cX0_hungryOfLast30 7 = .ok (.ireturn, 1) := by decide +kernel
theorem dX0_copyFrom_0 : decode cX0_copyFrom 0 = .ok (.aload_n 0, 1) := by decide +kernel
theorem dX0_copyFrom_1 : decode cX0_copyFrom 1 = .ok (.aload_n 1, 1) := by decide +kernel
theorem dX0_copyFrom_2 : decode cX0_copyFrom 2 = .ok (.getfield 18, 3) := by decide +kernel
theorem dX0_copyFrom_5 : decode cX0_copyFrom 5 = .ok (.putfield 18, 3) := by decide +kernel
theorem dX0_copyFrom_8 : decode cX0_copyFrom 8 = .ok (.aload_n 0, 1) := by decide +kernel
theorem dX0_copyFrom_9 : decode cX0_copyFrom 9 = .ok (.aload_n 1, 1) := by decide +kernel
theorem dX0_copyFrom_10 : decode cX0_copyFrom 10 = .ok (.getfield 9, 3) := by decide +kernel
theorem dX0_copyFrom_13 : decode cX0_copyFrom 13 = .ok (.putfield 9, 3) := by decide +kernel
theorem dX0_copyFrom_16 : decode cX0_copyFrom 16 = .ok (.aload_n 0, 1) := by decide +kernel
theorem dX0_copyFrom_17 : decode cX0_copyFrom 17 = .ok (.aload_n 1, 1) := by decide +kernel
theorem dX0_copyFrom_18 : decode cX0_copyFrom 18 = .ok (.getfield 15, 3) := by decide +kernel
theorem dX0_copyFrom_21 : decode cX0_copyFrom 21 = .ok (.putfield 15, 3) := by decide +kernel
theorem dX0_copyFrom_24 : decode cX0_copyFrom 24 = .ok (.aload_n 0, 1) := by decide +kernel
theorem dX0_copyFrom_25 : decode cX0_copyFrom 25 = .ok (.aload_n 1, 1) := by decide +kernel
theorem dX0_copyFrom_26 : decode cX0_copyFrom 26 = .ok (.getfield 35, 3) := by decide +kernel
theorem dX0_copyFrom_29 : decode cX0_copyFrom 29 = .ok (.putfield 35, 3) := by decide +kernel
theorem dX0_copyFrom_32 : decode cX0_copyFrom 32 = .ok (.aload_n 0, 1) := by decide +kernel
theorem dX0_copyFrom_33 : decode cX0_copyFrom 33 = .ok (.aload_n 1, 1) := by decide +kernel
theorem dX0_copyFrom_34 : decode cX0_copyFrom 34 = .ok (.getfield 31, 3) := by decide +kernel
theorem dX0_copyFrom_37 : decode cX0_copyFrom 37 = .ok (.putfield 31, 3) := by decide +kernel
theorem dX0_copyFrom_40 : decode cX0_copyFrom 40 = .ok (.return_, 1) := by decide +kernel
theorem dX1_init_0 : decode cX1_init 0 = .ok (.aload_n 0, 1) := by decide +kernel
theorem dX1_init_1 : decode cX1_init 1 = .ok (.invokespecial 1, 3) := by decide +kernel
theorem dX1_init_4 : decode cX1_init 4 = .ok (.aload_n 0, 1) := by decide +kernel
theorem dX1_init_5 : decode cX1_init 5 = .ok (.iload_n 1, 1) := by decide +kernel
theorem dX1_init_6 : decode cX1_init 6 = .ok (.putfield 7, 3) := by decide +kernel
theorem dX1_init_9 : decode cX1_init 9 = .ok (.aload_n 0, 1) := by decide +kernel
theorem dX1_init_10 : decode cX1_init 10 = .ok (.iload_n 2, 1) := by decide +kernel
theorem dX1_init_11 : decode cX1_init 11 = .ok (.putfield 13, 3) := by decide +kernel
theorem dX1_init_14 : decode cX1_init 14 = .ok (.return_, 1) := by decide +kernel
theorem dX1_isVoid_0 : decode cX1_isVoid 0 = .ok (.aload_n 0, 1) := by decide +kernel
theorem dX1_isVoid_1 : decode cX1_isVoid 1 = .ok (.getfield 7, 3) := by decide +kernel
theorem dX1_isVoid_4 : decode cX1_isVoid 4 = .ok (.iload_n 1, 1) := by decide +kernel
theorem dX1_isVoid_5 : decode cX1_isVoid 5 = .ok (.ishr, 1) := by decide +kernel
theorem dX1_isVoid_6 : decode cX1_isVoid 6 = .ok (.iconst 1, 1) := by decide +kernel
theorem dX1_isVoid_7 : decode cX1_isVoid 7 = .ok (.iand, 1) := by decide +kernel
theorem dX1_isVoid_8 : decode cX1_isVoid 8 = .ok (.iconst 1, 1) := by decide +kernel
theorem dX1_isVoid_9 : decode cX1_isVoid 9 = .ok (.if_icmp .ne 7, 3) := by decide +kernel
theorem dX1_isVoid_12 : decode cX1_isVoid 12 = .ok (.iconst 1, 1) := by decide +kernel
theorem dX1_isVoid_13 : decode cX1_isVoid 13 = .ok (.goto 4, 3) := by decide +kernel
theorem dX1_isVoid_16 : decode cX1_isVoid 16 = .ok (.iconst 0, 1) := by decide +kernel
theorem dX1_isVoid_17 : decode cX1_isVoid 17 = .ok (.ireturn, 1) := by decide +kernel
theorem dX2_init_0 : decode cX2_init 0 = .ok (.aload_n 0, 1) := by decide +kernel
theorem dX2_init_1 : decode cX2_init 1 = .ok (.invokespecial 3, 3) := by decide +kernel
theorem dX2_init_4 : decode cX2_init 4 = .ok (.aload_n 0, 1) := by decide +kernel
theorem dX2_init_5 : decode cX2_init 5 = .ok (.bipush 24, 2) := by decide +kernel
theorem dX2_init_7 : decode cX2_init 7 = .ok (.anewarray 9, 3) := by decide +kernel
theorem dX2_init_10 : decode cX2_init 10 = .ok (.putfield 11, 3) := by decide +kernel
theorem dX2_init_13 : decode cX2_init 13 = .ok (.aload_n 0, 1) := by decide +kernel
theorem dX2_init_14 : decode cX2_init 14 = .ok (.sipush 240, 3) := by decide +kernel
theorem dX2_init_17 : decode cX2_init 17 = .ok (.newarray .int, 2) := by decide +kernel
theorem dX2_init_19 : decode cX2_init 19 = .ok (.putfield 17, 3) := by decide +kernel
theorem dX2_init_22 : decode cX2_init 22 = .ok (.aload_n 0, 1) := by decide +kernel
theorem dX2_init_23 : decode cX2_init 23 = .ok (.sipush 240, 3) := by decide +kernel
theorem dX2_init_26 : decode cX2_init 26 = .ok (.newarray .int, 2) := by decide +kernel
theorem dX2_init_28 : decode cX2_init 28 = .ok (.putfield 21, 3) := by decide +kernel
theorem dX2_init_31 : decode cX2_init 31 = .ok (.aload_n 0, 1) := by decide +kernel
theorem dX2_init_32 : decode cX2_init 32 = .ok (.sipush 240, 3) := by decide +kernel
theorem dX2_init_35 : decode cX2_init 35 = .ok (.newarray .boolean, 2) := by decide +kernel
theorem dX2_init_37 : decode cX2_init 37 = .ok (.putfield 24, 3) := by decide +kernel
theorem dX2_init_40 : decode cX2_init 40 = .ok (.return_, 1) := by decide +kernel
theorem dX2_place_0 : decode cX2_place 0 = .ok (.iload_n 2, 1) := by decide +kernel
theorem dX2_place_1 : decode cX2_place 1 = .ok (.bipush 10, 2) := by decide +kernel
theorem dX2_place_3 : decode cX2_place 3 = .ok (.imul, 1) := by decide +kernel
theorem dX2_place_4 : decode cX2_place 4 = .ok (.iload_n 1, 1) := by decide +kernel
theorem dX2_place_5 : decode cX2_place 5 = .ok (.iadd, 1) := by decide +kernel
theorem dX2_place_6 : decode cX2_place 6 = .ok (.ireturn, 1) := by decide +kernel
theorem dX2_keep_0 : decode cX2_keep 0 = .ok (.aload_n 1, 1) := by decide +kernel
theorem dX2_keep_1 : decode cX2_keep 1 = .ok (.getfield 28, 3) := by decide +kernel
theorem dX2_keep_4 : decode cX2_keep 4 = .ok (.bipush 30, 2) := by decide +kernel
theorem dX2_keep_6 : decode cX2_keep 6 = .ok (.idiv, 1) := by decide +kernel
theorem dX2_keep_7 : decode cX2_keep 7 = .ok (.iconst 1, 1) := by decide +kernel
theorem dX2_keep_8 : decode cX2_keep 8 = .ok (.isub, 1) := by decide +kernel
theorem dX2_keep_9 : decode cX2_keep 9 = .ok (.istore_n 2, 1) := by decide +kernel
theorem dX2_keep_10 : decode cX2_keep 10 = .ok (.iload_n 2, 1) := by decide +kernel
theorem dX2_keep_11 : decode cX2_keep 11 = .ok (.ifCond .lt 9, 3) := by decide +kernel
theorem dX2_keep_14 : decode cX2_keep 14 = .ok (.iload_n 2, 1) := by decide +kernel
theorem dX2_keep_15 : decode cX2_keep 15 = .ok (.bipush 24, 2) := by decide +kernel
theorem dX2_keep_17 : decode cX2_keep 17 = .ok (.if_icmp .lt 4, 3) := by decide +kernel
theorem dX2_keep_20 : decode cX2_keep 20 = .ok (.return_, 1) := by decide +kernel
theorem dX2_keep_21 : decode cX2_keep 21 = .ok (.aload_n 0, 1) := by decide +kernel
theorem dX2_keep_22 : decode cX2_keep 22 = .ok (.getfield 11, 3) := by decide +kernel
theorem dX2_keep_25 : decode cX2_keep 25 = .ok (.iload_n 2, 1) := by decide +kernel
theorem dX2_keep_26 : decode cX2_keep 26 = .ok (.aload_n 1, 1) := by decide +kernel
theorem dX2_keep_27 : decode cX2_keep 27 = .ok (.getfield 34, 3) := by decide +kernel
theorem dX2_keep_30 : decode cX2_keep 30 = .ok (.aastore, 1) := by decide +kernel
theorem dX2_keep_31 : decode cX2_keep 31 = .ok (.iconst 0, 1) := by decide +kernel
theorem dX2_keep_32 : decode cX2_keep 32 = .ok (.istore_n 3, 1) := by decide +kernel
theorem dX2_keep_33 : decode cX2_keep 33 = .ok (.iload_n 3, 1) := by decide +kernel
theorem dX2_keep_34 : decode cX2_keep 34 = .ok (.aload_n 1, 1) := by decide +kernel
theorem dX2_keep_35 : decode cX2_keep 35 = .ok (.getfield 38, 3) := by decide +kernel
theorem dX2_keep_38 : decode cX2_keep 38 = .ok (.if_icmp .ge 60, 3) := by decide +kernel
theorem dX2_keep_41 : decode cX2_keep 41 = .ok (.aload_n 0, 1) := by decide +kernel
theorem dX2_keep_42 : decode cX2_keep 42 = .ok (.getfield 17, 3) := by decide +kernel
theorem dX2_keep_45 : decode cX2_keep 45 = .ok (.aload_n 0, 1) := by decide +kernel
theorem dX2_keep_46 : decode cX2_keep 46 = .ok (.iload_n 3, 1) := by decide +kernel
theorem dX2_keep_47 : decode cX2_keep 47 = .ok (.iload_n 2, 1) := by decide +kernel
theorem dX2_keep_48 : decode cX2_keep 48 = .ok (.invokevirtual 41, 3) := by decide +kernel
theorem dX2_keep_51 : decode cX2_keep 51 = .ok (.aload_n 1, 1) := by decide +kernel
theorem dX2_keep_52 : decode cX2_keep 52 = .ok (.getfield 45, 3) := by decide +kernel
theorem dX2_keep_55 : decode cX2_keep 55 = .ok (.iload_n 3, 1) := by decide +kernel
theorem dX2_keep_56 : decode cX2_keep 56 = .ok (.aaload, 1) := by decide +kernel
theorem dX2_keep_57 : decode cX2_keep 57 = .ok (.getfield 49, 3) := by decide +kernel
theorem dX2_keep_60 : decode cX2_keep 60 = .ok (.iastore, 1) := by decide +kernel
theorem dX2_keep_61 : decode cX2_keep 61 = .ok (.aload_n 0, 1) := by decide +kernel
theorem dX2_keep_62 : decode cX2_keep 62 = .ok (.getfield 21, 3) := by decide +kernel
theorem dX2_keep_65 : decode cX2_keep 65 = .ok (.aload_n 0, 1) := by decide +kernel
theorem dX2_keep_66 : decode cX2_keep 66 = .ok (.iload_n 3, 1) := by decide +kernel
theorem dX2_keep_67 : decode cX2_keep 67 = .ok (.iload_n 2, 1) := by decide +kernel
theorem dX2_keep_68 : decode cX2_keep 68 = .ok (.invokevirtual 41, 3) := by decide +kernel
theorem dX2_keep_71 : decode cX2_keep 71 = .ok (.aload_n 1, 1) := by decide +kernel
theorem dX2_keep_72 : decode cX2_keep 72 = .ok (.getfield 34, 3) := by decide +kernel
theorem dX2_keep_75 : decode cX2_keep 75 = .ok (.ifnonnull 7, 3) := by decide +kernel
theorem dX2_keep_78 : decode cX2_keep 78 = .ok (.iconst 0, 1) := by decide +kernel
theorem dX2_keep_79 : decode cX2_keep 79 = .ok (.goto 12, 3) := by decide +kernel
theorem dX2_keep_82 : decode cX2_keep 82 = .ok (.aload_n 1, 1) := by decide +kernel
theorem dX2_keep_83 : decode cX2_keep 83 = .ok (.getfield 45, 3) := by decide +kernel
theorem dX2_keep_86 : decode cX2_keep 86 = .ok (.iload_n 3, 1) := by decide +kernel
theorem dX2_keep_87 : decode cX2_keep 87 = .ok (.aaload, 1) := by decide +kernel
theorem dX2_keep_88 : decode cX2_keep 88 = .ok (.getfield 53, 3) := by decide +kernel
theorem dX2_keep_91 : decode cX2_keep 91 = .ok (.iastore, 1) := by decide +kernel
theorem dX2_keep_92 : decode cX2_keep 92 = .ok (.iinc 3 1, 3) := by decide +kernel
theorem dX2_keep_95 : decode cX2_keep 95 = .ok (.goto (-62), 3) := by decide +kernel
theorem dX2_keep_98 : decode cX2_keep 98 = .ok (.return_, 1) := by decide +kernel
theorem dX3_init_0 : decode cX3_init 0 = .ok (.aload_n 0, 1) := by decide +kernel
theorem dX3_init_1 : decode cX3_init 1 = .ok (.invokespecial 1, 3) := by decide +kernel
theorem dX3_init_4 : decode cX3_init 4 = .ok (.return_, 1) := by decide +kernel
theorem dX3_copyFrom_0 : decode cX3_copyFrom 0 = .ok (.aload_n 0, 1) := by decide +kernel
theorem dX3_copyFrom_1 : decode cX3_copyFrom 1 = .ok (.aload_n 1, 1) := by decide +kernel
theorem dX3_copyFrom_2 : decode cX3_copyFrom 2 = .ok (.getfield 7, 3) := by decide +kernel
theorem dX3_copyFrom_5 : decode cX3_copyFrom 5 = .ok (.putfield 7, 3) := by decide +kernel
theorem dX3_copyFrom_8 : decode cX3_copyFrom 8 = .ok (.aload_n 0, 1) := by decide +kernel
theorem dX3_copyFrom_9 : decode cX3_copyFrom 9 = .ok (.aload_n 1, 1) := by decide +kernel
theorem dX3_copyFrom_10 : decode cX3_copyFrom 10 = .ok (.getfield 13, 3) := by decide +kernel
theorem dX3_copyFrom_13 : decode cX3_copyFrom 13 = .ok (.putfield 13, 3) := by decide +kernel
theorem dX3_copyFrom_16 : decode cX3_copyFrom 16 = .ok (.aload_n 0, 1) := by decide +kernel
theorem dX3_copyFrom_17 : decode cX3_copyFrom 17 = .ok (.aload_n 1, 1) := by decide +kernel
theorem dX3_copyFrom_18 : decode cX3_copyFrom 18 = .ok (.getfield 16, 3) := by decide +kernel
theorem dX3_copyFrom_21 : decode cX3_copyFrom 21 = .ok (.putfield 16, 3) := by decide +kernel
theorem dX3_copyFrom_24 : decode cX3_copyFrom 24 = .ok (.aload_n 0, 1) := by decide +kernel
theorem dX3_copyFrom_25 : decode cX3_copyFrom 25 = .ok (.aload_n 1, 1) := by decide +kernel
theorem dX3_copyFrom_26 : decode cX3_copyFrom 26 = .ok (.getfield 19, 3) := by decide +kernel
theorem dX3_copyFrom_29 : decode cX3_copyFrom 29 = .ok (.putfield 19, 3) := by decide +kernel
theorem dX3_copyFrom_32 : decode cX3_copyFrom 32 = .ok (.aload_n 0, 1) := by decide +kernel
theorem dX3_copyFrom_33 : decode cX3_copyFrom 33 = .ok (.aload_n 1, 1) := by decide +kernel
theorem dX3_copyFrom_34 : decode cX3_copyFrom 34 = .ok (.getfield 22, 3) := by decide +kernel
theorem dX3_copyFrom_37 : decode cX3_copyFrom 37 = .ok (.putfield 22, 3) := by decide +kernel
theorem dX3_copyFrom_40 : decode cX3_copyFrom 40 = .ok (.aload_n 0, 1) := by decide +kernel
theorem dX3_copyFrom_41 : decode cX3_copyFrom 41 = .ok (.aload_n 1, 1) := by decide +kernel
theorem dX3_copyFrom_42 : decode cX3_copyFrom 42 = .ok (.getfield 25, 3) := by decide +kernel
theorem dX3_copyFrom_45 : decode cX3_copyFrom 45 = .ok (.putfield 25, 3) := by decide +kernel
theorem dX3_copyFrom_48 : decode cX3_copyFrom 48 = .ok (.aload_n 0, 1) := by decide +kernel
theorem dX3_copyFrom_49 : decode cX3_copyFrom 49 = .ok (.aload_n 1, 1) := by decide +kernel
theorem dX3_copyFrom_50 : decode cX3_copyFrom 50 = .ok (.getfield 29, 3) := by decide +kernel
theorem dX3_copyFrom_53 : decode cX3_copyFrom 53 = .ok (.putfield 29, 3) := by decide +kernel
theorem dX3_copyFrom_56 : decode cX3_copyFrom 56 = .ok (.aload_n 0, 1) := by decide +kernel
theorem dX3_copyFrom_57 : decode cX3_copyFrom 57 = .ok (.aload_n 1, 1) := by decide +kernel
theorem dX3_copyFrom_58 : decode cX3_copyFrom 58 = .ok (.getfield 32, 3) := by decide +kernel
theorem dX3_copyFrom_61 : decode cX3_copyFrom 61 = .ok (.putfield 32, 3) := by decide +kernel
theorem dX3_copyFrom_64 : decode cX3_copyFrom 64 = .ok (.aload_n 0, 1) := by decide +kernel
theorem dX3_copyFrom_65 : decode cX3_copyFrom 65 = .ok (.aload_n 1, 1) := by decide +kernel
theorem dX3_copyFrom_66 : decode cX3_copyFrom 66 = .ok (.getfield 35, 3) := by decide +kernel
theorem dX3_copyFrom_69 : decode cX3_copyFrom 69 = .ok (.putfield 35, 3) := by decide +kernel
theorem dX3_copyFrom_72 : decode cX3_copyFrom 72 = .ok (.aload_n 0, 1) := by decide +kernel
theorem dX3_copyFrom_73 : decode cX3_copyFrom 73 = .ok (.aload_n 1, 1) := by decide +kernel
theorem dX3_copyFrom_74 : decode cX3_copyFrom 74 = .ok (.getfield 38, 3) := by decide +kernel
theorem dX3_copyFrom_77 : decode cX3_copyFrom 77 = .ok (.putfield 38, 3) := by decide +kernel
theorem dX3_copyFrom_80 : decode cX3_copyFrom 80 = .ok (.aload_n 0, 1) := by decide +kernel
theorem dX3_copyFrom_81 : decode cX3_copyFrom 81 = .ok (.aload_n 1, 1) := by decide +kernel
theorem dX3_copyFrom_82 : decode cX3_copyFrom 82 = .ok (.getfield 41, 3) := by decide +kernel
theorem dX3_copyFrom_85 : decode cX3_copyFrom 85 = .ok (.putfield 41, 3) := by decide +kernel
theorem dX3_copyFrom_88 : decode cX3_copyFrom 88 = .ok (.aload_n 0, 1) := by decide +kernel
theorem dX3_copyFrom_89 : decode cX3_copyFrom 89 = .ok (.aload_n 1, 1) := by decide +kernel
theorem dX3_copyFrom_90 : decode cX3_copyFrom 90 = .ok (.getfield 44, 3) := by decide +kernel
theorem dX3_copyFrom_93 : decode cX3_copyFrom 93 = .ok (.putfield 44, 3) := by decide +kernel
theorem dX3_copyFrom_96 : decode cX3_copyFrom 96 = .ok (.return_, 1) := by decide +kernel
theorem dX4_init_0 : decode cX4_init 0 = .ok (.aload_n 0, 1) := by decide +kernel
theorem dX4_init_1 : decode cX4_init 1 = .ok (.invokespecial 3, 3) := by decide +kernel
theorem dX4_init_4 : decode cX4_init 4 = .ok (.aload_n 0, 1) := by decide +kernel
theorem dX4_init_5 : decode cX4_init 5 = .ok (.iconst (-1), 1) := by decide +kernel
theorem dX4_init_6 : decode cX4_init 6 = .ok (.putfield 9, 3) := by decide +kernel
theorem dX4_init_9 : decode cX4_init 9 = .ok (.aload_n 0, 1) := by decide +kernel
theorem dX4_init_10 : decode cX4_init 10 = .ok (.iconst (-1), 1) := by decide +kernel
theorem dX4_init_11 : decode cX4_init 11 = .ok (.putfield 15, 3) := by decide +kernel
theorem dX4_init_14 : decode cX4_init 14 = .ok (.return_, 1) := by decide +kernel
theorem dX4_hasTold_0 : decode cX4_hasTold 0 = .ok (.iload_n 1, 1) := by decide +kernel
theorem dX4_hasTold_1 : decode cX4_hasTold 1 = .ok (.tableswitch 106 0 5 #[39, 52, 65, 106, 78, 92], 39) := by decide +kernel
theorem dX4_hasTold_40 : decode cX4_hasTold 40 = .ok (.aload_n 0, 1) := by decide +kernel
theorem dX4_hasTold_41 : decode cX4_hasTold 41 = .ok (.getfield 18, 3) := by decide +kernel
theorem dX4_hasTold_44 : decode cX4_hasTold 44 = .ok (.ifnull 7, 3) := by decide +kernel
theorem dX4_hasTold_47 : decode cX4_hasTold 47 = .ok (.iconst 1, 1) := by decide +kernel
theorem dX4_hasTold_48 : decode cX4_hasTold 48 = .ok (.goto 4, 3) := by decide +kernel
theorem dX4_hasTold_51 : decode cX4_hasTold 51 = .ok (.iconst 0, 1) := by decide +kernel
theorem dX4_hasTold_52 : decode cX4_hasTold 52 = .ok (.ireturn, 1) := by decide +kernel
theorem dX4_hasTold_53 : decode cX4_hasTold 53 = .ok (.aload_n 0, 1) := by decide +kernel
theorem dX4_hasTold_54 : decode cX4_hasTold 54 = .ok (.getfield 22, 3) := by decide +kernel
theorem dX4_hasTold_57 : decode cX4_hasTold 57 = .ok (.ifnull 7, 3) := by decide +kernel
theorem dX4_hasTold_60 : decode cX4_hasTold 60 = .ok (.iconst 1, 1) := by decide +kernel
theorem dX4_hasTold_61 : decode cX4_hasTold 61 = .ok (.goto 4, 3) := by decide +kernel
theorem dX4_hasTold_64 : decode cX4_hasTold 64 = .ok (.iconst 0, 1) := by decide +kernel
theorem dX4_hasTold_65 : decode cX4_hasTold 65 = .ok (.ireturn, 1) := by decide +kernel
theorem dX4_hasTold_66 : decode cX4_hasTold 66 = .ok (.aload_n 0, 1) := by decide +kernel
theorem dX4_hasTold_67 : decode cX4_hasTold 67 = .ok (.getfield 25, 3) := by decide +kernel
theorem dX4_hasTold_70 : decode cX4_hasTold 70 = .ok (.ifnull 7, 3) := by decide +kernel
theorem dX4_hasTold_73 : decode cX4_hasTold 73 = .ok (.iconst 1, 1) := by decide +kernel
theorem dX4_hasTold_74 : decode cX4_hasTold 74 = .ok (.goto 4, 3) := by decide +kernel
theorem dX4_hasTold_77 : decode cX4_hasTold 77 = .ok (.iconst 0, 1) := by decide +kernel
theorem dX4_hasTold_78 : decode cX4_hasTold 78 = .ok (.ireturn, 1) := by decide +kernel
theorem dX4_hasTold_79 : decode cX4_hasTold 79 = .ok (.aload_n 0, 1) := by decide +kernel
theorem dX4_hasTold_80 : decode cX4_hasTold 80 = .ok (.getfield 9, 3) := by decide +kernel
theorem dX4_hasTold_83 : decode cX4_hasTold 83 = .ok (.iconst (-1), 1) := by decide +kernel
theorem dX4_hasTold_84 : decode cX4_hasTold 84 = .ok (.if_icmp .eq 7, 3) := by decide +kernel
theorem dX4_hasTold_87 : decode cX4_hasTold 87 = .ok (.iconst 1, 1) := by decide +kernel
theorem dX4_hasTold_88 : decode cX4_hasTold 88 = .ok (.goto 4, 3) := by decide +kernel
theorem dX4_hasTold_91 : decode cX4_hasTold 91 = .ok (.iconst 0, 1) := by decide +kernel
theorem dX4_hasTold_92 : decode cX4_hasTold 92 = .ok (.ireturn, 1) := by decide +kernel
theorem dX4_hasTold_93 : decode cX4_hasTold 93 = .ok (.aload_n 0, 1) := by decide +kernel
theorem dX4_hasTold_94 : decode cX4_hasTold 94 = .ok (.getfield 15, 3) := by decide +kernel
theorem dX4_hasTold_97 : decode cX4_hasTold 97 = .ok (.iconst (-1), 1) := by decide +kernel
theorem dX4_hasTold_98 : decode cX4_hasTold 98 = .ok (.if_icmp .eq 7, 3) := by decide +kernel
theorem dX4_hasTold_101 : decode cX4_hasTold 101 = .ok (.iconst 1, 1) := by decide +kernel
theorem dX4_hasTold_102 : decode cX4_hasTold 102 = .ok (.goto 4, 3) := by decide +kernel
theorem dX4_hasTold_105 : decode cX4_hasTold 105 = .ok (.iconst 0, 1) := by decide +kernel
theorem dX4_hasTold_106 : decode cX4_hasTold 106 = .ok (.ireturn, 1) := by decide +kernel
theorem dX4_hasTold_107 : decode cX4_hasTold 107 = .ok (.iconst 0, 1) := by decide +kernel
theorem dX4_hasTold_108 : decode cX4_hasTold 108 = .ok (.ireturn, 1) := by decide +kernel
theorem dX4_setLine_0 : decode cX4_setLine 0 = .ok (.iload_n 1, 1) := by decide +kernel
theorem dX4_setLine_1 : decode cX4_setLine 1 = .ok (.ifCond .ne 11, 3) := by decide +kernel
theorem dX4_setLine_4 : decode cX4_setLine 4 = .ok (.aload_n 0, 1) := by decide +kernel
theorem dX4_setLine_5 : decode cX4_setLine 5 = .ok (.aload_n 2, 1) := by decide +kernel
theorem dX4_setLine_6 : decode cX4_setLine 6 = .ok (.putfield 18, 3) := by decide +kernel
theorem dX4_setLine_9 : decode cX4_setLine 9 = .ok (.goto 21, 3) := by decide +kernel
theorem dX4_setLine_12 : decode cX4_setLine 12 = .ok (.iload_n 1, 1) := by decide +kernel
theorem dX4_setLine_13 : decode cX4_setLine 13 = .ok (.iconst 1, 1) := by decide +kernel
theorem dX4_setLine_14 : decode cX4_setLine 14 = .ok (.if_icmp .ne 11, 3) := by decide +kernel
theorem dX4_setLine_17 : decode cX4_setLine 17 = .ok (.aload_n 0, 1) := by decide +kernel
theorem dX4_setLine_18 : decode cX4_setLine 18 = .ok (.aload_n 2, 1) := by decide +kernel
theorem dX4_setLine_19 : decode cX4_setLine 19 = .ok (.putfield 22, 3) := by decide +kernel
theorem dX4_setLine_22 : decode cX4_setLine 22 = .ok (.goto 8, 3) := by decide +kernel
theorem dX4_setLine_25 : decode cX4_setLine 25 = .ok (.aload_n 0, 1) := by decide +kernel
theorem dX4_setLine_26 : decode cX4_setLine 26 = .ok (.aload_n 2, 1) := by decide +kernel
theorem dX4_setLine_27 : decode cX4_setLine 27 = .ok (.putfield 25, 3) := by decide +kernel
theorem dX4_setLine_30 : decode cX4_setLine 30 = .ok (.return_, 1) := by decide +kernel
theorem dX4_addFall_0 : decode cX4_addFall 0 = .ok (.aload_n 0, 1) := by decide +kernel
theorem dX4_addFall_1 : decode cX4_addFall 1 = .ok (.dup, 1) := by decide +kernel
theorem dX4_addFall_2 : decode cX4_addFall 2 = .ok (.getfield 28, 3) := by decide +kernel
theorem dX4_addFall_5 : decode cX4_addFall 5 = .ok (.iconst 1, 1) := by decide +kernel
theorem dX4_addFall_6 : decode cX4_addFall 6 = .ok (.iadd, 1) := by decide +kernel
theorem dX4_addFall_7 : decode cX4_addFall 7 = .ok (.putfield 28, 3) := by decide +kernel
theorem dX4_addFall_10 : decode cX4_addFall 10 = .ok (.aload_n 0, 1) := by decide +kernel
theorem dX4_addFall_11 : decode cX4_addFall 11 = .ok (.getfield 31, 3) := by decide +kernel
theorem dX4_addFall_14 : decode cX4_addFall 14 = .ok (.ifnull 7, 3) := by decide +kernel
theorem dX4_addFall_17 : decode cX4_addFall 17 = .ok (.aload_n 1, 1) := by decide +kernel
theorem dX4_addFall_18 : decode cX4_addFall 18 = .ok (.ifnonnull 9, 3) := by decide +kernel
theorem dX4_addFall_21 : decode cX4_addFall 21 = .ok (.aload_n 0, 1) := by decide +kernel
theorem dX4_addFall_22 : decode cX4_addFall 22 = .ok (.aload_n 1, 1) := by decide +kernel
theorem dX4_addFall_23 : decode cX4_addFall 23 = .ok (.putfield 31, 3) := by decide +kernel
theorem dX4_addFall_26 : decode cX4_addFall 26 = .ok (.return_, 1) := by decide +kernel
theorem dX4_addFall_27 : decode cX4_addFall 27 = .ok (.aload_n 0, 1) := by decide +kernel
theorem dX4_addFall_28 : decode cX4_addFall 28 = .ok (.getfield 31, 3) := by decide +kernel
theorem dX4_addFall_31 : decode cX4_addFall 31 = .ok (.aload_n 0, 1) := by decide +kernel
theorem dX4_addFall_32 : decode cX4_addFall 32 = .ok (.getfield 31, 3) := by decide +kernel
theorem dX4_addFall_35 : decode cX4_addFall 35 = .ok (.arraylength, 1) := by decide +kernel
theorem dX4_addFall_36 : decode cX4_addFall 36 = .ok (.aload_n 1, 1) := by decide +kernel
theorem dX4_addFall_37 : decode cX4_addFall 37 = .ok (.arraylength, 1) := by decide +kernel
theorem dX4_addFall_38 : decode cX4_addFall 38 = .ok (.iadd, 1) := by decide +kernel
theorem dX4_addFall_39 : decode cX4_addFall 39 = .ok (.iconst 1, 1) := by decide +kernel
theorem dX4_addFall_40 : decode cX4_addFall 40 = .ok (.iadd, 1) := by decide +kernel
theorem dX4_addFall_41 : decode cX4_addFall 41 = .ok (.invokestatic 34, 3) := by decide +kernel
theorem dX4_addFall_44 : decode cX4_addFall 44 = .ok (.astore_n 2, 1) := by decide +kernel
theorem dX4_addFall_45 : decode cX4_addFall 45 = .ok (.aload_n 1, 1) := by decide +kernel
theorem dX4_addFall_46 : decode cX4_addFall 46 = .ok (.iconst 0, 1) := by decide +kernel
theorem dX4_addFall_47 : decode cX4_addFall 47 = .ok (.aload_n 2, 1) := by decide +kernel
theorem dX4_addFall_48 : decode cX4_addFall 48 = .ok (.aload_n 0, 1) := by decide +kernel
theorem dX4_addFall_49 : decode cX4_addFall 49 = .ok (.getfield 31, 3) := by decide +kernel
theorem dX4_addFall_52 : decode cX4_addFall 52 = .ok (.arraylength, 1) := by decide +kernel
theorem dX4_addFall_53 : decode cX4_addFall 53 = .ok (.aload_n 1, 1) := by decide +kernel
theorem dX4_addFall_54 : decode cX4_addFall 54 = .ok (.arraylength, 1) := by decide +kernel
theorem dX4_addFall_55 : decode cX4_addFall 55 = .ok (.invokestatic 40, 3) := by decide +kernel
theorem dX4_addFall_58 : decode cX4_addFall 58 = .ok (.aload_n 2, 1) := by decide +kernel
theorem dX4_addFall_59 : decode cX4_addFall 59 = .ok (.aload_n 2, 1) := by decide +kernel
theorem dX4_addFall_60 : decode cX4_addFall 60 = .ok (.arraylength, 1) := by decide +kernel
theorem dX4_addFall_61 : decode cX4_addFall 61 = .ok (.iconst 1, 1) := by decide +kernel
theorem dX4_addFall_62 : decode cX4_addFall 62 = .ok (.isub, 1) := by decide +kernel
theorem dX4_addFall_63 : decode cX4_addFall 63 = .ok (.sipush 20010, 3) := by decide +kernel
theorem dX4_addFall_66 : decode cX4_addFall 66 = .ok (.iastore, 1) := by decide +kernel
theorem dX4_addFall_67 : decode cX4_addFall 67 = .ok (.aload_n 0, 1) := by decide +kernel
theorem dX4_addFall_68 : decode cX4_addFall 68 = .ok (.aload_n 2, 1) := by decide +kernel
theorem dX4_addFall_69 : decode cX4_addFall 69 = .ok (.putfield 31, 3) := by decide +kernel
theorem dX4_addFall_72 : decode cX4_addFall 72 = .ok (.return_, 1) := by decide +kernel
theorem dX5_init_0 : decode cX5_init 0 = .ok (.aload_n 0, 1) := by decide +kernel
theorem dX5_init_1 : decode cX5_init 1 = .ok (.invokespecial 3, 3) := by decide +kernel
theorem dX5_init_4 : decode cX5_init 4 = .ok (.aload_n 0, 1) := by decide +kernel
theorem dX5_init_5 : decode cX5_init 5 = .ok (.sipush 1000, 3) := by decide +kernel
theorem dX5_init_8 : decode cX5_init 8 = .ok (.newarray .char, 2) := by decide +kernel
theorem dX5_init_10 : decode cX5_init 10 = .ok (.putfield 9, 3) := by decide +kernel
theorem dX5_init_13 : decode cX5_init 13 = .ok (.aload_n 0, 1) := by decide +kernel
theorem dX5_init_14 : decode cX5_init 14 = .ok (.sipush 1000, 3) := by decide +kernel
theorem dX5_init_17 : decode cX5_init 17 = .ok (.newarray .int, 2) := by decide +kernel
theorem dX5_init_19 : decode cX5_init 19 = .ok (.putfield 15, 3) := by decide +kernel
theorem dX5_init_22 : decode cX5_init 22 = .ok (.aload_n 0, 1) := by decide +kernel
theorem dX5_init_23 : decode cX5_init 23 = .ok (.bipush 64, 2) := by decide +kernel
theorem dX5_init_25 : decode cX5_init 25 = .ok (.newarray .int, 2) := by decide +kernel
theorem dX5_init_27 : decode cX5_init 27 = .ok (.putfield 19, 3) := by decide +kernel
theorem dX5_init_30 : decode cX5_init 30 = .ok (.return_, 1) := by decide +kernel
theorem dX5_addBytes_0 : decode cX5_addBytes 0 = .ok (.bipush 56, 2) := by decide +kernel
theorem dX5_addBytes_2 : decode cX5_addBytes 2 = .ok (.istore_n 3, 1) := by decide +kernel
theorem dX5_addBytes_3 : decode cX5_addBytes 3 = .ok (.iload_n 3, 1) := by decide +kernel
theorem dX5_addBytes_4 : decode cX5_addBytes 4 = .ok (.ifCond .lt 86, 3) := by decide +kernel
theorem dX5_addBytes_7 : decode cX5_addBytes 7 = .ok (.lload_n 1, 1) := by decide +kernel
theorem dX5_addBytes_8 : decode cX5_addBytes 8 = .ok (.iload_n 3, 1) := by decide +kernel
theorem dX5_addBytes_9 : decode cX5_addBytes 9 = .ok (.lushr, 1) := by decide +kernel
theorem dX5_addBytes_10 : decode cX5_addBytes 10 = .ok (.ldc2_w 22, 3) := by decide +kernel
theorem dX5_addBytes_13 : decode cX5_addBytes 13 = .ok (.land, 1) := by decide +kernel
theorem dX5_addBytes_14 : decode cX5_addBytes 14 = .ok (.l2i, 1) := by decide +kernel
theorem dX5_addBytes_15 : decode cX5_addBytes 15 = .ok (.istore 4, 2) := by decide +kernel
theorem dX5_addBytes_17 : decode cX5_addBytes 17 = .ok (.iload 4, 2) := by decide +kernel
theorem dX5_addBytes_19 : decode cX5_addBytes 19 = .ok (.bipush 10, 2) := by decide +kernel
theorem dX5_addBytes_21 : decode cX5_addBytes 21 = .ok (.if_icmp .eq 17, 3) := by decide +kernel
theorem dX5_addBytes_24 : decode cX5_addBytes 24 = .ok (.iload 4, 2) := by decide +kernel
theorem dX5_addBytes_26 : decode cX5_addBytes 26 = .ok (.bipush 32, 2) := by decide +kernel
theorem dX5_addBytes_28 : decode cX5_addBytes 28 = .ok (.if_icmp .lt 14, 3) := by decide +kernel
theorem dX5_addBytes_31 : decode cX5_addBytes 31 = .ok (.iload 4, 2) := by decide +kernel
theorem dX5_addBytes_33 : decode cX5_addBytes 33 = .ok (.bipush 126, 2) := by decide +kernel
theorem dX5_addBytes_35 : decode cX5_addBytes 35 = .ok (.if_icmp .gt 7, 3) := by decide +kernel
theorem dX5_addBytes_38 : decode cX5_addBytes 38 = .ok (.iconst 1, 1) := by decide +kernel
theorem dX5_addBytes_39 : decode cX5_addBytes 39 = .ok (.goto 4, 3) := by decide +kernel
theorem dX5_addBytes_42 : decode cX5_addBytes 42 = .ok (.iconst 0, 1) := by decide +kernel
theorem dX5_addBytes_43 : decode cX5_addBytes 43 = .ok (.istore 5, 2) := by decide +kernel
theorem dX5_addBytes_45 : decode cX5_addBytes 45 = .ok (.iload 5, 2) := by decide +kernel
theorem dX5_addBytes_47 : decode cX5_addBytes 47 = .ok (.ifCond .eq 37, 3) := by decide +kernel
theorem dX5_addBytes_50 : decode cX5_addBytes 50 = .ok (.aload_n 0, 1) := by decide +kernel
theorem dX5_addBytes_51 : decode cX5_addBytes 51 = .ok (.getfield 24, 3) := by decide +kernel
theorem dX5_addBytes_54 : decode cX5_addBytes 54 = .ok (.aload_n 0, 1) := by decide +kernel
theorem dX5_addBytes_55 : decode cX5_addBytes 55 = .ok (.getfield 9, 3) := by decide +kernel
theorem dX5_addBytes_58 : decode cX5_addBytes 58 = .ok (.arraylength, 1) := by decide +kernel
theorem dX5_addBytes_59 : decode cX5_addBytes 59 = .ok (.if_icmp .ge 25, 3) := by decide +kernel
theorem dX5_addBytes_62 : decode cX5_addBytes 62 = .ok (.aload_n 0, 1) := by decide +kernel
theorem dX5_addBytes_63 : decode cX5_addBytes 63 = .ok (.getfield 9, 3) := by decide +kernel
theorem dX5_addBytes_66 : decode cX5_addBytes 66 = .ok (.aload_n 0, 1) := by decide +kernel
theorem dX5_addBytes_67 : decode cX5_addBytes 67 = .ok (.getfield 24, 3) := by decide +kernel
theorem dX5_addBytes_70 : decode cX5_addBytes 70 = .ok (.iload 4, 2) := by decide +kernel
theorem dX5_addBytes_72 : decode cX5_addBytes 72 = .ok (.i2c, 1) := by decide +kernel
theorem dX5_addBytes_73 : decode cX5_addBytes 73 = .ok (.castore, 1) := by decide +kernel
theorem dX5_addBytes_74 : decode cX5_addBytes 74 = .ok (.aload_n 0, 1) := by decide +kernel
theorem dX5_addBytes_75 : decode cX5_addBytes 75 = .ok (.dup, 1) := by decide +kernel
theorem dX5_addBytes_76 : decode cX5_addBytes 76 = .ok (.getfield 24, 3) := by decide +kernel
theorem dX5_addBytes_79 : decode cX5_addBytes 79 = .ok (.iconst 1, 1) := by decide +kernel
theorem dX5_addBytes_80 : decode cX5_addBytes 80 = .ok (.iadd, 1) := by decide +kernel
theorem dX5_addBytes_81 : decode cX5_addBytes 81 = .ok (.putfield 24, 3) := by decide +kernel
theorem dX5_addBytes_84 : decode cX5_addBytes 84 = .ok (.iinc 3 (-8), 3) := by decide +kernel
theorem dX5_addBytes_87 : decode cX5_addBytes 87 = .ok (.goto (-84), 3) := by decide +kernel
theorem dX5_addBytes_90 : decode cX5_addBytes 90 = .ok (.return_, 1) := by decide +kernel
theorem dX5_readPact_0 : decode cX5_readPact 0 = .ok (.aload_n 0, 1) := by decide +kernel
theorem dX5_readPact_1 : decode cX5_readPact 1 = .ok (.invokevirtual 28, 3) := by decide +kernel
theorem dX5_readPact_4 : decode cX5_readPact 4 = .ok (.new 31, 3) := by decide +kernel
theorem dX5_readPact_7 : decode cX5_readPact 7 = .ok (.dup, 1) := by decide +kernel
theorem dX5_readPact_8 : decode cX5_readPact 8 = .ok (.invokespecial 33, 3) := by decide +kernel
theorem dX5_readPact_11 : decode cX5_readPact 11 = .ok (.astore_n 1, 1) := by decide +kernel
theorem dX5_readPact_12 : decode cX5_readPact 12 = .ok (.iconst 0, 1) := by decide +kernel
theorem dX5_readPact_13 : decode cX5_readPact 13 = .ok (.istore_n 2, 1) := by decide +kernel
theorem dX5_readPact_14 : decode cX5_readPact 14 = .ok (.iload_n 2, 1) := by decide +kernel
theorem dX5_readPact_15 : decode cX5_readPact 15 = .ok (.sipush 1000, 3) := by decide +kernel
theorem dX5_readPact_18 : decode cX5_readPact 18 = .ok (.if_icmp .ge 30, 3) := by decide +kernel
theorem dX5_readPact_21 : decode cX5_readPact 21 = .ok (.aload_n 0, 1) := by decide +kernel
theorem dX5_readPact_22 : decode cX5_readPact 22 = .ok (.getfield 34, 3) := by decide +kernel
theorem dX5_readPact_25 : decode cX5_readPact 25 = .ok (.bipush 32, 2) := by decide +kernel
theorem dX5_readPact_27 : decode cX5_readPact 27 = .ok (.if_icmp .eq 21, 3) := by decide +kernel
theorem dX5_readPact_30 : decode cX5_readPact 30 = .ok (.aload_n 0, 1) := by decide +kernel
theorem dX5_readPact_31 : decode cX5_readPact 31 = .ok (.getfield 37, 3) := by decide +kernel
theorem dX5_readPact_34 : decode cX5_readPact 34 = .ok (.ifCond .ne 14, 3) := by decide +kernel
theorem dX5_readPact_37 : decode cX5_readPact 37 = .ok (.aload_n 0, 1) := by decide +kernel
theorem dX5_readPact_38 : decode cX5_readPact 38 = .ok (.aload_n 1, 1) := by decide +kernel
theorem dX5_readPact_39 : decode cX5_readPact 39 = .ok (.invokevirtual 40, 3) := by decide +kernel
theorem dX5_readPact_42 : decode cX5_readPact 42 = .ok (.iinc 2 1, 3) := by decide +kernel
theorem dX5_readPact_45 : decode cX5_readPact 45 = .ok (.goto (-31), 3) := by decide +kernel
theorem dX5_readPact_48 : decode cX5_readPact 48 = .ok (.aload_n 0, 1) := by decide +kernel
theorem dX5_readPact_49 : decode cX5_readPact 49 = .ok (.iconst 0, 1) := by decide +kernel
theorem dX5_readPact_50 : decode cX5_readPact 50 = .ok (.putfield 24, 3) := by decide +kernel
theorem dX5_readPact_53 : decode cX5_readPact 53 = .ok (.aload_n 0, 1) := by decide +kernel
theorem dX5_readPact_54 : decode cX5_readPact 54 = .ok (.getfield 37, 3) := by decide +kernel
theorem dX5_readPact_57 : decode cX5_readPact 57 = .ok (.ifCond .ne 7, 3) := by decide +kernel
theorem dX5_readPact_60 : decode cX5_readPact 60 = .ok (.aload_n 1, 1) := by decide +kernel
theorem dX5_readPact_61 : decode cX5_readPact 61 = .ok (.goto 4, 3) := by decide +kernel
theorem dX5_readPact_64 : decode cX5_readPact 64 = .ok (.aconst_null, 1) := by decide +kernel
theorem dX5_readPact_65 : decode cX5_readPact 65 = .ok (.areturn, 1) := by decide +kernel
theorem dX5_readPactLine_0 : decode cX5_readPactLine 0 = .ok (.aload_n 0, 1) := by decide +kernel
theorem dX5_readPactLine_1 : decode cX5_readPactLine 1 = .ok (.getfield 34, 3) := by decide +kernel
theorem dX5_readPactLine_4 : decode cX5_readPactLine 4 = .ok (.istore_n 2, 1) := by decide +kernel
theorem dX5_readPactLine_5 : decode cX5_readPactLine 5 = .ok (.iload_n 2, 1) := by decide +kernel
theorem dX5_readPactLine_6 : decode cX5_readPactLine 6 = .ok (.iconst 5, 1) := by decide +kernel
theorem dX5_readPactLine_7 : decode cX5_readPactLine 7 = .ok (.if_icmp .le 11, 3) := by decide +kernel
theorem dX5_readPactLine_10 : decode cX5_readPactLine 10 = .ok (.aload_n 0, 1) := by decide +kernel
theorem dX5_readPactLine_11 : decode cX5_readPactLine 11 = .ok (.iconst 1, 1) := by decide +kernel
theorem dX5_readPactLine_12 : decode cX5_readPactLine 12 = .ok (.invokevirtual 44, 3) := by decide +kernel
theorem dX5_readPactLine_15 : decode cX5_readPactLine 15 = .ok (.goto 38, 3) := by decide +kernel
theorem dX5_readPactLine_18 : decode cX5_readPactLine 18 = .ok (.aload_n 1, 1) := by decide +kernel
theorem dX5_readPactLine_19 : decode cX5_readPactLine 19 = .ok (.iload_n 2, 1) := by decide +kernel
theorem dX5_readPactLine_20 : decode cX5_readPactLine 20 = .ok (.invokevirtual 48, 3) := by decide +kernel
theorem dX5_readPactLine_23 : decode cX5_readPactLine 23 = .ok (.ifCond .eq 11, 3) := by decide +kernel
theorem dX5_readPactLine_26 : decode cX5_readPactLine 26 = .ok (.aload_n 0, 1) := by decide +kernel
theorem dX5_readPactLine_27 : decode cX5_readPactLine 27 = .ok (.iconst 3, 1) := by decide +kernel
theorem dX5_readPactLine_28 : decode cX5_readPactLine 28 = .ok (.invokevirtual 44, 3) := by decide +kernel
theorem dX5_readPactLine_31 : decode cX5_readPactLine 31 = .ok (.goto 22, 3) := by decide +kernel
theorem dX5_readPactLine_34 : decode cX5_readPactLine 34 = .ok (.iload_n 2, 1) := by decide +kernel
theorem dX5_readPactLine_35 : decode cX5_readPactLine 35 = .ok (.iconst 3, 1) := by decide +kernel
theorem dX5_readPactLine_36 : decode cX5_readPactLine 36 = .ok (.if_icmp .ne 17, 3) := by decide +kernel
theorem dX5_readPactLine_39 : decode cX5_readPactLine 39 = .ok (.aload_n 1, 1) := by decide +kernel
theorem dX5_readPactLine_40 : decode cX5_readPactLine 40 = .ok (.getfield 52, 3) := by decide +kernel
theorem dX5_readPactLine_43 : decode cX5_readPactLine 43 = .ok (.bipush 8, 2) := by decide +kernel
theorem dX5_readPactLine_45 : decode cX5_readPactLine 45 = .ok (.if_icmp .lt 8, 3) := by decide +kernel
theorem dX5_readPactLine_48 : decode cX5_readPactLine 48 = .ok (.aload_n 0, 1) := by decide +kernel
theorem dX5_readPactLine_49 : decode cX5_readPactLine 49 = .ok (.iconst 5, 1) := by decide +kernel
theorem dX5_readPactLine_50 : decode cX5_readPactLine 50 = .ok (.invokevirtual 44, 3) := by decide +kernel
theorem dX5_readPactLine_53 : decode cX5_readPactLine 53 = .ok (.aload_n 0, 1) := by decide +kernel
theorem dX5_readPactLine_54 : decode cX5_readPactLine 54 = .ok (.getfield 37, 3) := by decide +kernel
theorem dX5_readPactLine_57 : decode cX5_readPactLine 57 = .ok (.ifCond .eq 4, 3) := by decide +kernel
theorem dX5_readPactLine_60 : decode cX5_readPactLine 60 = .ok (.return_, 1) := by decide +kernel
theorem dX5_readPactLine_61 : decode cX5_readPactLine 61 = .ok (.aload_n 0, 1) := by decide +kernel
theorem dX5_readPactLine_62 : decode cX5_readPactLine 62 = .ok (.invokevirtual 55, 3) := by decide +kernel
theorem dX5_readPactLine_65 : decode cX5_readPactLine 65 = .ok (.iload_n 2, 1) := by decide +kernel
theorem dX5_readPactLine_66 : decode cX5_readPactLine 66 = .ok (.tableswitch 103 3 5 #[26, 43, 90], 26) := by decide +kernel
theorem dX5_readPactLine_92 : decode cX5_readPactLine 92 = .ok (.aload_n 0, 1) := by decide +kernel
theorem dX5_readPactLine_93 : decode cX5_readPactLine 93 = .ok (.bipush 6, 2) := by decide +kernel
theorem dX5_readPactLine_95 : decode cX5_readPactLine 95 = .ok (.invokevirtual 58, 3) := by decide +kernel
theorem dX5_readPactLine_98 : decode cX5_readPactLine 98 = .ok (.aload_n 1, 1) := by decide +kernel
theorem dX5_readPactLine_99 : decode cX5_readPactLine 99 = .ok (.aload_n 0, 1) := by decide +kernel
theorem dX5_readPactLine_100 : decode cX5_readPactLine 100 = .ok (.invokevirtual 61, 3) := by decide +kernel
theorem dX5_readPactLine_103 : decode cX5_readPactLine 103 = .ok (.invokevirtual 65, 3) := by decide +kernel
theorem dX5_readPactLine_106 : decode cX5_readPactLine 106 = .ok (.goto 72, 3) := by decide +kernel
theorem dX5_readPactLine_109 : decode cX5_readPactLine 109 = .ok (.aload_n 1, 1) := by decide +kernel
theorem dX5_readPactLine_110 : decode cX5_readPactLine 110 = .ok (.aload_n 0, 1) := by decide +kernel
theorem dX5_readPactLine_111 : decode cX5_readPactLine 111 = .ok (.getfield 34, 3) := by decide +kernel
theorem dX5_readPactLine_114 : decode cX5_readPactLine 114 = .ok (.putfield 69, 3) := by decide +kernel
theorem dX5_readPactLine_117 : decode cX5_readPactLine 117 = .ok (.aload_n 0, 1) := by decide +kernel
theorem dX5_readPactLine_118 : decode cX5_readPactLine 118 = .ok (.getfield 34, 3) := by decide +kernel
theorem dX5_readPactLine_121 : decode cX5_readPactLine 121 = .ok (.bipush 13, 2) := by decide +kernel
theorem dX5_readPactLine_123 : decode cX5_readPactLine 123 = .ok (.if_icmp .eq 26, 3) := by decide +kernel
theorem dX5_readPactLine_126 : decode cX5_readPactLine 126 = .ok (.aload_n 0, 1) := by decide +kernel
theorem dX5_readPactLine_127 : decode cX5_readPactLine 127 = .ok (.getfield 34, 3) := by decide +kernel
theorem dX5_readPactLine_130 : decode cX5_readPactLine 130 = .ok (.bipush 14, 2) := by decide +kernel
theorem dX5_readPactLine_132 : decode cX5_readPactLine 132 = .ok (.if_icmp .eq 17, 3) := by decide +kernel
theorem dX5_readPactLine_135 : decode cX5_readPactLine 135 = .ok (.aload_n 0, 1) := by decide +kernel
theorem dX5_readPactLine_136 : decode cX5_readPactLine 136 = .ok (.getfield 34, 3) := by decide +kernel
theorem dX5_readPactLine_139 : decode cX5_readPactLine 139 = .ok (.bipush 12, 2) := by decide +kernel
theorem dX5_readPactLine_141 : decode cX5_readPactLine 141 = .ok (.if_icmp .eq 8, 3) := by decide +kernel
theorem dX5_readPactLine_144 : decode cX5_readPactLine 144 = .ok (.aload_n 0, 1) := by decide +kernel
theorem dX5_readPactLine_145 : decode cX5_readPactLine 145 = .ok (.iconst 1, 1) := by decide +kernel
theorem dX5_readPactLine_146 : decode cX5_readPactLine 146 = .ok (.invokevirtual 44, 3) := by decide +kernel
theorem dX5_readPactLine_149 : decode cX5_readPactLine 149 = .ok (.aload_n 0, 1) := by decide +kernel
theorem dX5_readPactLine_150 : decode cX5_readPactLine 150 = .ok (.invokevirtual 55, 3) := by decide +kernel
theorem dX5_readPactLine_153 : decode cX5_readPactLine 153 = .ok (.goto 25, 3) := by decide +kernel
theorem dX5_readPactLine_156 : decode cX5_readPactLine 156 = .ok (.aload_n 1, 1) := by decide +kernel
theorem dX5_readPactLine_157 : decode cX5_readPactLine 157 = .ok (.aload_n 0, 1) := by decide +kernel
theorem dX5_readPactLine_158 : decode cX5_readPactLine 158 = .ok (.bipush 50, 2) := by decide +kernel
theorem dX5_readPactLine_160 : decode cX5_readPactLine 160 = .ok (.invokevirtual 72, 3) := by decide +kernel
theorem dX5_readPactLine_163 : decode cX5_readPactLine 163 = .ok (.putfield 76, 3) := by decide +kernel
theorem dX5_readPactLine_166 : decode cX5_readPactLine 166 = .ok (.goto 12, 3) := by decide +kernel
theorem dX5_readPactLine_169 : decode cX5_readPactLine 169 = .ok (.aload_n 1, 1) := by decide +kernel
theorem dX5_readPactLine_170 : decode cX5_readPactLine 170 = .ok (.iload_n 2, 1) := by decide +kernel
theorem dX5_readPactLine_171 : decode cX5_readPactLine 171 = .ok (.aload_n 0, 1) := by decide +kernel
theorem dX5_readPactLine_172 : decode cX5_readPactLine 172 = .ok (.invokevirtual 61, 3) := by decide +kernel
theorem dX5_readPactLine_175 : decode cX5_readPactLine 175 = .ok (.invokevirtual 79, 3) := by decide +kernel
theorem dX5_readPactLine_178 : decode cX5_readPactLine 178 = .ok (.aload_n 0, 1) := by decide +kernel
theorem dX5_readPactLine_179 : decode cX5_readPactLine 179 = .ok (.bipush 59, 2) := by decide +kernel
theorem dX5_readPactLine_181 : decode cX5_readPactLine 181 = .ok (.invokevirtual 58, 3) := by decide +kernel
theorem dX5_readPactLine_184 : decode cX5_readPactLine 184 = .ok (.return_, 1) := by decide +kernel
theorem dX5_readLaw_0 : decode cX5_readLaw 0 = .ok (.aload_n 0, 1) := by decide +kernel
theorem dX5_readLaw_1 : decode cX5_readLaw 1 = .ok (.invokevirtual 28, 3) := by decide +kernel
theorem dX5_readLaw_4 : decode cX5_readLaw 4 = .ok (.iconst 0, 1) := by decide +kernel
theorem dX5_readLaw_5 : decode cX5_readLaw 5 = .ok (.istore_n 1, 1) := by decide +kernel
theorem dX5_readLaw_6 : decode cX5_readLaw 6 = .ok (.iconst (-1), 1) := by decide +kernel
theorem dX5_readLaw_7 : decode cX5_readLaw 7 = .ok (.istore_n 2, 1) := by decide +kernel
theorem dX5_readLaw_8 : decode cX5_readLaw 8 = .ok (.iconst 0, 1) := by decide +kernel
theorem dX5_readLaw_9 : decode cX5_readLaw 9 = .ok (.istore_n 3, 1) := by decide +kernel
theorem dX5_readLaw_10 : decode cX5_readLaw 10 = .ok (.iload_n 3, 1) := by decide +kernel
theorem dX5_readLaw_11 : decode cX5_readLaw 11 = .ok (.sipush 1000, 3) := by decide +kernel
theorem dX5_readLaw_14 : decode cX5_readLaw 14 = .ok (.if_icmp .ge 101, 3) := by decide +kernel
theorem dX5_readLaw_17 : decode cX5_readLaw 17 = .ok (.aload_n 0, 1) := by decide +kernel
theorem dX5_readLaw_18 : decode cX5_readLaw 18 = .ok (.getfield 34, 3) := by decide +kernel
theorem dX5_readLaw_21 : decode cX5_readLaw 21 = .ok (.bipush 32, 2) := by decide +kernel
theorem dX5_readLaw_23 : decode cX5_readLaw 23 = .ok (.if_icmp .eq 92, 3) := by decide +kernel
theorem dX5_readLaw_26 : decode cX5_readLaw 26 = .ok (.aload_n 0, 1) := by decide +kernel
theorem dX5_readLaw_27 : decode cX5_readLaw 27 = .ok (.getfield 37, 3) := by decide +kernel
theorem dX5_readLaw_30 : decode cX5_readLaw 30 = .ok (.ifCond .ne 85, 3) := by decide +kernel
theorem dX5_readLaw_33 : decode cX5_readLaw 33 = .ok (.aload_n 0, 1) := by decide +kernel
theorem dX5_readLaw_34 : decode cX5_readLaw 34 = .ok (.getfield 34, 3) := by decide +kernel
theorem dX5_readLaw_37 : decode cX5_readLaw 37 = .ok (.bipush 7, 2) := by decide +kernel
theorem dX5_readLaw_39 : decode cX5_readLaw 39 = .ok (.if_icmp .ne 18, 3) := by decide +kernel
theorem dX5_readLaw_42 : decode cX5_readLaw 42 = .ok (.aload_n 0, 1) := by decide +kernel
theorem dX5_readLaw_43 : decode cX5_readLaw 43 = .ok (.invokevirtual 55, 3) := by decide +kernel
theorem dX5_readLaw_46 : decode cX5_readLaw 46 = .ok (.iload_n 1, 1) := by decide +kernel
theorem dX5_readLaw_47 : decode cX5_readLaw 47 = .ok (.aload_n 0, 1) := by decide +kernel
theorem dX5_readLaw_48 : decode cX5_readLaw 48 = .ok (.iload_n 1, 1) := by decide +kernel
theorem dX5_readLaw_49 : decode cX5_readLaw 49 = .ok (.invokevirtual 83, 3) := by decide +kernel
theorem dX5_readLaw_52 : decode cX5_readLaw 52 = .ok (.ior, 1) := by decide +kernel
theorem dX5_readLaw_53 : decode cX5_readLaw 53 = .ok (.istore_n 1, 1) := by decide +kernel
theorem dX5_readLaw_54 : decode cX5_readLaw 54 = .ok (.goto 49, 3) := by decide +kernel
theorem dX5_readLaw_57 : decode cX5_readLaw 57 = .ok (.aload_n 0, 1) := by decide +kernel
theorem dX5_readLaw_58 : decode cX5_readLaw 58 = .ok (.getfield 34, 3) := by decide +kernel
theorem dX5_readLaw_61 : decode cX5_readLaw 61 = .ok (.bipush 8, 2) := by decide +kernel
theorem dX5_readLaw_63 : decode cX5_readLaw 63 = .ok (.if_icmp .ne 22, 3) := by decide +kernel
theorem dX5_readLaw_66 : decode cX5_readLaw 66 = .ok (.iload_n 2, 1) := by decide +kernel
theorem dX5_readLaw_67 : decode cX5_readLaw 67 = .ok (.iconst (-1), 1) := by decide +kernel
theorem dX5_readLaw_68 : decode cX5_readLaw 68 = .ok (.if_icmp .ne 17, 3) := by decide +kernel
theorem dX5_readLaw_71 : decode cX5_readLaw 71 = .ok (.aload_n 0, 1) := by decide +kernel
theorem dX5_readLaw_72 : decode cX5_readLaw 72 = .ok (.invokevirtual 55, 3) := by decide +kernel
theorem dX5_readLaw_75 : decode cX5_readLaw 75 = .ok (.aload_n 0, 1) := by decide +kernel
theorem dX5_readLaw_76 : decode cX5_readLaw 76 = .ok (.bipush 99, 2) := by decide +kernel
theorem dX5_readLaw_78 : decode cX5_readLaw 78 = .ok (.invokevirtual 72, 3) := by decide +kernel
theorem dX5_readLaw_81 : decode cX5_readLaw 81 = .ok (.istore_n 2, 1) := by decide +kernel
theorem dX5_readLaw_82 : decode cX5_readLaw 82 = .ok (.goto 21, 3) := by decide +kernel
theorem dX5_readLaw_85 : decode cX5_readLaw 85 = .ok (.aload_n 0, 1) := by decide +kernel
theorem dX5_readLaw_86 : decode cX5_readLaw 86 = .ok (.aload_n 0, 1) := by decide +kernel
theorem dX5_readLaw_87 : decode cX5_readLaw 87 = .ok (.getfield 34, 3) := by decide +kernel
theorem dX5_readLaw_90 : decode cX5_readLaw 90 = .ok (.bipush 8, 2) := by decide +kernel
theorem dX5_readLaw_92 : decode cX5_readLaw 92 = .ok (.if_icmp .ne 7, 3) := by decide +kernel
theorem dX5_readLaw_95 : decode cX5_readLaw 95 = .ok (.iconst 3, 1) := by decide +kernel
theorem dX5_readLaw_96 : decode cX5_readLaw 96 = .ok (.goto 4, 3) := by decide +kernel
theorem dX5_readLaw_99 : decode cX5_readLaw 99 = .ok (.iconst 1, 1) := by decide +kernel
theorem dX5_readLaw_100 : decode cX5_readLaw 100 = .ok (.invokevirtual 44, 3) := by decide +kernel
theorem dX5_readLaw_103 : decode cX5_readLaw 103 = .ok (.aload_n 0, 1) := by decide +kernel
theorem dX5_readLaw_104 : decode cX5_readLaw 104 = .ok (.bipush 59, 2) := by decide +kernel
theorem dX5_readLaw_106 : decode cX5_readLaw 106 = .ok (.invokevirtual 58, 3) := by decide +kernel
theorem dX5_readLaw_109 : decode cX5_readLaw 109 = .ok (.iinc 3 1, 3) := by decide +kernel
theorem dX5_readLaw_112 : decode cX5_readLaw 112 = .ok (.goto (-102), 3) := by decide +kernel
theorem dX5_readLaw_115 : decode cX5_readLaw 115 = .ok (.aload_n 0, 1) := by decide +kernel
theorem dX5_readLaw_116 : decode cX5_readLaw 116 = .ok (.iconst 0, 1) := by decide +kernel
theorem dX5_readLaw_117 : decode cX5_readLaw 117 = .ok (.putfield 24, 3) := by decide +kernel
theorem dX5_readLaw_120 : decode cX5_readLaw 120 = .ok (.aload_n 0, 1) := by decide +kernel
theorem dX5_readLaw_121 : decode cX5_readLaw 121 = .ok (.getfield 37, 3) := by decide +kernel
theorem dX5_readLaw_124 : decode cX5_readLaw 124 = .ok (.ifCond .ne 19, 3) := by decide +kernel
theorem dX5_readLaw_127 : decode cX5_readLaw 127 = .ok (.new 86, 3) := by decide +kernel
theorem dX5_readLaw_130 : decode cX5_readLaw 130 = .ok (.dup, 1) := by decide +kernel
theorem dX5_readLaw_131 : decode cX5_readLaw 131 = .ok (.iload_n 1, 1) := by decide +kernel
theorem dX5_readLaw_132 : decode cX5_readLaw 132 = .ok (.iconst 0, 1) := by decide +kernel
theorem dX5_readLaw_133 : decode cX5_readLaw 133 = .ok (.iload_n 2, 1) := by decide +kernel
theorem dX5_readLaw_134 : decode cX5_readLaw 134 = .ok (.invokestatic 88, 3) := by decide +kernel
theorem dX5_readLaw_137 : decode cX5_readLaw 137 = .ok (.invokespecial 94, 3) := by decide +kernel
theorem dX5_readLaw_140 : decode cX5_readLaw 140 = .ok (.goto 4, 3) := by decide +kernel
theorem dX5_readLaw_143 : decode cX5_readLaw 143 = .ok (.aconst_null, 1) := by decide +kernel
theorem dX5_readLaw_144 : decode cX5_readLaw 144 = .ok (.areturn, 1) := by decide +kernel
theorem dX5_readVoidKind_0 : decode cX5_readVoidKind 0 = .ok (.aload_n 0, 1) := by decide +kernel
theorem dX5_readVoidKind_1 : decode cX5_readVoidKind 1 = .ok (.getfield 34, 3) := by decide +kernel
theorem dX5_readVoidKind_4 : decode cX5_readVoidKind 4 = .ok (.iconst 5, 1) := by decide +kernel
theorem dX5_readVoidKind_5 : decode cX5_readVoidKind 5 = .ok (.if_icmp .le 10, 3) := by decide +kernel
theorem dX5_readVoidKind_8 : decode cX5_readVoidKind 8 = .ok (.aload_n 0, 1) := by decide +kernel
theorem dX5_readVoidKind_9 : decode cX5_readVoidKind 9 = .ok (.iconst 1, 1) := by decide +kernel
theorem dX5_readVoidKind_10 : decode cX5_readVoidKind 10 = .ok (.invokevirtual 44, 3) := by decide +kernel
theorem dX5_readVoidKind_13 : decode cX5_readVoidKind 13 = .ok (.iconst 0, 1) := by decide +kernel
theorem dX5_readVoidKind_14 : decode cX5_readVoidKind 14 = .ok (.ireturn, 1) := by decide +kernel
theorem dX5_readVoidKind_15 : decode cX5_readVoidKind 15 = .ok (.iload_n 1, 1) := by decide +kernel
theorem dX5_readVoidKind_16 : decode cX5_readVoidKind 16 = .ok (.aload_n 0, 1) := by decide +kernel
theorem dX5_readVoidKind_17 : decode cX5_readVoidKind 17 = .ok (.getfield 34, 3) := by decide +kernel
theorem dX5_readVoidKind_20 : decode cX5_readVoidKind 20 = .ok (.ishr, 1) := by decide +kernel
theorem dX5_readVoidKind_21 : decode cX5_readVoidKind 21 = .ok (.iconst 1, 1) := by decide +kernel
theorem dX5_readVoidKind_22 : decode cX5_readVoidKind 22 = .ok (.iand, 1) := by decide +kernel
theorem dX5_readVoidKind_23 : decode cX5_readVoidKind 23 = .ok (.iconst 1, 1) := by decide +kernel
theorem dX5_readVoidKind_24 : decode cX5_readVoidKind 24 = .ok (.if_icmp .ne 8, 3) := by decide +kernel
theorem dX5_readVoidKind_27 : decode cX5_readVoidKind 27 = .ok (.aload_n 0, 1) := by decide +kernel
theorem dX5_readVoidKind_28 : decode cX5_readVoidKind 28 = .ok (.iconst 3, 1) := by decide +kernel
theorem dX5_readVoidKind_29 : decode cX5_readVoidKind 29 = .ok (.invokevirtual 44, 3) := by decide +kernel
theorem dX5_readVoidKind_32 : decode cX5_readVoidKind 32 = .ok (.iconst 1, 1) := by decide +kernel
theorem dX5_readVoidKind_33 : decode cX5_readVoidKind 33 = .ok (.aload_n 0, 1) := by decide +kernel
theorem dX5_readVoidKind_34 : decode cX5_readVoidKind 34 = .ok (.getfield 34, 3) := by decide +kernel
theorem dX5_readVoidKind_37 : decode cX5_readVoidKind 37 = .ok (.ishl, 1) := by decide +kernel
theorem dX5_readVoidKind_38 : decode cX5_readVoidKind 38 = .ok (.istore_n 2, 1) := by decide +kernel
theorem dX5_readVoidKind_39 : decode cX5_readVoidKind 39 = .ok (.aload_n 0, 1) := by decide +kernel
theorem dX5_readVoidKind_40 : decode cX5_readVoidKind 40 = .ok (.invokevirtual 55, 3) := by decide +kernel
theorem dX5_readVoidKind_43 : decode cX5_readVoidKind 43 = .ok (.iload_n 2, 1) := by decide +kernel
theorem dX5_readVoidKind_44 : decode cX5_readVoidKind 44 = .ok (.ireturn, 1) := by decide +kernel
theorem dX5_readNumber_0 : decode cX5_readNumber 0 = .ok (.aload_n 0, 1) := by decide +kernel
theorem dX5_readNumber_1 : decode cX5_readNumber 1 = .ok (.getfield 97, 3) := by decide +kernel
theorem dX5_readNumber_4 : decode cX5_readNumber 4 = .ok (.istore_n 2, 1) := by decide +kernel
theorem dX5_readNumber_5 : decode cX5_readNumber 5 = .ok (.aload_n 0, 1) := by decide +kernel
theorem dX5_readNumber_6 : decode cX5_readNumber 6 = .ok (.getfield 34, 3) := by decide +kernel
theorem dX5_readNumber_9 : decode cX5_readNumber 9 = .ok (.bipush 30, 2) := by decide +kernel
theorem dX5_readNumber_11 : decode cX5_readNumber 11 = .ok (.if_icmp .eq 11, 3) := by decide +kernel
theorem dX5_readNumber_14 : decode cX5_readNumber 14 = .ok (.aload_n 0, 1) := by decide +kernel
theorem dX5_readNumber_15 : decode cX5_readNumber 15 = .ok (.iconst 1, 1) := by decide +kernel
theorem dX5_readNumber_16 : decode cX5_readNumber 16 = .ok (.invokevirtual 44, 3) := by decide +kernel
theorem dX5_readNumber_19 : decode cX5_readNumber 19 = .ok (.goto 13, 3) := by decide +kernel
theorem dX5_readNumber_22 : decode cX5_readNumber 22 = .ok (.iload_n 2, 1) := by decide +kernel
theorem dX5_readNumber_23 : decode cX5_readNumber 23 = .ok (.iload_n 1, 1) := by decide +kernel
theorem dX5_readNumber_24 : decode cX5_readNumber 24 = .ok (.if_icmp .le 8, 3) := by decide +kernel
theorem dX5_readNumber_27 : decode cX5_readNumber 27 = .ok (.aload_n 0, 1) := by decide +kernel
theorem dX5_readNumber_28 : decode cX5_readNumber 28 = .ok (.iconst 4, 1) := by decide +kernel
theorem dX5_readNumber_29 : decode cX5_readNumber 29 = .ok (.invokevirtual 44, 3) := by decide +kernel
theorem dX5_readNumber_32 : decode cX5_readNumber 32 = .ok (.aload_n 0, 1) := by decide +kernel
theorem dX5_readNumber_33 : decode cX5_readNumber 33 = .ok (.invokevirtual 55, 3) := by decide +kernel
theorem dX5_readNumber_36 : decode cX5_readNumber 36 = .ok (.iload_n 2, 1) := by decide +kernel
theorem dX5_readNumber_37 : decode cX5_readNumber 37 = .ok (.ireturn, 1) := by decide +kernel
theorem dX5_expect_0 : decode cX5_expect 0 = .ok (.aload_n 0, 1) := by decide +kernel
theorem dX5_expect_1 : decode cX5_expect 1 = .ok (.getfield 34, 3) := by decide +kernel
theorem dX5_expect_4 : decode cX5_expect 4 = .ok (.iload_n 1, 1) := by decide +kernel
theorem dX5_expect_5 : decode cX5_expect 5 = .ok (.if_icmp .eq 8, 3) := by decide +kernel
theorem dX5_expect_8 : decode cX5_expect 8 = .ok (.aload_n 0, 1) := by decide +kernel
theorem dX5_expect_9 : decode cX5_expect 9 = .ok (.iconst 1, 1) := by decide +kernel
theorem dX5_expect_10 : decode cX5_expect 10 = .ok (.invokevirtual 44, 3) := by decide +kernel
theorem dX5_expect_13 : decode cX5_expect 13 = .ok (.aload_n 0, 1) := by decide +kernel
theorem dX5_expect_14 : decode cX5_expect 14 = .ok (.invokevirtual 55, 3) := by decide +kernel
theorem dX5_expect_17 : decode cX5_expect 17 = .ok (.return_, 1) := by decide +kernel
theorem dX5_refuse_0 : decode cX5_refuse 0 = .ok (.aload_n 0, 1) := by decide +kernel
theorem dX5_refuse_1 : decode cX5_refuse 1 = .ok (.getfield 37, 3) := by decide +kernel
theorem dX5_refuse_4 : decode cX5_refuse 4 = .ok (.ifCond .ne 16, 3) := by decide +kernel
theorem dX5_refuse_7 : decode cX5_refuse 7 = .ok (.aload_n 0, 1) := by decide +kernel
theorem dX5_refuse_8 : decode cX5_refuse 8 = .ok (.iload_n 1, 1) := by decide +kernel
theorem dX5_refuse_9 : decode cX5_refuse 9 = .ok (.bipush 16, 2) := by decide +kernel
theorem dX5_refuse_11 : decode cX5_refuse 11 = .ok (.aload_n 0, 1) := by decide +kernel
theorem dX5_refuse_12 : decode cX5_refuse 12 = .ok (.getfield 100, 3) := by decide +kernel
theorem dX5_refuse_15 : decode cX5_refuse 15 = .ok (.imul, 1) := by decide +kernel
theorem dX5_refuse_16 : decode cX5_refuse 16 = .ok (.iadd, 1) := by decide +kernel
theorem dX5_refuse_17 : decode cX5_refuse 17 = .ok (.putfield 37, 3) := by decide +kernel
theorem dX5_refuse_20 : decode cX5_refuse 20 = .ok (.return_, 1) := by decide +kernel
theorem dX5_readExpression_0 : decode cX5_readExpression 0 = .ok (.aload_n 0, 1) := by decide +kernel
theorem dX5_readExpression_1 : decode cX5_readExpression 1 = .ok (.iconst 0, 1) := by decide +kernel
theorem dX5_readExpression_2 : decode cX5_readExpression 2 = .ok (.putfield 103, 3) := by decide +kernel
theorem dX5_readExpression_5 : decode cX5_readExpression 5 = .ok (.aload_n 0, 1) := by decide +kernel
theorem dX5_readExpression_6 : decode cX5_readExpression 6 = .ok (.iconst 0, 1) := by decide +kernel
theorem dX5_readExpression_7 : decode cX5_readExpression 7 = .ok (.putfield 106, 3) := by decide +kernel
theorem dX5_readExpression_10 : decode cX5_readExpression 10 = .ok (.aload_n 0, 1) := by decide +kernel
theorem dX5_readExpression_11 : decode cX5_readExpression 11 = .ok (.iconst 1, 1) := by decide +kernel
theorem dX5_readExpression_12 : decode cX5_readExpression 12 = .ok (.putfield 109, 3) := by decide +kernel
theorem dX5_readExpression_15 : decode cX5_readExpression 15 = .ok (.aload_n 0, 1) := by decide +kernel
theorem dX5_readExpression_16 : decode cX5_readExpression 16 = .ok (.iconst 0, 1) := by decide +kernel
theorem dX5_readExpression_17 : decode cX5_readExpression 17 = .ok (.putfield 113, 3) := by decide +kernel
theorem dX5_readExpression_20 : decode cX5_readExpression 20 = .ok (.aload_n 0, 1) := by decide +kernel
theorem dX5_readExpression_21 : decode cX5_readExpression 21 = .ok (.iconst 0, 1) := by decide +kernel
theorem dX5_readExpression_22 : decode cX5_readExpression 22 = .ok (.putfield 116, 3) := by decide +kernel
theorem dX5_readExpression_25 : decode cX5_readExpression 25 = .ok (.iconst 0, 1) := by decide +kernel
theorem dX5_readExpression_26 : decode cX5_readExpression 26 = .ok (.istore_n 1, 1) := by decide +kernel
theorem dX5_readExpression_27 : decode cX5_readExpression 27 = .ok (.iload_n 1, 1) := by decide +kernel
theorem dX5_readExpression_28 : decode cX5_readExpression 28 = .ok (.sipush 1000, 3) := by decide +kernel
theorem dX5_readExpression_31 : decode cX5_readExpression 31 = .ok (.if_icmp .ge 62, 3) := by decide +kernel
theorem dX5_readExpression_34 : decode cX5_readExpression 34 = .ok (.aload_n 0, 1) := by decide +kernel
theorem dX5_readExpression_35 : decode cX5_readExpression 35 = .ok (.getfield 37, 3) := by decide +kernel
theorem dX5_readExpression_38 : decode cX5_readExpression 38 = .ok (.ifCond .ne 55, 3) := by decide +kernel
theorem dX5_readExpression_41 : decode cX5_readExpression 41 = .ok (.aload_n 0, 1) := by decide +kernel
theorem dX5_readExpression_42 : decode cX5_readExpression 42 = .ok (.getfield 109, 3) := by decide +kernel
theorem dX5_readExpression_45 : decode cX5_readExpression 45 = .ok (.ifCond .eq 10, 3) := by decide +kernel
theorem dX5_readExpression_48 : decode cX5_readExpression 48 = .ok (.aload_n 0, 1) := by decide +kernel
theorem dX5_readExpression_49 : decode cX5_readExpression 49 = .ok (.invokevirtual 119, 3) := by decide +kernel
theorem dX5_readExpression_52 : decode cX5_readExpression 52 = .ok (.goto 23, 3) := by decide +kernel
theorem dX5_readExpression_55 : decode cX5_readExpression 55 = .ok (.aload_n 0, 1) := by decide +kernel
theorem dX5_readExpression_56 : decode cX5_readExpression 56 = .ok (.getfield 34, 3) := by decide +kernel
theorem dX5_readExpression_59 : decode cX5_readExpression 59 = .ok (.bipush 41, 2) := by decide +kernel
theorem dX5_readExpression_61 : decode cX5_readExpression 61 = .ok (.if_icmp .ne 10, 3) := by decide +kernel
theorem dX5_readExpression_64 : decode cX5_readExpression 64 = .ok (.aload_n 0, 1) := by decide +kernel
theorem dX5_readExpression_65 : decode cX5_readExpression 65 = .ok (.invokevirtual 123, 3) := by decide +kernel
theorem dX5_readExpression_68 : decode cX5_readExpression 68 = .ok (.goto 7, 3) := by decide +kernel
theorem dX5_readExpression_71 : decode cX5_readExpression 71 = .ok (.aload_n 0, 1) := by decide +kernel
theorem dX5_readExpression_72 : decode cX5_readExpression 72 = .ok (.invokevirtual 126, 3) := by decide +kernel
theorem dX5_readExpression_75 : decode cX5_readExpression 75 = .ok (.istore_n 2, 1) := by decide +kernel
theorem dX5_readExpression_76 : decode cX5_readExpression 76 = .ok (.iload_n 2, 1) := by decide +kernel
theorem dX5_readExpression_77 : decode cX5_readExpression 77 = .ok (.ifCond .ne 6, 3) := by decide +kernel
theorem dX5_readExpression_80 : decode cX5_readExpression 80 = .ok (.goto 13, 3) := by decide +kernel
theorem dX5_readExpression_83 : decode cX5_readExpression 83 = .ok (.aload_n 0, 1) := by decide +kernel
theorem dX5_readExpression_84 : decode cX5_readExpression 84 = .ok (.invokevirtual 55, 3) := by decide +kernel
theorem dX5_readExpression_87 : decode cX5_readExpression 87 = .ok (.iinc 1 1, 3) := by decide +kernel
theorem dX5_readExpression_90 : decode cX5_readExpression 90 = .ok (.goto (-63), 3) := by decide +kernel
theorem dX5_readExpression_93 : decode cX5_readExpression 93 = .ok (.aload_n 0, 1) := by decide +kernel
theorem dX5_readExpression_94 : decode cX5_readExpression 94 = .ok (.getfield 109, 3) := by decide +kernel
theorem dX5_readExpression_97 : decode cX5_readExpression 97 = .ok (.ifCond .ne 10, 3) := by decide +kernel
theorem dX5_readExpression_100 : decode cX5_readExpression 100 = .ok (.aload_n 0, 1) := by decide +kernel
theorem dX5_readExpression_101 : decode cX5_readExpression 101 = .ok (.getfield 113, 3) := by decide +kernel
theorem dX5_readExpression_104 : decode cX5_readExpression 104 = .ok (.ifCond .le 8, 3) := by decide +kernel
theorem dX5_readExpression_107 : decode cX5_readExpression 107 = .ok (.aload_n 0, 1) := by decide +kernel
theorem dX5_readExpression_108 : decode cX5_readExpression 108 = .ok (.iconst 1, 1) := by decide +kernel
theorem dX5_readExpression_109 : decode cX5_readExpression 109 = .ok (.invokevirtual 44, 3) := by decide +kernel
theorem dX5_readExpression_112 : decode cX5_readExpression 112 = .ok (.aload_n 0, 1) := by decide +kernel
theorem dX5_readExpression_113 : decode cX5_readExpression 113 = .ok (.getfield 37, 3) := by decide +kernel
theorem dX5_readExpression_116 : decode cX5_readExpression 116 = .ok (.ifCond .eq 5, 3) := by decide +kernel
theorem dX5_readExpression_119 : decode cX5_readExpression 119 = .ok (.aconst_null, 1) := by decide +kernel
theorem dX5_readExpression_120 : decode cX5_readExpression 120 = .ok (.areturn, 1) := by decide +kernel
theorem dX5_readExpression_121 : decode cX5_readExpression 121 = .ok (.aload_n 0, 1) := by decide +kernel
theorem dX5_readExpression_122 : decode cX5_readExpression 122 = .ok (.getfield 106, 3) := by decide +kernel
theorem dX5_readExpression_125 : decode cX5_readExpression 125 = .ok (.ifCond .le 35, 3) := by decide +kernel
theorem dX5_readExpression_128 : decode cX5_readExpression 128 = .ok (.aload_n 0, 1) := by decide +kernel
theorem dX5_readExpression_129 : decode cX5_readExpression 129 = .ok (.sipush 20000, 3) := by decide +kernel
theorem dX5_readExpression_132 : decode cX5_readExpression 132 = .ok (.aload_n 0, 1) := by decide +kernel
theorem dX5_readExpression_133 : decode cX5_readExpression 133 = .ok (.getfield 19, 3) := by decide +kernel
theorem dX5_readExpression_136 : decode cX5_readExpression 136 = .ok (.aload_n 0, 1) := by decide +kernel
theorem dX5_readExpression_137 : decode cX5_readExpression 137 = .ok (.getfield 106, 3) := by decide +kernel
theorem dX5_readExpression_140 : decode cX5_readExpression 140 = .ok (.iconst 1, 1) := by decide +kernel
theorem dX5_readExpression_141 : decode cX5_readExpression 141 = .ok (.isub, 1) := by decide +kernel
theorem dX5_readExpression_142 : decode cX5_readExpression 142 = .ok (.iaload, 1) := by decide +kernel
theorem dX5_readExpression_143 : decode cX5_readExpression 143 = .ok (.iadd, 1) := by decide +kernel
theorem dX5_readExpression_144 : decode cX5_readExpression 144 = .ok (.invokevirtual 129, 3) := by decide +kernel
theorem dX5_readExpression_147 : decode cX5_readExpression 147 = .ok (.aload_n 0, 1) := by decide +kernel
theorem dX5_readExpression_148 : decode cX5_readExpression 148 = .ok (.dup, 1) := by decide +kernel
theorem dX5_readExpression_149 : decode cX5_readExpression 149 = .ok (.getfield 106, 3) := by decide +kernel
theorem dX5_readExpression_152 : decode cX5_readExpression 152 = .ok (.iconst 1, 1) := by decide +kernel
theorem dX5_readExpression_153 : decode cX5_readExpression 153 = .ok (.isub, 1) := by decide +kernel
theorem dX5_readExpression_154 : decode cX5_readExpression 154 = .ok (.putfield 106, 3) := by decide +kernel
theorem dX5_readExpression_157 : decode cX5_readExpression 157 = .ok (.goto (-36), 3) := by decide +kernel
theorem dX5_readExpression_160 : decode cX5_readExpression 160 = .ok (.aload_n 0, 1) := by decide +kernel
theorem dX5_readExpression_161 : decode cX5_readExpression 161 = .ok (.getfield 15, 3) := by decide +kernel
theorem dX5_readExpression_164 : decode cX5_readExpression 164 = .ok (.aload_n 0, 1) := by decide +kernel
theorem dX5_readExpression_165 : decode cX5_readExpression 165 = .ok (.getfield 103, 3) := by decide +kernel
theorem dX5_readExpression_168 : decode cX5_readExpression 168 = .ok (.invokestatic 132, 3) := by decide +kernel
theorem dX5_readExpression_171 : decode cX5_readExpression 171 = .ok (.areturn, 1) := by decide +kernel
theorem dX5_takePart_0 : decode cX5_takePart 0 = .ok (.aload_n 0, 1) := by decide +kernel
theorem dX5_takePart_1 : decode cX5_takePart 1 = .ok (.getfield 34, 3) := by decide +kernel
theorem dX5_takePart_4 : decode cX5_takePart 4 = .ok (.bipush 13, 2) := by decide +kernel
theorem dX5_takePart_6 : decode cX5_takePart 6 = .ok (.if_icmp .lt 16, 3) := by decide +kernel
theorem dX5_takePart_9 : decode cX5_takePart 9 = .ok (.aload_n 0, 1) := by decide +kernel
theorem dX5_takePart_10 : decode cX5_takePart 10 = .ok (.getfield 34, 3) := by decide +kernel
theorem dX5_takePart_13 : decode cX5_takePart 13 = .ok (.bipush 26, 2) := by decide +kernel
theorem dX5_takePart_15 : decode cX5_takePart 15 = .ok (.if_icmp .gt 7, 3) := by decide +kernel
theorem dX5_takePart_18 : decode cX5_takePart 18 = .ok (.iconst 1, 1) := by decide +kernel
theorem dX5_takePart_19 : decode cX5_takePart 19 = .ok (.goto 4, 3) := by decide +kernel
theorem dX5_takePart_22 : decode cX5_takePart 22 = .ok (.iconst 0, 1) := by decide +kernel
theorem dX5_takePart_23 : decode cX5_takePart 23 = .ok (.istore_n 1, 1) := by decide +kernel
theorem dX5_takePart_24 : decode cX5_takePart 24 = .ok (.aload_n 0, 1) := by decide +kernel
theorem dX5_takePart_25 : decode cX5_takePart 25 = .ok (.getfield 34, 3) := by decide +kernel
theorem dX5_takePart_28 : decode cX5_takePart 28 = .ok (.bipush 11, 2) := by decide +kernel
theorem dX5_takePart_30 : decode cX5_takePart 30 = .ok (.if_icmp .eq 12, 3) := by decide +kernel
theorem dX5_takePart_33 : decode cX5_takePart 33 = .ok (.aload_n 0, 1) := by decide +kernel
theorem dX5_takePart_34 : decode cX5_takePart 34 = .ok (.getfield 34, 3) := by decide +kernel
theorem dX5_takePart_37 : decode cX5_takePart 37 = .ok (.bipush 40, 2) := by decide +kernel
theorem dX5_takePart_39 : decode cX5_takePart 39 = .ok (.if_icmp .ne 7, 3) := by decide +kernel
theorem dX5_takePart_42 : decode cX5_takePart 42 = .ok (.iconst 1, 1) := by decide +kernel
theorem dX5_takePart_43 : decode cX5_takePart 43 = .ok (.goto 4, 3) := by decide +kernel
theorem dX5_takePart_46 : decode cX5_takePart 46 = .ok (.iconst 0, 1) := by decide +kernel
theorem dX5_takePart_47 : decode cX5_takePart 47 = .ok (.istore_n 2, 1) := by decide +kernel
theorem dX5_takePart_48 : decode cX5_takePart 48 = .ok (.iload_n 1, 1) := by decide +kernel
theorem dX5_takePart_49 : decode cX5_takePart 49 = .ok (.ifCond .ne 18, 3) := by decide +kernel
theorem dX5_takePart_52 : decode cX5_takePart 52 = .ok (.iload_n 2, 1) := by decide +kernel
theorem dX5_takePart_53 : decode cX5_takePart 53 = .ok (.ifCond .ne 14, 3) := by decide +kernel
theorem dX5_takePart_56 : decode cX5_takePart 56 = .ok (.aload_n 0, 1) := by decide +kernel
theorem dX5_takePart_57 : decode cX5_takePart 57 = .ok (.getfield 34, 3) := by decide +kernel
theorem dX5_takePart_60 : decode cX5_takePart 60 = .ok (.bipush 30, 2) := by decide +kernel
theorem dX5_takePart_62 : decode cX5_takePart 62 = .ok (.if_icmp .eq 5, 3) := by decide +kernel
theorem dX5_takePart_65 : decode cX5_takePart 65 = .ok (.iconst 0, 1) := by decide +kernel
theorem dX5_takePart_66 : decode cX5_takePart 66 = .ok (.ireturn, 1) := by decide +kernel
theorem dX5_takePart_67 : decode cX5_takePart 67 = .ok (.aload_n 0, 1) := by decide +kernel
theorem dX5_takePart_68 : decode cX5_takePart 68 = .ok (.getfield 116, 3) := by decide +kernel
theorem dX5_takePart_71 : decode cX5_takePart 71 = .ok (.iconst 5, 1) := by decide +kernel
theorem dX5_takePart_72 : decode cX5_takePart 72 = .ok (.if_icmp .lt 10, 3) := by decide +kernel
theorem dX5_takePart_75 : decode cX5_takePart 75 = .ok (.aload_n 0, 1) := by decide +kernel
theorem dX5_takePart_76 : decode cX5_takePart 76 = .ok (.iconst 5, 1) := by decide +kernel
theorem dX5_takePart_77 : decode cX5_takePart 77 = .ok (.invokevirtual 44, 3) := by decide +kernel
theorem dX5_takePart_80 : decode cX5_takePart 80 = .ok (.iconst 0, 1) := by decide +kernel
theorem dX5_takePart_81 : decode cX5_takePart 81 = .ok (.ireturn, 1) := by decide +kernel
theorem dX5_takePart_82 : decode cX5_takePart 82 = .ok (.iload_n 2, 1) := by decide +kernel
theorem dX5_takePart_83 : decode cX5_takePart 83 = .ok (.ifCond .eq 42, 3) := by decide +kernel
theorem dX5_takePart_86 : decode cX5_takePart 86 = .ok (.aload_n 0, 1) := by decide +kernel
theorem dX5_takePart_87 : decode cX5_takePart 87 = .ok (.dup, 1) := by decide +kernel
theorem dX5_takePart_88 : decode cX5_takePart 88 = .ok (.getfield 116, 3) := by decide +kernel
theorem dX5_takePart_91 : decode cX5_takePart 91 = .ok (.iconst 1, 1) := by decide +kernel
theorem dX5_takePart_92 : decode cX5_takePart 92 = .ok (.iadd, 1) := by decide +kernel
theorem dX5_takePart_93 : decode cX5_takePart 93 = .ok (.putfield 116, 3) := by decide +kernel
theorem dX5_takePart_96 : decode cX5_takePart 96 = .ok (.aload_n 0, 1) := by decide +kernel
theorem dX5_takePart_97 : decode cX5_takePart 97 = .ok (.dup, 1) := by decide +kernel
theorem dX5_takePart_98 : decode cX5_takePart 98 = .ok (.getfield 113, 3) := by decide +kernel
theorem dX5_takePart_101 : decode cX5_takePart 101 = .ok (.aload_n 0, 1) := by decide +kernel
theorem dX5_takePart_102 : decode cX5_takePart 102 = .ok (.getfield 34, 3) := by decide +kernel
theorem dX5_takePart_105 : decode cX5_takePart 105 = .ok (.bipush 40, 2) := by decide +kernel
theorem dX5_takePart_107 : decode cX5_takePart 107 = .ok (.if_icmp .ne 7, 3) := by decide +kernel
theorem dX5_takePart_110 : decode cX5_takePart 110 = .ok (.iconst 1, 1) := by decide +kernel
theorem dX5_takePart_111 : decode cX5_takePart 111 = .ok (.goto 4, 3) := by decide +kernel
theorem dX5_takePart_114 : decode cX5_takePart 114 = .ok (.iconst 0, 1) := by decide +kernel
theorem dX5_takePart_115 : decode cX5_takePart 115 = .ok (.iadd, 1) := by decide +kernel
theorem dX5_takePart_116 : decode cX5_takePart 116 = .ok (.putfield 113, 3) := by decide +kernel
theorem dX5_takePart_119 : decode cX5_takePart 119 = .ok (.aload_n 0, 1) := by decide +kernel
theorem dX5_takePart_120 : decode cX5_takePart 120 = .ok (.invokevirtual 138, 3) := by decide +kernel
theorem dX5_takePart_123 : decode cX5_takePart 123 = .ok (.iconst 1, 1) := by decide +kernel
theorem dX5_takePart_124 : decode cX5_takePart 124 = .ok (.ireturn, 1) := by decide +kernel
theorem dX5_takePart_125 : decode cX5_takePart 125 = .ok (.aload_n 0, 1) := by decide +kernel
theorem dX5_takePart_126 : decode cX5_takePart 126 = .ok (.iload_n 1, 1) := by decide +kernel
theorem dX5_takePart_127 : decode cX5_takePart 127 = .ok (.ifCond .eq 14, 3) := by decide +kernel
theorem dX5_takePart_130 : decode cX5_takePart 130 = .ok (.sipush 10000, 3) := by decide +kernel
theorem dX5_takePart_133 : decode cX5_takePart 133 = .ok (.aload_n 0, 1) := by decide +kernel
theorem dX5_takePart_134 : decode cX5_takePart 134 = .ok (.getfield 34, 3) := by decide +kernel
theorem dX5_takePart_137 : decode cX5_takePart 137 = .ok (.iadd, 1) := by decide +kernel
theorem dX5_takePart_138 : decode cX5_takePart 138 = .ok (.goto 7, 3) := by decide +kernel
theorem dX5_takePart_141 : decode cX5_takePart 141 = .ok (.aload_n 0, 1) := by decide +kernel
theorem dX5_takePart_142 : decode cX5_takePart 142 = .ok (.getfield 97, 3) := by decide +kernel
theorem dX5_takePart_145 : decode cX5_takePart 145 = .ok (.invokevirtual 129, 3) := by decide +kernel
theorem dX5_takePart_148 : decode cX5_takePart 148 = .ok (.aload_n 0, 1) := by decide +kernel
theorem dX5_takePart_149 : decode cX5_takePart 149 = .ok (.invokevirtual 141, 3) := by decide +kernel
theorem dX5_takePart_152 : decode cX5_takePart 152 = .ok (.iconst 1, 1) := by decide +kernel
theorem dX5_takePart_153 : decode cX5_takePart 153 = .ok (.ireturn, 1) := by decide +kernel
theorem dX5_closePart_0 : decode cX5_closePart 0 = .ok (.aload_n 0, 1) := by decide +kernel
theorem dX5_closePart_1 : decode cX5_closePart 1 = .ok (.getfield 113, 3) := by decide +kernel
theorem dX5_closePart_4 : decode cX5_closePart 4 = .ok (.ifCond .ne 5, 3) := by decide +kernel
theorem dX5_closePart_7 : decode cX5_closePart 7 = .ok (.iconst 0, 1) := by decide +kernel
theorem dX5_closePart_8 : decode cX5_closePart 8 = .ok (.ireturn, 1) := by decide +kernel
theorem dX5_closePart_9 : decode cX5_closePart 9 = .ok (.aload_n 0, 1) := by decide +kernel
theorem dX5_closePart_10 : decode cX5_closePart 10 = .ok (.getfield 106, 3) := by decide +kernel
theorem dX5_closePart_13 : decode cX5_closePart 13 = .ok (.ifCond .le 51, 3) := by decide +kernel
theorem dX5_closePart_16 : decode cX5_closePart 16 = .ok (.aload_n 0, 1) := by decide +kernel
theorem dX5_closePart_17 : decode cX5_closePart 17 = .ok (.getfield 19, 3) := by decide +kernel
theorem dX5_closePart_20 : decode cX5_closePart 20 = .ok (.aload_n 0, 1) := by decide +kernel
theorem dX5_closePart_21 : decode cX5_closePart 21 = .ok (.getfield 106, 3) := by decide +kernel
theorem dX5_closePart_24 : decode cX5_closePart 24 = .ok (.iconst 1, 1) := by decide +kernel
theorem dX5_closePart_25 : decode cX5_closePart 25 = .ok (.isub, 1) := by decide +kernel
theorem dX5_closePart_26 : decode cX5_closePart 26 = .ok (.iaload, 1) := by decide +kernel
theorem dX5_closePart_27 : decode cX5_closePart 27 = .ok (.bipush 40, 2) := by decide +kernel
theorem dX5_closePart_29 : decode cX5_closePart 29 = .ok (.if_icmp .eq 35, 3) := by decide +kernel
theorem dX5_closePart_32 : decode cX5_closePart 32 = .ok (.aload_n 0, 1) := by decide +kernel
theorem dX5_closePart_33 : decode cX5_closePart 33 = .ok (.sipush 20000, 3) := by decide +kernel
theorem dX5_closePart_36 : decode cX5_closePart 36 = .ok (.aload_n 0, 1) := by decide +kernel
theorem dX5_closePart_37 : decode cX5_closePart 37 = .ok (.getfield 19, 3) := by decide +kernel
