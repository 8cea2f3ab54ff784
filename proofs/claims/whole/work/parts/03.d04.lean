theorem dX12_begins_28 : decode cX12_begins 28 = .ok (.aload_n 0, 1) := by decide +kernel
theorem dX12_begins_29 : decode cX12_begins 29 = .ok (.getfield 187, 3) := by decide +kernel
theorem dX12_begins_32 : decode cX12_begins 32 = .ok (.invokevirtual 221, 3) := by decide +kernel
theorem dX12_begins_35 : decode cX12_begins 35 = .ok (.aload_n 0, 1) := by decide +kernel
theorem dX12_begins_36 : decode cX12_begins 36 = .ok (.invokevirtual 212, 3) := by decide +kernel
theorem dX12_begins_39 : decode cX12_begins 39 = .ok (.aload_n 0, 1) := by decide +kernel
theorem dX12_begins_40 : decode cX12_begins 40 = .ok (.invokevirtual 228, 3) := by decide +kernel
theorem dX12_begins_43 : decode cX12_begins 43 = .ok (.goto 112, 3) := by decide +kernel
theorem dX12_begins_46 : decode cX12_begins 46 = .ok (.aload_n 0, 1) := by decide +kernel
theorem dX12_begins_47 : decode cX12_begins 47 = .ok (.getfield 175, 3) := by decide +kernel
theorem dX12_begins_50 : decode cX12_begins 50 = .ok (.iconst 1, 1) := by decide +kernel
theorem dX12_begins_51 : decode cX12_begins 51 = .ok (.if_icmp .ne 61, 3) := by decide +kernel
theorem dX12_begins_54 : decode cX12_begins 54 = .ok (.aload_n 0, 1) := by decide +kernel
theorem dX12_begins_55 : decode cX12_begins 55 = .ok (.getfield 187, 3) := by decide +kernel
theorem dX12_begins_58 : decode cX12_begins 58 = .ok (.bipush 7, 2) := by decide +kernel
theorem dX12_begins_60 : decode cX12_begins 60 = .ok (.if_icmp .lt 52, 3) := by decide +kernel
theorem dX12_begins_63 : decode cX12_begins 63 = .ok (.aload_n 0, 1) := by decide +kernel
theorem dX12_begins_64 : decode cX12_begins 64 = .ok (.getfield 187, 3) := by decide +kernel
theorem dX12_begins_67 : decode cX12_begins 67 = .ok (.bipush 7, 2) := by decide +kernel
theorem dX12_begins_69 : decode cX12_begins 69 = .ok (.if_icmp .ne 18, 3) := by decide +kernel
theorem dX12_begins_72 : decode cX12_begins 72 = .ok (.aload_n 0, 1) := by decide +kernel
theorem dX12_begins_73 : decode cX12_begins 73 = .ok (.getfield 231, 3) := by decide +kernel
theorem dX12_begins_76 : decode cX12_begins 76 = .ok (.bipush 6, 2) := by decide +kernel
theorem dX12_begins_78 : decode cX12_begins 78 = .ok (.if_icmp .ne 9, 3) := by decide +kernel
theorem dX12_begins_81 : decode cX12_begins 81 = .ok (.aload_n 0, 1) := by decide +kernel
theorem dX12_begins_82 : decode cX12_begins 82 = .ok (.iconst 5, 1) := by decide +kernel
theorem dX12_begins_83 : decode cX12_begins 83 = .ok (.invokevirtual 206, 3) := by decide +kernel
theorem dX12_begins_86 : decode cX12_begins 86 = .ok (.return_, 1) := by decide +kernel
theorem dX12_begins_87 : decode cX12_begins 87 = .ok (.aload_n 0, 1) := by decide +kernel
theorem dX12_begins_88 : decode cX12_begins 88 = .ok (.sipush 401, 3) := by decide +kernel
theorem dX12_begins_91 : decode cX12_begins 91 = .ok (.aload_n 0, 1) := by decide +kernel
theorem dX12_begins_92 : decode cX12_begins 92 = .ok (.getfield 187, 3) := by decide +kernel
theorem dX12_begins_95 : decode cX12_begins 95 = .ok (.bipush 7, 2) := by decide +kernel
theorem dX12_begins_97 : decode cX12_begins 97 = .ok (.isub, 1) := by decide +kernel
theorem dX12_begins_98 : decode cX12_begins 98 = .ok (.invokevirtual 221, 3) := by decide +kernel
theorem dX12_begins_101 : decode cX12_begins 101 = .ok (.aload_n 0, 1) := by decide +kernel
theorem dX12_begins_102 : decode cX12_begins 102 = .ok (.invokevirtual 212, 3) := by decide +kernel
theorem dX12_begins_105 : decode cX12_begins 105 = .ok (.aload_n 0, 1) := by decide +kernel
theorem dX12_begins_106 : decode cX12_begins 106 = .ok (.invokevirtual 228, 3) := by decide +kernel
theorem dX12_begins_109 : decode cX12_begins 109 = .ok (.goto 46, 3) := by decide +kernel
theorem dX12_begins_112 : decode cX12_begins 112 = .ok (.aload_n 0, 1) := by decide +kernel
theorem dX12_begins_113 : decode cX12_begins 113 = .ok (.bipush 40, 2) := by decide +kernel
theorem dX12_begins_115 : decode cX12_begins 115 = .ok (.invokevirtual 234, 3) := by decide +kernel
theorem dX12_begins_118 : decode cX12_begins 118 = .ok (.ifCond .eq 13, 3) := by decide +kernel
theorem dX12_begins_121 : decode cX12_begins 121 = .ok (.aload_n 0, 1) := by decide +kernel
theorem dX12_begins_122 : decode cX12_begins 122 = .ok (.bipush 6, 2) := by decide +kernel
theorem dX12_begins_124 : decode cX12_begins 124 = .ok (.invokevirtual 237, 3) := by decide +kernel
theorem dX12_begins_127 : decode cX12_begins 127 = .ok (.istore_n 1, 1) := by decide +kernel
theorem dX12_begins_128 : decode cX12_begins 128 = .ok (.goto 27, 3) := by decide +kernel
theorem dX12_begins_131 : decode cX12_begins 131 = .ok (.aload_n 0, 1) := by decide +kernel
theorem dX12_begins_132 : decode cX12_begins 132 = .ok (.bipush 45, 2) := by decide +kernel
theorem dX12_begins_134 : decode cX12_begins 134 = .ok (.invokevirtual 234, 3) := by decide +kernel
theorem dX12_begins_137 : decode cX12_begins 137 = .ok (.ifCond .eq 13, 3) := by decide +kernel
theorem dX12_begins_140 : decode cX12_begins 140 = .ok (.aload_n 0, 1) := by decide +kernel
theorem dX12_begins_141 : decode cX12_begins 141 = .ok (.bipush 7, 2) := by decide +kernel
theorem dX12_begins_143 : decode cX12_begins 143 = .ok (.invokevirtual 237, 3) := by decide +kernel
theorem dX12_begins_146 : decode cX12_begins 146 = .ok (.istore_n 1, 1) := by decide +kernel
theorem dX12_begins_147 : decode cX12_begins 147 = .ok (.goto 8, 3) := by decide +kernel
theorem dX12_begins_150 : decode cX12_begins 150 = .ok (.aload_n 0, 1) := by decide +kernel
theorem dX12_begins_151 : decode cX12_begins 151 = .ok (.iconst 1, 1) := by decide +kernel
theorem dX12_begins_152 : decode cX12_begins 152 = .ok (.invokevirtual 206, 3) := by decide +kernel
theorem dX12_begins_155 : decode cX12_begins 155 = .ok (.return_, 1) := by decide +kernel
theorem dX12_oneIsOver_0 : decode cX12_oneIsOver 0 = .ok (.aload_n 0, 1) := by decide +kernel
theorem dX12_oneIsOver_1 : decode cX12_oneIsOver 1 = .ok (.invokevirtual 240, 3) := by decide +kernel
theorem dX12_oneIsOver_4 : decode cX12_oneIsOver 4 = .ok (.bipush 7, 2) := by decide +kernel
theorem dX12_oneIsOver_6 : decode cX12_oneIsOver 6 = .ok (.if_icmp .ne 34, 3) := by decide +kernel
theorem dX12_oneIsOver_9 : decode cX12_oneIsOver 9 = .ok (.aload_n 0, 1) := by decide +kernel
theorem dX12_oneIsOver_10 : decode cX12_oneIsOver 10 = .ok (.dup, 1) := by decide +kernel
theorem dX12_oneIsOver_11 : decode cX12_oneIsOver 11 = .ok (.getfield 200, 3) := by decide +kernel
theorem dX12_oneIsOver_14 : decode cX12_oneIsOver 14 = .ok (.iconst 1, 1) := by decide +kernel
theorem dX12_oneIsOver_15 : decode cX12_oneIsOver 15 = .ok (.isub, 1) := by decide +kernel
theorem dX12_oneIsOver_16 : decode cX12_oneIsOver 16 = .ok (.putfield 200, 3) := by decide +kernel
theorem dX12_oneIsOver_19 : decode cX12_oneIsOver 19 = .ok (.aload_n 0, 1) := by decide +kernel
theorem dX12_oneIsOver_20 : decode cX12_oneIsOver 20 = .ok (.dup, 1) := by decide +kernel
theorem dX12_oneIsOver_21 : decode cX12_oneIsOver 21 = .ok (.getfield 203, 3) := by decide +kernel
theorem dX12_oneIsOver_24 : decode cX12_oneIsOver 24 = .ok (.iconst 1, 1) := by decide +kernel
theorem dX12_oneIsOver_25 : decode cX12_oneIsOver 25 = .ok (.isub, 1) := by decide +kernel
theorem dX12_oneIsOver_26 : decode cX12_oneIsOver 26 = .ok (.putfield 203, 3) := by decide +kernel
theorem dX12_oneIsOver_29 : decode cX12_oneIsOver 29 = .ok (.aload_n 0, 1) := by decide +kernel
theorem dX12_oneIsOver_30 : decode cX12_oneIsOver 30 = .ok (.sipush 402, 3) := by decide +kernel
theorem dX12_oneIsOver_33 : decode cX12_oneIsOver 33 = .ok (.iconst 0, 1) := by decide +kernel
theorem dX12_oneIsOver_34 : decode cX12_oneIsOver 34 = .ok (.invokevirtual 221, 3) := by decide +kernel
theorem dX12_oneIsOver_37 : decode cX12_oneIsOver 37 = .ok (.goto (-37), 3) := by decide +kernel
theorem dX12_oneIsOver_40 : decode cX12_oneIsOver 40 = .ok (.aload_n 0, 1) := by decide +kernel
theorem dX12_oneIsOver_41 : decode cX12_oneIsOver 41 = .ok (.iconst 2, 1) := by decide +kernel
theorem dX12_oneIsOver_42 : decode cX12_oneIsOver 42 = .ok (.putfield 243, 3) := by decide +kernel
theorem dX12_oneIsOver_45 : decode cX12_oneIsOver 45 = .ok (.return_, 1) := by decide +kernel
theorem dX12_goesOn_0 : decode cX12_goesOn 0 = .ok (.aload_n 0, 1) := by decide +kernel
theorem dX12_goesOn_1 : decode cX12_goesOn 1 = .ok (.invokevirtual 240, 3) := by decide +kernel
theorem dX12_goesOn_4 : decode cX12_goesOn 4 = .ok (.istore_n 1, 1) := by decide +kernel
theorem dX12_goesOn_5 : decode cX12_goesOn 5 = .ok (.aload_n 0, 1) := by decide +kernel
theorem dX12_goesOn_6 : decode cX12_goesOn 6 = .ok (.getfield 175, 3) := by decide +kernel
theorem dX12_goesOn_9 : decode cX12_goesOn 9 = .ok (.iconst 3, 1) := by decide +kernel
theorem dX12_goesOn_10 : decode cX12_goesOn 10 = .ok (.if_icmp .ne 55, 3) := by decide +kernel
theorem dX12_goesOn_13 : decode cX12_goesOn 13 = .ok (.aload_n 0, 1) := by decide +kernel
theorem dX12_goesOn_14 : decode cX12_goesOn 14 = .ok (.getfield 187, 3) := by decide +kernel
theorem dX12_goesOn_17 : decode cX12_goesOn 17 = .ok (.bipush 43, 2) := by decide +kernel
theorem dX12_goesOn_19 : decode cX12_goesOn 19 = .ok (.if_icmp .eq 30, 3) := by decide +kernel
theorem dX12_goesOn_22 : decode cX12_goesOn 22 = .ok (.aload_n 0, 1) := by decide +kernel
theorem dX12_goesOn_23 : decode cX12_goesOn 23 = .ok (.getfield 187, 3) := by decide +kernel
theorem dX12_goesOn_26 : decode cX12_goesOn 26 = .ok (.bipush 45, 2) := by decide +kernel
theorem dX12_goesOn_28 : decode cX12_goesOn 28 = .ok (.if_icmp .eq 21, 3) := by decide +kernel
theorem dX12_goesOn_31 : decode cX12_goesOn 31 = .ok (.aload_n 0, 1) := by decide +kernel
theorem dX12_goesOn_32 : decode cX12_goesOn 32 = .ok (.getfield 187, 3) := by decide +kernel
theorem dX12_goesOn_35 : decode cX12_goesOn 35 = .ok (.bipush 42, 2) := by decide +kernel
theorem dX12_goesOn_37 : decode cX12_goesOn 37 = .ok (.if_icmp .eq 12, 3) := by decide +kernel
theorem dX12_goesOn_40 : decode cX12_goesOn 40 = .ok (.aload_n 0, 1) := by decide +kernel
theorem dX12_goesOn_41 : decode cX12_goesOn 41 = .ok (.getfield 187, 3) := by decide +kernel
theorem dX12_goesOn_44 : decode cX12_goesOn 44 = .ok (.bipush 47, 2) := by decide +kernel
theorem dX12_goesOn_46 : decode cX12_goesOn 46 = .ok (.if_icmp .ne 19, 3) := by decide +kernel
theorem dX12_goesOn_49 : decode cX12_goesOn 49 = .ok (.aload_n 0, 1) := by decide +kernel
theorem dX12_goesOn_50 : decode cX12_goesOn 50 = .ok (.aload_n 0, 1) := by decide +kernel
theorem dX12_goesOn_51 : decode cX12_goesOn 51 = .ok (.getfield 187, 3) := by decide +kernel
theorem dX12_goesOn_54 : decode cX12_goesOn 54 = .ok (.invokevirtual 246, 3) := by decide +kernel
theorem dX12_goesOn_57 : decode cX12_goesOn 57 = .ok (.aload_n 0, 1) := by decide +kernel
theorem dX12_goesOn_58 : decode cX12_goesOn 58 = .ok (.iconst 1, 1) := by decide +kernel
theorem dX12_goesOn_59 : decode cX12_goesOn 59 = .ok (.putfield 243, 3) := by decide +kernel
theorem dX12_goesOn_62 : decode cX12_goesOn 62 = .ok (.goto 80, 3) := by decide +kernel
theorem dX12_goesOn_65 : decode cX12_goesOn 65 = .ok (.iload_n 1, 1) := by decide +kernel
theorem dX12_goesOn_66 : decode cX12_goesOn 66 = .ok (.bipush 6, 2) := by decide +kernel
theorem dX12_goesOn_68 : decode cX12_goesOn 68 = .ok (.if_icmp .ne 48, 3) := by decide +kernel
theorem dX12_goesOn_71 : decode cX12_goesOn 71 = .ok (.aload_n 0, 1) := by decide +kernel
theorem dX12_goesOn_72 : decode cX12_goesOn 72 = .ok (.bipush 41, 2) := by decide +kernel
theorem dX12_goesOn_74 : decode cX12_goesOn 74 = .ok (.invokevirtual 234, 3) := by decide +kernel
theorem dX12_goesOn_77 : decode cX12_goesOn 77 = .ok (.ifCond .eq 39, 3) := by decide +kernel
theorem dX12_goesOn_80 : decode cX12_goesOn 80 = .ok (.aload_n 0, 1) := by decide +kernel
theorem dX12_goesOn_81 : decode cX12_goesOn 81 = .ok (.iconst 3, 1) := by decide +kernel
theorem dX12_goesOn_82 : decode cX12_goesOn 82 = .ok (.invokevirtual 225, 3) := by decide +kernel
theorem dX12_goesOn_85 : decode cX12_goesOn 85 = .ok (.aload_n 0, 1) := by decide +kernel
theorem dX12_goesOn_86 : decode cX12_goesOn 86 = .ok (.dup, 1) := by decide +kernel
theorem dX12_goesOn_87 : decode cX12_goesOn 87 = .ok (.getfield 200, 3) := by decide +kernel
theorem dX12_goesOn_90 : decode cX12_goesOn 90 = .ok (.iconst 1, 1) := by decide +kernel
theorem dX12_goesOn_91 : decode cX12_goesOn 91 = .ok (.isub, 1) := by decide +kernel
theorem dX12_goesOn_92 : decode cX12_goesOn 92 = .ok (.putfield 200, 3) := by decide +kernel
theorem dX12_goesOn_95 : decode cX12_goesOn 95 = .ok (.aload_n 0, 1) := by decide +kernel
theorem dX12_goesOn_96 : decode cX12_goesOn 96 = .ok (.dup, 1) := by decide +kernel
theorem dX12_goesOn_97 : decode cX12_goesOn 97 = .ok (.getfield 203, 3) := by decide +kernel
theorem dX12_goesOn_100 : decode cX12_goesOn 100 = .ok (.iconst 1, 1) := by decide +kernel
theorem dX12_goesOn_101 : decode cX12_goesOn 101 = .ok (.isub, 1) := by decide +kernel
theorem dX12_goesOn_102 : decode cX12_goesOn 102 = .ok (.putfield 203, 3) := by decide +kernel
theorem dX12_goesOn_105 : decode cX12_goesOn 105 = .ok (.aload_n 0, 1) := by decide +kernel
theorem dX12_goesOn_106 : decode cX12_goesOn 106 = .ok (.invokevirtual 212, 3) := by decide +kernel
theorem dX12_goesOn_109 : decode cX12_goesOn 109 = .ok (.aload_n 0, 1) := by decide +kernel
theorem dX12_goesOn_110 : decode cX12_goesOn 110 = .ok (.invokevirtual 228, 3) := by decide +kernel
theorem dX12_goesOn_113 : decode cX12_goesOn 113 = .ok (.goto 29, 3) := by decide +kernel
theorem dX12_goesOn_116 : decode cX12_goesOn 116 = .ok (.iload_n 1, 1) := by decide +kernel
theorem dX12_goesOn_117 : decode cX12_goesOn 117 = .ok (.iconst 1, 1) := by decide +kernel
theorem dX12_goesOn_118 : decode cX12_goesOn 118 = .ok (.if_icmp .ne 19, 3) := by decide +kernel
theorem dX12_goesOn_121 : decode cX12_goesOn 121 = .ok (.aload_n 0, 1) := by decide +kernel
theorem dX12_goesOn_122 : decode cX12_goesOn 122 = .ok (.bipush 59, 2) := by decide +kernel
theorem dX12_goesOn_124 : decode cX12_goesOn 124 = .ok (.invokevirtual 234, 3) := by decide +kernel
theorem dX12_goesOn_127 : decode cX12_goesOn 127 = .ok (.ifCond .eq 10, 3) := by decide +kernel
theorem dX12_goesOn_130 : decode cX12_goesOn 130 = .ok (.aload_n 0, 1) := by decide +kernel
theorem dX12_goesOn_131 : decode cX12_goesOn 131 = .ok (.invokevirtual 249, 3) := by decide +kernel
theorem dX12_goesOn_134 : decode cX12_goesOn 134 = .ok (.goto 8, 3) := by decide +kernel
theorem dX12_goesOn_137 : decode cX12_goesOn 137 = .ok (.aload_n 0, 1) := by decide +kernel
theorem dX12_goesOn_138 : decode cX12_goesOn 138 = .ok (.iconst 1, 1) := by decide +kernel
theorem dX12_goesOn_139 : decode cX12_goesOn 139 = .ok (.invokevirtual 206, 3) := by decide +kernel
theorem dX12_goesOn_142 : decode cX12_goesOn 142 = .ok (.return_, 1) := by decide +kernel
theorem dX12_clauseIsOver_0 : decode cX12_clauseIsOver 0 = .ok (.aload_n 0, 1) := by decide +kernel
theorem dX12_clauseIsOver_1 : decode cX12_clauseIsOver 1 = .ok (.iconst 1, 1) := by decide +kernel
theorem dX12_clauseIsOver_2 : decode cX12_clauseIsOver 2 = .ok (.invokevirtual 225, 3) := by decide +kernel
theorem dX12_clauseIsOver_5 : decode cX12_clauseIsOver 5 = .ok (.aload_n 0, 1) := by decide +kernel
theorem dX12_clauseIsOver_6 : decode cX12_clauseIsOver 6 = .ok (.iconst 0, 1) := by decide +kernel
theorem dX12_clauseIsOver_7 : decode cX12_clauseIsOver 7 = .ok (.putfield 200, 3) := by decide +kernel
theorem dX12_clauseIsOver_10 : decode cX12_clauseIsOver 10 = .ok (.aload_n 0, 1) := by decide +kernel
theorem dX12_clauseIsOver_11 : decode cX12_clauseIsOver 11 = .ok (.sipush 408, 3) := by decide +kernel
theorem dX12_clauseIsOver_14 : decode cX12_clauseIsOver 14 = .ok (.iconst 0, 1) := by decide +kernel
theorem dX12_clauseIsOver_15 : decode cX12_clauseIsOver 15 = .ok (.invokevirtual 221, 3) := by decide +kernel
theorem dX12_clauseIsOver_18 : decode cX12_clauseIsOver 18 = .ok (.aload_n 0, 1) := by decide +kernel
theorem dX12_clauseIsOver_19 : decode cX12_clauseIsOver 19 = .ok (.dup, 1) := by decide +kernel
theorem dX12_clauseIsOver_20 : decode cX12_clauseIsOver 20 = .ok (.getfield 252, 3) := by decide +kernel
theorem dX12_clauseIsOver_23 : decode cX12_clauseIsOver 23 = .ok (.iconst 1, 1) := by decide +kernel
theorem dX12_clauseIsOver_24 : decode cX12_clauseIsOver 24 = .ok (.iadd, 1) := by decide +kernel
theorem dX12_clauseIsOver_25 : decode cX12_clauseIsOver 25 = .ok (.putfield 252, 3) := by decide +kernel
theorem dX12_clauseIsOver_28 : decode cX12_clauseIsOver 28 = .ok (.aload_n 0, 1) := by decide +kernel
theorem dX12_clauseIsOver_29 : decode cX12_clauseIsOver 29 = .ok (.invokevirtual 212, 3) := by decide +kernel
theorem dX12_clauseIsOver_32 : decode cX12_clauseIsOver 32 = .ok (.aload_n 0, 1) := by decide +kernel
theorem dX12_clauseIsOver_33 : decode cX12_clauseIsOver 33 = .ok (.iconst 4, 1) := by decide +kernel
theorem dX12_clauseIsOver_34 : decode cX12_clauseIsOver 34 = .ok (.putfield 243, 3) := by decide +kernel
theorem dX12_clauseIsOver_37 : decode cX12_clauseIsOver 37 = .ok (.return_, 1) := by decide +kernel
theorem dX12_number_0 : decode cX12_number 0 = .ok (.aload_n 0, 1) := by decide +kernel
theorem dX12_number_1 : decode cX12_number 1 = .ok (.getfield 191, 3) := by decide +kernel
theorem dX12_number_4 : decode cX12_number 4 = .ok (.ifCond .gt 11, 3) := by decide +kernel
theorem dX12_number_7 : decode cX12_number 7 = .ok (.aload_n 0, 1) := by decide +kernel
theorem dX12_number_8 : decode cX12_number 8 = .ok (.getfield 175, 3) := by decide +kernel
theorem dX12_number_11 : decode cX12_number 11 = .ok (.iconst 2, 1) := by decide +kernel
theorem dX12_number_12 : decode cX12_number 12 = .ok (.if_icmp .eq 10, 3) := by decide +kernel
theorem dX12_number_15 : decode cX12_number 15 = .ok (.aload_n 0, 1) := by decide +kernel
theorem dX12_number_16 : decode cX12_number 16 = .ok (.iconst 1, 1) := by decide +kernel
theorem dX12_number_17 : decode cX12_number 17 = .ok (.invokevirtual 206, 3) := by decide +kernel
theorem dX12_number_20 : decode cX12_number 20 = .ok (.iload_n 1, 1) := by decide +kernel
theorem dX12_number_21 : decode cX12_number 21 = .ok (.ireturn, 1) := by decide +kernel
theorem dX12_number_22 : decode cX12_number 22 = .ok (.aload_n 0, 1) := by decide +kernel
theorem dX12_number_23 : decode cX12_number 23 = .ok (.getfield 187, 3) := by decide +kernel
theorem dX12_number_26 : decode cX12_number 26 = .ok (.iload_n 1, 1) := by decide +kernel
theorem dX12_number_27 : decode cX12_number 27 = .ok (.iload_n 2, 1) := by decide +kernel
theorem dX12_number_28 : decode cX12_number 28 = .ok (.invokestatic 124, 3) := by decide +kernel
theorem dX12_number_31 : decode cX12_number 31 = .ok (.ifCond .ne 10, 3) := by decide +kernel
theorem dX12_number_34 : decode cX12_number 34 = .ok (.aload_n 0, 1) := by decide +kernel
theorem dX12_number_35 : decode cX12_number 35 = .ok (.iconst 2, 1) := by decide +kernel
theorem dX12_number_36 : decode cX12_number 36 = .ok (.invokevirtual 206, 3) := by decide +kernel
theorem dX12_number_39 : decode cX12_number 39 = .ok (.iload_n 1, 1) := by decide +kernel
theorem dX12_number_40 : decode cX12_number 40 = .ok (.ireturn, 1) := by decide +kernel
theorem dX12_number_41 : decode cX12_number 41 = .ok (.aload_n 0, 1) := by decide +kernel
theorem dX12_number_42 : decode cX12_number 42 = .ok (.getfield 187, 3) := by decide +kernel
theorem dX12_number_45 : decode cX12_number 45 = .ok (.istore_n 3, 1) := by decide +kernel
theorem dX12_number_46 : decode cX12_number 46 = .ok (.aload_n 0, 1) := by decide +kernel
theorem dX12_number_47 : decode cX12_number 47 = .ok (.invokevirtual 212, 3) := by decide +kernel
theorem dX12_number_50 : decode cX12_number 50 = .ok (.iload_n 3, 1) := by decide +kernel
theorem dX12_number_51 : decode cX12_number 51 = .ok (.ireturn, 1) := by decide +kernel
theorem dX12_wasTold_0 : decode cX12_wasTold 0 = .ok (.iconst 0, 1) := by decide +kernel
theorem dX12_wasTold_1 : decode cX12_wasTold 1 = .ok (.istore_n 2, 1) := by decide +kernel
theorem dX12_wasTold_2 : decode cX12_wasTold 2 = .ok (.iconst 0, 1) := by decide +kernel
theorem dX12_wasTold_3 : decode cX12_wasTold 3 = .ok (.istore_n 3, 1) := by decide +kernel
theorem dX12_wasTold_4 : decode cX12_wasTold 4 = .ok (.iload_n 3, 1) := by decide +kernel
theorem dX12_wasTold_5 : decode cX12_wasTold 5 = .ok (.aload_n 0, 1) := by decide +kernel
theorem dX12_wasTold_6 : decode cX12_wasTold 6 = .ok (.getfield 252, 3) := by decide +kernel
theorem dX12_wasTold_9 : decode cX12_wasTold 9 = .ok (.if_icmp .ge 29, 3) := by decide +kernel
theorem dX12_wasTold_12 : decode cX12_wasTold 12 = .ok (.iload_n 2, 1) := by decide +kernel
theorem dX12_wasTold_13 : decode cX12_wasTold 13 = .ok (.ifCond .ne 13, 3) := by decide +kernel
theorem dX12_wasTold_16 : decode cX12_wasTold 16 = .ok (.aload_n 0, 1) := by decide +kernel
theorem dX12_wasTold_17 : decode cX12_wasTold 17 = .ok (.getfield 54, 3) := by decide +kernel
theorem dX12_wasTold_20 : decode cX12_wasTold 20 = .ok (.iload_n 3, 1) := by decide +kernel
theorem dX12_wasTold_21 : decode cX12_wasTold 21 = .ok (.iaload, 1) := by decide +kernel
theorem dX12_wasTold_22 : decode cX12_wasTold 22 = .ok (.iload_n 1, 1) := by decide +kernel
theorem dX12_wasTold_23 : decode cX12_wasTold 23 = .ok (.if_icmp .ne 7, 3) := by decide +kernel
theorem dX12_wasTold_26 : decode cX12_wasTold 26 = .ok (.iconst 1, 1) := by decide +kernel
theorem dX12_wasTold_27 : decode cX12_wasTold 27 = .ok (.goto 4, 3) := by decide +kernel
theorem dX12_wasTold_30 : decode cX12_wasTold 30 = .ok (.iconst 0, 1) := by decide +kernel
theorem dX12_wasTold_31 : decode cX12_wasTold 31 = .ok (.istore_n 2, 1) := by decide +kernel
theorem dX12_wasTold_32 : decode cX12_wasTold 32 = .ok (.iinc 3 1, 3) := by decide +kernel
theorem dX12_wasTold_35 : decode cX12_wasTold 35 = .ok (.goto (-31), 3) := by decide +kernel
theorem dX12_wasTold_38 : decode cX12_wasTold 38 = .ok (.iload_n 2, 1) := by decide +kernel
theorem dX12_wasTold_39 : decode cX12_wasTold 39 = .ok (.ireturn, 1) := by decide +kernel
theorem dX12_clause_0 : decode cX12_clause 0 = .ok (.aload_n 0, 1) := by decide +kernel
theorem dX12_clause_1 : decode cX12_clause 1 = .ok (.getfield 175, 3) := by decide +kernel
theorem dX12_clause_4 : decode cX12_clause 4 = .ok (.iconst 1, 1) := by decide +kernel
theorem dX12_clause_5 : decode cX12_clause 5 = .ok (.if_icmp .ne 12, 3) := by decide +kernel
theorem dX12_clause_8 : decode cX12_clause 8 = .ok (.aload_n 0, 1) := by decide +kernel
theorem dX12_clause_9 : decode cX12_clause 9 = .ok (.getfield 187, 3) := by decide +kernel
theorem dX12_clause_12 : decode cX12_clause 12 = .ok (.bipush 6, 2) := by decide +kernel
theorem dX12_clause_14 : decode cX12_clause 14 = .ok (.if_icmp .le 9, 3) := by decide +kernel
theorem dX12_clause_17 : decode cX12_clause 17 = .ok (.aload_n 0, 1) := by decide +kernel
theorem dX12_clause_18 : decode cX12_clause 18 = .ok (.iconst 1, 1) := by decide +kernel
theorem dX12_clause_19 : decode cX12_clause 19 = .ok (.invokevirtual 206, 3) := by decide +kernel
theorem dX12_clause_22 : decode cX12_clause 22 = .ok (.return_, 1) := by decide +kernel
theorem dX12_clause_23 : decode cX12_clause 23 = .ok (.aload_n 0, 1) := by decide +kernel
theorem dX12_clause_24 : decode cX12_clause 24 = .ok (.aload_n 0, 1) := by decide +kernel
theorem dX12_clause_25 : decode cX12_clause 25 = .ok (.getfield 187, 3) := by decide +kernel
theorem dX12_clause_28 : decode cX12_clause 28 = .ok (.putfield 231, 3) := by decide +kernel
theorem dX12_clause_31 : decode cX12_clause 31 = .ok (.aload_n 0, 1) := by decide +kernel
theorem dX12_clause_32 : decode cX12_clause 32 = .ok (.getfield 231, 3) := by decide +kernel
theorem dX12_clause_35 : decode cX12_clause 35 = .ok (.iconst 2, 1) := by decide +kernel
theorem dX12_clause_36 : decode cX12_clause 36 = .ok (.if_icmp .gt 22, 3) := by decide +kernel
theorem dX12_clause_39 : decode cX12_clause 39 = .ok (.aload_n 0, 1) := by decide +kernel
theorem dX12_clause_40 : decode cX12_clause 40 = .ok (.aload_n 0, 1) := by decide +kernel
theorem dX12_clause_41 : decode cX12_clause 41 = .ok (.getfield 231, 3) := by decide +kernel
theorem dX12_clause_44 : decode cX12_clause 44 = .ok (.invokevirtual 255, 3) := by decide +kernel
theorem dX12_clause_47 : decode cX12_clause 47 = .ok (.ifCond .eq 11, 3) := by decide +kernel
theorem dX12_clause_50 : decode cX12_clause 50 = .ok (.aload_n 0, 1) := by decide +kernel
theorem dX12_clause_51 : decode cX12_clause 51 = .ok (.iconst 4, 1) := by decide +kernel
theorem dX12_clause_52 : decode cX12_clause 52 = .ok (.invokevirtual 206, 3) := by decide +kernel
theorem dX12_clause_55 : decode cX12_clause 55 = .ok (.goto 18, 3) := by decide +kernel
theorem dX12_clause_58 : decode cX12_clause 58 = .ok (.aload_n 0, 1) := by decide +kernel
theorem dX12_clause_59 : decode cX12_clause 59 = .ok (.getfield 252, 3) := by decide +kernel
theorem dX12_clause_62 : decode cX12_clause 62 = .ok (.bipush 30, 2) := by decide +kernel
theorem dX12_clause_64 : decode cX12_clause 64 = .ok (.if_icmp .ne 9, 3) := by decide +kernel
theorem dX12_clause_67 : decode cX12_clause 67 = .ok (.aload_n 0, 1) := by decide +kernel
theorem dX12_clause_68 : decode cX12_clause 68 = .ok (.bipush 6, 2) := by decide +kernel
theorem dX12_clause_70 : decode cX12_clause 70 = .ok (.invokevirtual 206, 3) := by decide +kernel
theorem dX12_clause_73 : decode cX12_clause 73 = .ok (.aload_n 0, 1) := by decide +kernel
theorem dX12_clause_74 : decode cX12_clause 74 = .ok (.getfield 191, 3) := by decide +kernel
theorem dX12_clause_77 : decode cX12_clause 77 = .ok (.ifCond .le 4, 3) := by decide +kernel
theorem dX12_clause_80 : decode cX12_clause 80 = .ok (.return_, 1) := by decide +kernel
theorem dX12_clause_81 : decode cX12_clause 81 = .ok (.aload_n 0, 1) := by decide +kernel
theorem dX12_clause_82 : decode cX12_clause 82 = .ok (.getfield 54, 3) := by decide +kernel
theorem dX12_clause_85 : decode cX12_clause 85 = .ok (.aload_n 0, 1) := by decide +kernel
theorem dX12_clause_86 : decode cX12_clause 86 = .ok (.getfield 252, 3) := by decide +kernel
theorem dX12_clause_89 : decode cX12_clause 89 = .ok (.aload_n 0, 1) := by decide +kernel
theorem dX12_clause_90 : decode cX12_clause 90 = .ok (.getfield 231, 3) := by decide +kernel
theorem dX12_clause_93 : decode cX12_clause 93 = .ok (.iastore, 1) := by decide +kernel
theorem dX12_clause_94 : decode cX12_clause 94 = .ok (.aload_n 0, 1) := by decide +kernel
theorem dX12_clause_95 : decode cX12_clause 95 = .ok (.getfield 57, 3) := by decide +kernel
theorem dX12_clause_98 : decode cX12_clause 98 = .ok (.aload_n 0, 1) := by decide +kernel
theorem dX12_clause_99 : decode cX12_clause 99 = .ok (.getfield 252, 3) := by decide +kernel
theorem dX12_clause_102 : decode cX12_clause 102 = .ok (.aload_n 0, 1) := by decide +kernel
theorem dX12_clause_103 : decode cX12_clause 103 = .ok (.getfield 197, 3) := by decide +kernel
theorem dX12_clause_106 : decode cX12_clause 106 = .ok (.iastore, 1) := by decide +kernel
theorem dX12_clause_107 : decode cX12_clause 107 = .ok (.aload_n 0, 1) := by decide +kernel
theorem dX12_clause_108 : decode cX12_clause 108 = .ok (.getfield 60, 3) := by decide +kernel
theorem dX12_clause_111 : decode cX12_clause 111 = .ok (.aload_n 0, 1) := by decide +kernel
theorem dX12_clause_112 : decode cX12_clause 112 = .ok (.getfield 252, 3) := by decide +kernel
theorem dX12_clause_115 : decode cX12_clause 115 = .ok (.iconst (-1), 1) := by decide +kernel
theorem dX12_clause_116 : decode cX12_clause 116 = .ok (.iastore, 1) := by decide +kernel
theorem dX12_clause_117 : decode cX12_clause 117 = .ok (.aload_n 0, 1) := by decide +kernel
theorem dX12_clause_118 : decode cX12_clause 118 = .ok (.invokevirtual 212, 3) := by decide +kernel
theorem dX12_clause_121 : decode cX12_clause 121 = .ok (.aload_n 0, 1) := by decide +kernel
theorem dX12_clause_122 : decode cX12_clause 122 = .ok (.getfield 231, 3) := by decide +kernel
theorem dX12_clause_125 : decode cX12_clause 125 = .ok (.iconst 2, 1) := by decide +kernel
theorem dX12_clause_126 : decode cX12_clause 126 = .ok (.if_icmp .le 12, 3) := by decide +kernel
theorem dX12_clause_129 : decode cX12_clause 129 = .ok (.aload_n 0, 1) := by decide +kernel
theorem dX12_clause_130 : decode cX12_clause 130 = .ok (.getfield 231, 3) := by decide +kernel
theorem dX12_clause_133 : decode cX12_clause 133 = .ok (.bipush 6, 2) := by decide +kernel
theorem dX12_clause_135 : decode cX12_clause 135 = .ok (.if_icmp .ne 14, 3) := by decide +kernel
theorem dX12_clause_138 : decode cX12_clause 138 = .ok (.aload_n 0, 1) := by decide +kernel
theorem dX12_clause_139 : decode cX12_clause 139 = .ok (.iconst 1, 1) := by decide +kernel
theorem dX12_clause_140 : decode cX12_clause 140 = .ok (.invokevirtual 209, 3) := by decide +kernel
theorem dX12_clause_143 : decode cX12_clause 143 = .ok (.aload_n 0, 1) := by decide +kernel
theorem dX12_clause_144 : decode cX12_clause 144 = .ok (.iconst 1, 1) := by decide +kernel
theorem dX12_clause_145 : decode cX12_clause 145 = .ok (.putfield 243, 3) := by decide +kernel
theorem dX12_clause_148 : decode cX12_clause 148 = .ok (.return_, 1) := by decide +kernel
theorem dX12_clause_149 : decode cX12_clause 149 = .ok (.aload_n 0, 1) := by decide +kernel
theorem dX12_clause_150 : decode cX12_clause 150 = .ok (.getfield 231, 3) := by decide +kernel
theorem dX12_clause_153 : decode cX12_clause 153 = .ok (.iconst 4, 1) := by decide +kernel
theorem dX12_clause_154 : decode cX12_clause 154 = .ok (.if_icmp .ne 19, 3) := by decide +kernel
theorem dX12_clause_157 : decode cX12_clause 157 = .ok (.aload_n 0, 1) := by decide +kernel
theorem dX12_clause_158 : decode cX12_clause 158 = .ok (.getfield 60, 3) := by decide +kernel
theorem dX12_clause_161 : decode cX12_clause 161 = .ok (.aload_n 0, 1) := by decide +kernel
theorem dX12_clause_162 : decode cX12_clause 162 = .ok (.getfield 252, 3) := by decide +kernel
theorem dX12_clause_165 : decode cX12_clause 165 = .ok (.aload_n 0, 1) := by decide +kernel
theorem dX12_clause_166 : decode cX12_clause 166 = .ok (.iconst 0, 1) := by decide +kernel
theorem dX12_clause_167 : decode cX12_clause 167 = .ok (.bipush 6, 2) := by decide +kernel
theorem dX12_clause_169 : decode cX12_clause 169 = .ok (.invokevirtual 258, 3) := by decide +kernel
theorem dX12_clause_172 : decode cX12_clause 172 = .ok (.iastore, 1) := by decide +kernel
theorem dX12_clause_173 : decode cX12_clause 173 = .ok (.aload_n 0, 1) := by decide +kernel
theorem dX12_clause_174 : decode cX12_clause 174 = .ok (.getfield 191, 3) := by decide +kernel
theorem dX12_clause_177 : decode cX12_clause 177 = .ok (.ifCond .ne 17, 3) := by decide +kernel
theorem dX12_clause_180 : decode cX12_clause 180 = .ok (.aload_n 0, 1) := by decide +kernel
theorem dX12_clause_181 : decode cX12_clause 181 = .ok (.bipush 59, 2) := by decide +kernel
theorem dX12_clause_183 : decode cX12_clause 183 = .ok (.invokevirtual 234, 3) := by decide +kernel
theorem dX12_clause_186 : decode cX12_clause 186 = .ok (.ifCond .ne 8, 3) := by decide +kernel
theorem dX12_clause_189 : decode cX12_clause 189 = .ok (.aload_n 0, 1) := by decide +kernel
theorem dX12_clause_190 : decode cX12_clause 190 = .ok (.iconst 1, 1) := by decide +kernel
theorem dX12_clause_191 : decode cX12_clause 191 = .ok (.invokevirtual 206, 3) := by decide +kernel
theorem dX12_clause_194 : decode cX12_clause 194 = .ok (.aload_n 0, 1) := by decide +kernel
theorem dX12_clause_195 : decode cX12_clause 195 = .ok (.getfield 191, 3) := by decide +kernel
theorem dX12_clause_198 : decode cX12_clause 198 = .ok (.ifCond .ne 7, 3) := by decide +kernel
theorem dX12_clause_201 : decode cX12_clause 201 = .ok (.aload_n 0, 1) := by decide +kernel
theorem dX12_clause_202 : decode cX12_clause 202 = .ok (.invokevirtual 249, 3) := by decide +kernel
theorem dX12_clause_205 : decode cX12_clause 205 = .ok (.return_, 1) := by decide +kernel
theorem dX12_text_0 : decode cX12_text 0 = .ok (.aload_n 0, 1) := by decide +kernel
theorem dX12_text_1 : decode cX12_text 1 = .ok (.getfield 7, 3) := by decide +kernel
theorem dX12_text_4 : decode cX12_text 4 = .ok (.iconst 5, 1) := by decide +kernel
theorem dX12_text_5 : decode cX12_text 5 = .ok (.iaload, 1) := by decide +kernel
theorem dX12_text_6 : decode cX12_text 6 = .ok (.iconst 4, 1) := by decide +kernel
theorem dX12_text_7 : decode cX12_text 7 = .ok (.if_icmp .ne 5, 3) := by decide +kernel
theorem dX12_text_10 : decode cX12_text 10 = .ok (.iconst (-1), 1) := by decide +kernel
theorem dX12_text_11 : decode cX12_text 11 = .ok (.ireturn, 1) := by decide +kernel
theorem dX12_text_12 : decode cX12_text 12 = .ok (.aload_n 0, 1) := by decide +kernel
theorem dX12_text_13 : decode cX12_text 13 = .ok (.aload_n 0, 1) := by decide +kernel
theorem dX12_text_14 : decode cX12_text 14 = .ok (.getfield 139, 3) := by decide +kernel
theorem dX12_text_17 : decode cX12_text 17 = .ok (.putfield 169, 3) := by decide +kernel
theorem dX12_text_20 : decode cX12_text 20 = .ok (.aload_n 0, 1) := by decide +kernel
theorem dX12_text_21 : decode cX12_text 21 = .ok (.iconst 0, 1) := by decide +kernel
theorem dX12_text_22 : decode cX12_text 22 = .ok (.putfield 139, 3) := by decide +kernel
theorem dX12_text_25 : decode cX12_text 25 = .ok (.aload_n 0, 1) := by decide +kernel
theorem dX12_text_26 : decode cX12_text 26 = .ok (.iconst 0, 1) := by decide +kernel
theorem dX12_text_27 : decode cX12_text 27 = .ok (.putfield 166, 3) := by decide +kernel
theorem dX12_text_30 : decode cX12_text 30 = .ok (.aload_n 0, 1) := by decide +kernel
theorem dX12_text_31 : decode cX12_text 31 = .ok (.iconst 0, 1) := by decide +kernel
theorem dX12_text_32 : decode cX12_text 32 = .ok (.putfield 191, 3) := by decide +kernel
theorem dX12_text_35 : decode cX12_text 35 = .ok (.aload_n 0, 1) := by decide +kernel
theorem dX12_text_36 : decode cX12_text 36 = .ok (.iconst (-1), 1) := by decide +kernel
theorem dX12_text_37 : decode cX12_text 37 = .ok (.putfield 194, 3) := by decide +kernel
theorem dX12_text_40 : decode cX12_text 40 = .ok (.aload_n 0, 1) := by decide +kernel
theorem dX12_text_41 : decode cX12_text 41 = .ok (.iconst 0, 1) := by decide +kernel
theorem dX12_text_42 : decode cX12_text 42 = .ok (.putfield 203, 3) := by decide +kernel
theorem dX12_text_45 : decode cX12_text 45 = .ok (.aload_n 0, 1) := by decide +kernel
theorem dX12_text_46 : decode cX12_text 46 = .ok (.iconst 0, 1) := by decide +kernel
theorem dX12_text_47 : decode cX12_text 47 = .ok (.putfield 200, 3) := by decide +kernel
theorem dX12_text_50 : decode cX12_text 50 = .ok (.aload_n 0, 1) := by decide +kernel
theorem dX12_text_51 : decode cX12_text 51 = .ok (.iconst 0, 1) := by decide +kernel
theorem dX12_text_52 : decode cX12_text 52 = .ok (.putfield 214, 3) := by decide +kernel
theorem dX12_text_55 : decode cX12_text 55 = .ok (.aload_n 0, 1) := by decide +kernel
theorem dX12_text_56 : decode cX12_text 56 = .ok (.iconst 4, 1) := by decide +kernel
theorem dX12_text_57 : decode cX12_text 57 = .ok (.putfield 243, 3) := by decide +kernel
theorem dX12_text_60 : decode cX12_text 60 = .ok (.aload_n 0, 1) := by decide +kernel
theorem dX12_text_61 : decode cX12_text 61 = .ok (.iconst 0, 1) := by decide +kernel
theorem dX12_text_62 : decode cX12_text 62 = .ok (.putfield 252, 3) := by decide +kernel
theorem dX12_text_65 : decode cX12_text 65 = .ok (.aload_n 0, 1) := by decide +kernel
theorem dX12_text_66 : decode cX12_text 66 = .ok (.iconst 0, 1) := by decide +kernel
theorem dX12_text_67 : decode cX12_text 67 = .ok (.putfield 197, 3) := by decide +kernel
theorem dX12_text_70 : decode cX12_text 70 = .ok (.aload_n 0, 1) := by decide +kernel
theorem dX12_text_71 : decode cX12_text 71 = .ok (.invokevirtual 212, 3) := by decide +kernel
theorem dX12_text_74 : decode cX12_text 74 = .ok (.aload_n 0, 1) := by decide +kernel
theorem dX12_text_75 : decode cX12_text 75 = .ok (.getfield 191, 3) := by decide +kernel
theorem dX12_text_78 : decode cX12_text 78 = .ok (.ifCond .ne 71, 3) := by decide +kernel
theorem dX12_text_81 : decode cX12_text 81 = .ok (.aload_n 0, 1) := by decide +kernel
theorem dX12_text_82 : decode cX12_text 82 = .ok (.getfield 243, 3) := by decide +kernel
theorem dX12_text_85 : decode cX12_text 85 = .ok (.iconst 4, 1) := by decide +kernel
theorem dX12_text_86 : decode cX12_text 86 = .ok (.if_icmp .ne 10, 3) := by decide +kernel
theorem dX12_text_89 : decode cX12_text 89 = .ok (.aload_n 0, 1) := by decide +kernel
theorem dX12_text_90 : decode cX12_text 90 = .ok (.getfield 175, 3) := by decide +kernel
theorem dX12_text_93 : decode cX12_text 93 = .ok (.ifCond .eq 56, 3) := by decide +kernel
theorem dX12_text_96 : decode cX12_text 96 = .ok (.aload_n 0, 1) := by decide +kernel
theorem dX12_text_97 : decode cX12_text 97 = .ok (.getfield 243, 3) := by decide +kernel
theorem dX12_text_100 : decode cX12_text 100 = .ok (.lookupswitch 42 #[(1, 28), (2, 35)], 28) := by decide +kernel
theorem dX12_text_128 : decode cX12_text 128 = .ok (.aload_n 0, 1) := by decide +kernel
theorem dX12_text_129 : decode cX12_text 129 = .ok (.invokevirtual 262, 3) := by decide +kernel
theorem dX12_text_132 : decode cX12_text 132 = .ok (.goto (-58), 3) := by decide +kernel
theorem dX12_text_135 : decode cX12_text 135 = .ok (.aload_n 0, 1) := by decide +kernel
theorem dX12_text_136 : decode cX12_text 136 = .ok (.invokevirtual 265, 3) := by decide +kernel
theorem dX12_text_139 : decode cX12_text 139 = .ok (.goto (-65), 3) := by decide +kernel
theorem dX12_text_142 : decode cX12_text 142 = .ok (.aload_n 0, 1) := by decide +kernel
theorem dX12_text_143 : decode cX12_text 143 = .ok (.invokevirtual 268, 3) := by decide +kernel
theorem dX12_text_146 : decode cX12_text 146 = .ok (.goto (-72), 3) := by decide +kernel
theorem dX12_text_149 : decode cX12_text 149 = .ok (.aload_n 0, 1) := by decide +kernel
theorem dX12_text_150 : decode cX12_text 150 = .ok (.aload_n 0, 1) := by decide +kernel
theorem dX12_text_151 : decode cX12_text 151 = .ok (.getfield 191, 3) := by decide +kernel
theorem dX12_text_154 : decode cX12_text 154 = .ok (.putfield 20, 3) := by decide +kernel
theorem dX12_text_157 : decode cX12_text 157 = .ok (.aload_n 0, 1) := by decide +kernel
theorem dX12_text_158 : decode cX12_text 158 = .ok (.aload_n 0, 1) := by decide +kernel
theorem dX12_text_159 : decode cX12_text 159 = .ok (.getfield 194, 3) := by decide +kernel
theorem dX12_text_162 : decode cX12_text 162 = .ok (.putfield 24, 3) := by decide +kernel
theorem dX12_text_165 : decode cX12_text 165 = .ok (.aload_n 0, 1) := by decide +kernel
theorem dX12_text_166 : decode cX12_text 166 = .ok (.getfield 191, 3) := by decide +kernel
theorem dX12_text_169 : decode cX12_text 169 = .ok (.ifCond .le 5, 3) := by decide +kernel
theorem dX12_text_172 : decode cX12_text 172 = .ok (.iconst (-1), 1) := by decide +kernel
theorem dX12_text_173 : decode cX12_text 173 = .ok (.ireturn, 1) := by decide +kernel
theorem dX12_text_174 : decode cX12_text 174 = .ok (.aload_n 0, 1) := by decide +kernel
theorem dX12_text_175 : decode cX12_text 175 = .ok (.getfield 7, 3) := by decide +kernel
theorem dX12_text_178 : decode cX12_text 178 = .ok (.iconst 5, 1) := by decide +kernel
theorem dX12_text_179 : decode cX12_text 179 = .ok (.iaload, 1) := by decide +kernel
theorem dX12_text_180 : decode cX12_text 180 = .ok (.istore_n 1, 1) := by decide +kernel
theorem dX12_text_181 : decode cX12_text 181 = .ok (.aload_n 0, 1) := by decide +kernel
theorem dX12_text_182 : decode cX12_text 182 = .ok (.getfield 27, 3) := by decide +kernel
theorem dX12_text_185 : decode cX12_text 185 = .ok (.iload_n 1, 1) := by decide +kernel
theorem dX12_text_186 : decode cX12_text 186 = .ok (.aload_n 0, 1) := by decide +kernel
theorem dX12_text_187 : decode cX12_text 187 = .ok (.getfield 252, 3) := by decide +kernel
theorem dX12_text_190 : decode cX12_text 190 = .ok (.iastore, 1) := by decide +kernel
theorem dX12_text_191 : decode cX12_text 191 = .ok (.iconst 0, 1) := by decide +kernel
theorem dX12_text_192 : decode cX12_text 192 = .ok (.istore_n 2, 1) := by decide +kernel
theorem dX12_text_193 : decode cX12_text 193 = .ok (.iload_n 2, 1) := by decide +kernel
theorem dX12_text_194 : decode cX12_text 194 = .ok (.aload_n 0, 1) := by decide +kernel
theorem dX12_text_195 : decode cX12_text 195 = .ok (.getfield 252, 3) := by decide +kernel
theorem dX12_text_198 : decode cX12_text 198 = .ok (.if_icmp .ge 66, 3) := by decide +kernel
theorem dX12_text_201 : decode cX12_text 201 = .ok (.aload_n 0, 1) := by decide +kernel
theorem dX12_text_202 : decode cX12_text 202 = .ok (.getfield 30, 3) := by decide +kernel
theorem dX12_text_205 : decode cX12_text 205 = .ok (.bipush 30, 2) := by decide +kernel
theorem dX12_text_207 : decode cX12_text 207 = .ok (.iload_n 1, 1) := by decide +kernel
theorem dX12_text_208 : decode cX12_text 208 = .ok (.imul, 1) := by decide +kernel
theorem dX12_text_209 : decode cX12_text 209 = .ok (.iload_n 2, 1) := by decide +kernel
theorem dX12_text_210 : decode cX12_text 210 = .ok (.iadd, 1) := by decide +kernel
theorem dX12_text_211 : decode cX12_text 211 = .ok (.aload_n 0, 1) := by decide +kernel
theorem dX12_text_212 : decode cX12_text 212 = .ok (.getfield 54, 3) := by decide +kernel
theorem dX12_text_215 : decode cX12_text 215 = .ok (.iload_n 2, 1) := by decide +kernel
theorem dX12_text_216 : decode cX12_text 216 = .ok (.iaload, 1) := by decide +kernel
theorem dX12_text_217 : decode cX12_text 217 = .ok (.iastore, 1) := by decide +kernel
theorem dX12_text_218 : decode cX12_text 218 = .ok (.aload_n 0, 1) := by decide +kernel
theorem dX12_text_219 : decode cX12_text 219 = .ok (.getfield 33, 3) := by decide +kernel
theorem dX12_text_222 : decode cX12_text 222 = .ok (.bipush 30, 2) := by decide +kernel
theorem dX12_text_224 : decode cX12_text 224 = .ok (.iload_n 1, 1) := by decide +kernel
theorem dX12_text_225 : decode cX12_text 225 = .ok (.imul, 1) := by decide +kernel
theorem dX12_text_226 : decode cX12_text 226 = .ok (.iload_n 2, 1) := by decide +kernel
theorem dX12_text_227 : decode cX12_text 227 = .ok (.iadd, 1) := by decide +kernel
theorem dX12_text_228 : decode cX12_text 228 = .ok (.sipush 400, 3) := by decide +kernel
theorem dX12_text_231 : decode cX12_text 231 = .ok (.iload_n 1, 1) := by decide +kernel
theorem dX12_text_232 : decode cX12_text 232 = .ok (.imul, 1) := by decide +kernel
theorem dX12_text_233 : decode cX12_text 233 = .ok (.aload_n 0, 1) := by decide +kernel
theorem dX12_text_234 : decode cX12_text 234 = .ok (.getfield 57, 3) := by decide +kernel
theorem dX12_text_237 : decode cX12_text 237 = .ok (.iload_n 2, 1) := by decide +kernel
theorem dX12_text_238 : decode cX12_text 238 = .ok (.iaload, 1) := by decide +kernel
theorem dX12_text_239 : decode cX12_text 239 = .ok (.iadd, 1) := by decide +kernel
theorem dX12_text_240 : decode cX12_text 240 = .ok (.iastore, 1) := by decide +kernel
theorem dX12_text_241 : decode cX12_text 241 = .ok (.aload_n 0, 1) := by decide +kernel
theorem dX12_text_242 : decode cX12_text 242 = .ok (.getfield 36, 3) := by decide +kernel
theorem dX12_text_245 : decode cX12_text 245 = .ok (.bipush 30, 2) := by decide +kernel
theorem dX12_text_247 : decode cX12_text 247 = .ok (.iload_n 1, 1) := by decide +kernel
theorem dX12_text_248 : decode cX12_text 248 = .ok (.imul, 1) := by decide +kernel
theorem dX12_text_249 : decode cX12_text 249 = .ok (.iload_n 2, 1) := by decide +kernel
theorem dX12_text_250 : decode cX12_text 250 = .ok (.iadd, 1) := by decide +kernel
theorem dX12_text_251 : decode cX12_text 251 = .ok (.aload_n 0, 1) := by decide +kernel
theorem dX12_text_252 : decode cX12_text 252 = .ok (.getfield 60, 3) := by decide +kernel
theorem dX12_text_255 : decode cX12_text 255 = .ok (.iload_n 2, 1) := by decide +kernel
theorem dX12_text_256 : decode cX12_text 256 = .ok (.iaload, 1) := by decide +kernel
theorem dX12_text_257 : decode cX12_text 257 = .ok (.iastore, 1) := by decide +kernel
theorem dX12_text_258 : decode cX12_text 258 = .ok (.iinc 2 1, 3) := by decide +kernel
theorem dX12_text_261 : decode cX12_text 261 = .ok (.goto (-68), 3) := by decide +kernel
theorem dX12_text_264 : decode cX12_text 264 = .ok (.iconst 0, 1) := by decide +kernel
theorem dX12_text_265 : decode cX12_text 265 = .ok (.istore_n 2, 1) := by decide +kernel
theorem dX12_text_266 : decode cX12_text 266 = .ok (.iload_n 2, 1) := by decide +kernel
theorem dX12_text_267 : decode cX12_text 267 = .ok (.aload_n 0, 1) := by decide +kernel
theorem dX12_text_268 : decode cX12_text 268 = .ok (.getfield 197, 3) := by decide +kernel
theorem dX12_text_271 : decode cX12_text 271 = .ok (.if_icmp .ge 45, 3) := by decide +kernel
theorem dX12_text_274 : decode cX12_text 274 = .ok (.aload_n 0, 1) := by decide +kernel
theorem dX12_text_275 : decode cX12_text 275 = .ok (.getfield 39, 3) := by decide +kernel
theorem dX12_text_278 : decode cX12_text 278 = .ok (.sipush 400, 3) := by decide +kernel
theorem dX12_text_281 : decode cX12_text 281 = .ok (.iload_n 1, 1) := by decide +kernel
theorem dX12_text_282 : decode cX12_text 282 = .ok (.imul, 1) := by decide +kernel
theorem dX12_text_283 : decode cX12_text 283 = .ok (.iload_n 2, 1) := by decide +kernel
theorem dX12_text_284 : decode cX12_text 284 = .ok (.iadd, 1) := by decide +kernel
theorem dX12_text_285 : decode cX12_text 285 = .ok (.aload_n 0, 1) := by decide +kernel
theorem dX12_text_286 : decode cX12_text 286 = .ok (.getfield 63, 3) := by decide +kernel
theorem dX12_text_289 : decode cX12_text 289 = .ok (.iload_n 2, 1) := by decide +kernel
theorem dX12_text_290 : decode cX12_text 290 = .ok (.iaload, 1) := by decide +kernel
theorem dX12_text_291 : decode cX12_text 291 = .ok (.iastore, 1) := by decide +kernel
theorem dX12_text_292 : decode cX12_text 292 = .ok (.aload_n 0, 1) := by decide +kernel
theorem dX12_text_293 : decode cX12_text 293 = .ok (.getfield 42, 3) := by decide +kernel
theorem dX12_text_296 : decode cX12_text 296 = .ok (.sipush 400, 3) := by decide +kernel
theorem dX12_text_299 : decode cX12_text 299 = .ok (.iload_n 1, 1) := by decide +kernel
theorem dX12_text_300 : decode cX12_text 300 = .ok (.imul, 1) := by decide +kernel
theorem dX12_text_301 : decode cX12_text 301 = .ok (.iload_n 2, 1) := by decide +kernel
theorem dX12_text_302 : decode cX12_text 302 = .ok (.iadd, 1) := by decide +kernel
theorem dX12_text_303 : decode cX12_text 303 = .ok (.aload_n 0, 1) := by decide +kernel
theorem dX12_text_304 : decode cX12_text 304 = .ok (.getfield 66, 3) := by decide +kernel
theorem dX12_text_307 : decode cX12_text 307 = .ok (.iload_n 2, 1) := by decide +kernel
theorem dX12_text_308 : decode cX12_text 308 = .ok (.iaload, 1) := by decide +kernel
theorem dX12_text_309 : decode cX12_text 309 = .ok (.iastore, 1) := by decide +kernel
theorem dX12_text_310 : decode cX12_text 310 = .ok (.iinc 2 1, 3) := by decide +kernel
theorem dX12_text_313 : decode cX12_text 313 = .ok (.goto (-47), 3) := by decide +kernel
theorem dX12_text_316 : decode cX12_text 316 = .ok (.aload_n 0, 1) := by decide +kernel
theorem dX12_text_317 : decode cX12_text 317 = .ok (.getfield 7, 3) := by decide +kernel
theorem dX12_text_320 : decode cX12_text 320 = .ok (.iconst 5, 1) := by decide +kernel
theorem dX12_text_321 : decode cX12_text 321 = .ok (.dup2, 1) := by decide +kernel
theorem dX12_text_322 : decode cX12_text 322 = .ok (.iaload, 1) := by decide +kernel
theorem dX12_text_323 : decode cX12_text 323 = .ok (.iconst 1, 1) := by decide +kernel
theorem dX12_text_324 : decode cX12_text 324 = .ok (.iadd, 1) := by decide +kernel
theorem dX12_text_325 : decode cX12_text 325 = .ok (.iastore, 1) := by decide +kernel
theorem dX12_text_326 : decode cX12_text 326 = .ok (.iload_n 1, 1) := by decide +kernel
theorem dX12_text_327 : decode cX12_text 327 = .ok (.ireturn, 1) := by decide +kernel
theorem dX12_fault_0 : decode cX12_fault 0 = .ok (.iload_n 1, 1) := by decide +kernel
theorem dX12_fault_1 : decode cX12_fault 1 = .ok (.ifCond .ne 10, 3) := by decide +kernel
theorem dX12_fault_4 : decode cX12_fault 4 = .ok (.aload_n 0, 1) := by decide +kernel
theorem dX12_fault_5 : decode cX12_fault 5 = .ok (.getfield 20, 3) := by decide +kernel
theorem dX12_fault_8 : decode cX12_fault 8 = .ok (.goto 16, 3) := by decide +kernel
theorem dX12_fault_11 : decode cX12_fault 11 = .ok (.iload_n 1, 1) := by decide +kernel
theorem dX12_fault_12 : decode cX12_fault 12 = .ok (.iconst 1, 1) := by decide +kernel
theorem dX12_fault_13 : decode cX12_fault 13 = .ok (.if_icmp .ne 10, 3) := by decide +kernel
theorem dX12_fault_16 : decode cX12_fault 16 = .ok (.aload_n 0, 1) := by decide +kernel
theorem dX12_fault_17 : decode cX12_fault 17 = .ok (.getfield 24, 3) := by decide +kernel
theorem dX12_fault_20 : decode cX12_fault 20 = .ok (.goto 4, 3) := by decide +kernel
theorem dX12_fault_23 : decode cX12_fault 23 = .ok (.iconst (-1), 1) := by decide +kernel
theorem dX12_fault_24 : decode cX12_fault 24 = .ok (.ireturn, 1) := by decide +kernel
theorem dX12_by_0 : decode cX12_by 0 = .ok (.iload_n 1, 1) := by decide +kernel
theorem dX12_by_1 : decode cX12_by 1 = .ok (.iconst (-1), 1) := by decide +kernel
theorem dX12_by_2 : decode cX12_by 2 = .ok (.if_icmp .eq 21, 3) := by decide +kernel
theorem dX12_by_5 : decode cX12_by 5 = .ok (.iload_n 1, 1) := by decide +kernel
theorem dX12_by_6 : decode cX12_by 6 = .ok (.iconst 0, 1) := by decide +kernel
theorem dX12_by_7 : decode cX12_by 7 = .ok (.aload_n 0, 1) := by decide +kernel
theorem dX12_by_8 : decode cX12_by 8 = .ok (.getfield 7, 3) := by decide +kernel
theorem dX12_by_11 : decode cX12_by 11 = .ok (.iconst 5, 1) := by decide +kernel
theorem dX12_by_12 : decode cX12_by 12 = .ok (.iaload, 1) := by decide +kernel
theorem dX12_by_13 : decode cX12_by 13 = .ok (.iconst 1, 1) := by decide +kernel
theorem dX12_by_14 : decode cX12_by 14 = .ok (.isub, 1) := by decide +kernel
theorem dX12_by_15 : decode cX12_by 15 = .ok (.invokestatic 124, 3) := by decide +kernel
theorem dX12_by_18 : decode cX12_by 18 = .ok (.ifCond .ne 5, 3) := by decide +kernel
theorem dX12_by_21 : decode cX12_by 21 = .ok (.iconst 0, 1) := by decide +kernel
theorem dX12_by_22 : decode cX12_by 22 = .ok (.ireturn, 1) := by decide +kernel
theorem dX12_by_23 : decode cX12_by 23 = .ok (.aload_n 0, 1) := by decide +kernel
theorem dX12_by_24 : decode cX12_by 24 = .ok (.getfield 7, 3) := by decide +kernel
theorem dX12_by_27 : decode cX12_by 27 = .ok (.bipush 6, 2) := by decide +kernel
theorem dX12_by_29 : decode cX12_by 29 = .ok (.iload_n 1, 1) := by decide +kernel
theorem dX12_by_30 : decode cX12_by 30 = .ok (.iastore, 1) := by decide +kernel
theorem dX12_by_31 : decode cX12_by 31 = .ok (.iconst 1, 1) := by decide +kernel
theorem dX12_by_32 : decode cX12_by 32 = .ok (.ireturn, 1) := by decide +kernel
theorem dX12_worked_0 : decode cX12_worked 0 = .ok (.iload_n 1, 1) := by decide +kernel
theorem dX12_worked_1 : decode cX12_worked 1 = .ok (.tableswitch 71 42 45 #[60, 31, 71, 42], 31) := by decide +kernel
theorem dX12_worked_32 : decode cX12_worked 32 = .ok (.iload_n 2, 1) := by decide +kernel
theorem dX12_worked_33 : decode cX12_worked 33 = .ok (.iload_n 3, 1) := by decide +kernel
theorem dX12_worked_34 : decode cX12_worked 34 = .ok (.iadd, 1) := by decide +kernel
theorem dX12_worked_35 : decode cX12_worked 35 = .ok (.aload_n 0, 1) := by decide +kernel
theorem dX12_worked_36 : decode cX12_worked 36 = .ok (.getfield 7, 3) := by decide +kernel
theorem dX12_worked_39 : decode cX12_worked 39 = .ok (.iconst 2, 1) := by decide +kernel
theorem dX12_worked_40 : decode cX12_worked 40 = .ok (.iaload, 1) := by decide +kernel
theorem dX12_worked_41 : decode cX12_worked 41 = .ok (.irem, 1) := by decide +kernel
theorem dX12_worked_42 : decode cX12_worked 42 = .ok (.ireturn, 1) := by decide +kernel
theorem dX12_worked_43 : decode cX12_worked 43 = .ok (.iload_n 2, 1) := by decide +kernel
theorem dX12_worked_44 : decode cX12_worked 44 = .ok (.iload_n 3, 1) := by decide +kernel
theorem dX12_worked_45 : decode cX12_worked 45 = .ok (.isub, 1) := by decide +kernel
theorem dX12_worked_46 : decode cX12_worked 46 = .ok (.aload_n 0, 1) := by decide +kernel
theorem dX12_worked_47 : decode cX12_worked 47 = .ok (.getfield 7, 3) := by decide +kernel
theorem dX12_worked_50 : decode cX12_worked 50 = .ok (.iconst 2, 1) := by decide +kernel
theorem dX12_worked_51 : decode cX12_worked 51 = .ok (.iaload, 1) := by decide +kernel
theorem dX12_worked_52 : decode cX12_worked 52 = .ok (.iadd, 1) := by decide +kernel
theorem dX12_worked_53 : decode cX12_worked 53 = .ok (.aload_n 0, 1) := by decide +kernel
theorem dX12_worked_54 : decode cX12_worked 54 = .ok (.getfield 7, 3) := by decide +kernel
theorem dX12_worked_57 : decode cX12_worked 57 = .ok (.iconst 2, 1) := by decide +kernel
theorem dX12_worked_58 : decode cX12_worked 58 = .ok (.iaload, 1) := by decide +kernel
theorem dX12_worked_59 : decode cX12_worked 59 = .ok (.irem, 1) := by decide +kernel
theorem dX12_worked_60 : decode cX12_worked 60 = .ok (.ireturn, 1) := by decide +kernel
theorem dX12_worked_61 : decode cX12_worked 61 = .ok (.iload_n 2, 1) := by decide +kernel
theorem dX12_worked_62 : decode cX12_worked 62 = .ok (.iload_n 3, 1) := by decide +kernel
theorem dX12_worked_63 : decode cX12_worked 63 = .ok (.imul, 1) := by decide +kernel
theorem dX12_worked_64 : decode cX12_worked 64 = .ok (.aload_n 0, 1) := by decide +kernel
theorem dX12_worked_65 : decode cX12_worked 65 = .ok (.getfield 7, 3) := by decide +kernel
theorem dX12_worked_68 : decode cX12_worked 68 = .ok (.iconst 2, 1) := by decide +kernel
theorem dX12_worked_69 : decode cX12_worked 69 = .ok (.iaload, 1) := by decide +kernel
theorem dX12_worked_70 : decode cX12_worked 70 = .ok (.irem, 1) := by decide +kernel
theorem dX12_worked_71 : decode cX12_worked 71 = .ok (.ireturn, 1) := by decide +kernel
theorem dX12_worked_72 : decode cX12_worked 72 = .ok (.aload_n 0, 1) := by decide +kernel
theorem dX12_worked_73 : decode cX12_worked 73 = .ok (.iload_n 2, 1) := by decide +kernel
theorem dX12_worked_74 : decode cX12_worked 74 = .ok (.iload_n 3, 1) := by decide +kernel
theorem dX12_worked_75 : decode cX12_worked 75 = .ok (.invokevirtual 271, 3) := by decide +kernel
theorem dX12_worked_78 : decode cX12_worked 78 = .ok (.ireturn, 1) := by decide +kernel
theorem dX12_saysOf_0 : decode cX12_saysOf 0 = .ok (.iconst 0, 1) := by decide +kernel
theorem dX12_saysOf_1 : decode cX12_saysOf 1 = .ok (.istore_n 3, 1) := by decide +kernel
theorem dX12_saysOf_2 : decode cX12_saysOf 2 = .ok (.iload_n 1, 1) := by decide +kernel
theorem dX12_saysOf_3 : decode cX12_saysOf 3 = .ok (.istore 4, 2) := by decide +kernel
theorem dX12_saysOf_5 : decode cX12_saysOf 5 = .ok (.aload_n 0, 1) := by decide +kernel
theorem dX12_saysOf_6 : decode cX12_saysOf 6 = .ok (.getfield 39, 3) := by decide +kernel
theorem dX12_saysOf_9 : decode cX12_saysOf 9 = .ok (.iload 4, 2) := by decide +kernel
theorem dX12_saysOf_11 : decode cX12_saysOf 11 = .ok (.iaload, 1) := by decide +kernel
theorem dX12_saysOf_12 : decode cX12_saysOf 12 = .ok (.sipush 408, 3) := by decide +kernel
theorem dX12_saysOf_15 : decode cX12_saysOf 15 = .ok (.if_icmp .eq 190, 3) := by decide +kernel
theorem dX12_saysOf_18 : decode cX12_saysOf 18 = .ok (.aload_n 0, 1) := by decide +kernel
theorem dX12_saysOf_19 : decode cX12_saysOf 19 = .ok (.getfield 39, 3) := by decide +kernel
theorem dX12_saysOf_22 : decode cX12_saysOf 22 = .ok (.iload 4, 2) := by decide +kernel
theorem dX12_saysOf_24 : decode cX12_saysOf 24 = .ok (.iaload, 1) := by decide +kernel
theorem dX12_saysOf_25 : decode cX12_saysOf 25 = .ok (.tableswitch 138 400 402 #[27, 53, 105], 27) := by decide +kernel
theorem dX12_saysOf_52 : decode cX12_saysOf 52 = .ok (.aload_n 0, 1) := by decide +kernel
theorem dX12_saysOf_53 : decode cX12_saysOf 53 = .ok (.getfield 69, 3) := by decide +kernel
theorem dX12_saysOf_56 : decode cX12_saysOf 56 = .ok (.iload_n 3, 1) := by decide +kernel
theorem dX12_saysOf_57 : decode cX12_saysOf 57 = .ok (.aload_n 0, 1) := by decide +kernel
theorem dX12_saysOf_58 : decode cX12_saysOf 58 = .ok (.getfield 42, 3) := by decide +kernel
theorem dX12_saysOf_61 : decode cX12_saysOf 61 = .ok (.iload 4, 2) := by decide +kernel
theorem dX12_saysOf_63 : decode cX12_saysOf 63 = .ok (.iaload, 1) := by decide +kernel
theorem dX12_saysOf_64 : decode cX12_saysOf 64 = .ok (.aload_n 0, 1) := by decide +kernel
theorem dX12_saysOf_65 : decode cX12_saysOf 65 = .ok (.getfield 7, 3) := by decide +kernel
theorem dX12_saysOf_68 : decode cX12_saysOf 68 = .ok (.iconst 2, 1) := by decide +kernel
theorem dX12_saysOf_69 : decode cX12_saysOf 69 = .ok (.iaload, 1) := by decide +kernel
theorem dX12_saysOf_70 : decode cX12_saysOf 70 = .ok (.irem, 1) := by decide +kernel
theorem dX12_saysOf_71 : decode cX12_saysOf 71 = .ok (.iastore, 1) := by decide +kernel
theorem dX12_saysOf_72 : decode cX12_saysOf 72 = .ok (.iinc 3 1, 3) := by decide +kernel
theorem dX12_saysOf_75 : decode cX12_saysOf 75 = .ok (.goto 124, 3) := by decide +kernel
theorem dX12_saysOf_78 : decode cX12_saysOf 78 = .ok (.aload_n 0, 1) := by decide +kernel
theorem dX12_saysOf_79 : decode cX12_saysOf 79 = .ok (.getfield 69, 3) := by decide +kernel
theorem dX12_saysOf_82 : decode cX12_saysOf 82 = .ok (.iload_n 3, 1) := by decide +kernel
theorem dX12_saysOf_83 : decode cX12_saysOf 83 = .ok (.aload_n 0, 1) := by decide +kernel
theorem dX12_saysOf_84 : decode cX12_saysOf 84 = .ok (.getfield 42, 3) := by decide +kernel
theorem dX12_saysOf_87 : decode cX12_saysOf 87 = .ok (.iload 4, 2) := by decide +kernel
theorem dX12_saysOf_89 : decode cX12_saysOf 89 = .ok (.iaload, 1) := by decide +kernel
theorem dX12_saysOf_90 : decode cX12_saysOf 90 = .ok (.ifCond .ne 7, 3) := by decide +kernel
theorem dX12_saysOf_93 : decode cX12_saysOf 93 = .ok (.iload_n 2, 1) := by decide +kernel
theorem dX12_saysOf_94 : decode cX12_saysOf 94 = .ok (.goto 29, 3) := by decide +kernel
theorem dX12_saysOf_97 : decode cX12_saysOf 97 = .ok (.aload_n 0, 1) := by decide +kernel
theorem dX12_saysOf_98 : decode cX12_saysOf 98 = .ok (.getfield 42, 3) := by decide +kernel
theorem dX12_saysOf_101 : decode cX12_saysOf 101 = .ok (.iload 4, 2) := by decide +kernel
theorem dX12_saysOf_103 : decode cX12_saysOf 103 = .ok (.iaload, 1) := by decide +kernel
theorem dX12_saysOf_104 : decode cX12_saysOf 104 = .ok (.iconst 1, 1) := by decide +kernel
theorem dX12_saysOf_105 : decode cX12_saysOf 105 = .ok (.if_icmp .ne 12, 3) := by decide +kernel
theorem dX12_saysOf_108 : decode cX12_saysOf 108 = .ok (.aload_n 0, 1) := by decide +kernel
theorem dX12_saysOf_109 : decode cX12_saysOf 109 = .ok (.getfield 7, 3) := by decide +kernel
theorem dX12_saysOf_112 : decode cX12_saysOf 112 = .ok (.iconst 3, 1) := by decide +kernel
theorem dX12_saysOf_113 : decode cX12_saysOf 113 = .ok (.iaload, 1) := by decide +kernel
theorem dX12_saysOf_114 : decode cX12_saysOf 114 = .ok (.goto 9, 3) := by decide +kernel
theorem dX12_saysOf_117 : decode cX12_saysOf 117 = .ok (.aload_n 0, 1) := by decide +kernel
theorem dX12_saysOf_118 : decode cX12_saysOf 118 = .ok (.getfield 7, 3) := by decide +kernel
theorem dX12_saysOf_121 : decode cX12_saysOf 121 = .ok (.iconst 4, 1) := by decide +kernel
theorem dX12_saysOf_122 : decode cX12_saysOf 122 = .ok (.iaload, 1) := by decide +kernel
theorem dX12_saysOf_123 : decode cX12_saysOf 123 = .ok (.iastore, 1) := by decide +kernel
theorem dX12_saysOf_124 : decode cX12_saysOf 124 = .ok (.iinc 3 1, 3) := by decide +kernel
theorem dX12_saysOf_127 : decode cX12_saysOf 127 = .ok (.goto 72, 3) := by decide +kernel
theorem dX12_saysOf_130 : decode cX12_saysOf 130 = .ok (.aload_n 0, 1) := by decide +kernel
theorem dX12_saysOf_131 : decode cX12_saysOf 131 = .ok (.getfield 69, 3) := by decide +kernel
theorem dX12_saysOf_134 : decode cX12_saysOf 134 = .ok (.iload_n 3, 1) := by decide +kernel
theorem dX12_saysOf_135 : decode cX12_saysOf 135 = .ok (.iconst 1, 1) := by decide +kernel
theorem dX12_saysOf_136 : decode cX12_saysOf 136 = .ok (.isub, 1) := by decide +kernel
theorem dX12_saysOf_137 : decode cX12_saysOf 137 = .ok (.aload_n 0, 1) := by decide +kernel
theorem dX12_saysOf_138 : decode cX12_saysOf 138 = .ok (.getfield 7, 3) := by decide +kernel
theorem dX12_saysOf_141 : decode cX12_saysOf 141 = .ok (.iconst 2, 1) := by decide +kernel
theorem dX12_saysOf_142 : decode cX12_saysOf 142 = .ok (.iaload, 1) := by decide +kernel
theorem dX12_saysOf_143 : decode cX12_saysOf 143 = .ok (.aload_n 0, 1) := by decide +kernel
theorem dX12_saysOf_144 : decode cX12_saysOf 144 = .ok (.getfield 69, 3) := by decide +kernel
theorem dX12_saysOf_147 : decode cX12_saysOf 147 = .ok (.iload_n 3, 1) := by decide +kernel
theorem dX12_saysOf_148 : decode cX12_saysOf 148 = .ok (.iconst 1, 1) := by decide +kernel
theorem dX12_saysOf_149 : decode cX12_saysOf 149 = .ok (.isub, 1) := by decide +kernel
theorem dX12_saysOf_150 : decode cX12_saysOf 150 = .ok (.iaload, 1) := by decide +kernel
theorem dX12_saysOf_151 : decode cX12_saysOf 151 = .ok (.isub, 1) := by decide +kernel
theorem dX12_saysOf_152 : decode cX12_saysOf 152 = .ok (.aload_n 0, 1) := by decide +kernel
theorem dX12_saysOf_153 : decode cX12_saysOf 153 = .ok (.getfield 7, 3) := by decide +kernel
theorem dX12_saysOf_156 : decode cX12_saysOf 156 = .ok (.iconst 2, 1) := by decide +kernel
theorem dX12_saysOf_157 : decode cX12_saysOf 157 = .ok (.iaload, 1) := by decide +kernel
theorem dX12_saysOf_158 : decode cX12_saysOf 158 = .ok (.irem, 1) := by decide +kernel
theorem dX12_saysOf_159 : decode cX12_saysOf 159 = .ok (.iastore, 1) := by decide +kernel
theorem dX12_saysOf_160 : decode cX12_saysOf 160 = .ok (.goto 39, 3) := by decide +kernel
theorem dX12_saysOf_163 : decode cX12_saysOf 163 = .ok (.iinc 3 (-1), 3) := by decide +kernel
theorem dX12_saysOf_166 : decode cX12_saysOf 166 = .ok (.aload_n 0, 1) := by decide +kernel
theorem dX12_saysOf_167 : decode cX12_saysOf 167 = .ok (.getfield 69, 3) := by decide +kernel
theorem dX12_saysOf_170 : decode cX12_saysOf 170 = .ok (.iload_n 3, 1) := by decide +kernel
theorem dX12_saysOf_171 : decode cX12_saysOf 171 = .ok (.iconst 1, 1) := by decide +kernel
theorem dX12_saysOf_172 : decode cX12_saysOf 172 = .ok (.isub, 1) := by decide +kernel
theorem dX12_saysOf_173 : decode cX12_saysOf 173 = .ok (.aload_n 0, 1) := by decide +kernel
theorem dX12_saysOf_174 : decode cX12_saysOf 174 = .ok (.aload_n 0, 1) := by decide +kernel
theorem dX12_saysOf_175 : decode cX12_saysOf 175 = .ok (.getfield 39, 3) := by decide +kernel
theorem dX12_saysOf_178 : decode cX12_saysOf 178 = .ok (.iload 4, 2) := by decide +kernel
theorem dX12_saysOf_180 : decode cX12_saysOf 180 = .ok (.iaload, 1) := by decide +kernel
theorem dX12_saysOf_181 : decode cX12_saysOf 181 = .ok (.aload_n 0, 1) := by decide +kernel
theorem dX12_saysOf_182 : decode cX12_saysOf 182 = .ok (.getfield 69, 3) := by decide +kernel
theorem dX12_saysOf_185 : decode cX12_saysOf 185 = .ok (.iload_n 3, 1) := by decide +kernel
theorem dX12_saysOf_186 : decode cX12_saysOf 186 = .ok (.iconst 1, 1) := by decide +kernel
theorem dX12_saysOf_187 : decode cX12_saysOf 187 = .ok (.isub, 1) := by decide +kernel
theorem dX12_saysOf_188 : decode cX12_saysOf 188 = .ok (.iaload, 1) := by decide +kernel
theorem dX12_saysOf_189 : decode cX12_saysOf 189 = .ok (.aload_n 0, 1) := by decide +kernel
theorem dX12_saysOf_190 : decode cX12_saysOf 190 = .ok (.getfield 69, 3) := by decide +kernel
theorem dX12_saysOf_193 : decode cX12_saysOf 193 = .ok (.iload_n 3, 1) := by decide +kernel
theorem dX12_saysOf_194 : decode cX12_saysOf 194 = .ok (.iaload, 1) := by decide +kernel
theorem dX12_saysOf_195 : decode cX12_saysOf 195 = .ok (.invokevirtual 274, 3) := by decide +kernel
theorem dX12_saysOf_198 : decode cX12_saysOf 198 = .ok (.iastore, 1) := by decide +kernel
theorem dX12_saysOf_199 : decode cX12_saysOf 199 = .ok (.iinc 4 1, 3) := by decide +kernel
theorem dX12_saysOf_202 : decode cX12_saysOf 202 = .ok (.goto (-197), 3) := by decide +kernel
theorem dX12_saysOf_205 : decode cX12_saysOf 205 = .ok (.aload_n 0, 1) := by decide +kernel
theorem dX12_saysOf_206 : decode cX12_saysOf 206 = .ok (.getfield 69, 3) := by decide +kernel
theorem dX12_saysOf_209 : decode cX12_saysOf 209 = .ok (.iconst 0, 1) := by decide +kernel
theorem dX12_saysOf_210 : decode cX12_saysOf 210 = .ok (.iaload, 1) := by decide +kernel
theorem dX12_saysOf_211 : decode cX12_saysOf 211 = .ok (.ireturn, 1) := by decide +kernel
theorem dX12_weightOf_0 : decode cX12_weightOf 0 = .ok (.iload_n 1, 1) := by decide +kernel
theorem dX12_weightOf_1 : decode cX12_weightOf 1 = .ok (.ifCond .ne 21, 3) := by decide +kernel
theorem dX12_weightOf_4 : decode cX12_weightOf 4 = .ok (.iload_n 2, 1) := by decide +kernel
theorem dX12_weightOf_5 : decode cX12_weightOf 5 = .ok (.aload_n 0, 1) := by decide +kernel
theorem dX12_weightOf_6 : decode cX12_weightOf 6 = .ok (.getfield 7, 3) := by decide +kernel
theorem dX12_weightOf_9 : decode cX12_weightOf 9 = .ok (.iconst 3, 1) := by decide +kernel
theorem dX12_weightOf_10 : decode cX12_weightOf 10 = .ok (.iaload, 1) := by decide +kernel
theorem dX12_weightOf_11 : decode cX12_weightOf 11 = .ok (.iadd, 1) := by decide +kernel
theorem dX12_weightOf_12 : decode cX12_weightOf 12 = .ok (.aload_n 0, 1) := by decide +kernel
theorem dX12_weightOf_13 : decode cX12_weightOf 13 = .ok (.getfield 7, 3) := by decide +kernel
theorem dX12_weightOf_16 : decode cX12_weightOf 16 = .ok (.iconst 2, 1) := by decide +kernel
theorem dX12_weightOf_17 : decode cX12_weightOf 17 = .ok (.iaload, 1) := by decide +kernel
theorem dX12_weightOf_18 : decode cX12_weightOf 18 = .ok (.irem, 1) := by decide +kernel
theorem dX12_weightOf_19 : decode cX12_weightOf 19 = .ok (.goto 18, 3) := by decide +kernel
theorem dX12_weightOf_22 : decode cX12_weightOf 22 = .ok (.iload_n 1, 1) := by decide +kernel
theorem dX12_weightOf_23 : decode cX12_weightOf 23 = .ok (.iconst 1, 1) := by decide +kernel
theorem dX12_weightOf_24 : decode cX12_weightOf 24 = .ok (.if_icmp .ne 7, 3) := by decide +kernel
theorem dX12_weightOf_27 : decode cX12_weightOf 27 = .ok (.iload_n 2, 1) := by decide +kernel
theorem dX12_weightOf_28 : decode cX12_weightOf 28 = .ok (.goto 9, 3) := by decide +kernel
theorem dX12_weightOf_31 : decode cX12_weightOf 31 = .ok (.aload_n 0, 1) := by decide +kernel
theorem dX12_weightOf_32 : decode cX12_weightOf 32 = .ok (.getfield 7, 3) := by decide +kernel
theorem dX12_weightOf_35 : decode cX12_weightOf 35 = .ok (.iconst 3, 1) := by decide +kernel
theorem dX12_weightOf_36 : decode cX12_weightOf 36 = .ok (.iaload, 1) := by decide +kernel
theorem dX12_weightOf_37 : decode cX12_weightOf 37 = .ok (.istore_n 3, 1) := by decide +kernel
theorem dX12_weightOf_38 : decode cX12_weightOf 38 = .ok (.iconst 0, 1) := by decide +kernel
theorem dX12_weightOf_39 : decode cX12_weightOf 39 = .ok (.istore 4, 2) := by decide +kernel
theorem dX12_weightOf_41 : decode cX12_weightOf 41 = .ok (.aload_n 0, 1) := by decide +kernel
theorem dX12_weightOf_42 : decode cX12_weightOf 42 = .ok (.getfield 7, 3) := by decide +kernel
theorem dX12_weightOf_45 : decode cX12_weightOf 45 = .ok (.bipush 6, 2) := by decide +kernel
theorem dX12_weightOf_47 : decode cX12_weightOf 47 = .ok (.iaload, 1) := by decide +kernel
theorem dX12_weightOf_48 : decode cX12_weightOf 48 = .ok (.iconst (-1), 1) := by decide +kernel
theorem dX12_weightOf_49 : decode cX12_weightOf 49 = .ok (.if_icmp .eq 69, 3) := by decide +kernel
theorem dX12_weightOf_52 : decode cX12_weightOf 52 = .ok (.iload 4, 2) := by decide +kernel
theorem dX12_weightOf_54 : decode cX12_weightOf 54 = .ok (.aload_n 0, 1) := by decide +kernel
theorem dX12_weightOf_55 : decode cX12_weightOf 55 = .ok (.getfield 27, 3) := by decide +kernel
theorem dX12_weightOf_58 : decode cX12_weightOf 58 = .ok (.aload_n 0, 1) := by decide +kernel
theorem dX12_weightOf_59 : decode cX12_weightOf 59 = .ok (.getfield 7, 3) := by decide +kernel
theorem dX12_weightOf_62 : decode cX12_weightOf 62 = .ok (.bipush 6, 2) := by decide +kernel
theorem dX12_weightOf_64 : decode cX12_weightOf 64 = .ok (.iaload, 1) := by decide +kernel
theorem dX12_weightOf_65 : decode cX12_weightOf 65 = .ok (.iaload, 1) := by decide +kernel
theorem dX12_weightOf_66 : decode cX12_weightOf 66 = .ok (.if_icmp .ge 52, 3) := by decide +kernel
theorem dX12_weightOf_69 : decode cX12_weightOf 69 = .ok (.bipush 30, 2) := by decide +kernel
theorem dX12_weightOf_71 : decode cX12_weightOf 71 = .ok (.aload_n 0, 1) := by decide +kernel
theorem dX12_weightOf_72 : decode cX12_weightOf 72 = .ok (.getfield 7, 3) := by decide +kernel
theorem dX12_weightOf_75 : decode cX12_weightOf 75 = .ok (.bipush 6, 2) := by decide +kernel
theorem dX12_weightOf_77 : decode cX12_weightOf 77 = .ok (.iaload, 1) := by decide +kernel
theorem dX12_weightOf_78 : decode cX12_weightOf 78 = .ok (.imul, 1) := by decide +kernel
theorem dX12_weightOf_79 : decode cX12_weightOf 79 = .ok (.iload 4, 2) := by decide +kernel
theorem dX12_weightOf_81 : decode cX12_weightOf 81 = .ok (.iadd, 1) := by decide +kernel
theorem dX12_weightOf_82 : decode cX12_weightOf 82 = .ok (.istore 5, 2) := by decide +kernel
theorem dX12_weightOf_84 : decode cX12_weightOf 84 = .ok (.aload_n 0, 1) := by decide +kernel
theorem dX12_weightOf_85 : decode cX12_weightOf 85 = .ok (.getfield 30, 3) := by decide +kernel
theorem dX12_weightOf_88 : decode cX12_weightOf 88 = .ok (.iload 5, 2) := by decide +kernel
theorem dX12_weightOf_90 : decode cX12_weightOf 90 = .ok (.iaload, 1) := by decide +kernel
theorem dX12_weightOf_91 : decode cX12_weightOf 91 = .ok (.iload_n 1, 1) := by decide +kernel
theorem dX12_weightOf_92 : decode cX12_weightOf 92 = .ok (.if_icmp .ne 18, 3) := by decide +kernel
theorem dX12_weightOf_95 : decode cX12_weightOf 95 = .ok (.aload_n 0, 1) := by decide +kernel
theorem dX12_weightOf_96 : decode cX12_weightOf 96 = .ok (.aload_n 0, 1) := by decide +kernel
theorem dX12_weightOf_97 : decode cX12_weightOf 97 = .ok (.getfield 33, 3) := by decide +kernel
theorem dX12_weightOf_100 : decode cX12_weightOf 100 = .ok (.iload 5, 2) := by decide +kernel
theorem dX12_weightOf_102 : decode cX12_weightOf 102 = .ok (.iaload, 1) := by decide +kernel
theorem dX12_weightOf_103 : decode cX12_weightOf 103 = .ok (.iload_n 2, 1) := by decide +kernel
theorem dX12_weightOf_104 : decode cX12_weightOf 104 = .ok (.invokevirtual 278, 3) := by decide +kernel
theorem dX12_weightOf_107 : decode cX12_weightOf 107 = .ok (.goto 4, 3) := by decide +kernel
theorem dX12_weightOf_110 : decode cX12_weightOf 110 = .ok (.iload_n 3, 1) := by decide +kernel
theorem dX12_weightOf_111 : decode cX12_weightOf 111 = .ok (.istore_n 3, 1) := by decide +kernel
theorem dX12_weightOf_112 : decode cX12_weightOf 112 = .ok (.iinc 4 1, 3) := by decide +kernel
theorem dX12_weightOf_115 : decode cX12_weightOf 115 = .ok (.goto (-74), 3) := by decide +kernel
theorem dX12_weightOf_118 : decode cX12_weightOf 118 = .ok (.iload_n 3, 1) := by decide +kernel
theorem dX12_weightOf_119 : decode cX12_weightOf 119 = .ok (.ireturn, 1) := by decide +kernel
theorem dX12_weight_0 : decode cX12_weight 0 = .ok (.iload_n 1, 1) := by decide +kernel
theorem dX12_weight_1 : decode cX12_weight 1 = .ok (.iconst 0, 1) := by decide +kernel
theorem dX12_weight_2 : decode cX12_weight 2 = .ok (.iconst 2, 1) := by decide +kernel
theorem dX12_weight_3 : decode cX12_weight 3 = .ok (.invokestatic 124, 3) := by decide +kernel
theorem dX12_weight_6 : decode cX12_weight 6 = .ok (.ifCond .eq 20, 3) := by decide +kernel
theorem dX12_weight_9 : decode cX12_weight 9 = .ok (.aload_n 0, 1) := by decide +kernel
theorem dX12_weight_10 : decode cX12_weight 10 = .ok (.iload_n 2, 1) := by decide +kernel
theorem dX12_weight_11 : decode cX12_weight 11 = .ok (.invokevirtual 135, 3) := by decide +kernel
theorem dX12_weight_14 : decode cX12_weight 14 = .ok (.ifCond .eq 12, 3) := by decide +kernel
theorem dX12_weight_17 : decode cX12_weight 17 = .ok (.aload_n 0, 1) := by decide +kernel
theorem dX12_weight_18 : decode cX12_weight 18 = .ok (.iload_n 1, 1) := by decide +kernel
theorem dX12_weight_19 : decode cX12_weight 19 = .ok (.iload_n 2, 1) := by decide +kernel
theorem dX12_weight_20 : decode cX12_weight 20 = .ok (.invokevirtual 281, 3) := by decide +kernel
theorem dX12_weight_23 : decode cX12_weight 23 = .ok (.goto 4, 3) := by decide +kernel
theorem dX12_weight_26 : decode cX12_weight 26 = .ok (.iconst (-1), 1) := by decide +kernel
theorem dX12_weight_27 : decode cX12_weight 27 = .ok (.ireturn, 1) := by decide +kernel
theorem dX12_laysWeights_0 : decode cX12_laysWeights 0 = .ok (.aload_n 0, 1) := by decide +kernel
theorem dX12_laysWeights_1 : decode cX12_laysWeights 1 = .ok (.aload_n 0, 1) := by decide +kernel
theorem dX12_laysWeights_2 : decode cX12_laysWeights 2 = .ok (.iconst 0, 1) := by decide +kernel
theorem dX12_laysWeights_3 : decode cX12_laysWeights 3 = .ok (.iload_n 1, 1) := by decide +kernel
theorem dX12_laysWeights_4 : decode cX12_laysWeights 4 = .ok (.invokevirtual 281, 3) := by decide +kernel
theorem dX12_laysWeights_7 : decode cX12_laysWeights 7 = .ok (.putfield 284, 3) := by decide +kernel
theorem dX12_laysWeights_10 : decode cX12_laysWeights 10 = .ok (.aload_n 0, 1) := by decide +kernel
theorem dX12_laysWeights_11 : decode cX12_laysWeights 11 = .ok (.aload_n 0, 1) := by decide +kernel
theorem dX12_laysWeights_12 : decode cX12_laysWeights 12 = .ok (.iconst 1, 1) := by decide +kernel
theorem dX12_laysWeights_13 : decode cX12_laysWeights 13 = .ok (.iload_n 1, 1) := by decide +kernel
theorem dX12_laysWeights_14 : decode cX12_laysWeights 14 = .ok (.invokevirtual 281, 3) := by decide +kernel
theorem dX12_laysWeights_17 : decode cX12_laysWeights 17 = .ok (.putfield 287, 3) := by decide +kernel
theorem dX12_laysWeights_20 : decode cX12_laysWeights 20 = .ok (.aload_n 0, 1) := by decide +kernel
theorem dX12_laysWeights_21 : decode cX12_laysWeights 21 = .ok (.aload_n 0, 1) := by decide +kernel
theorem dX12_laysWeights_22 : decode cX12_laysWeights 22 = .ok (.iconst 2, 1) := by decide +kernel
theorem dX12_laysWeights_23 : decode cX12_laysWeights 23 = .ok (.iload_n 1, 1) := by decide +kernel
theorem dX12_laysWeights_24 : decode cX12_laysWeights 24 = .ok (.invokevirtual 281, 3) := by decide +kernel
theorem dX12_laysWeights_27 : decode cX12_laysWeights 27 = .ok (.putfield 290, 3) := by decide +kernel
theorem dX12_laysWeights_30 : decode cX12_laysWeights 30 = .ok (.return_, 1) := by decide +kernel
theorem dX12_exchanges_0 : decode cX12_exchanges 0 = .ok (.iconst 0, 1) := by decide +kernel
theorem dX12_exchanges_1 : decode cX12_exchanges 1 = .ok (.istore 4, 2) := by decide +kernel
theorem dX12_exchanges_3 : decode cX12_exchanges 3 = .ok (.iload 4, 2) := by decide +kernel
theorem dX12_exchanges_5 : decode cX12_exchanges 5 = .ok (.iload_n 3, 1) := by decide +kernel
theorem dX12_exchanges_6 : decode cX12_exchanges 6 = .ok (.if_icmp .ge 17, 3) := by decide +kernel
theorem dX12_exchanges_9 : decode cX12_exchanges 9 = .ok (.aload_n 0, 1) := by decide +kernel
theorem dX12_exchanges_10 : decode cX12_exchanges 10 = .ok (.getfield 75, 3) := by decide +kernel
theorem dX12_exchanges_13 : decode cX12_exchanges 13 = .ok (.iload 4, 2) := by decide +kernel
theorem dX12_exchanges_15 : decode cX12_exchanges 15 = .ok (.iconst 0, 1) := by decide +kernel
theorem dX12_exchanges_16 : decode cX12_exchanges 16 = .ok (.iastore, 1) := by decide +kernel
theorem dX12_exchanges_17 : decode cX12_exchanges 17 = .ok (.iinc 4 1, 3) := by decide +kernel
theorem dX12_exchanges_20 : decode cX12_exchanges 20 = .ok (.goto (-17), 3) := by decide +kernel
theorem dX12_exchanges_23 : decode cX12_exchanges 23 = .ok (.iconst 0, 1) := by decide +kernel
theorem dX12_exchanges_24 : decode cX12_exchanges 24 = .ok (.istore 4, 2) := by decide +kernel
theorem dX12_exchanges_26 : decode cX12_exchanges 26 = .ok (.iload 4, 2) := by decide +kernel
theorem dX12_exchanges_28 : decode cX12_exchanges 28 = .ok (.iload_n 3, 1) := by decide +kernel
theorem dX12_exchanges_29 : decode cX12_exchanges 29 = .ok (.if_icmp .ge 151, 3) := by decide +kernel
theorem dX12_exchanges_32 : decode cX12_exchanges 32 = .ok (.aload_n 0, 1) := by decide +kernel
theorem dX12_exchanges_33 : decode cX12_exchanges 33 = .ok (.getfield 72, 3) := by decide +kernel
theorem dX12_exchanges_36 : decode cX12_exchanges 36 = .ok (.iload 4, 2) := by decide +kernel
theorem dX12_exchanges_38 : decode cX12_exchanges 38 = .ok (.iaload, 1) := by decide +kernel
theorem dX12_exchanges_39 : decode cX12_exchanges 39 = .ok (.ifCond .eq 135, 3) := by decide +kernel
theorem dX12_exchanges_42 : decode cX12_exchanges 42 = .ok (.iload 4, 2) := by decide +kernel
theorem dX12_exchanges_44 : decode cX12_exchanges 44 = .ok (.iload_n 1, 1) := by decide +kernel
theorem dX12_exchanges_45 : decode cX12_exchanges 45 = .ok (.ishr, 1) := by decide +kernel
theorem dX12_exchanges_46 : decode cX12_exchanges 46 = .ok (.iconst 1, 1) := by decide +kernel
theorem dX12_exchanges_47 : decode cX12_exchanges 47 = .ok (.iand, 1) := by decide +kernel
theorem dX12_exchanges_48 : decode cX12_exchanges 48 = .ok (.iload 4, 2) := by decide +kernel
theorem dX12_exchanges_50 : decode cX12_exchanges 50 = .ok (.iload_n 2, 1) := by decide +kernel
theorem dX12_exchanges_51 : decode cX12_exchanges 51 = .ok (.ishr, 1) := by decide +kernel
theorem dX12_exchanges_52 : decode cX12_exchanges 52 = .ok (.iconst 1, 1) := by decide +kernel
theorem dX12_exchanges_53 : decode cX12_exchanges 53 = .ok (.iand, 1) := by decide +kernel
theorem dX12_exchanges_54 : decode cX12_exchanges 54 = .ok (.if_icmp .ne 40, 3) := by decide +kernel
theorem dX12_exchanges_57 : decode cX12_exchanges 57 = .ok (.aload_n 0, 1) := by decide +kernel
theorem dX12_exchanges_58 : decode cX12_exchanges 58 = .ok (.getfield 75, 3) := by decide +kernel
theorem dX12_exchanges_61 : decode cX12_exchanges 61 = .ok (.iload 4, 2) := by decide +kernel
theorem dX12_exchanges_63 : decode cX12_exchanges 63 = .ok (.aload_n 0, 1) := by decide +kernel
theorem dX12_exchanges_64 : decode cX12_exchanges 64 = .ok (.getfield 75, 3) := by decide +kernel
theorem dX12_exchanges_67 : decode cX12_exchanges 67 = .ok (.iload 4, 2) := by decide +kernel
theorem dX12_exchanges_69 : decode cX12_exchanges 69 = .ok (.iaload, 1) := by decide +kernel
theorem dX12_exchanges_70 : decode cX12_exchanges 70 = .ok (.aload_n 0, 1) := by decide +kernel
theorem dX12_exchanges_71 : decode cX12_exchanges 71 = .ok (.getfield 284, 3) := by decide +kernel
theorem dX12_exchanges_74 : decode cX12_exchanges 74 = .ok (.aload_n 0, 1) := by decide +kernel
theorem dX12_exchanges_75 : decode cX12_exchanges 75 = .ok (.getfield 72, 3) := by decide +kernel
theorem dX12_exchanges_78 : decode cX12_exchanges 78 = .ok (.iload 4, 2) := by decide +kernel
theorem dX12_exchanges_80 : decode cX12_exchanges 80 = .ok (.iaload, 1) := by decide +kernel
theorem dX12_exchanges_81 : decode cX12_exchanges 81 = .ok (.imul, 1) := by decide +kernel
theorem dX12_exchanges_82 : decode cX12_exchanges 82 = .ok (.iadd, 1) := by decide +kernel
theorem dX12_exchanges_83 : decode cX12_exchanges 83 = .ok (.aload_n 0, 1) := by decide +kernel
theorem dX12_exchanges_84 : decode cX12_exchanges 84 = .ok (.getfield 7, 3) := by decide +kernel
theorem dX12_exchanges_87 : decode cX12_exchanges 87 = .ok (.iconst 2, 1) := by decide +kernel
theorem dX12_exchanges_88 : decode cX12_exchanges 88 = .ok (.iaload, 1) := by decide +kernel
theorem dX12_exchanges_89 : decode cX12_exchanges 89 = .ok (.irem, 1) := by decide +kernel
theorem dX12_exchanges_90 : decode cX12_exchanges 90 = .ok (.iastore, 1) := by decide +kernel
theorem dX12_exchanges_91 : decode cX12_exchanges 91 = .ok (.goto 83, 3) := by decide +kernel
theorem dX12_exchanges_94 : decode cX12_exchanges 94 = .ok (.iload 4, 2) := by decide +kernel
theorem dX12_exchanges_96 : decode cX12_exchanges 96 = .ok (.iconst 1, 1) := by decide +kernel
theorem dX12_exchanges_97 : decode cX12_exchanges 97 = .ok (.iload_n 1, 1) := by decide +kernel
theorem dX12_exchanges_98 : decode cX12_exchanges 98 = .ok (.ishl, 1) := by decide +kernel
theorem dX12_exchanges_99 : decode cX12_exchanges 99 = .ok (.ixor, 1) := by decide +kernel
theorem dX12_exchanges_100 : decode cX12_exchanges 100 = .ok (.iconst 1, 1) := by decide +kernel
theorem dX12_exchanges_101 : decode cX12_exchanges 101 = .ok (.iload_n 2, 1) := by decide +kernel
theorem dX12_exchanges_102 : decode cX12_exchanges 102 = .ok (.ishl, 1) := by decide +kernel
theorem dX12_exchanges_103 : decode cX12_exchanges 103 = .ok (.ixor, 1) := by decide +kernel
theorem dX12_exchanges_104 : decode cX12_exchanges 104 = .ok (.istore 5, 2) := by decide +kernel
theorem dX12_exchanges_106 : decode cX12_exchanges 106 = .ok (.aload_n 0, 1) := by decide +kernel
theorem dX12_exchanges_107 : decode cX12_exchanges 107 = .ok (.getfield 75, 3) := by decide +kernel
theorem dX12_exchanges_110 : decode cX12_exchanges 110 = .ok (.iload 4, 2) := by decide +kernel
theorem dX12_exchanges_112 : decode cX12_exchanges 112 = .ok (.aload_n 0, 1) := by decide +kernel
theorem dX12_exchanges_113 : decode cX12_exchanges 113 = .ok (.getfield 75, 3) := by decide +kernel
theorem dX12_exchanges_116 : decode cX12_exchanges 116 = .ok (.iload 4, 2) := by decide +kernel
theorem dX12_exchanges_118 : decode cX12_exchanges 118 = .ok (.iaload, 1) := by decide +kernel
theorem dX12_exchanges_119 : decode cX12_exchanges 119 = .ok (.aload_n 0, 1) := by decide +kernel
theorem dX12_exchanges_120 : decode cX12_exchanges 120 = .ok (.getfield 287, 3) := by decide +kernel
theorem dX12_exchanges_123 : decode cX12_exchanges 123 = .ok (.aload_n 0, 1) := by decide +kernel
theorem dX12_exchanges_124 : decode cX12_exchanges 124 = .ok (.getfield 72, 3) := by decide +kernel
theorem dX12_exchanges_127 : decode cX12_exchanges 127 = .ok (.iload 4, 2) := by decide +kernel
theorem dX12_exchanges_129 : decode cX12_exchanges 129 = .ok (.iaload, 1) := by decide +kernel
theorem dX12_exchanges_130 : decode cX12_exchanges 130 = .ok (.imul, 1) := by decide +kernel
theorem dX12_exchanges_131 : decode cX12_exchanges 131 = .ok (.iadd, 1) := by decide +kernel
theorem dX12_exchanges_132 : decode cX12_exchanges 132 = .ok (.aload_n 0, 1) := by decide +kernel
theorem dX12_exchanges_133 : decode cX12_exchanges 133 = .ok (.getfield 7, 3) := by decide +kernel
theorem dX12_exchanges_136 : decode cX12_exchanges 136 = .ok (.iconst 2, 1) := by decide +kernel
theorem dX12_exchanges_137 : decode cX12_exchanges 137 = .ok (.iaload, 1) := by decide +kernel
theorem dX12_exchanges_138 : decode cX12_exchanges 138 = .ok (.irem, 1) := by decide +kernel
theorem dX12_exchanges_139 : decode cX12_exchanges 139 = .ok (.iastore, 1) := by decide +kernel
theorem dX12_exchanges_140 : decode cX12_exchanges 140 = .ok (.aload_n 0, 1) := by decide +kernel
theorem dX12_exchanges_141 : decode cX12_exchanges 141 = .ok (.getfield 75, 3) := by decide +kernel
theorem dX12_exchanges_144 : decode cX12_exchanges 144 = .ok (.iload 5, 2) := by decide +kernel
theorem dX12_exchanges_146 : decode cX12_exchanges 146 = .ok (.aload_n 0, 1) := by decide +kernel
theorem dX12_exchanges_147 : decode cX12_exchanges 147 = .ok (.getfield 75, 3) := by decide +kernel
theorem dX12_exchanges_150 : decode cX12_exchanges 150 = .ok (.iload 5, 2) := by decide +kernel
theorem dX12_exchanges_152 : decode cX12_exchanges 152 = .ok (.iaload, 1) := by decide +kernel
theorem dX12_exchanges_153 : decode cX12_exchanges 153 = .ok (.aload_n 0, 1) := by decide +kernel
theorem dX12_exchanges_154 : decode cX12_exchanges 154 = .ok (.getfield 290, 3) := by decide +kernel
theorem dX12_exchanges_157 : decode cX12_exchanges 157 = .ok (.aload_n 0, 1) := by decide +kernel
theorem dX12_exchanges_158 : decode cX12_exchanges 158 = .ok (.getfield 72, 3) := by decide +kernel
theorem dX12_exchanges_161 : decode cX12_exchanges 161 = .ok (.iload 4, 2) := by decide +kernel
theorem dX12_exchanges_163 : decode cX12_exchanges 163 = .ok (.iaload, 1) := by decide +kernel
theorem dX12_exchanges_164 : decode cX12_exchanges 164 = .ok (.imul, 1) := by decide +kernel
theorem dX12_exchanges_165 : decode cX12_exchanges 165 = .ok (.iadd, 1) := by decide +kernel
theorem dX12_exchanges_166 : decode cX12_exchanges 166 = .ok (.aload_n 0, 1) := by decide +kernel
theorem dX12_exchanges_167 : decode cX12_exchanges 167 = .ok (.getfield 7, 3) := by decide +kernel
theorem dX12_exchanges_170 : decode cX12_exchanges 170 = .ok (.iconst 2, 1) := by decide +kernel
theorem dX12_exchanges_171 : decode cX12_exchanges 171 = .ok (.iaload, 1) := by decide +kernel
theorem dX12_exchanges_172 : decode cX12_exchanges 172 = .ok (.irem, 1) := by decide +kernel
theorem dX12_exchanges_173 : decode cX12_exchanges 173 = .ok (.iastore, 1) := by decide +kernel
theorem dX12_exchanges_174 : decode cX12_exchanges 174 = .ok (.iinc 4 1, 3) := by decide +kernel
theorem dX12_exchanges_177 : decode cX12_exchanges 177 = .ok (.goto (-151), 3) := by decide +kernel
theorem dX12_exchanges_180 : decode cX12_exchanges 180 = .ok (.iconst 0, 1) := by decide +kernel
theorem dX12_exchanges_181 : decode cX12_exchanges 181 = .ok (.istore 4, 2) := by decide +kernel
theorem dX12_exchanges_183 : decode cX12_exchanges 183 = .ok (.iload 4, 2) := by decide +kernel
theorem dX12_exchanges_185 : decode cX12_exchanges 185 = .ok (.iload_n 3, 1) := by decide +kernel
theorem dX12_exchanges_186 : decode cX12_exchanges 186 = .ok (.if_icmp .ge 23, 3) := by decide +kernel
theorem dX12_exchanges_189 : decode cX12_exchanges 189 = .ok (.aload_n 0, 1) := by decide +kernel
theorem dX12_exchanges_190 : decode cX12_exchanges 190 = .ok (.getfield 72, 3) := by decide +kernel
theorem dX12_exchanges_193 : decode cX12_exchanges 193 = .ok (.iload 4, 2) := by decide +kernel
theorem dX12_exchanges_195 : decode cX12_exchanges 195 = .ok (.aload_n 0, 1) := by decide +kernel
theorem dX12_exchanges_196 : decode cX12_exchanges 196 = .ok (.getfield 75, 3) := by decide +kernel
theorem dX12_exchanges_199 : decode cX12_exchanges 199 = .ok (.iload 4, 2) := by decide +kernel
theorem dX12_exchanges_201 : decode cX12_exchanges 201 = .ok (.iaload, 1) := by decide +kernel
theorem dX12_exchanges_202 : decode cX12_exchanges 202 = .ok (.iastore, 1) := by decide +kernel
theorem dX12_exchanges_203 : decode cX12_exchanges 203 = .ok (.iinc 4 1, 3) := by decide +kernel
theorem dX12_exchanges_206 : decode cX12_exchanges 206 = .ok (.goto (-23), 3) := by decide +kernel
theorem dX12_exchanges_209 : decode cX12_exchanges 209 = .ok (.return_, 1) := by decide +kernel
theorem dX12_rowIs_0 : decode cX12_rowIs 0 = .ok (.iconst 0, 1) := by decide +kernel
theorem dX12_rowIs_1 : decode cX12_rowIs 1 = .ok (.istore_n 3, 1) := by decide +kernel
theorem dX12_rowIs_2 : decode cX12_rowIs 2 = .ok (.iload_n 3, 1) := by decide +kernel
theorem dX12_rowIs_3 : decode cX12_rowIs 3 = .ok (.iload_n 2, 1) := by decide +kernel
theorem dX12_rowIs_4 : decode cX12_rowIs 4 = .ok (.if_icmp .ge 25, 3) := by decide +kernel
theorem dX12_rowIs_7 : decode cX12_rowIs 7 = .ok (.aload_n 0, 1) := by decide +kernel
theorem dX12_rowIs_8 : decode cX12_rowIs 8 = .ok (.getfield 72, 3) := by decide +kernel
theorem dX12_rowIs_11 : decode cX12_rowIs 11 = .ok (.iload_n 3, 1) := by decide +kernel
theorem dX12_rowIs_12 : decode cX12_rowIs 12 = .ok (.iload_n 3, 1) := by decide +kernel
theorem dX12_rowIs_13 : decode cX12_rowIs 13 = .ok (.iload_n 1, 1) := by decide +kernel
theorem dX12_rowIs_14 : decode cX12_rowIs 14 = .ok (.if_icmp .ne 7, 3) := by decide +kernel
theorem dX12_rowIs_17 : decode cX12_rowIs 17 = .ok (.iconst 1, 1) := by decide +kernel
theorem dX12_rowIs_18 : decode cX12_rowIs 18 = .ok (.goto 4, 3) := by decide +kernel
theorem dX12_rowIs_21 : decode cX12_rowIs 21 = .ok (.iconst 0, 1) := by decide +kernel
theorem dX12_rowIs_22 : decode cX12_rowIs 22 = .ok (.iastore, 1) := by decide +kernel
theorem dX12_rowIs_23 : decode cX12_rowIs 23 = .ok (.iinc 3 1, 3) := by decide +kernel
theorem dX12_rowIs_26 : decode cX12_rowIs 26 = .ok (.goto (-24), 3) := by decide +kernel
theorem dX12_rowIs_29 : decode cX12_rowIs 29 = .ok (.return_, 1) := by decide +kernel
theorem dX12_holds_0 : decode cX12_holds 0 = .ok (.iload_n 1, 1) := by decide +kernel
theorem dX12_holds_1 : decode cX12_holds 1 = .ok (.iload_n 2, 1) := by decide +kernel
theorem dX12_holds_2 : decode cX12_holds 2 = .ok (.isub, 1) := by decide +kernel
theorem dX12_holds_3 : decode cX12_holds 3 = .ok (.aload_n 0, 1) := by decide +kernel
theorem dX12_holds_4 : decode cX12_holds 4 = .ok (.getfield 7, 3) := by decide +kernel
theorem dX12_holds_7 : decode cX12_holds 7 = .ok (.iconst 2, 1) := by decide +kernel
theorem dX12_holds_8 : decode cX12_holds 8 = .ok (.iaload, 1) := by decide +kernel
theorem dX12_holds_9 : decode cX12_holds 9 = .ok (.iadd, 1) := by decide +kernel
theorem dX12_holds_10 : decode cX12_holds 10 = .ok (.aload_n 0, 1) := by decide +kernel
theorem dX12_holds_11 : decode cX12_holds 11 = .ok (.getfield 7, 3) := by decide +kernel
theorem dX12_holds_14 : decode cX12_holds 14 = .ok (.iconst 2, 1) := by decide +kernel
theorem dX12_holds_15 : decode cX12_holds 15 = .ok (.iaload, 1) := by decide +kernel
theorem dX12_holds_16 : decode cX12_holds 16 = .ok (.irem, 1) := by decide +kernel
theorem dX12_holds_17 : decode cX12_holds 17 = .ok (.istore_n 3, 1) := by decide +kernel
theorem dX12_holds_18 : decode cX12_holds 18 = .ok (.iconst 1, 1) := by decide +kernel
theorem dX12_holds_19 : decode cX12_holds 19 = .ok (.istore 4, 2) := by decide +kernel
theorem dX12_holds_21 : decode cX12_holds 21 = .ok (.iconst 0, 1) := by decide +kernel
theorem dX12_holds_22 : decode cX12_holds 22 = .ok (.istore 5, 2) := by decide +kernel
theorem dX12_holds_24 : decode cX12_holds 24 = .ok (.iload 5, 2) := by decide +kernel
theorem dX12_holds_26 : decode cX12_holds 26 = .ok (.bipush 8, 2) := by decide +kernel
theorem dX12_holds_28 : decode cX12_holds 28 = .ok (.if_icmp .ge 178, 3) := by decide +kernel
theorem dX12_holds_31 : decode cX12_holds 31 = .ok (.iload 4, 2) := by decide +kernel
theorem dX12_holds_33 : decode cX12_holds 33 = .ok (.ifCond .eq 173, 3) := by decide +kernel
theorem dX12_holds_36 : decode cX12_holds 36 = .ok (.aload_n 0, 1) := by decide +kernel
theorem dX12_holds_37 : decode cX12_holds 37 = .ok (.iload 5, 2) := by decide +kernel
theorem dX12_holds_39 : decode cX12_holds 39 = .ok (.bipush 8, 2) := by decide +kernel
theorem dX12_holds_41 : decode cX12_holds 41 = .ok (.invokevirtual 293, 3) := by decide +kernel
theorem dX12_holds_44 : decode cX12_holds 44 = .ok (.aload_n 0, 1) := by decide +kernel
theorem dX12_holds_45 : decode cX12_holds 45 = .ok (.iload_n 3, 1) := by decide +kernel
theorem dX12_holds_46 : decode cX12_holds 46 = .ok (.invokevirtual 296, 3) := by decide +kernel
theorem dX12_holds_49 : decode cX12_holds 49 = .ok (.aload_n 0, 1) := by decide +kernel
theorem dX12_holds_50 : decode cX12_holds 50 = .ok (.iconst 0, 1) := by decide +kernel
theorem dX12_holds_51 : decode cX12_holds 51 = .ok (.iconst 1, 1) := by decide +kernel
theorem dX12_holds_52 : decode cX12_holds 52 = .ok (.bipush 8, 2) := by decide +kernel
theorem dX12_holds_54 : decode cX12_holds 54 = .ok (.invokevirtual 299, 3) := by decide +kernel
theorem dX12_holds_57 : decode cX12_holds 57 = .ok (.aload_n 0, 1) := by decide +kernel
theorem dX12_holds_58 : decode cX12_holds 58 = .ok (.iload_n 1, 1) := by decide +kernel
theorem dX12_holds_59 : decode cX12_holds 59 = .ok (.invokevirtual 296, 3) := by decide +kernel
theorem dX12_holds_62 : decode cX12_holds 62 = .ok (.aload_n 0, 1) := by decide +kernel
theorem dX12_holds_63 : decode cX12_holds 63 = .ok (.iconst 0, 1) := by decide +kernel
theorem dX12_holds_64 : decode cX12_holds 64 = .ok (.iconst 2, 1) := by decide +kernel
theorem dX12_holds_65 : decode cX12_holds 65 = .ok (.bipush 8, 2) := by decide +kernel
theorem dX12_holds_67 : decode cX12_holds 67 = .ok (.invokevirtual 299, 3) := by decide +kernel
theorem dX12_holds_70 : decode cX12_holds 70 = .ok (.aload_n 0, 1) := by decide +kernel
theorem dX12_holds_71 : decode cX12_holds 71 = .ok (.iload_n 2, 1) := by decide +kernel
theorem dX12_holds_72 : decode cX12_holds 72 = .ok (.invokevirtual 296, 3) := by decide +kernel
theorem dX12_holds_75 : decode cX12_holds 75 = .ok (.aload_n 0, 1) := by decide +kernel
theorem dX12_holds_76 : decode cX12_holds 76 = .ok (.iconst 1, 1) := by decide +kernel
theorem dX12_holds_77 : decode cX12_holds 77 = .ok (.iconst 2, 1) := by decide +kernel
theorem dX12_holds_78 : decode cX12_holds 78 = .ok (.bipush 8, 2) := by decide +kernel
theorem dX12_holds_80 : decode cX12_holds 80 = .ok (.invokevirtual 299, 3) := by decide +kernel
theorem dX12_holds_83 : decode cX12_holds 83 = .ok (.iconst 0, 1) := by decide +kernel
theorem dX12_holds_84 : decode cX12_holds 84 = .ok (.istore 6, 2) := by decide +kernel
theorem dX12_holds_86 : decode cX12_holds 86 = .ok (.iload 6, 2) := by decide +kernel
theorem dX12_holds_88 : decode cX12_holds 88 = .ok (.bipush 8, 2) := by decide +kernel
theorem dX12_holds_90 : decode cX12_holds 90 = .ok (.if_icmp .ge 23, 3) := by decide +kernel
theorem dX12_holds_93 : decode cX12_holds 93 = .ok (.aload_n 0, 1) := by decide +kernel
theorem dX12_holds_94 : decode cX12_holds 94 = .ok (.getfield 78, 3) := by decide +kernel
theorem dX12_holds_97 : decode cX12_holds 97 = .ok (.iload 6, 2) := by decide +kernel
theorem dX12_holds_99 : decode cX12_holds 99 = .ok (.aload_n 0, 1) := by decide +kernel
theorem dX12_holds_100 : decode cX12_holds 100 = .ok (.getfield 72, 3) := by decide +kernel
theorem dX12_holds_103 : decode cX12_holds 103 = .ok (.iload 6, 2) := by decide +kernel
theorem dX12_holds_105 : decode cX12_holds 105 = .ok (.iaload, 1) := by decide +kernel
theorem dX12_holds_106 : decode cX12_holds 106 = .ok (.iastore, 1) := by decide +kernel
theorem dX12_holds_107 : decode cX12_holds 107 = .ok (.iinc 6 1, 3) := by decide +kernel
theorem dX12_holds_110 : decode cX12_holds 110 = .ok (.goto (-24), 3) := by decide +kernel
theorem dX12_holds_113 : decode cX12_holds 113 = .ok (.aload_n 0, 1) := by decide +kernel
theorem dX12_holds_114 : decode cX12_holds 114 = .ok (.iload 5, 2) := by decide +kernel
theorem dX12_holds_116 : decode cX12_holds 116 = .ok (.bipush 8, 2) := by decide +kernel
theorem dX12_holds_118 : decode cX12_holds 118 = .ok (.invokevirtual 293, 3) := by decide +kernel
theorem dX12_holds_121 : decode cX12_holds 121 = .ok (.aload_n 0, 1) := by decide +kernel
theorem dX12_holds_122 : decode cX12_holds 122 = .ok (.iconst 1, 1) := by decide +kernel
theorem dX12_holds_123 : decode cX12_holds 123 = .ok (.iconst 2, 1) := by decide +kernel
theorem dX12_holds_124 : decode cX12_holds 124 = .ok (.bipush 8, 2) := by decide +kernel
theorem dX12_holds_126 : decode cX12_holds 126 = .ok (.invokevirtual 299, 3) := by decide +kernel
theorem dX12_holds_129 : decode cX12_holds 129 = .ok (.aload_n 0, 1) := by decide +kernel
theorem dX12_holds_130 : decode cX12_holds 130 = .ok (.iload_n 1, 1) := by decide +kernel
theorem dX12_holds_131 : decode cX12_holds 131 = .ok (.invokevirtual 296, 3) := by decide +kernel
theorem dX12_holds_134 : decode cX12_holds 134 = .ok (.aload_n 0, 1) := by decide +kernel
theorem dX12_holds_135 : decode cX12_holds 135 = .ok (.iconst 0, 1) := by decide +kernel
theorem dX12_holds_136 : decode cX12_holds 136 = .ok (.iconst 2, 1) := by decide +kernel
theorem dX12_holds_137 : decode cX12_holds 137 = .ok (.bipush 8, 2) := by decide +kernel
theorem dX12_holds_139 : decode cX12_holds 139 = .ok (.invokevirtual 299, 3) := by decide +kernel
theorem dX12_holds_142 : decode cX12_holds 142 = .ok (.aload_n 0, 1) := by decide +kernel
theorem dX12_holds_143 : decode cX12_holds 143 = .ok (.iload_n 3, 1) := by decide +kernel
theorem dX12_holds_144 : decode cX12_holds 144 = .ok (.invokevirtual 296, 3) := by decide +kernel
theorem dX12_holds_147 : decode cX12_holds 147 = .ok (.aload_n 0, 1) := by decide +kernel
theorem dX12_holds_148 : decode cX12_holds 148 = .ok (.iconst 0, 1) := by decide +kernel
theorem dX12_holds_149 : decode cX12_holds 149 = .ok (.iconst 1, 1) := by decide +kernel
theorem dX12_holds_150 : decode cX12_holds 150 = .ok (.bipush 8, 2) := by decide +kernel
theorem dX12_holds_152 : decode cX12_holds 152 = .ok (.invokevirtual 299, 3) := by decide +kernel
theorem dX12_holds_155 : decode cX12_holds 155 = .ok (.iconst 0, 1) := by decide +kernel
theorem dX12_holds_156 : decode cX12_holds 156 = .ok (.istore 6, 2) := by decide +kernel
theorem dX12_holds_158 : decode cX12_holds 158 = .ok (.iload 6, 2) := by decide +kernel
theorem dX12_holds_160 : decode cX12_holds 160 = .ok (.bipush 8, 2) := by decide +kernel
theorem dX12_holds_162 : decode cX12_holds 162 = .ok (.if_icmp .ge 38, 3) := by decide +kernel
theorem dX12_holds_165 : decode cX12_holds 165 = .ok (.iload 4, 2) := by decide +kernel
theorem dX12_holds_167 : decode cX12_holds 167 = .ok (.ifCond .eq 24, 3) := by decide +kernel
theorem dX12_holds_170 : decode cX12_holds 170 = .ok (.aload_n 0, 1) := by decide +kernel
theorem dX12_holds_171 : decode cX12_holds 171 = .ok (.getfield 72, 3) := by decide +kernel
theorem dX12_holds_174 : decode cX12_holds 174 = .ok (.iload 6, 2) := by decide +kernel
theorem dX12_holds_176 : decode cX12_holds 176 = .ok (.iaload, 1) := by decide +kernel
theorem dX12_holds_177 : decode cX12_holds 177 = .ok (.aload_n 0, 1) := by decide +kernel
theorem dX12_holds_178 : decode cX12_holds 178 = .ok (.getfield 78, 3) := by decide +kernel
theorem dX12_holds_181 : decode cX12_holds 181 = .ok (.iload 6, 2) := by decide +kernel
theorem dX12_holds_183 : decode cX12_holds 183 = .ok (.iaload, 1) := by decide +kernel
theorem dX12_holds_184 : decode cX12_holds 184 = .ok (.if_icmp .ne 7, 3) := by decide +kernel
theorem dX12_holds_187 : decode cX12_holds 187 = .ok (.iconst 1, 1) := by decide +kernel
theorem dX12_holds_188 : decode cX12_holds 188 = .ok (.goto 4, 3) := by decide +kernel
theorem dX12_holds_191 : decode cX12_holds 191 = .ok (.iconst 0, 1) := by decide +kernel
theorem dX12_holds_192 : decode cX12_holds 192 = .ok (.istore 4, 2) := by decide +kernel
theorem dX12_holds_194 : decode cX12_holds 194 = .ok (.iinc 6 1, 3) := by decide +kernel
theorem dX12_holds_197 : decode cX12_holds 197 = .ok (.goto (-39), 3) := by decide +kernel
theorem dX12_holds_200 : decode cX12_holds 200 = .ok (.iinc 5 1, 3) := by decide +kernel
theorem dX12_holds_203 : decode cX12_holds 203 = .ok (.goto (-179), 3) := by decide +kernel
theorem dX12_holds_206 : decode cX12_holds 206 = .ok (.iload 4, 2) := by decide +kernel
theorem dX12_holds_208 : decode cX12_holds 208 = .ok (.ireturn, 1) := by decide +kernel
theorem dX12_equation_0 : decode cX12_equation 0 = .ok (.iload_n 1, 1) := by decide +kernel
theorem dX12_equation_1 : decode cX12_equation 1 = .ok (.iconst 0, 1) := by decide +kernel
theorem dX12_equation_2 : decode cX12_equation 2 = .ok (.iconst 2, 1) := by decide +kernel
theorem dX12_equation_3 : decode cX12_equation 3 = .ok (.invokestatic 124, 3) := by decide +kernel
theorem dX12_equation_6 : decode cX12_equation 6 = .ok (.ifCond .ne 5, 3) := by decide +kernel
theorem dX12_equation_9 : decode cX12_equation 9 = .ok (.iconst (-1), 1) := by decide +kernel
theorem dX12_equation_10 : decode cX12_equation 10 = .ok (.ireturn, 1) := by decide +kernel
theorem dX12_equation_11 : decode cX12_equation 11 = .ok (.iconst 0, 1) := by decide +kernel
theorem dX12_equation_12 : decode cX12_equation 12 = .ok (.istore_n 2, 1) := by decide +kernel
theorem dX12_equation_13 : decode cX12_equation 13 = .ok (.iconst (-1), 1) := by decide +kernel
theorem dX12_equation_14 : decode cX12_equation 14 = .ok (.istore_n 3, 1) := by decide +kernel
theorem dX12_equation_15 : decode cX12_equation 15 = .ok (.iconst 0, 1) := by decide +kernel
theorem dX12_equation_16 : decode cX12_equation 16 = .ok (.istore 4, 2) := by decide +kernel
theorem dX12_equation_18 : decode cX12_equation 18 = .ok (.iload 4, 2) := by decide +kernel
theorem dX12_equation_20 : decode cX12_equation 20 = .ok (.aload_n 0, 1) := by decide +kernel
theorem dX12_equation_21 : decode cX12_equation 21 = .ok (.getfield 7, 3) := by decide +kernel
theorem dX12_equation_24 : decode cX12_equation 24 = .ok (.iconst 2, 1) := by decide +kernel
theorem dX12_equation_25 : decode cX12_equation 25 = .ok (.iaload, 1) := by decide +kernel
theorem dX12_equation_26 : decode cX12_equation 26 = .ok (.if_icmp .ge 75, 3) := by decide +kernel
theorem dX12_equation_29 : decode cX12_equation 29 = .ok (.iconst 0, 1) := by decide +kernel
theorem dX12_equation_30 : decode cX12_equation 30 = .ok (.istore 5, 2) := by decide +kernel
theorem dX12_equation_32 : decode cX12_equation 32 = .ok (.iload 5, 2) := by decide +kernel
theorem dX12_equation_34 : decode cX12_equation 34 = .ok (.aload_n 0, 1) := by decide +kernel
theorem dX12_equation_35 : decode cX12_equation 35 = .ok (.getfield 7, 3) := by decide +kernel
theorem dX12_equation_38 : decode cX12_equation 38 = .ok (.iconst 2, 1) := by decide +kernel
theorem dX12_equation_39 : decode cX12_equation 39 = .ok (.iaload, 1) := by decide +kernel
theorem dX12_equation_40 : decode cX12_equation 40 = .ok (.if_icmp .ge 55, 3) := by decide +kernel
theorem dX12_equation_43 : decode cX12_equation 43 = .ok (.aload_n 0, 1) := by decide +kernel
theorem dX12_equation_44 : decode cX12_equation 44 = .ok (.iload 4, 2) := by decide +kernel
theorem dX12_equation_46 : decode cX12_equation 46 = .ok (.iload 5, 2) := by decide +kernel
theorem dX12_equation_48 : decode cX12_equation 48 = .ok (.invokevirtual 303, 3) := by decide +kernel
theorem dX12_equation_51 : decode cX12_equation 51 = .ok (.istore 6, 2) := by decide +kernel
theorem dX12_equation_53 : decode cX12_equation 53 = .ok (.iload_n 2, 1) := by decide +kernel
theorem dX12_equation_54 : decode cX12_equation 54 = .ok (.iload 6, 2) := by decide +kernel
theorem dX12_equation_56 : decode cX12_equation 56 = .ok (.ifCond .eq 7, 3) := by decide +kernel
theorem dX12_equation_59 : decode cX12_equation 59 = .ok (.iconst 1, 1) := by decide +kernel
theorem dX12_equation_60 : decode cX12_equation 60 = .ok (.goto 4, 3) := by decide +kernel
theorem dX12_equation_63 : decode cX12_equation 63 = .ok (.iconst 0, 1) := by decide +kernel
theorem dX12_equation_64 : decode cX12_equation 64 = .ok (.iadd, 1) := by decide +kernel
theorem dX12_equation_65 : decode cX12_equation 65 = .ok (.istore_n 2, 1) := by decide +kernel
theorem dX12_equation_66 : decode cX12_equation 66 = .ok (.iload 6, 2) := by decide +kernel
theorem dX12_equation_68 : decode cX12_equation 68 = .ok (.ifCond .ne 19, 3) := by decide +kernel
theorem dX12_equation_71 : decode cX12_equation 71 = .ok (.iload_n 3, 1) := by decide +kernel
theorem dX12_equation_72 : decode cX12_equation 72 = .ok (.iconst (-1), 1) := by decide +kernel
theorem dX12_equation_73 : decode cX12_equation 73 = .ok (.if_icmp .ne 14, 3) := by decide +kernel
theorem dX12_equation_76 : decode cX12_equation 76 = .ok (.bipush 100, 2) := by decide +kernel
theorem dX12_equation_78 : decode cX12_equation 78 = .ok (.iload 4, 2) := by decide +kernel
theorem dX12_equation_80 : decode cX12_equation 80 = .ok (.imul, 1) := by decide +kernel
theorem dX12_equation_81 : decode cX12_equation 81 = .ok (.iload 5, 2) := by decide +kernel
theorem dX12_equation_83 : decode cX12_equation 83 = .ok (.iadd, 1) := by decide +kernel
theorem dX12_equation_84 : decode cX12_equation 84 = .ok (.goto 4, 3) := by decide +kernel
theorem dX12_equation_87 : decode cX12_equation 87 = .ok (.iload_n 3, 1) := by decide +kernel
theorem dX12_equation_88 : decode cX12_equation 88 = .ok (.istore_n 3, 1) := by decide +kernel
theorem dX12_equation_89 : decode cX12_equation 89 = .ok (.iinc 5 1, 3) := by decide +kernel
theorem dX12_equation_92 : decode cX12_equation 92 = .ok (.goto (-60), 3) := by decide +kernel
theorem dX12_equation_95 : decode cX12_equation 95 = .ok (.iinc 4 1, 3) := by decide +kernel
theorem dX12_equation_98 : decode cX12_equation 98 = .ok (.goto (-80), 3) := by decide +kernel
theorem dX12_equation_101 : decode cX12_equation 101 = .ok (.iload_n 1, 1) := by decide +kernel
theorem dX12_equation_102 : decode cX12_equation 102 = .ok (.ifCond .ne 7, 3) := by decide +kernel
theorem dX12_equation_105 : decode cX12_equation 105 = .ok (.iload_n 2, 1) := by decide +kernel
theorem dX12_equation_106 : decode cX12_equation 106 = .ok (.goto 28, 3) := by decide +kernel
theorem dX12_equation_109 : decode cX12_equation 109 = .ok (.iload_n 3, 1) := by decide +kernel
theorem dX12_equation_110 : decode cX12_equation 110 = .ok (.iconst (-1), 1) := by decide +kernel
theorem dX12_equation_111 : decode cX12_equation 111 = .ok (.if_icmp .ne 7, 3) := by decide +kernel
theorem dX12_equation_114 : decode cX12_equation 114 = .ok (.iconst (-1), 1) := by decide +kernel
theorem dX12_equation_115 : decode cX12_equation 115 = .ok (.goto 19, 3) := by decide +kernel
theorem dX12_equation_118 : decode cX12_equation 118 = .ok (.iload_n 1, 1) := by decide +kernel
theorem dX12_equation_119 : decode cX12_equation 119 = .ok (.iconst 1, 1) := by decide +kernel
theorem dX12_equation_120 : decode cX12_equation 120 = .ok (.if_icmp .ne 10, 3) := by decide +kernel
theorem dX12_equation_123 : decode cX12_equation 123 = .ok (.iload_n 3, 1) := by decide +kernel
theorem dX12_equation_124 : decode cX12_equation 124 = .ok (.bipush 100, 2) := by decide +kernel
theorem dX12_equation_126 : decode cX12_equation 126 = .ok (.idiv, 1) := by decide +kernel
theorem dX12_equation_127 : decode cX12_equation 127 = .ok (.goto 7, 3) := by decide +kernel
theorem dX12_equation_130 : decode cX12_equation 130 = .ok (.iload_n 3, 1) := by decide +kernel
theorem dX12_equation_131 : decode cX12_equation 131 = .ok (.bipush 100, 2) := by decide +kernel
theorem dX12_equation_133 : decode cX12_equation 133 = .ok (.irem, 1) := by decide +kernel
theorem dX12_equation_134 : decode cX12_equation 134 = .ok (.ireturn, 1) := by decide +kernel
theorem dX12_count_0 : decode cX12_count 0 = .ok (.iconst 0, 1) := by decide +kernel
theorem dX12_count_1 : decode cX12_count 1 = .ok (.istore_n 1, 1) := by decide +kernel
theorem dX12_count_2 : decode cX12_count 2 = .ok (.iconst 0, 1) := by decide +kernel
theorem dX12_count_3 : decode cX12_count 3 = .ok (.istore_n 2, 1) := by decide +kernel
theorem dX12_count_4 : decode cX12_count 4 = .ok (.iload_n 2, 1) := by decide +kernel
theorem dX12_count_5 : decode cX12_count 5 = .ok (.bipush 7, 2) := by decide +kernel
theorem dX12_count_7 : decode cX12_count 7 = .ok (.if_icmp .ge 17, 3) := by decide +kernel
theorem dX12_count_10 : decode cX12_count 10 = .ok (.iload_n 1, 1) := by decide +kernel
theorem dX12_count_11 : decode cX12_count 11 = .ok (.iload_n 0, 1) := by decide +kernel
theorem dX12_count_12 : decode cX12_count 12 = .ok (.iload_n 2, 1) := by decide +kernel
theorem dX12_count_13 : decode cX12_count 13 = .ok (.ishr, 1) := by decide +kernel
theorem dX12_count_14 : decode cX12_count 14 = .ok (.iconst 1, 1) := by decide +kernel
theorem dX12_count_15 : decode cX12_count 15 = .ok (.iand, 1) := by decide +kernel
theorem dX12_count_16 : decode cX12_count 16 = .ok (.iadd, 1) := by decide +kernel
theorem dX12_count_17 : decode cX12_count 17 = .ok (.istore_n 1, 1) := by decide +kernel
theorem dX12_count_18 : decode cX12_count 18 = .ok (.iinc 2 1, 3) := by decide +kernel
theorem dX12_count_21 : decode cX12_count 21 = .ok (.goto (-17), 3) := by decide +kernel
theorem dX12_count_24 : decode cX12_count 24 = .ok (.iload_n 1, 1) := by decide +kernel
theorem dX12_count_25 : decode cX12_count 25 = .ok (.ireturn, 1) := by decide +kernel
theorem dX12_actedIs_0 : decode cX12_actedIs 0 = .ok (.iconst 0, 1) := by decide +kernel
theorem dX12_actedIs_1 : decode cX12_actedIs 1 = .ok (.istore_n 2, 1) := by decide +kernel
theorem dX12_actedIs_2 : decode cX12_actedIs 2 = .ok (.iload_n 2, 1) := by decide +kernel
theorem dX12_actedIs_3 : decode cX12_actedIs 3 = .ok (.sipush 128, 3) := by decide +kernel
theorem dX12_actedIs_6 : decode cX12_actedIs 6 = .ok (.if_icmp .ge 25, 3) := by decide +kernel
theorem dX12_actedIs_9 : decode cX12_actedIs 9 = .ok (.aload_n 0, 1) := by decide +kernel
theorem dX12_actedIs_10 : decode cX12_actedIs 10 = .ok (.getfield 81, 3) := by decide +kernel
theorem dX12_actedIs_13 : decode cX12_actedIs 13 = .ok (.iload_n 2, 1) := by decide +kernel
theorem dX12_actedIs_14 : decode cX12_actedIs 14 = .ok (.iload_n 2, 1) := by decide +kernel
theorem dX12_actedIs_15 : decode cX12_actedIs 15 = .ok (.iload_n 1, 1) := by decide +kernel
theorem dX12_actedIs_16 : decode cX12_actedIs 16 = .ok (.if_icmp .ne 7, 3) := by decide +kernel
theorem dX12_actedIs_19 : decode cX12_actedIs 19 = .ok (.iconst 1, 1) := by decide +kernel
theorem dX12_actedIs_20 : decode cX12_actedIs 20 = .ok (.goto 4, 3) := by decide +kernel
theorem dX12_actedIs_23 : decode cX12_actedIs 23 = .ok (.iconst 0, 1) := by decide +kernel
theorem dX12_actedIs_24 : decode cX12_actedIs 24 = .ok (.iastore, 1) := by decide +kernel
theorem dX12_actedIs_25 : decode cX12_actedIs 25 = .ok (.iinc 2 1, 3) := by decide +kernel
theorem dX12_actedIs_28 : decode cX12_actedIs 28 = .ok (.goto (-26), 3) := by decide +kernel
theorem dX12_actedIs_31 : decode cX12_actedIs 31 = .ok (.return_, 1) := by decide +kernel
theorem dX12_takesNext_0 : decode cX12_takesNext 0 = .ok (.iconst 0, 1) := by decide +kernel
theorem dX12_takesNext_1 : decode cX12_takesNext 1 = .ok (.istore_n 1, 1) := by decide +kernel
theorem dX12_takesNext_2 : decode cX12_takesNext 2 = .ok (.iload_n 1, 1) := by decide +kernel
theorem dX12_takesNext_3 : decode cX12_takesNext 3 = .ok (.sipush 128, 3) := by decide +kernel
theorem dX12_takesNext_6 : decode cX12_takesNext 6 = .ok (.if_icmp .ge 21, 3) := by decide +kernel
theorem dX12_takesNext_9 : decode cX12_takesNext 9 = .ok (.aload_n 0, 1) := by decide +kernel
theorem dX12_takesNext_10 : decode cX12_takesNext 10 = .ok (.getfield 81, 3) := by decide +kernel
theorem dX12_takesNext_13 : decode cX12_takesNext 13 = .ok (.iload_n 1, 1) := by decide +kernel
theorem dX12_takesNext_14 : decode cX12_takesNext 14 = .ok (.aload_n 0, 1) := by decide +kernel
theorem dX12_takesNext_15 : decode cX12_takesNext 15 = .ok (.getfield 84, 3) := by decide +kernel
theorem dX12_takesNext_18 : decode cX12_takesNext 18 = .ok (.iload_n 1, 1) := by decide +kernel
theorem dX12_takesNext_19 : decode cX12_takesNext 19 = .ok (.iaload, 1) := by decide +kernel
theorem dX12_takesNext_20 : decode cX12_takesNext 20 = .ok (.iastore, 1) := by decide +kernel
theorem dX12_takesNext_21 : decode cX12_takesNext 21 = .ok (.iinc 1 1, 3) := by decide +kernel
theorem dX12_takesNext_24 : decode cX12_takesNext 24 = .ok (.goto (-22), 3) := by decide +kernel
theorem dX12_takesNext_27 : decode cX12_takesNext 27 = .ok (.return_, 1) := by decide +kernel
theorem dX12_sumsBy_0 : decode cX12_sumsBy 0 = .ok (.iconst 0, 1) := by decide +kernel
theorem dX12_sumsBy_1 : decode cX12_sumsBy 1 = .ok (.istore_n 3, 1) := by decide +kernel
theorem dX12_sumsBy_2 : decode cX12_sumsBy 2 = .ok (.iload_n 3, 1) := by decide +kernel
theorem dX12_sumsBy_3 : decode cX12_sumsBy 3 = .ok (.sipush 128, 3) := by decide +kernel
theorem dX12_sumsBy_6 : decode cX12_sumsBy 6 = .ok (.if_icmp .ge 16, 3) := by decide +kernel
theorem dX12_sumsBy_9 : decode cX12_sumsBy 9 = .ok (.aload_n 0, 1) := by decide +kernel
theorem dX12_sumsBy_10 : decode cX12_sumsBy 10 = .ok (.getfield 84, 3) := by decide +kernel
theorem dX12_sumsBy_13 : decode cX12_sumsBy 13 = .ok (.iload_n 3, 1) := by decide +kernel
theorem dX12_sumsBy_14 : decode cX12_sumsBy 14 = .ok (.iconst 0, 1) := by decide +kernel
theorem dX12_sumsBy_15 : decode cX12_sumsBy 15 = .ok (.iastore, 1) := by decide +kernel
theorem dX12_sumsBy_16 : decode cX12_sumsBy 16 = .ok (.iinc 3 1, 3) := by decide +kernel
theorem dX12_sumsBy_19 : decode cX12_sumsBy 19 = .ok (.goto (-17), 3) := by decide +kernel
theorem dX12_sumsBy_22 : decode cX12_sumsBy 22 = .ok (.iconst 0, 1) := by decide +kernel
theorem dX12_sumsBy_23 : decode cX12_sumsBy 23 = .ok (.istore_n 3, 1) := by decide +kernel
theorem dX12_sumsBy_24 : decode cX12_sumsBy 24 = .ok (.iload_n 3, 1) := by decide +kernel
theorem dX12_sumsBy_25 : decode cX12_sumsBy 25 = .ok (.aload_n 0, 1) := by decide +kernel
theorem dX12_sumsBy_26 : decode cX12_sumsBy 26 = .ok (.invokevirtual 128, 3) := by decide +kernel
theorem dX12_sumsBy_29 : decode cX12_sumsBy 29 = .ok (.if_icmp .ge 149, 3) := by decide +kernel
theorem dX12_sumsBy_32 : decode cX12_sumsBy 32 = .ok (.aload_n 0, 1) := by decide +kernel
theorem dX12_sumsBy_33 : decode cX12_sumsBy 33 = .ok (.getfield 81, 3) := by decide +kernel
theorem dX12_sumsBy_36 : decode cX12_sumsBy 36 = .ok (.iload_n 3, 1) := by decide +kernel
theorem dX12_sumsBy_37 : decode cX12_sumsBy 37 = .ok (.iaload, 1) := by decide +kernel
theorem dX12_sumsBy_38 : decode cX12_sumsBy 38 = .ok (.ifCond .eq 134, 3) := by decide +kernel
theorem dX12_sumsBy_41 : decode cX12_sumsBy 41 = .ok (.iconst 0, 1) := by decide +kernel
theorem dX12_sumsBy_42 : decode cX12_sumsBy 42 = .ok (.istore 4, 2) := by decide +kernel
theorem dX12_sumsBy_44 : decode cX12_sumsBy 44 = .ok (.iload 4, 2) := by decide +kernel
theorem dX12_sumsBy_46 : decode cX12_sumsBy 46 = .ok (.iload_n 2, 1) := by decide +kernel
theorem dX12_sumsBy_47 : decode cX12_sumsBy 47 = .ok (.ifCond .eq 12, 3) := by decide +kernel
theorem dX12_sumsBy_50 : decode cX12_sumsBy 50 = .ok (.aload_n 0, 1) := by decide +kernel
theorem dX12_sumsBy_51 : decode cX12_sumsBy 51 = .ok (.getfield 7, 3) := by decide +kernel
theorem dX12_sumsBy_54 : decode cX12_sumsBy 54 = .ok (.iconst 0, 1) := by decide +kernel
theorem dX12_sumsBy_55 : decode cX12_sumsBy 55 = .ok (.iaload, 1) := by decide +kernel
theorem dX12_sumsBy_56 : decode cX12_sumsBy 56 = .ok (.goto 11, 3) := by decide +kernel
theorem dX12_sumsBy_59 : decode cX12_sumsBy 59 = .ok (.aload_n 0, 1) := by decide +kernel
theorem dX12_sumsBy_60 : decode cX12_sumsBy 60 = .ok (.getfield 7, 3) := by decide +kernel
theorem dX12_sumsBy_63 : decode cX12_sumsBy 63 = .ok (.iconst 0, 1) := by decide +kernel
theorem dX12_sumsBy_64 : decode cX12_sumsBy 64 = .ok (.iaload, 1) := by decide +kernel
theorem dX12_sumsBy_65 : decode cX12_sumsBy 65 = .ok (.iconst 1, 1) := by decide +kernel
theorem dX12_sumsBy_66 : decode cX12_sumsBy 66 = .ok (.isub, 1) := by decide +kernel
theorem dX12_sumsBy_67 : decode cX12_sumsBy 67 = .ok (.if_icmp .ge 105, 3) := by decide +kernel
theorem dX12_sumsBy_70 : decode cX12_sumsBy 70 = .ok (.iload 4, 2) := by decide +kernel
theorem dX12_sumsBy_72 : decode cX12_sumsBy 72 = .ok (.iconst 1, 1) := by decide +kernel
theorem dX12_sumsBy_73 : decode cX12_sumsBy 73 = .ok (.iadd, 1) := by decide +kernel
theorem dX12_sumsBy_74 : decode cX12_sumsBy 74 = .ok (.aload_n 0, 1) := by decide +kernel
theorem dX12_sumsBy_75 : decode cX12_sumsBy 75 = .ok (.getfield 7, 3) := by decide +kernel
theorem dX12_sumsBy_78 : decode cX12_sumsBy 78 = .ok (.iconst 0, 1) := by decide +kernel
theorem dX12_sumsBy_79 : decode cX12_sumsBy 79 = .ok (.iaload, 1) := by decide +kernel
theorem dX12_sumsBy_80 : decode cX12_sumsBy 80 = .ok (.irem, 1) := by decide +kernel
theorem dX12_sumsBy_81 : decode cX12_sumsBy 81 = .ok (.istore 5, 2) := by decide +kernel
theorem dX12_sumsBy_83 : decode cX12_sumsBy 83 = .ok (.iload_n 3, 1) := by decide +kernel
theorem dX12_sumsBy_84 : decode cX12_sumsBy 84 = .ok (.iload 4, 2) := by decide +kernel
theorem dX12_sumsBy_86 : decode cX12_sumsBy 86 = .ok (.ishr, 1) := by decide +kernel
theorem dX12_sumsBy_87 : decode cX12_sumsBy 87 = .ok (.iconst 1, 1) := by decide +kernel
theorem dX12_sumsBy_88 : decode cX12_sumsBy 88 = .ok (.iand, 1) := by decide +kernel
theorem dX12_sumsBy_89 : decode cX12_sumsBy 89 = .ok (.iload_n 3, 1) := by decide +kernel
theorem dX12_sumsBy_90 : decode cX12_sumsBy 90 = .ok (.iload 5, 2) := by decide +kernel
theorem dX12_sumsBy_92 : decode cX12_sumsBy 92 = .ok (.ishr, 1) := by decide +kernel
theorem dX12_sumsBy_93 : decode cX12_sumsBy 93 = .ok (.iconst 1, 1) := by decide +kernel
theorem dX12_sumsBy_94 : decode cX12_sumsBy 94 = .ok (.iand, 1) := by decide +kernel
theorem dX12_sumsBy_95 : decode cX12_sumsBy 95 = .ok (.if_icmp .ne 7, 3) := by decide +kernel
theorem dX12_sumsBy_98 : decode cX12_sumsBy 98 = .ok (.iconst 1, 1) := by decide +kernel
theorem dX12_sumsBy_99 : decode cX12_sumsBy 99 = .ok (.goto 4, 3) := by decide +kernel
theorem dX12_sumsBy_102 : decode cX12_sumsBy 102 = .ok (.iconst 0, 1) := by decide +kernel
theorem dX12_sumsBy_103 : decode cX12_sumsBy 103 = .ok (.istore 6, 2) := by decide +kernel
theorem dX12_sumsBy_105 : decode cX12_sumsBy 105 = .ok (.iload 6, 2) := by decide +kernel
theorem dX12_sumsBy_107 : decode cX12_sumsBy 107 = .ok (.ifCond .eq 7, 3) := by decide +kernel
theorem dX12_sumsBy_110 : decode cX12_sumsBy 110 = .ok (.iload_n 3, 1) := by decide +kernel
theorem dX12_sumsBy_111 : decode cX12_sumsBy 111 = .ok (.goto 14, 3) := by decide +kernel
theorem dX12_sumsBy_114 : decode cX12_sumsBy 114 = .ok (.iload_n 3, 1) := by decide +kernel
theorem dX12_sumsBy_115 : decode cX12_sumsBy 115 = .ok (.iconst 1, 1) := by decide +kernel
theorem dX12_sumsBy_116 : decode cX12_sumsBy 116 = .ok (.iload 4, 2) := by decide +kernel
theorem dX12_sumsBy_118 : decode cX12_sumsBy 118 = .ok (.ishl, 1) := by decide +kernel
theorem dX12_sumsBy_119 : decode cX12_sumsBy 119 = .ok (.ixor, 1) := by decide +kernel
theorem dX12_sumsBy_120 : decode cX12_sumsBy 120 = .ok (.iconst 1, 1) := by decide +kernel
theorem dX12_sumsBy_121 : decode cX12_sumsBy 121 = .ok (.iload 5, 2) := by decide +kernel
theorem dX12_sumsBy_123 : decode cX12_sumsBy 123 = .ok (.ishl, 1) := by decide +kernel
theorem dX12_sumsBy_124 : decode cX12_sumsBy 124 = .ok (.ixor, 1) := by decide +kernel
theorem dX12_sumsBy_125 : decode cX12_sumsBy 125 = .ok (.istore 7, 2) := by decide +kernel
theorem dX12_sumsBy_127 : decode cX12_sumsBy 127 = .ok (.aload_n 0, 1) := by decide +kernel
theorem dX12_sumsBy_128 : decode cX12_sumsBy 128 = .ok (.getfield 84, 3) := by decide +kernel
theorem dX12_sumsBy_131 : decode cX12_sumsBy 131 = .ok (.iload 7, 2) := by decide +kernel
theorem dX12_sumsBy_133 : decode cX12_sumsBy 133 = .ok (.aload_n 0, 1) := by decide +kernel
theorem dX12_sumsBy_134 : decode cX12_sumsBy 134 = .ok (.getfield 84, 3) := by decide +kernel
theorem dX12_sumsBy_137 : decode cX12_sumsBy 137 = .ok (.iload 7, 2) := by decide +kernel
theorem dX12_sumsBy_139 : decode cX12_sumsBy 139 = .ok (.iaload, 1) := by decide +kernel
theorem dX12_sumsBy_140 : decode cX12_sumsBy 140 = .ok (.aload_n 0, 1) := by decide +kernel
theorem dX12_sumsBy_141 : decode cX12_sumsBy 141 = .ok (.getfield 81, 3) := by decide +kernel
theorem dX12_sumsBy_144 : decode cX12_sumsBy 144 = .ok (.iload_n 3, 1) := by decide +kernel
theorem dX12_sumsBy_145 : decode cX12_sumsBy 145 = .ok (.iaload, 1) := by decide +kernel
theorem dX12_sumsBy_146 : decode cX12_sumsBy 146 = .ok (.iload 6, 2) := by decide +kernel
theorem dX12_sumsBy_148 : decode cX12_sumsBy 148 = .ok (.ifCond .eq 7, 3) := by decide +kernel
theorem dX12_sumsBy_151 : decode cX12_sumsBy 151 = .ok (.iload_n 1, 1) := by decide +kernel
theorem dX12_sumsBy_152 : decode cX12_sumsBy 152 = .ok (.goto 4, 3) := by decide +kernel
theorem dX12_sumsBy_155 : decode cX12_sumsBy 155 = .ok (.iconst 1, 1) := by decide +kernel
theorem dX12_sumsBy_156 : decode cX12_sumsBy 156 = .ok (.imul, 1) := by decide +kernel
theorem dX12_sumsBy_157 : decode cX12_sumsBy 157 = .ok (.iadd, 1) := by decide +kernel
theorem dX12_sumsBy_158 : decode cX12_sumsBy 158 = .ok (.aload_n 0, 1) := by decide +kernel
theorem dX12_sumsBy_159 : decode cX12_sumsBy 159 = .ok (.getfield 7, 3) := by decide +kernel
theorem dX12_sumsBy_162 : decode cX12_sumsBy 162 = .ok (.iconst 2, 1) := by decide +kernel
theorem dX12_sumsBy_163 : decode cX12_sumsBy 163 = .ok (.iaload, 1) := by decide +kernel
theorem dX12_sumsBy_164 : decode cX12_sumsBy 164 = .ok (.irem, 1) := by decide +kernel
theorem dX12_sumsBy_165 : decode cX12_sumsBy 165 = .ok (.iastore, 1) := by decide +kernel
theorem dX12_sumsBy_166 : decode cX12_sumsBy 166 = .ok (.iinc 4 1, 3) := by decide +kernel
theorem dX12_sumsBy_169 : decode cX12_sumsBy 169 = .ok (.goto (-125), 3) := by decide +kernel
theorem dX12_sumsBy_172 : decode cX12_sumsBy 172 = .ok (.iinc 3 1, 3) := by decide +kernel
theorem dX12_sumsBy_175 : decode cX12_sumsBy 175 = .ok (.goto (-151), 3) := by decide +kernel
theorem dX12_sumsBy_178 : decode cX12_sumsBy 178 = .ok (.aload_n 0, 1) := by decide +kernel
theorem dX12_sumsBy_179 : decode cX12_sumsBy 179 = .ok (.invokevirtual 307, 3) := by decide +kernel
theorem dX12_sumsBy_182 : decode cX12_sumsBy 182 = .ok (.return_, 1) := by decide +kernel
theorem dX12_sums_0 : decode cX12_sums 0 = .ok (.aload_n 0, 1) := by decide +kernel
theorem dX12_sums_1 : decode cX12_sums 1 = .ok (.aload_n 0, 1) := by decide +kernel
theorem dX12_sums_2 : decode cX12_sums 2 = .ok (.getfield 7, 3) := by decide +kernel
theorem dX12_sums_5 : decode cX12_sums 5 = .ok (.iconst 4, 1) := by decide +kernel
theorem dX12_sums_6 : decode cX12_sums 6 = .ok (.iaload, 1) := by decide +kernel
theorem dX12_sums_7 : decode cX12_sums 7 = .ok (.aload_n 0, 1) := by decide +kernel
theorem dX12_sums_8 : decode cX12_sums 8 = .ok (.getfield 7, 3) := by decide +kernel
theorem dX12_sums_11 : decode cX12_sums 11 = .ok (.iconst 1, 1) := by decide +kernel
theorem dX12_sums_12 : decode cX12_sums 12 = .ok (.iaload, 1) := by decide +kernel
theorem dX12_sums_13 : decode cX12_sums 13 = .ok (.iconst 1, 1) := by decide +kernel
theorem dX12_sums_14 : decode cX12_sums 14 = .ok (.if_icmp .ne 7, 3) := by decide +kernel
theorem dX12_sums_17 : decode cX12_sums 17 = .ok (.iconst 1, 1) := by decide +kernel
theorem dX12_sums_18 : decode cX12_sums 18 = .ok (.goto 4, 3) := by decide +kernel
theorem dX12_sums_21 : decode cX12_sums 21 = .ok (.iconst 0, 1) := by decide +kernel
theorem dX12_sums_22 : decode cX12_sums 22 = .ok (.invokevirtual 310, 3) := by decide +kernel
theorem dX12_sums_25 : decode cX12_sums 25 = .ok (.return_, 1) := by decide +kernel
theorem dX12_tables_0 : decode cX12_tables 0 = .ok (.aload_n 0, 1) := by decide +kernel
theorem dX12_tables_1 : decode cX12_tables 1 = .ok (.invokevirtual 128, 3) := by decide +kernel
theorem dX12_tables_4 : decode cX12_tables 4 = .ok (.istore_n 2, 1) := by decide +kernel
theorem dX12_tables_5 : decode cX12_tables 5 = .ok (.iconst 0, 1) := by decide +kernel
theorem dX12_tables_6 : decode cX12_tables 6 = .ok (.istore_n 3, 1) := by decide +kernel
theorem dX12_tables_7 : decode cX12_tables 7 = .ok (.iload_n 3, 1) := by decide +kernel
theorem dX12_tables_8 : decode cX12_tables 8 = .ok (.sipush 128, 3) := by decide +kernel
theorem dX12_tables_11 : decode cX12_tables 11 = .ok (.if_icmp .ge 16, 3) := by decide +kernel
theorem dX12_tables_14 : decode cX12_tables 14 = .ok (.aload_n 0, 1) := by decide +kernel
theorem dX12_tables_15 : decode cX12_tables 15 = .ok (.getfield 84, 3) := by decide +kernel
theorem dX12_tables_18 : decode cX12_tables 18 = .ok (.iload_n 3, 1) := by decide +kernel
theorem dX12_tables_19 : decode cX12_tables 19 = .ok (.iconst 0, 1) := by decide +kernel
theorem dX12_tables_20 : decode cX12_tables 20 = .ok (.iastore, 1) := by decide +kernel
theorem dX12_tables_21 : decode cX12_tables 21 = .ok (.iinc 3 1, 3) := by decide +kernel
theorem dX12_tables_24 : decode cX12_tables 24 = .ok (.goto (-17), 3) := by decide +kernel
theorem dX12_tables_27 : decode cX12_tables 27 = .ok (.aload_n 0, 1) := by decide +kernel
theorem dX12_tables_28 : decode cX12_tables 28 = .ok (.iload_n 1, 1) := by decide +kernel
theorem dX12_tables_29 : decode cX12_tables 29 = .ok (.invokevirtual 296, 3) := by decide +kernel
theorem dX12_tables_32 : decode cX12_tables 32 = .ok (.iconst 0, 1) := by decide +kernel
theorem dX12_tables_33 : decode cX12_tables 33 = .ok (.istore_n 3, 1) := by decide +kernel
theorem dX12_tables_34 : decode cX12_tables 34 = .ok (.iload_n 3, 1) := by decide +kernel
theorem dX12_tables_35 : decode cX12_tables 35 = .ok (.iconst 2, 1) := by decide +kernel
theorem dX12_tables_36 : decode cX12_tables 36 = .ok (.if_icmp .ge 137, 3) := by decide +kernel
theorem dX12_tables_39 : decode cX12_tables 39 = .ok (.iconst 0, 1) := by decide +kernel
theorem dX12_tables_40 : decode cX12_tables 40 = .ok (.istore 4, 2) := by decide +kernel
theorem dX12_tables_42 : decode cX12_tables 42 = .ok (.iload 4, 2) := by decide +kernel
theorem dX12_tables_44 : decode cX12_tables 44 = .ok (.iconst 2, 1) := by decide +kernel
theorem dX12_tables_45 : decode cX12_tables 45 = .ok (.iload_n 2, 1) := by decide +kernel
theorem dX12_tables_46 : decode cX12_tables 46 = .ok (.imul, 1) := by decide +kernel
theorem dX12_tables_47 : decode cX12_tables 47 = .ok (.if_icmp .ge 37, 3) := by decide +kernel
theorem dX12_tables_50 : decode cX12_tables 50 = .ok (.aload_n 0, 1) := by decide +kernel
theorem dX12_tables_51 : decode cX12_tables 51 = .ok (.getfield 72, 3) := by decide +kernel
theorem dX12_tables_54 : decode cX12_tables 54 = .ok (.iload 4, 2) := by decide +kernel
theorem dX12_tables_56 : decode cX12_tables 56 = .ok (.iload 4, 2) := by decide +kernel
theorem dX12_tables_58 : decode cX12_tables 58 = .ok (.iload_n 2, 1) := by decide +kernel
theorem dX12_tables_59 : decode cX12_tables 59 = .ok (.idiv, 1) := by decide +kernel
theorem dX12_tables_60 : decode cX12_tables 60 = .ok (.iload_n 3, 1) := by decide +kernel
theorem dX12_tables_61 : decode cX12_tables 61 = .ok (.if_icmp .ne 15, 3) := by decide +kernel
theorem dX12_tables_64 : decode cX12_tables 64 = .ok (.aload_n 0, 1) := by decide +kernel
theorem dX12_tables_65 : decode cX12_tables 65 = .ok (.getfield 81, 3) := by decide +kernel
theorem dX12_tables_68 : decode cX12_tables 68 = .ok (.iload 4, 2) := by decide +kernel
theorem dX12_tables_70 : decode cX12_tables 70 = .ok (.iload_n 2, 1) := by decide +kernel
theorem dX12_tables_71 : decode cX12_tables 71 = .ok (.irem, 1) := by decide +kernel
theorem dX12_tables_72 : decode cX12_tables 72 = .ok (.iaload, 1) := by decide +kernel
theorem dX12_tables_73 : decode cX12_tables 73 = .ok (.goto 4, 3) := by decide +kernel
theorem dX12_tables_76 : decode cX12_tables 76 = .ok (.iconst 0, 1) := by decide +kernel
theorem dX12_tables_77 : decode cX12_tables 77 = .ok (.iastore, 1) := by decide +kernel
theorem dX12_tables_78 : decode cX12_tables 78 = .ok (.iinc 4 1, 3) := by decide +kernel
theorem dX12_tables_81 : decode cX12_tables 81 = .ok (.goto (-39), 3) := by decide +kernel
theorem dX12_tables_84 : decode cX12_tables 84 = .ok (.iconst 0, 1) := by decide +kernel
theorem dX12_tables_85 : decode cX12_tables 85 = .ok (.istore 4, 2) := by decide +kernel
theorem dX12_tables_87 : decode cX12_tables 87 = .ok (.iload 4, 2) := by decide +kernel
theorem dX12_tables_89 : decode cX12_tables 89 = .ok (.aload_n 0, 1) := by decide +kernel
theorem dX12_tables_90 : decode cX12_tables 90 = .ok (.getfield 7, 3) := by decide +kernel
theorem dX12_tables_93 : decode cX12_tables 93 = .ok (.iconst 0, 1) := by decide +kernel
theorem dX12_tables_94 : decode cX12_tables 94 = .ok (.iaload, 1) := by decide +kernel
theorem dX12_tables_95 : decode cX12_tables 95 = .ok (.if_icmp .ge 24, 3) := by decide +kernel
theorem dX12_tables_98 : decode cX12_tables 98 = .ok (.aload_n 0, 1) := by decide +kernel
theorem dX12_tables_99 : decode cX12_tables 99 = .ok (.aload_n 0, 1) := by decide +kernel
theorem dX12_tables_100 : decode cX12_tables 100 = .ok (.getfield 7, 3) := by decide +kernel
theorem dX12_tables_103 : decode cX12_tables 103 = .ok (.iconst 0, 1) := by decide +kernel
theorem dX12_tables_104 : decode cX12_tables 104 = .ok (.iaload, 1) := by decide +kernel
theorem dX12_tables_105 : decode cX12_tables 105 = .ok (.iload 4, 2) := by decide +kernel
theorem dX12_tables_107 : decode cX12_tables 107 = .ok (.iconst 2, 1) := by decide +kernel
theorem dX12_tables_108 : decode cX12_tables 108 = .ok (.iload_n 2, 1) := by decide +kernel
theorem dX12_tables_109 : decode cX12_tables 109 = .ok (.imul, 1) := by decide +kernel
theorem dX12_tables_110 : decode cX12_tables 110 = .ok (.invokevirtual 299, 3) := by decide +kernel
theorem dX12_tables_113 : decode cX12_tables 113 = .ok (.iinc 4 1, 3) := by decide +kernel
theorem dX12_tables_116 : decode cX12_tables 116 = .ok (.goto (-29), 3) := by decide +kernel
theorem dX12_tables_119 : decode cX12_tables 119 = .ok (.iconst 0, 1) := by decide +kernel
theorem dX12_tables_120 : decode cX12_tables 120 = .ok (.istore 4, 2) := by decide +kernel
theorem dX12_tables_122 : decode cX12_tables 122 = .ok (.iload 4, 2) := by decide +kernel
theorem dX12_tables_124 : decode cX12_tables 124 = .ok (.iload_n 2, 1) := by decide +kernel
theorem dX12_tables_125 : decode cX12_tables 125 = .ok (.if_icmp .ge 42, 3) := by decide +kernel
theorem dX12_tables_128 : decode cX12_tables 128 = .ok (.aload_n 0, 1) := by decide +kernel
theorem dX12_tables_129 : decode cX12_tables 129 = .ok (.getfield 84, 3) := by decide +kernel
theorem dX12_tables_132 : decode cX12_tables 132 = .ok (.iload 4, 2) := by decide +kernel
theorem dX12_tables_134 : decode cX12_tables 134 = .ok (.aload_n 0, 1) := by decide +kernel
theorem dX12_tables_135 : decode cX12_tables 135 = .ok (.getfield 84, 3) := by decide +kernel
theorem dX12_tables_138 : decode cX12_tables 138 = .ok (.iload 4, 2) := by decide +kernel
theorem dX12_tables_140 : decode cX12_tables 140 = .ok (.iaload, 1) := by decide +kernel
theorem dX12_tables_141 : decode cX12_tables 141 = .ok (.aload_n 0, 1) := by decide +kernel
theorem dX12_tables_142 : decode cX12_tables 142 = .ok (.getfield 72, 3) := by decide +kernel
theorem dX12_tables_145 : decode cX12_tables 145 = .ok (.iload_n 3, 1) := by decide +kernel
theorem dX12_tables_146 : decode cX12_tables 146 = .ok (.iload_n 2, 1) := by decide +kernel
theorem dX12_tables_147 : decode cX12_tables 147 = .ok (.imul, 1) := by decide +kernel
theorem dX12_tables_148 : decode cX12_tables 148 = .ok (.iload 4, 2) := by decide +kernel
theorem dX12_tables_150 : decode cX12_tables 150 = .ok (.iadd, 1) := by decide +kernel
theorem dX12_tables_151 : decode cX12_tables 151 = .ok (.iaload, 1) := by decide +kernel
theorem dX12_tables_152 : decode cX12_tables 152 = .ok (.iadd, 1) := by decide +kernel
theorem dX12_tables_153 : decode cX12_tables 153 = .ok (.aload_n 0, 1) := by decide +kernel
theorem dX12_tables_154 : decode cX12_tables 154 = .ok (.getfield 7, 3) := by decide +kernel
theorem dX12_tables_157 : decode cX12_tables 157 = .ok (.iconst 2, 1) := by decide +kernel
theorem dX12_tables_158 : decode cX12_tables 158 = .ok (.iaload, 1) := by decide +kernel
theorem dX12_tables_159 : decode cX12_tables 159 = .ok (.irem, 1) := by decide +kernel
theorem dX12_tables_160 : decode cX12_tables 160 = .ok (.iastore, 1) := by decide +kernel
theorem dX12_tables_161 : decode cX12_tables 161 = .ok (.iinc 4 1, 3) := by decide +kernel
theorem dX12_tables_164 : decode cX12_tables 164 = .ok (.goto (-42), 3) := by decide +kernel
theorem dX12_tables_167 : decode cX12_tables 167 = .ok (.iinc 3 1, 3) := by decide +kernel
theorem dX12_tables_170 : decode cX12_tables 170 = .ok (.goto (-136), 3) := by decide +kernel
theorem dX12_tables_173 : decode cX12_tables 173 = .ok (.aload_n 0, 1) := by decide +kernel
theorem dX12_tables_174 : decode cX12_tables 174 = .ok (.invokevirtual 307, 3) := by decide +kernel
theorem dX12_tables_177 : decode cX12_tables 177 = .ok (.return_, 1) := by decide +kernel
theorem dX12_shifted_0 : decode cX12_shifted 0 = .ok (.iload_n 1, 1) := by decide +kernel
theorem dX12_shifted_1 : decode cX12_shifted 1 = .ok (.iconst 1, 1) := by decide +kernel
theorem dX12_shifted_2 : decode cX12_shifted 2 = .ok (.ishl, 1) := by decide +kernel
theorem dX12_shifted_3 : decode cX12_shifted 3 = .ok (.iload_n 1, 1) := by decide +kernel
theorem dX12_shifted_4 : decode cX12_shifted 4 = .ok (.aload_n 0, 1) := by decide +kernel
theorem dX12_shifted_5 : decode cX12_shifted 5 = .ok (.getfield 7, 3) := by decide +kernel
theorem dX12_shifted_8 : decode cX12_shifted 8 = .ok (.iconst 0, 1) := by decide +kernel
theorem dX12_shifted_9 : decode cX12_shifted 9 = .ok (.iaload, 1) := by decide +kernel
theorem dX12_shifted_10 : decode cX12_shifted 10 = .ok (.iconst 1, 1) := by decide +kernel
theorem dX12_shifted_11 : decode cX12_shifted 11 = .ok (.isub, 1) := by decide +kernel
theorem dX12_shifted_12 : decode cX12_shifted 12 = .ok (.ishr, 1) := by decide +kernel
theorem dX12_shifted_13 : decode cX12_shifted 13 = .ok (.ior, 1) := by decide +kernel
theorem dX12_shifted_14 : decode cX12_shifted 14 = .ok (.aload_n 0, 1) := by decide +kernel
theorem dX12_shifted_15 : decode cX12_shifted 15 = .ok (.invokevirtual 128, 3) := by decide +kernel
theorem dX12_shifted_18 : decode cX12_shifted 18 = .ok (.iconst 1, 1) := by decide +kernel
theorem dX12_shifted_19 : decode cX12_shifted 19 = .ok (.isub, 1) := by decide +kernel
theorem dX12_shifted_20 : decode cX12_shifted 20 = .ok (.iand, 1) := by decide +kernel
theorem dX12_shifted_21 : decode cX12_shifted 21 = .ok (.ireturn, 1) := by decide +kernel
theorem dX12_sum_0 : decode cX12_sum 0 = .ok (.aload_n 0, 1) := by decide +kernel
theorem dX12_sum_1 : decode cX12_sum 1 = .ok (.iload_n 1, 1) := by decide +kernel
theorem dX12_sum_2 : decode cX12_sum 2 = .ok (.invokevirtual 314, 3) := by decide +kernel
theorem dX12_sum_5 : decode cX12_sum 5 = .ok (.ifCond .eq 11, 3) := by decide +kernel
theorem dX12_sum_8 : decode cX12_sum 8 = .ok (.aload_n 0, 1) := by decide +kernel
theorem dX12_sum_9 : decode cX12_sum 9 = .ok (.iload_n 2, 1) := by decide +kernel
theorem dX12_sum_10 : decode cX12_sum 10 = .ok (.invokevirtual 314, 3) := by decide +kernel
theorem dX12_sum_13 : decode cX12_sum 13 = .ok (.ifCond .ne 5, 3) := by decide +kernel
theorem dX12_sum_16 : decode cX12_sum 16 = .ok (.iconst (-1), 1) := by decide +kernel
theorem dX12_sum_17 : decode cX12_sum 17 = .ok (.ireturn, 1) := by decide +kernel
theorem dX12_sum_18 : decode cX12_sum 18 = .ok (.aload_n 0, 1) := by decide +kernel
theorem dX12_sum_19 : decode cX12_sum 19 = .ok (.iload_n 1, 1) := by decide +kernel
theorem dX12_sum_20 : decode cX12_sum 20 = .ok (.invokevirtual 317, 3) := by decide +kernel
theorem dX12_sum_23 : decode cX12_sum 23 = .ok (.aload_n 0, 1) := by decide +kernel
theorem dX12_sum_24 : decode cX12_sum 24 = .ok (.invokevirtual 320, 3) := by decide +kernel
theorem dX12_sum_27 : decode cX12_sum 27 = .ok (.aload_n 0, 1) := by decide +kernel
theorem dX12_sum_28 : decode cX12_sum 28 = .ok (.getfield 81, 3) := by decide +kernel
theorem dX12_sum_31 : decode cX12_sum 31 = .ok (.iload_n 2, 1) := by decide +kernel
theorem dX12_sum_32 : decode cX12_sum 32 = .ok (.iaload, 1) := by decide +kernel
theorem dX12_sum_33 : decode cX12_sum 33 = .ok (.ireturn, 1) := by decide +kernel
theorem dX12_table_0 : decode cX12_table 0 = .ok (.aload_n 0, 1) := by decide +kernel
theorem dX12_table_1 : decode cX12_table 1 = .ok (.iload_n 1, 1) := by decide +kernel
theorem dX12_table_2 : decode cX12_table 2 = .ok (.invokevirtual 135, 3) := by decide +kernel
theorem dX12_table_5 : decode cX12_table 5 = .ok (.ifCond .eq 19, 3) := by decide +kernel
theorem dX12_table_8 : decode cX12_table 8 = .ok (.aload_n 0, 1) := by decide +kernel
theorem dX12_table_9 : decode cX12_table 9 = .ok (.iload_n 2, 1) := by decide +kernel
theorem dX12_table_10 : decode cX12_table 10 = .ok (.invokevirtual 314, 3) := by decide +kernel
theorem dX12_table_13 : decode cX12_table 13 = .ok (.ifCond .eq 11, 3) := by decide +kernel
theorem dX12_table_16 : decode cX12_table 16 = .ok (.aload_n 0, 1) := by decide +kernel
theorem dX12_table_17 : decode cX12_table 17 = .ok (.iload_n 3, 1) := by decide +kernel
theorem dX12_table_18 : decode cX12_table 18 = .ok (.invokevirtual 314, 3) := by decide +kernel
theorem dX12_table_21 : decode cX12_table 21 = .ok (.ifCond .ne 5, 3) := by decide +kernel
theorem dX12_table_24 : decode cX12_table 24 = .ok (.iconst (-1), 1) := by decide +kernel
theorem dX12_table_25 : decode cX12_table 25 = .ok (.ireturn, 1) := by decide +kernel
theorem dX12_table_26 : decode cX12_table 26 = .ok (.aload_n 0, 1) := by decide +kernel
theorem dX12_table_27 : decode cX12_table 27 = .ok (.iload_n 2, 1) := by decide +kernel
theorem dX12_table_28 : decode cX12_table 28 = .ok (.invokevirtual 317, 3) := by decide +kernel
theorem dX12_table_31 : decode cX12_table 31 = .ok (.aload_n 0, 1) := by decide +kernel
theorem dX12_table_32 : decode cX12_table 32 = .ok (.iload_n 1, 1) := by decide +kernel
theorem dX12_table_33 : decode cX12_table 33 = .ok (.invokevirtual 323, 3) := by decide +kernel
theorem dX12_table_36 : decode cX12_table 36 = .ok (.aload_n 0, 1) := by decide +kernel
theorem dX12_table_37 : decode cX12_table 37 = .ok (.getfield 81, 3) := by decide +kernel
theorem dX12_table_40 : decode cX12_table 40 = .ok (.iload_n 3, 1) := by decide +kernel
theorem dX12_table_41 : decode cX12_table 41 = .ok (.iaload, 1) := by decide +kernel
theorem dX12_table_42 : decode cX12_table 42 = .ok (.ireturn, 1) := by decide +kernel
theorem dX12_keepsOther_0 : decode cX12_keepsOther 0 = .ok (.iconst 0, 1) := by decide +kernel
theorem dX12_keepsOther_1 : decode cX12_keepsOther 1 = .ok (.istore_n 1, 1) := by decide +kernel
theorem dX12_keepsOther_2 : decode cX12_keepsOther 2 = .ok (.iload_n 1, 1) := by decide +kernel
theorem dX12_keepsOther_3 : decode cX12_keepsOther 3 = .ok (.sipush 128, 3) := by decide +kernel
theorem dX12_keepsOther_6 : decode cX12_keepsOther 6 = .ok (.if_icmp .ge 21, 3) := by decide +kernel
theorem dX12_keepsOther_9 : decode cX12_keepsOther 9 = .ok (.aload_n 0, 1) := by decide +kernel
theorem dX12_keepsOther_10 : decode cX12_keepsOther 10 = .ok (.getfield 87, 3) := by decide +kernel
theorem dX12_keepsOther_13 : decode cX12_keepsOther 13 = .ok (.iload_n 1, 1) := by decide +kernel
theorem dX12_keepsOther_14 : decode cX12_keepsOther 14 = .ok (.aload_n 0, 1) := by decide +kernel
theorem dX12_keepsOther_15 : decode cX12_keepsOther 15 = .ok (.getfield 81, 3) := by decide +kernel
theorem dX12_keepsOther_18 : decode cX12_keepsOther 18 = .ok (.iload_n 1, 1) := by decide +kernel
theorem dX12_keepsOther_19 : decode cX12_keepsOther 19 = .ok (.iaload, 1) := by decide +kernel
theorem dX12_keepsOther_20 : decode cX12_keepsOther 20 = .ok (.iastore, 1) := by decide +kernel
theorem dX12_keepsOther_21 : decode cX12_keepsOther 21 = .ok (.iinc 1 1, 3) := by decide +kernel
theorem dX12_keepsOther_24 : decode cX12_keepsOther 24 = .ok (.goto (-22), 3) := by decide +kernel
theorem dX12_keepsOther_27 : decode cX12_keepsOther 27 = .ok (.return_, 1) := by decide +kernel
theorem dX12_isOther_0 : decode cX12_isOther 0 = .ok (.iconst 1, 1) := by decide +kernel
theorem dX12_isOther_1 : decode cX12_isOther 1 = .ok (.istore_n 1, 1) := by decide +kernel
theorem dX12_isOther_2 : decode cX12_isOther 2 = .ok (.iconst 0, 1) := by decide +kernel
theorem dX12_isOther_3 : decode cX12_isOther 3 = .ok (.istore_n 2, 1) := by decide +kernel
theorem dX12_isOther_4 : decode cX12_isOther 4 = .ok (.iload_n 2, 1) := by decide +kernel
theorem dX12_isOther_5 : decode cX12_isOther 5 = .ok (.sipush 128, 3) := by decide +kernel
theorem dX12_isOther_8 : decode cX12_isOther 8 = .ok (.if_icmp .ge 34, 3) := by decide +kernel
theorem dX12_isOther_11 : decode cX12_isOther 11 = .ok (.iload_n 1, 1) := by decide +kernel
theorem dX12_isOther_12 : decode cX12_isOther 12 = .ok (.ifCond .eq 22, 3) := by decide +kernel
theorem dX12_isOther_15 : decode cX12_isOther 15 = .ok (.aload_n 0, 1) := by decide +kernel
theorem dX12_isOther_16 : decode cX12_isOther 16 = .ok (.getfield 87, 3) := by decide +kernel
theorem dX12_isOther_19 : decode cX12_isOther 19 = .ok (.iload_n 2, 1) := by decide +kernel
theorem dX12_isOther_20 : decode cX12_isOther 20 = .ok (.iaload, 1) := by decide +kernel
theorem dX12_isOther_21 : decode cX12_isOther 21 = .ok (.aload_n 0, 1) := by decide +kernel
theorem dX12_isOther_22 : decode cX12_isOther 22 = .ok (.getfield 81, 3) := by decide +kernel
theorem dX12_isOther_25 : decode cX12_isOther 25 = .ok (.iload_n 2, 1) := by decide +kernel
theorem dX12_isOther_26 : decode cX12_isOther 26 = .ok (.iaload, 1) := by decide +kernel
theorem dX12_isOther_27 : decode cX12_isOther 27 = .ok (.if_icmp .ne 7, 3) := by decide +kernel
theorem dX12_isOther_30 : decode cX12_isOther 30 = .ok (.iconst 1, 1) := by decide +kernel
theorem dX12_isOther_31 : decode cX12_isOther 31 = .ok (.goto 4, 3) := by decide +kernel
theorem dX12_isOther_34 : decode cX12_isOther 34 = .ok (.iconst 0, 1) := by decide +kernel
theorem dX12_isOther_35 : decode cX12_isOther 35 = .ok (.istore_n 1, 1) := by decide +kernel
theorem dX12_isOther_36 : decode cX12_isOther 36 = .ok (.iinc 2 1, 3) := by decide +kernel
theorem dX12_isOther_39 : decode cX12_isOther 39 = .ok (.goto (-35), 3) := by decide +kernel
theorem dX12_isOther_42 : decode cX12_isOther 42 = .ok (.iload_n 1, 1) := by decide +kernel
theorem dX12_isOther_43 : decode cX12_isOther 43 = .ok (.ireturn, 1) := by decide +kernel
theorem dX12_commute_0 : decode cX12_commute 0 = .ok (.aload_n 0, 1) := by decide +kernel
theorem dX12_commute_1 : decode cX12_commute 1 = .ok (.iload_n 1, 1) := by decide +kernel
theorem dX12_commute_2 : decode cX12_commute 2 = .ok (.invokevirtual 135, 3) := by decide +kernel
theorem dX12_commute_5 : decode cX12_commute 5 = .ok (.ifCond .eq 11, 3) := by decide +kernel
theorem dX12_commute_8 : decode cX12_commute 8 = .ok (.aload_n 0, 1) := by decide +kernel
theorem dX12_commute_9 : decode cX12_commute 9 = .ok (.iload_n 2, 1) := by decide +kernel
theorem dX12_commute_10 : decode cX12_commute 10 = .ok (.invokevirtual 135, 3) := by decide +kernel
theorem dX12_commute_13 : decode cX12_commute 13 = .ok (.ifCond .ne 5, 3) := by decide +kernel
theorem dX12_commute_16 : decode cX12_commute 16 = .ok (.iconst 0, 1) := by decide +kernel
theorem dX12_commute_17 : decode cX12_commute 17 = .ok (.ireturn, 1) := by decide +kernel
theorem dX12_commute_18 : decode cX12_commute 18 = .ok (.iconst 1, 1) := by decide +kernel
theorem dX12_commute_19 : decode cX12_commute 19 = .ok (.istore_n 3, 1) := by decide +kernel
theorem dX12_commute_20 : decode cX12_commute 20 = .ok (.iconst 0, 1) := by decide +kernel
theorem dX12_commute_21 : decode cX12_commute 21 = .ok (.istore 4, 2) := by decide +kernel
theorem dX12_commute_23 : decode cX12_commute 23 = .ok (.iload 4, 2) := by decide +kernel
theorem dX12_commute_25 : decode cX12_commute 25 = .ok (.aload_n 0, 1) := by decide +kernel
theorem dX12_commute_26 : decode cX12_commute 26 = .ok (.invokevirtual 128, 3) := by decide +kernel
theorem dX12_commute_29 : decode cX12_commute 29 = .ok (.if_icmp .ge 54, 3) := by decide +kernel
theorem dX12_commute_32 : decode cX12_commute 32 = .ok (.iload_n 3, 1) := by decide +kernel
theorem dX12_commute_33 : decode cX12_commute 33 = .ok (.ifCond .eq 50, 3) := by decide +kernel
theorem dX12_commute_36 : decode cX12_commute 36 = .ok (.aload_n 0, 1) := by decide +kernel
theorem dX12_commute_37 : decode cX12_commute 37 = .ok (.iload 4, 2) := by decide +kernel
theorem dX12_commute_39 : decode cX12_commute 39 = .ok (.invokevirtual 317, 3) := by decide +kernel
theorem dX12_commute_42 : decode cX12_commute 42 = .ok (.aload_n 0, 1) := by decide +kernel
theorem dX12_commute_43 : decode cX12_commute 43 = .ok (.iload_n 1, 1) := by decide +kernel
theorem dX12_commute_44 : decode cX12_commute 44 = .ok (.invokevirtual 323, 3) := by decide +kernel
theorem dX12_commute_47 : decode cX12_commute 47 = .ok (.aload_n 0, 1) := by decide +kernel
theorem dX12_commute_48 : decode cX12_commute 48 = .ok (.iload_n 2, 1) := by decide +kernel
theorem dX12_commute_49 : decode cX12_commute 49 = .ok (.invokevirtual 323, 3) := by decide +kernel
theorem dX12_commute_52 : decode cX12_commute 52 = .ok (.aload_n 0, 1) := by decide +kernel
theorem dX12_commute_53 : decode cX12_commute 53 = .ok (.invokevirtual 326, 3) := by decide +kernel
theorem dX12_commute_56 : decode cX12_commute 56 = .ok (.aload_n 0, 1) := by decide +kernel
theorem dX12_commute_57 : decode cX12_commute 57 = .ok (.iload 4, 2) := by decide +kernel
theorem dX12_commute_59 : decode cX12_commute 59 = .ok (.invokevirtual 317, 3) := by decide +kernel
theorem dX12_commute_62 : decode cX12_commute 62 = .ok (.aload_n 0, 1) := by decide +kernel
theorem dX12_commute_63 : decode cX12_commute 63 = .ok (.iload_n 2, 1) := by decide +kernel
theorem dX12_commute_64 : decode cX12_commute 64 = .ok (.invokevirtual 323, 3) := by decide +kernel
theorem dX12_commute_67 : decode cX12_commute 67 = .ok (.aload_n 0, 1) := by decide +kernel
theorem dX12_commute_68 : decode cX12_commute 68 = .ok (.iload_n 1, 1) := by decide +kernel
theorem dX12_commute_69 : decode cX12_commute 69 = .ok (.invokevirtual 323, 3) := by decide +kernel
theorem dX12_commute_72 : decode cX12_commute 72 = .ok (.aload_n 0, 1) := by decide +kernel
theorem dX12_commute_73 : decode cX12_commute 73 = .ok (.invokevirtual 329, 3) := by decide +kernel
theorem dX12_commute_76 : decode cX12_commute 76 = .ok (.istore_n 3, 1) := by decide +kernel
theorem dX12_commute_77 : decode cX12_commute 77 = .ok (.iinc 4 1, 3) := by decide +kernel
theorem dX12_commute_80 : decode cX12_commute 80 = .ok (.goto (-57), 3) := by decide +kernel
theorem dX12_commute_83 : decode cX12_commute 83 = .ok (.iload_n 3, 1) := by decide +kernel
theorem dX12_commute_84 : decode cX12_commute 84 = .ok (.ireturn, 1) := by decide +kernel
theorem dX12_keeps_0 : decode cX12_keeps 0 = .ok (.aload_n 0, 1) := by decide +kernel
theorem dX12_keeps_1 : decode cX12_keeps 1 = .ok (.iload_n 1, 1) := by decide +kernel
theorem dX12_keeps_2 : decode cX12_keeps 2 = .ok (.invokevirtual 135, 3) := by decide +kernel
theorem dX12_keeps_5 : decode cX12_keeps 5 = .ok (.ifCond .ne 5, 3) := by decide +kernel
theorem dX12_keeps_8 : decode cX12_keeps 8 = .ok (.iconst 0, 1) := by decide +kernel
theorem dX12_keeps_9 : decode cX12_keeps 9 = .ok (.ireturn, 1) := by decide +kernel
theorem dX12_keeps_10 : decode cX12_keeps 10 = .ok (.iconst 1, 1) := by decide +kernel
theorem dX12_keeps_11 : decode cX12_keeps 11 = .ok (.istore_n 2, 1) := by decide +kernel
theorem dX12_keeps_12 : decode cX12_keeps 12 = .ok (.iconst 0, 1) := by decide +kernel
theorem dX12_keeps_13 : decode cX12_keeps 13 = .ok (.istore_n 3, 1) := by decide +kernel
theorem dX12_keeps_14 : decode cX12_keeps 14 = .ok (.iload_n 3, 1) := by decide +kernel
theorem dX12_keeps_15 : decode cX12_keeps 15 = .ok (.aload_n 0, 1) := by decide +kernel
theorem dX12_keeps_16 : decode cX12_keeps 16 = .ok (.invokevirtual 128, 3) := by decide +kernel
theorem dX12_keeps_19 : decode cX12_keeps 19 = .ok (.if_icmp .ge 50, 3) := by decide +kernel
theorem dX12_keeps_22 : decode cX12_keeps 22 = .ok (.iload_n 2, 1) := by decide +kernel
theorem dX12_keeps_23 : decode cX12_keeps 23 = .ok (.ifCond .eq 46, 3) := by decide +kernel
theorem dX12_keeps_26 : decode cX12_keeps 26 = .ok (.aload_n 0, 1) := by decide +kernel
theorem dX12_keeps_27 : decode cX12_keeps 27 = .ok (.iload_n 3, 1) := by decide +kernel
theorem dX12_keeps_28 : decode cX12_keeps 28 = .ok (.invokevirtual 317, 3) := by decide +kernel
