theorem dX8_swapBoth_68 : decode cX8_swapBoth 68 = .ok (.iadd, 1) := by decide +kernel
theorem dX8_swapBoth_69 : decode cX8_swapBoth 69 = .ok (.invokevirtual 94, 3) := by decide +kernel
theorem dX8_swapBoth_72 : decode cX8_swapBoth 72 = .ok (.iinc 3 1, 3) := by decide +kernel
theorem dX8_swapBoth_75 : decode cX8_swapBoth 75 = .ok (.goto (-31), 3) := by decide +kernel
theorem dX8_swapBoth_78 : decode cX8_swapBoth 78 = .ok (.return_, 1) := by decide +kernel
theorem dX8_swapCells_0 : decode cX8_swapCells 0 = .ok (.aload_n 0, 1) := by decide +kernel
theorem dX8_swapCells_1 : decode cX8_swapCells 1 = .ok (.getfield 25, 3) := by decide +kernel
theorem dX8_swapCells_4 : decode cX8_swapCells 4 = .ok (.iload_n 1, 1) := by decide +kernel
theorem dX8_swapCells_5 : decode cX8_swapCells 5 = .ok (.iaload, 1) := by decide +kernel
theorem dX8_swapCells_6 : decode cX8_swapCells 6 = .ok (.istore_n 3, 1) := by decide +kernel
theorem dX8_swapCells_7 : decode cX8_swapCells 7 = .ok (.aload_n 0, 1) := by decide +kernel
theorem dX8_swapCells_8 : decode cX8_swapCells 8 = .ok (.getfield 25, 3) := by decide +kernel
theorem dX8_swapCells_11 : decode cX8_swapCells 11 = .ok (.iload_n 1, 1) := by decide +kernel
theorem dX8_swapCells_12 : decode cX8_swapCells 12 = .ok (.aload_n 0, 1) := by decide +kernel
theorem dX8_swapCells_13 : decode cX8_swapCells 13 = .ok (.getfield 25, 3) := by decide +kernel
theorem dX8_swapCells_16 : decode cX8_swapCells 16 = .ok (.iload_n 2, 1) := by decide +kernel
theorem dX8_swapCells_17 : decode cX8_swapCells 17 = .ok (.iaload, 1) := by decide +kernel
theorem dX8_swapCells_18 : decode cX8_swapCells 18 = .ok (.iastore, 1) := by decide +kernel
theorem dX8_swapCells_19 : decode cX8_swapCells 19 = .ok (.aload_n 0, 1) := by decide +kernel
theorem dX8_swapCells_20 : decode cX8_swapCells 20 = .ok (.getfield 25, 3) := by decide +kernel
theorem dX8_swapCells_23 : decode cX8_swapCells 23 = .ok (.iload_n 2, 1) := by decide +kernel
theorem dX8_swapCells_24 : decode cX8_swapCells 24 = .ok (.iload_n 3, 1) := by decide +kernel
theorem dX8_swapCells_25 : decode cX8_swapCells 25 = .ok (.iastore, 1) := by decide +kernel
theorem dX8_swapCells_26 : decode cX8_swapCells 26 = .ok (.return_, 1) := by decide +kernel
theorem dX8_takeRowOff_0 : decode cX8_takeRowOff 0 = .ok (.iload_n 1, 1) := by decide +kernel
theorem dX8_takeRowOff_1 : decode cX8_takeRowOff 1 = .ok (.iconst 1, 1) := by decide +kernel
theorem dX8_takeRowOff_2 : decode cX8_takeRowOff 2 = .ok (.isub, 1) := by decide +kernel
theorem dX8_takeRowOff_3 : decode cX8_takeRowOff 3 = .ok (.istore 4, 2) := by decide +kernel
theorem dX8_takeRowOff_5 : decode cX8_takeRowOff 5 = .ok (.iload 4, 2) := by decide +kernel
theorem dX8_takeRowOff_7 : decode cX8_takeRowOff 7 = .ok (.aload_n 0, 1) := by decide +kernel
theorem dX8_takeRowOff_8 : decode cX8_takeRowOff 8 = .ok (.getfield 41, 3) := by decide +kernel
theorem dX8_takeRowOff_11 : decode cX8_takeRowOff 11 = .ok (.if_icmp .ge 64, 3) := by decide +kernel
theorem dX8_takeRowOff_14 : decode cX8_takeRowOff 14 = .ok (.aload_n 0, 1) := by decide +kernel
theorem dX8_takeRowOff_15 : decode cX8_takeRowOff 15 = .ok (.getfield 25, 3) := by decide +kernel
theorem dX8_takeRowOff_18 : decode cX8_takeRowOff 18 = .ok (.iload_n 2, 1) := by decide +kernel
theorem dX8_takeRowOff_19 : decode cX8_takeRowOff 19 = .ok (.aload_n 0, 1) := by decide +kernel
theorem dX8_takeRowOff_20 : decode cX8_takeRowOff 20 = .ok (.getfield 41, 3) := by decide +kernel
theorem dX8_takeRowOff_23 : decode cX8_takeRowOff 23 = .ok (.imul, 1) := by decide +kernel
theorem dX8_takeRowOff_24 : decode cX8_takeRowOff 24 = .ok (.iload 4, 2) := by decide +kernel
theorem dX8_takeRowOff_26 : decode cX8_takeRowOff 26 = .ok (.iadd, 1) := by decide +kernel
theorem dX8_takeRowOff_27 : decode cX8_takeRowOff 27 = .ok (.aload_n 0, 1) := by decide +kernel
theorem dX8_takeRowOff_28 : decode cX8_takeRowOff 28 = .ok (.getfield 25, 3) := by decide +kernel
theorem dX8_takeRowOff_31 : decode cX8_takeRowOff 31 = .ok (.iload_n 2, 1) := by decide +kernel
theorem dX8_takeRowOff_32 : decode cX8_takeRowOff 32 = .ok (.aload_n 0, 1) := by decide +kernel
theorem dX8_takeRowOff_33 : decode cX8_takeRowOff 33 = .ok (.getfield 41, 3) := by decide +kernel
theorem dX8_takeRowOff_36 : decode cX8_takeRowOff 36 = .ok (.imul, 1) := by decide +kernel
theorem dX8_takeRowOff_37 : decode cX8_takeRowOff 37 = .ok (.iload 4, 2) := by decide +kernel
theorem dX8_takeRowOff_39 : decode cX8_takeRowOff 39 = .ok (.iadd, 1) := by decide +kernel
theorem dX8_takeRowOff_40 : decode cX8_takeRowOff 40 = .ok (.iaload, 1) := by decide +kernel
theorem dX8_takeRowOff_41 : decode cX8_takeRowOff 41 = .ok (.iload_n 3, 1) := by decide +kernel
theorem dX8_takeRowOff_42 : decode cX8_takeRowOff 42 = .ok (.aload_n 0, 1) := by decide +kernel
theorem dX8_takeRowOff_43 : decode cX8_takeRowOff 43 = .ok (.getfield 25, 3) := by decide +kernel
theorem dX8_takeRowOff_46 : decode cX8_takeRowOff 46 = .ok (.iload_n 1, 1) := by decide +kernel
theorem dX8_takeRowOff_47 : decode cX8_takeRowOff 47 = .ok (.aload_n 0, 1) := by decide +kernel
theorem dX8_takeRowOff_48 : decode cX8_takeRowOff 48 = .ok (.getfield 41, 3) := by decide +kernel
theorem dX8_takeRowOff_51 : decode cX8_takeRowOff 51 = .ok (.imul, 1) := by decide +kernel
theorem dX8_takeRowOff_52 : decode cX8_takeRowOff 52 = .ok (.iload 4, 2) := by decide +kernel
theorem dX8_takeRowOff_54 : decode cX8_takeRowOff 54 = .ok (.iadd, 1) := by decide +kernel
theorem dX8_takeRowOff_55 : decode cX8_takeRowOff 55 = .ok (.iaload, 1) := by decide +kernel
theorem dX8_takeRowOff_56 : decode cX8_takeRowOff 56 = .ok (.imul, 1) := by decide +kernel
theorem dX8_takeRowOff_57 : decode cX8_takeRowOff 57 = .ok (.isub, 1) := by decide +kernel
theorem dX8_takeRowOff_58 : decode cX8_takeRowOff 58 = .ok (.aload_n 0, 1) := by decide +kernel
theorem dX8_takeRowOff_59 : decode cX8_takeRowOff 59 = .ok (.getfield 12, 3) := by decide +kernel
theorem dX8_takeRowOff_62 : decode cX8_takeRowOff 62 = .ok (.getfield 83, 3) := by decide +kernel
theorem dX8_takeRowOff_65 : decode cX8_takeRowOff 65 = .ok (.invokestatic 97, 3) := by decide +kernel
theorem dX8_takeRowOff_68 : decode cX8_takeRowOff 68 = .ok (.iastore, 1) := by decide +kernel
theorem dX8_takeRowOff_69 : decode cX8_takeRowOff 69 = .ok (.iinc 4 1, 3) := by decide +kernel
theorem dX8_takeRowOff_72 : decode cX8_takeRowOff 72 = .ok (.goto (-67), 3) := by decide +kernel
theorem dX8_takeRowOff_75 : decode cX8_takeRowOff 75 = .ok (.iconst 0, 1) := by decide +kernel
theorem dX8_takeRowOff_76 : decode cX8_takeRowOff 76 = .ok (.istore 4, 2) := by decide +kernel
theorem dX8_takeRowOff_78 : decode cX8_takeRowOff 78 = .ok (.iload 4, 2) := by decide +kernel
theorem dX8_takeRowOff_80 : decode cX8_takeRowOff 80 = .ok (.aload_n 0, 1) := by decide +kernel
theorem dX8_takeRowOff_81 : decode cX8_takeRowOff 81 = .ok (.getfield 41, 3) := by decide +kernel
theorem dX8_takeRowOff_84 : decode cX8_takeRowOff 84 = .ok (.if_icmp .ge 64, 3) := by decide +kernel
theorem dX8_takeRowOff_87 : decode cX8_takeRowOff 87 = .ok (.aload_n 0, 1) := by decide +kernel
theorem dX8_takeRowOff_88 : decode cX8_takeRowOff 88 = .ok (.getfield 25, 3) := by decide +kernel
theorem dX8_takeRowOff_91 : decode cX8_takeRowOff 91 = .ok (.iload 4, 2) := by decide +kernel
theorem dX8_takeRowOff_93 : decode cX8_takeRowOff 93 = .ok (.aload_n 0, 1) := by decide +kernel
theorem dX8_takeRowOff_94 : decode cX8_takeRowOff 94 = .ok (.getfield 41, 3) := by decide +kernel
theorem dX8_takeRowOff_97 : decode cX8_takeRowOff 97 = .ok (.imul, 1) := by decide +kernel
theorem dX8_takeRowOff_98 : decode cX8_takeRowOff 98 = .ok (.iload_n 1, 1) := by decide +kernel
theorem dX8_takeRowOff_99 : decode cX8_takeRowOff 99 = .ok (.iadd, 1) := by decide +kernel
theorem dX8_takeRowOff_100 : decode cX8_takeRowOff 100 = .ok (.aload_n 0, 1) := by decide +kernel
theorem dX8_takeRowOff_101 : decode cX8_takeRowOff 101 = .ok (.getfield 25, 3) := by decide +kernel
theorem dX8_takeRowOff_104 : decode cX8_takeRowOff 104 = .ok (.iload 4, 2) := by decide +kernel
theorem dX8_takeRowOff_106 : decode cX8_takeRowOff 106 = .ok (.aload_n 0, 1) := by decide +kernel
theorem dX8_takeRowOff_107 : decode cX8_takeRowOff 107 = .ok (.getfield 41, 3) := by decide +kernel
theorem dX8_takeRowOff_110 : decode cX8_takeRowOff 110 = .ok (.imul, 1) := by decide +kernel
theorem dX8_takeRowOff_111 : decode cX8_takeRowOff 111 = .ok (.iload_n 1, 1) := by decide +kernel
theorem dX8_takeRowOff_112 : decode cX8_takeRowOff 112 = .ok (.iadd, 1) := by decide +kernel
theorem dX8_takeRowOff_113 : decode cX8_takeRowOff 113 = .ok (.iaload, 1) := by decide +kernel
theorem dX8_takeRowOff_114 : decode cX8_takeRowOff 114 = .ok (.iload_n 3, 1) := by decide +kernel
theorem dX8_takeRowOff_115 : decode cX8_takeRowOff 115 = .ok (.aload_n 0, 1) := by decide +kernel
theorem dX8_takeRowOff_116 : decode cX8_takeRowOff 116 = .ok (.getfield 25, 3) := by decide +kernel
theorem dX8_takeRowOff_119 : decode cX8_takeRowOff 119 = .ok (.iload 4, 2) := by decide +kernel
theorem dX8_takeRowOff_121 : decode cX8_takeRowOff 121 = .ok (.aload_n 0, 1) := by decide +kernel
theorem dX8_takeRowOff_122 : decode cX8_takeRowOff 122 = .ok (.getfield 41, 3) := by decide +kernel
theorem dX8_takeRowOff_125 : decode cX8_takeRowOff 125 = .ok (.imul, 1) := by decide +kernel
theorem dX8_takeRowOff_126 : decode cX8_takeRowOff 126 = .ok (.iload_n 2, 1) := by decide +kernel
theorem dX8_takeRowOff_127 : decode cX8_takeRowOff 127 = .ok (.iadd, 1) := by decide +kernel
theorem dX8_takeRowOff_128 : decode cX8_takeRowOff 128 = .ok (.iaload, 1) := by decide +kernel
theorem dX8_takeRowOff_129 : decode cX8_takeRowOff 129 = .ok (.imul, 1) := by decide +kernel
theorem dX8_takeRowOff_130 : decode cX8_takeRowOff 130 = .ok (.iadd, 1) := by decide +kernel
theorem dX8_takeRowOff_131 : decode cX8_takeRowOff 131 = .ok (.aload_n 0, 1) := by decide +kernel
theorem dX8_takeRowOff_132 : decode cX8_takeRowOff 132 = .ok (.getfield 12, 3) := by decide +kernel
theorem dX8_takeRowOff_135 : decode cX8_takeRowOff 135 = .ok (.getfield 83, 3) := by decide +kernel
theorem dX8_takeRowOff_138 : decode cX8_takeRowOff 138 = .ok (.invokestatic 97, 3) := by decide +kernel
theorem dX8_takeRowOff_141 : decode cX8_takeRowOff 141 = .ok (.iastore, 1) := by decide +kernel
theorem dX8_takeRowOff_142 : decode cX8_takeRowOff 142 = .ok (.iinc 4 1, 3) := by decide +kernel
theorem dX8_takeRowOff_145 : decode cX8_takeRowOff 145 = .ok (.goto (-67), 3) := by decide +kernel
theorem dX8_takeRowOff_148 : decode cX8_takeRowOff 148 = .ok (.return_, 1) := by decide +kernel
theorem dX8_findTerms_0 : decode cX8_findTerms 0 = .ok (.aload_n 0, 1) := by decide +kernel
theorem dX8_findTerms_1 : decode cX8_findTerms 1 = .ok (.getfield 29, 3) := by decide +kernel
theorem dX8_findTerms_4 : decode cX8_findTerms 4 = .ok (.invokestatic 101, 3) := by decide +kernel
theorem dX8_findTerms_7 : decode cX8_findTerms 7 = .ok (.aload_n 0, 1) := by decide +kernel
theorem dX8_findTerms_8 : decode cX8_findTerms 8 = .ok (.getfield 29, 3) := by decide +kernel
theorem dX8_findTerms_11 : decode cX8_findTerms 11 = .ok (.iconst 0, 1) := by decide +kernel
theorem dX8_findTerms_12 : decode cX8_findTerms 12 = .ok (.iconst 1, 1) := by decide +kernel
theorem dX8_findTerms_13 : decode cX8_findTerms 13 = .ok (.iastore, 1) := by decide +kernel
theorem dX8_findTerms_14 : decode cX8_findTerms 14 = .ok (.iconst 0, 1) := by decide +kernel
theorem dX8_findTerms_15 : decode cX8_findTerms 15 = .ok (.istore_n 1, 1) := by decide +kernel
theorem dX8_findTerms_16 : decode cX8_findTerms 16 = .ok (.iload_n 1, 1) := by decide +kernel
theorem dX8_findTerms_17 : decode cX8_findTerms 17 = .ok (.aload_n 0, 1) := by decide +kernel
theorem dX8_findTerms_18 : decode cX8_findTerms 18 = .ok (.getfield 41, 3) := by decide +kernel
theorem dX8_findTerms_21 : decode cX8_findTerms 21 = .ok (.if_icmp .ge 135, 3) := by decide +kernel
theorem dX8_findTerms_24 : decode cX8_findTerms 24 = .ok (.iconst 0, 1) := by decide +kernel
theorem dX8_findTerms_25 : decode cX8_findTerms 25 = .ok (.istore_n 2, 1) := by decide +kernel
theorem dX8_findTerms_26 : decode cX8_findTerms 26 = .ok (.iload_n 2, 1) := by decide +kernel
theorem dX8_findTerms_27 : decode cX8_findTerms 27 = .ok (.iload_n 1, 1) := by decide +kernel
theorem dX8_findTerms_28 : decode cX8_findTerms 28 = .ok (.if_icmp .gt 35, 3) := by decide +kernel
theorem dX8_findTerms_31 : decode cX8_findTerms 31 = .ok (.aload_n 0, 1) := by decide +kernel
theorem dX8_findTerms_32 : decode cX8_findTerms 32 = .ok (.getfield 29, 3) := by decide +kernel
theorem dX8_findTerms_35 : decode cX8_findTerms 35 = .ok (.iload_n 1, 1) := by decide +kernel
theorem dX8_findTerms_36 : decode cX8_findTerms 36 = .ok (.iconst 1, 1) := by decide +kernel
theorem dX8_findTerms_37 : decode cX8_findTerms 37 = .ok (.iadd, 1) := by decide +kernel
theorem dX8_findTerms_38 : decode cX8_findTerms 38 = .ok (.bipush 36, 2) := by decide +kernel
theorem dX8_findTerms_40 : decode cX8_findTerms 40 = .ok (.imul, 1) := by decide +kernel
theorem dX8_findTerms_41 : decode cX8_findTerms 41 = .ok (.iload_n 2, 1) := by decide +kernel
theorem dX8_findTerms_42 : decode cX8_findTerms 42 = .ok (.iadd, 1) := by decide +kernel
theorem dX8_findTerms_43 : decode cX8_findTerms 43 = .ok (.iconst 1, 1) := by decide +kernel
theorem dX8_findTerms_44 : decode cX8_findTerms 44 = .ok (.iadd, 1) := by decide +kernel
theorem dX8_findTerms_45 : decode cX8_findTerms 45 = .ok (.aload_n 0, 1) := by decide +kernel
theorem dX8_findTerms_46 : decode cX8_findTerms 46 = .ok (.getfield 29, 3) := by decide +kernel
theorem dX8_findTerms_49 : decode cX8_findTerms 49 = .ok (.iload_n 1, 1) := by decide +kernel
theorem dX8_findTerms_50 : decode cX8_findTerms 50 = .ok (.bipush 36, 2) := by decide +kernel
theorem dX8_findTerms_52 : decode cX8_findTerms 52 = .ok (.imul, 1) := by decide +kernel
theorem dX8_findTerms_53 : decode cX8_findTerms 53 = .ok (.iload_n 2, 1) := by decide +kernel
theorem dX8_findTerms_54 : decode cX8_findTerms 54 = .ok (.iadd, 1) := by decide +kernel
theorem dX8_findTerms_55 : decode cX8_findTerms 55 = .ok (.iaload, 1) := by decide +kernel
theorem dX8_findTerms_56 : decode cX8_findTerms 56 = .ok (.iastore, 1) := by decide +kernel
theorem dX8_findTerms_57 : decode cX8_findTerms 57 = .ok (.iinc 2 1, 3) := by decide +kernel
theorem dX8_findTerms_60 : decode cX8_findTerms 60 = .ok (.goto (-34), 3) := by decide +kernel
theorem dX8_findTerms_63 : decode cX8_findTerms 63 = .ok (.iconst 1, 1) := by decide +kernel
theorem dX8_findTerms_64 : decode cX8_findTerms 64 = .ok (.istore_n 2, 1) := by decide +kernel
theorem dX8_findTerms_65 : decode cX8_findTerms 65 = .ok (.iload_n 1, 1) := by decide +kernel
theorem dX8_findTerms_66 : decode cX8_findTerms 66 = .ok (.istore_n 3, 1) := by decide +kernel
theorem dX8_findTerms_67 : decode cX8_findTerms 67 = .ok (.iload_n 3, 1) := by decide +kernel
theorem dX8_findTerms_68 : decode cX8_findTerms 68 = .ok (.ifCond .lt 82, 3) := by decide +kernel
theorem dX8_findTerms_71 : decode cX8_findTerms 71 = .ok (.iload_n 2, 1) := by decide +kernel
theorem dX8_findTerms_72 : decode cX8_findTerms 72 = .ok (.ifCond .eq 78, 3) := by decide +kernel
theorem dX8_findTerms_75 : decode cX8_findTerms 75 = .ok (.aload_n 0, 1) := by decide +kernel
theorem dX8_findTerms_76 : decode cX8_findTerms 76 = .ok (.iload_n 1, 1) := by decide +kernel
theorem dX8_findTerms_77 : decode cX8_findTerms 77 = .ok (.iconst 1, 1) := by decide +kernel
theorem dX8_findTerms_78 : decode cX8_findTerms 78 = .ok (.iadd, 1) := by decide +kernel
theorem dX8_findTerms_79 : decode cX8_findTerms 79 = .ok (.iload_n 3, 1) := by decide +kernel
theorem dX8_findTerms_80 : decode cX8_findTerms 80 = .ok (.aload_n 0, 1) := by decide +kernel
theorem dX8_findTerms_81 : decode cX8_findTerms 81 = .ok (.getfield 25, 3) := by decide +kernel
theorem dX8_findTerms_84 : decode cX8_findTerms 84 = .ok (.iload_n 3, 1) := by decide +kernel
theorem dX8_findTerms_85 : decode cX8_findTerms 85 = .ok (.aload_n 0, 1) := by decide +kernel
theorem dX8_findTerms_86 : decode cX8_findTerms 86 = .ok (.getfield 41, 3) := by decide +kernel
theorem dX8_findTerms_89 : decode cX8_findTerms 89 = .ok (.imul, 1) := by decide +kernel
theorem dX8_findTerms_90 : decode cX8_findTerms 90 = .ok (.iload_n 1, 1) := by decide +kernel
theorem dX8_findTerms_91 : decode cX8_findTerms 91 = .ok (.iadd, 1) := by decide +kernel
theorem dX8_findTerms_92 : decode cX8_findTerms 92 = .ok (.iaload, 1) := by decide +kernel
theorem dX8_findTerms_93 : decode cX8_findTerms 93 = .ok (.iload_n 2, 1) := by decide +kernel
theorem dX8_findTerms_94 : decode cX8_findTerms 94 = .ok (.imul, 1) := by decide +kernel
theorem dX8_findTerms_95 : decode cX8_findTerms 95 = .ok (.aload_n 0, 1) := by decide +kernel
theorem dX8_findTerms_96 : decode cX8_findTerms 96 = .ok (.getfield 12, 3) := by decide +kernel
theorem dX8_findTerms_99 : decode cX8_findTerms 99 = .ok (.getfield 83, 3) := by decide +kernel
theorem dX8_findTerms_102 : decode cX8_findTerms 102 = .ok (.invokestatic 97, 3) := by decide +kernel
theorem dX8_findTerms_105 : decode cX8_findTerms 105 = .ok (.invokevirtual 105, 3) := by decide +kernel
theorem dX8_findTerms_108 : decode cX8_findTerms 108 = .ok (.iload_n 3, 1) := by decide +kernel
theorem dX8_findTerms_109 : decode cX8_findTerms 109 = .ok (.ifCond .le 33, 3) := by decide +kernel
theorem dX8_findTerms_112 : decode cX8_findTerms 112 = .ok (.iload_n 2, 1) := by decide +kernel
theorem dX8_findTerms_113 : decode cX8_findTerms 113 = .ok (.aload_n 0, 1) := by decide +kernel
theorem dX8_findTerms_114 : decode cX8_findTerms 114 = .ok (.getfield 25, 3) := by decide +kernel
theorem dX8_findTerms_117 : decode cX8_findTerms 117 = .ok (.iload_n 3, 1) := by decide +kernel
theorem dX8_findTerms_118 : decode cX8_findTerms 118 = .ok (.aload_n 0, 1) := by decide +kernel
theorem dX8_findTerms_119 : decode cX8_findTerms 119 = .ok (.getfield 41, 3) := by decide +kernel
theorem dX8_findTerms_122 : decode cX8_findTerms 122 = .ok (.imul, 1) := by decide +kernel
theorem dX8_findTerms_123 : decode cX8_findTerms 123 = .ok (.iload_n 3, 1) := by decide +kernel
theorem dX8_findTerms_124 : decode cX8_findTerms 124 = .ok (.iadd, 1) := by decide +kernel
theorem dX8_findTerms_125 : decode cX8_findTerms 125 = .ok (.iconst 1, 1) := by decide +kernel
theorem dX8_findTerms_126 : decode cX8_findTerms 126 = .ok (.isub, 1) := by decide +kernel
theorem dX8_findTerms_127 : decode cX8_findTerms 127 = .ok (.iaload, 1) := by decide +kernel
theorem dX8_findTerms_128 : decode cX8_findTerms 128 = .ok (.imul, 1) := by decide +kernel
theorem dX8_findTerms_129 : decode cX8_findTerms 129 = .ok (.aload_n 0, 1) := by decide +kernel
theorem dX8_findTerms_130 : decode cX8_findTerms 130 = .ok (.getfield 12, 3) := by decide +kernel
theorem dX8_findTerms_133 : decode cX8_findTerms 133 = .ok (.getfield 83, 3) := by decide +kernel
theorem dX8_findTerms_136 : decode cX8_findTerms 136 = .ok (.invokestatic 97, 3) := by decide +kernel
theorem dX8_findTerms_139 : decode cX8_findTerms 139 = .ok (.goto 4, 3) := by decide +kernel
theorem dX8_findTerms_142 : decode cX8_findTerms 142 = .ok (.iconst 0, 1) := by decide +kernel
theorem dX8_findTerms_143 : decode cX8_findTerms 143 = .ok (.istore_n 2, 1) := by decide +kernel
theorem dX8_findTerms_144 : decode cX8_findTerms 144 = .ok (.iinc 3 (-1), 3) := by decide +kernel
theorem dX8_findTerms_147 : decode cX8_findTerms 147 = .ok (.goto (-80), 3) := by decide +kernel
theorem dX8_findTerms_150 : decode cX8_findTerms 150 = .ok (.iinc 1 1, 3) := by decide +kernel
theorem dX8_findTerms_153 : decode cX8_findTerms 153 = .ok (.goto (-137), 3) := by decide +kernel
theorem dX8_findTerms_156 : decode cX8_findTerms 156 = .ok (.aload_n 0, 1) := by decide +kernel
theorem dX8_findTerms_157 : decode cX8_findTerms 157 = .ok (.getfield 29, 3) := by decide +kernel
theorem dX8_findTerms_160 : decode cX8_findTerms 160 = .ok (.aload_n 0, 1) := by decide +kernel
theorem dX8_findTerms_161 : decode cX8_findTerms 161 = .ok (.getfield 41, 3) := by decide +kernel
theorem dX8_findTerms_164 : decode cX8_findTerms 164 = .ok (.bipush 36, 2) := by decide +kernel
theorem dX8_findTerms_166 : decode cX8_findTerms 166 = .ok (.imul, 1) := by decide +kernel
theorem dX8_findTerms_167 : decode cX8_findTerms 167 = .ok (.aload_n 0, 1) := by decide +kernel
theorem dX8_findTerms_168 : decode cX8_findTerms 168 = .ok (.getfield 38, 3) := by decide +kernel
theorem dX8_findTerms_171 : decode cX8_findTerms 171 = .ok (.iconst 0, 1) := by decide +kernel
theorem dX8_findTerms_172 : decode cX8_findTerms 172 = .ok (.aload_n 0, 1) := by decide +kernel
theorem dX8_findTerms_173 : decode cX8_findTerms 173 = .ok (.getfield 41, 3) := by decide +kernel
theorem dX8_findTerms_176 : decode cX8_findTerms 176 = .ok (.iconst 1, 1) := by decide +kernel
theorem dX8_findTerms_177 : decode cX8_findTerms 177 = .ok (.iadd, 1) := by decide +kernel
theorem dX8_findTerms_178 : decode cX8_findTerms 178 = .ok (.invokestatic 108, 3) := by decide +kernel
theorem dX8_findTerms_181 : decode cX8_findTerms 181 = .ok (.return_, 1) := by decide +kernel
theorem dX8_takeStepOff_0 : decode cX8_takeStepOff 0 = .ok (.iload_n 3, 1) := by decide +kernel
theorem dX8_takeStepOff_1 : decode cX8_takeStepOff 1 = .ok (.ifCond .eq 67, 3) := by decide +kernel
theorem dX8_takeStepOff_4 : decode cX8_takeStepOff 4 = .ok (.iconst 0, 1) := by decide +kernel
theorem dX8_takeStepOff_5 : decode cX8_takeStepOff 5 = .ok (.istore 4, 2) := by decide +kernel
theorem dX8_takeStepOff_7 : decode cX8_takeStepOff 7 = .ok (.iload 4, 2) := by decide +kernel
theorem dX8_takeStepOff_9 : decode cX8_takeStepOff 9 = .ok (.iload_n 2, 1) := by decide +kernel
theorem dX8_takeStepOff_10 : decode cX8_takeStepOff 10 = .ok (.if_icmp .gt 58, 3) := by decide +kernel
theorem dX8_takeStepOff_13 : decode cX8_takeStepOff 13 = .ok (.aload_n 0, 1) := by decide +kernel
theorem dX8_takeStepOff_14 : decode cX8_takeStepOff 14 = .ok (.getfield 29, 3) := by decide +kernel
theorem dX8_takeStepOff_17 : decode cX8_takeStepOff 17 = .ok (.iload_n 1, 1) := by decide +kernel
theorem dX8_takeStepOff_18 : decode cX8_takeStepOff 18 = .ok (.bipush 36, 2) := by decide +kernel
theorem dX8_takeStepOff_20 : decode cX8_takeStepOff 20 = .ok (.imul, 1) := by decide +kernel
theorem dX8_takeStepOff_21 : decode cX8_takeStepOff 21 = .ok (.iload 4, 2) := by decide +kernel
theorem dX8_takeStepOff_23 : decode cX8_takeStepOff 23 = .ok (.iadd, 1) := by decide +kernel
theorem dX8_takeStepOff_24 : decode cX8_takeStepOff 24 = .ok (.aload_n 0, 1) := by decide +kernel
theorem dX8_takeStepOff_25 : decode cX8_takeStepOff 25 = .ok (.getfield 29, 3) := by decide +kernel
theorem dX8_takeStepOff_28 : decode cX8_takeStepOff 28 = .ok (.iload_n 1, 1) := by decide +kernel
theorem dX8_takeStepOff_29 : decode cX8_takeStepOff 29 = .ok (.bipush 36, 2) := by decide +kernel
theorem dX8_takeStepOff_31 : decode cX8_takeStepOff 31 = .ok (.imul, 1) := by decide +kernel
theorem dX8_takeStepOff_32 : decode cX8_takeStepOff 32 = .ok (.iload 4, 2) := by decide +kernel
theorem dX8_takeStepOff_34 : decode cX8_takeStepOff 34 = .ok (.iadd, 1) := by decide +kernel
theorem dX8_takeStepOff_35 : decode cX8_takeStepOff 35 = .ok (.iaload, 1) := by decide +kernel
theorem dX8_takeStepOff_36 : decode cX8_takeStepOff 36 = .ok (.iload_n 3, 1) := by decide +kernel
theorem dX8_takeStepOff_37 : decode cX8_takeStepOff 37 = .ok (.aload_n 0, 1) := by decide +kernel
theorem dX8_takeStepOff_38 : decode cX8_takeStepOff 38 = .ok (.getfield 29, 3) := by decide +kernel
theorem dX8_takeStepOff_41 : decode cX8_takeStepOff 41 = .ok (.iload_n 2, 1) := by decide +kernel
theorem dX8_takeStepOff_42 : decode cX8_takeStepOff 42 = .ok (.bipush 36, 2) := by decide +kernel
theorem dX8_takeStepOff_44 : decode cX8_takeStepOff 44 = .ok (.imul, 1) := by decide +kernel
theorem dX8_takeStepOff_45 : decode cX8_takeStepOff 45 = .ok (.iload 4, 2) := by decide +kernel
theorem dX8_takeStepOff_47 : decode cX8_takeStepOff 47 = .ok (.iadd, 1) := by decide +kernel
theorem dX8_takeStepOff_48 : decode cX8_takeStepOff 48 = .ok (.iaload, 1) := by decide +kernel
theorem dX8_takeStepOff_49 : decode cX8_takeStepOff 49 = .ok (.imul, 1) := by decide +kernel
theorem dX8_takeStepOff_50 : decode cX8_takeStepOff 50 = .ok (.isub, 1) := by decide +kernel
theorem dX8_takeStepOff_51 : decode cX8_takeStepOff 51 = .ok (.aload_n 0, 1) := by decide +kernel
theorem dX8_takeStepOff_52 : decode cX8_takeStepOff 52 = .ok (.getfield 12, 3) := by decide +kernel
theorem dX8_takeStepOff_55 : decode cX8_takeStepOff 55 = .ok (.getfield 83, 3) := by decide +kernel
theorem dX8_takeStepOff_58 : decode cX8_takeStepOff 58 = .ok (.invokestatic 97, 3) := by decide +kernel
theorem dX8_takeStepOff_61 : decode cX8_takeStepOff 61 = .ok (.iastore, 1) := by decide +kernel
theorem dX8_takeStepOff_62 : decode cX8_takeStepOff 62 = .ok (.iinc 4 1, 3) := by decide +kernel
theorem dX8_takeStepOff_65 : decode cX8_takeStepOff 65 = .ok (.goto (-58), 3) := by decide +kernel
theorem dX8_takeStepOff_68 : decode cX8_takeStepOff 68 = .ok (.return_, 1) := by decide +kernel
theorem dX8_traceOf_0 : decode cX8_traceOf 0 = .ok (.aload_n 0, 1) := by decide +kernel
theorem dX8_traceOf_1 : decode cX8_traceOf 1 = .ok (.getfield 35, 3) := by decide +kernel
theorem dX8_traceOf_4 : decode cX8_traceOf 4 = .ok (.iconst 0, 1) := by decide +kernel
theorem dX8_traceOf_5 : decode cX8_traceOf 5 = .ok (.aload_n 0, 1) := by decide +kernel
theorem dX8_traceOf_6 : decode cX8_traceOf 6 = .ok (.getfield 41, 3) := by decide +kernel
theorem dX8_traceOf_9 : decode cX8_traceOf 9 = .ok (.aload_n 0, 1) := by decide +kernel
theorem dX8_traceOf_10 : decode cX8_traceOf 10 = .ok (.getfield 12, 3) := by decide +kernel
theorem dX8_traceOf_13 : decode cX8_traceOf 13 = .ok (.getfield 83, 3) := by decide +kernel
theorem dX8_traceOf_16 : decode cX8_traceOf 16 = .ok (.invokestatic 97, 3) := by decide +kernel
theorem dX8_traceOf_19 : decode cX8_traceOf 19 = .ok (.iastore, 1) := by decide +kernel
theorem dX8_traceOf_20 : decode cX8_traceOf 20 = .ok (.iconst 1, 1) := by decide +kernel
theorem dX8_traceOf_21 : decode cX8_traceOf 21 = .ok (.istore_n 2, 1) := by decide +kernel
theorem dX8_traceOf_22 : decode cX8_traceOf 22 = .ok (.iload_n 2, 1) := by decide +kernel
theorem dX8_traceOf_23 : decode cX8_traceOf 23 = .ok (.iload_n 1, 1) := by decide +kernel
theorem dX8_traceOf_24 : decode cX8_traceOf 24 = .ok (.if_icmp .gt 108, 3) := by decide +kernel
theorem dX8_traceOf_27 : decode cX8_traceOf 27 = .ok (.iload_n 2, 1) := by decide +kernel
theorem dX8_traceOf_28 : decode cX8_traceOf 28 = .ok (.bipush 100, 2) := by decide +kernel
theorem dX8_traceOf_30 : decode cX8_traceOf 30 = .ok (.if_icmp .ge 102, 3) := by decide +kernel
theorem dX8_traceOf_33 : decode cX8_traceOf 33 = .ok (.iload_n 2, 1) := by decide +kernel
theorem dX8_traceOf_34 : decode cX8_traceOf 34 = .ok (.aload_n 0, 1) := by decide +kernel
theorem dX8_traceOf_35 : decode cX8_traceOf 35 = .ok (.getfield 41, 3) := by decide +kernel
theorem dX8_traceOf_38 : decode cX8_traceOf 38 = .ok (.if_icmp .gt 19, 3) := by decide +kernel
theorem dX8_traceOf_41 : decode cX8_traceOf 41 = .ok (.iload_n 2, 1) := by decide +kernel
theorem dX8_traceOf_42 : decode cX8_traceOf 42 = .ok (.aload_n 0, 1) := by decide +kernel
theorem dX8_traceOf_43 : decode cX8_traceOf 43 = .ok (.getfield 38, 3) := by decide +kernel
theorem dX8_traceOf_46 : decode cX8_traceOf 46 = .ok (.aload_n 0, 1) := by decide +kernel
theorem dX8_traceOf_47 : decode cX8_traceOf 47 = .ok (.getfield 41, 3) := by decide +kernel
theorem dX8_traceOf_50 : decode cX8_traceOf 50 = .ok (.iload_n 2, 1) := by decide +kernel
theorem dX8_traceOf_51 : decode cX8_traceOf 51 = .ok (.isub, 1) := by decide +kernel
theorem dX8_traceOf_52 : decode cX8_traceOf 52 = .ok (.iaload, 1) := by decide +kernel
theorem dX8_traceOf_53 : decode cX8_traceOf 53 = .ok (.imul, 1) := by decide +kernel
theorem dX8_traceOf_54 : decode cX8_traceOf 54 = .ok (.goto 4, 3) := by decide +kernel
theorem dX8_traceOf_57 : decode cX8_traceOf 57 = .ok (.iconst 0, 1) := by decide +kernel
theorem dX8_traceOf_58 : decode cX8_traceOf 58 = .ok (.istore_n 3, 1) := by decide +kernel
theorem dX8_traceOf_59 : decode cX8_traceOf 59 = .ok (.iconst 1, 1) := by decide +kernel
theorem dX8_traceOf_60 : decode cX8_traceOf 60 = .ok (.istore 4, 2) := by decide +kernel
theorem dX8_traceOf_62 : decode cX8_traceOf 62 = .ok (.iload 4, 2) := by decide +kernel
theorem dX8_traceOf_64 : decode cX8_traceOf 64 = .ok (.iload_n 2, 1) := by decide +kernel
theorem dX8_traceOf_65 : decode cX8_traceOf 65 = .ok (.if_icmp .ge 43, 3) := by decide +kernel
theorem dX8_traceOf_68 : decode cX8_traceOf 68 = .ok (.iload 4, 2) := by decide +kernel
theorem dX8_traceOf_70 : decode cX8_traceOf 70 = .ok (.aload_n 0, 1) := by decide +kernel
theorem dX8_traceOf_71 : decode cX8_traceOf 71 = .ok (.getfield 41, 3) := by decide +kernel
theorem dX8_traceOf_74 : decode cX8_traceOf 74 = .ok (.if_icmp .gt 34, 3) := by decide +kernel
theorem dX8_traceOf_77 : decode cX8_traceOf 77 = .ok (.iload_n 3, 1) := by decide +kernel
theorem dX8_traceOf_78 : decode cX8_traceOf 78 = .ok (.aload_n 0, 1) := by decide +kernel
theorem dX8_traceOf_79 : decode cX8_traceOf 79 = .ok (.getfield 38, 3) := by decide +kernel
theorem dX8_traceOf_82 : decode cX8_traceOf 82 = .ok (.aload_n 0, 1) := by decide +kernel
theorem dX8_traceOf_83 : decode cX8_traceOf 83 = .ok (.getfield 41, 3) := by decide +kernel
theorem dX8_traceOf_86 : decode cX8_traceOf 86 = .ok (.iload 4, 2) := by decide +kernel
theorem dX8_traceOf_88 : decode cX8_traceOf 88 = .ok (.isub, 1) := by decide +kernel
theorem dX8_traceOf_89 : decode cX8_traceOf 89 = .ok (.iaload, 1) := by decide +kernel
theorem dX8_traceOf_90 : decode cX8_traceOf 90 = .ok (.aload_n 0, 1) := by decide +kernel
theorem dX8_traceOf_91 : decode cX8_traceOf 91 = .ok (.getfield 35, 3) := by decide +kernel
theorem dX8_traceOf_94 : decode cX8_traceOf 94 = .ok (.iload_n 2, 1) := by decide +kernel
theorem dX8_traceOf_95 : decode cX8_traceOf 95 = .ok (.iload 4, 2) := by decide +kernel
theorem dX8_traceOf_97 : decode cX8_traceOf 97 = .ok (.isub, 1) := by decide +kernel
theorem dX8_traceOf_98 : decode cX8_traceOf 98 = .ok (.iaload, 1) := by decide +kernel
theorem dX8_traceOf_99 : decode cX8_traceOf 99 = .ok (.imul, 1) := by decide +kernel
theorem dX8_traceOf_100 : decode cX8_traceOf 100 = .ok (.iadd, 1) := by decide +kernel
theorem dX8_traceOf_101 : decode cX8_traceOf 101 = .ok (.istore_n 3, 1) := by decide +kernel
theorem dX8_traceOf_102 : decode cX8_traceOf 102 = .ok (.iinc 4 1, 3) := by decide +kernel
theorem dX8_traceOf_105 : decode cX8_traceOf 105 = .ok (.goto (-43), 3) := by decide +kernel
theorem dX8_traceOf_108 : decode cX8_traceOf 108 = .ok (.aload_n 0, 1) := by decide +kernel
theorem dX8_traceOf_109 : decode cX8_traceOf 109 = .ok (.getfield 35, 3) := by decide +kernel
theorem dX8_traceOf_112 : decode cX8_traceOf 112 = .ok (.iload_n 2, 1) := by decide +kernel
theorem dX8_traceOf_113 : decode cX8_traceOf 113 = .ok (.iload_n 3, 1) := by decide +kernel
theorem dX8_traceOf_114 : decode cX8_traceOf 114 = .ok (.ineg, 1) := by decide +kernel
theorem dX8_traceOf_115 : decode cX8_traceOf 115 = .ok (.aload_n 0, 1) := by decide +kernel
theorem dX8_traceOf_116 : decode cX8_traceOf 116 = .ok (.getfield 12, 3) := by decide +kernel
theorem dX8_traceOf_119 : decode cX8_traceOf 119 = .ok (.getfield 83, 3) := by decide +kernel
theorem dX8_traceOf_122 : decode cX8_traceOf 122 = .ok (.invokestatic 97, 3) := by decide +kernel
theorem dX8_traceOf_125 : decode cX8_traceOf 125 = .ok (.iastore, 1) := by decide +kernel
theorem dX8_traceOf_126 : decode cX8_traceOf 126 = .ok (.iinc 2 1, 3) := by decide +kernel
theorem dX8_traceOf_129 : decode cX8_traceOf 129 = .ok (.goto (-107), 3) := by decide +kernel
theorem dX8_traceOf_132 : decode cX8_traceOf 132 = .ok (.iload_n 1, 1) := by decide +kernel
theorem dX8_traceOf_133 : decode cX8_traceOf 133 = .ok (.ifCond .lt 18, 3) := by decide +kernel
theorem dX8_traceOf_136 : decode cX8_traceOf 136 = .ok (.iload_n 1, 1) := by decide +kernel
theorem dX8_traceOf_137 : decode cX8_traceOf 137 = .ok (.bipush 100, 2) := by decide +kernel
theorem dX8_traceOf_139 : decode cX8_traceOf 139 = .ok (.if_icmp .ge 12, 3) := by decide +kernel
theorem dX8_traceOf_142 : decode cX8_traceOf 142 = .ok (.aload_n 0, 1) := by decide +kernel
theorem dX8_traceOf_143 : decode cX8_traceOf 143 = .ok (.getfield 35, 3) := by decide +kernel
theorem dX8_traceOf_146 : decode cX8_traceOf 146 = .ok (.iload_n 1, 1) := by decide +kernel
theorem dX8_traceOf_147 : decode cX8_traceOf 147 = .ok (.iaload, 1) := by decide +kernel
theorem dX8_traceOf_148 : decode cX8_traceOf 148 = .ok (.goto 4, 3) := by decide +kernel
theorem dX8_traceOf_151 : decode cX8_traceOf 151 = .ok (.iconst (-1), 1) := by decide +kernel
theorem dX8_traceOf_152 : decode cX8_traceOf 152 = .ok (.ireturn, 1) := by decide +kernel
theorem dX8_valueAt_0 : decode cX8_valueAt 0 = .ok (.iconst 0, 1) := by decide +kernel
theorem dX8_valueAt_1 : decode cX8_valueAt 1 = .ok (.istore_n 2, 1) := by decide +kernel
theorem dX8_valueAt_2 : decode cX8_valueAt 2 = .ok (.aload_n 0, 1) := by decide +kernel
theorem dX8_valueAt_3 : decode cX8_valueAt 3 = .ok (.getfield 41, 3) := by decide +kernel
theorem dX8_valueAt_6 : decode cX8_valueAt 6 = .ok (.istore_n 3, 1) := by decide +kernel
theorem dX8_valueAt_7 : decode cX8_valueAt 7 = .ok (.iload_n 3, 1) := by decide +kernel
theorem dX8_valueAt_8 : decode cX8_valueAt 8 = .ok (.ifCond .lt 30, 3) := by decide +kernel
theorem dX8_valueAt_11 : decode cX8_valueAt 11 = .ok (.iload_n 2, 1) := by decide +kernel
theorem dX8_valueAt_12 : decode cX8_valueAt 12 = .ok (.iload_n 1, 1) := by decide +kernel
theorem dX8_valueAt_13 : decode cX8_valueAt 13 = .ok (.imul, 1) := by decide +kernel
theorem dX8_valueAt_14 : decode cX8_valueAt 14 = .ok (.aload_n 0, 1) := by decide +kernel
theorem dX8_valueAt_15 : decode cX8_valueAt 15 = .ok (.getfield 38, 3) := by decide +kernel
theorem dX8_valueAt_18 : decode cX8_valueAt 18 = .ok (.iload_n 3, 1) := by decide +kernel
theorem dX8_valueAt_19 : decode cX8_valueAt 19 = .ok (.iaload, 1) := by decide +kernel
theorem dX8_valueAt_20 : decode cX8_valueAt 20 = .ok (.iadd, 1) := by decide +kernel
theorem dX8_valueAt_21 : decode cX8_valueAt 21 = .ok (.aload_n 0, 1) := by decide +kernel
theorem dX8_valueAt_22 : decode cX8_valueAt 22 = .ok (.getfield 12, 3) := by decide +kernel
theorem dX8_valueAt_25 : decode cX8_valueAt 25 = .ok (.getfield 83, 3) := by decide +kernel
theorem dX8_valueAt_28 : decode cX8_valueAt 28 = .ok (.invokestatic 97, 3) := by decide +kernel
theorem dX8_valueAt_31 : decode cX8_valueAt 31 = .ok (.istore_n 2, 1) := by decide +kernel
theorem dX8_valueAt_32 : decode cX8_valueAt 32 = .ok (.iinc 3 (-1), 3) := by decide +kernel
theorem dX8_valueAt_35 : decode cX8_valueAt 35 = .ok (.goto (-28), 3) := by decide +kernel
theorem dX8_valueAt_38 : decode cX8_valueAt 38 = .ok (.iload_n 2, 1) := by decide +kernel
theorem dX8_valueAt_39 : decode cX8_valueAt 39 = .ok (.ireturn, 1) := by decide +kernel
theorem dX8_howManyOwn_0 : decode cX8_howManyOwn 0 = .ok (.iconst 0, 1) := by decide +kernel
theorem dX8_howManyOwn_1 : decode cX8_howManyOwn 1 = .ok (.istore_n 1, 1) := by decide +kernel
theorem dX8_howManyOwn_2 : decode cX8_howManyOwn 2 = .ok (.iconst 0, 1) := by decide +kernel
theorem dX8_howManyOwn_3 : decode cX8_howManyOwn 3 = .ok (.istore_n 2, 1) := by decide +kernel
theorem dX8_howManyOwn_4 : decode cX8_howManyOwn 4 = .ok (.iload_n 2, 1) := by decide +kernel
theorem dX8_howManyOwn_5 : decode cX8_howManyOwn 5 = .ok (.aload_n 0, 1) := by decide +kernel
theorem dX8_howManyOwn_6 : decode cX8_howManyOwn 6 = .ok (.getfield 12, 3) := by decide +kernel
theorem dX8_howManyOwn_9 : decode cX8_howManyOwn 9 = .ok (.getfield 83, 3) := by decide +kernel
theorem dX8_howManyOwn_12 : decode cX8_howManyOwn 12 = .ok (.if_icmp .ge 20, 3) := by decide +kernel
theorem dX8_howManyOwn_15 : decode cX8_howManyOwn 15 = .ok (.aload_n 0, 1) := by decide +kernel
theorem dX8_howManyOwn_16 : decode cX8_howManyOwn 16 = .ok (.iload_n 2, 1) := by decide +kernel
theorem dX8_howManyOwn_17 : decode cX8_howManyOwn 17 = .ok (.invokevirtual 114, 3) := by decide +kernel
theorem dX8_howManyOwn_20 : decode cX8_howManyOwn 20 = .ok (.ifCond .ne 6, 3) := by decide +kernel
theorem dX8_howManyOwn_23 : decode cX8_howManyOwn 23 = .ok (.iinc 1 1, 3) := by decide +kernel
theorem dX8_howManyOwn_26 : decode cX8_howManyOwn 26 = .ok (.iinc 2 1, 3) := by decide +kernel
theorem dX8_howManyOwn_29 : decode cX8_howManyOwn 29 = .ok (.goto (-25), 3) := by decide +kernel
theorem dX8_howManyOwn_32 : decode cX8_howManyOwn 32 = .ok (.iload_n 1, 1) := by decide +kernel
theorem dX8_howManyOwn_33 : decode cX8_howManyOwn 33 = .ok (.ireturn, 1) := by decide +kernel
theorem dX8_ownAt_0 : decode cX8_ownAt 0 = .ok (.iload_n 1, 1) := by decide +kernel
theorem dX8_ownAt_1 : decode cX8_ownAt 1 = .ok (.istore_n 2, 1) := by decide +kernel
theorem dX8_ownAt_2 : decode cX8_ownAt 2 = .ok (.iconst 0, 1) := by decide +kernel
theorem dX8_ownAt_3 : decode cX8_ownAt 3 = .ok (.istore_n 3, 1) := by decide +kernel
theorem dX8_ownAt_4 : decode cX8_ownAt 4 = .ok (.iload_n 3, 1) := by decide +kernel
theorem dX8_ownAt_5 : decode cX8_ownAt 5 = .ok (.aload_n 0, 1) := by decide +kernel
theorem dX8_ownAt_6 : decode cX8_ownAt 6 = .ok (.getfield 12, 3) := by decide +kernel
theorem dX8_ownAt_9 : decode cX8_ownAt 9 = .ok (.getfield 83, 3) := by decide +kernel
theorem dX8_ownAt_12 : decode cX8_ownAt 12 = .ok (.if_icmp .ge 26, 3) := by decide +kernel
theorem dX8_ownAt_15 : decode cX8_ownAt 15 = .ok (.aload_n 0, 1) := by decide +kernel
theorem dX8_ownAt_16 : decode cX8_ownAt 16 = .ok (.iload_n 3, 1) := by decide +kernel
theorem dX8_ownAt_17 : decode cX8_ownAt 17 = .ok (.invokevirtual 114, 3) := by decide +kernel
theorem dX8_ownAt_20 : decode cX8_ownAt 20 = .ok (.ifCond .ne 12, 3) := by decide +kernel
theorem dX8_ownAt_23 : decode cX8_ownAt 23 = .ok (.iload_n 2, 1) := by decide +kernel
theorem dX8_ownAt_24 : decode cX8_ownAt 24 = .ok (.ifCond .ne 5, 3) := by decide +kernel
theorem dX8_ownAt_27 : decode cX8_ownAt 27 = .ok (.iload_n 3, 1) := by decide +kernel
theorem dX8_ownAt_28 : decode cX8_ownAt 28 = .ok (.ireturn, 1) := by decide +kernel
theorem dX8_ownAt_29 : decode cX8_ownAt 29 = .ok (.iinc 2 (-1), 3) := by decide +kernel
theorem dX8_ownAt_32 : decode cX8_ownAt 32 = .ok (.iinc 3 1, 3) := by decide +kernel
theorem dX8_ownAt_35 : decode cX8_ownAt 35 = .ok (.goto (-31), 3) := by decide +kernel
theorem dX8_ownAt_38 : decode cX8_ownAt 38 = .ok (.iconst (-1), 1) := by decide +kernel
theorem dX8_ownAt_39 : decode cX8_ownAt 39 = .ok (.ireturn, 1) := by decide +kernel
theorem dX8_howOften_0 : decode cX8_howOften 0 = .ok (.aload_n 0, 1) := by decide +kernel
theorem dX8_howOften_1 : decode cX8_howOften 1 = .ok (.getfield 38, 3) := by decide +kernel
theorem dX8_howOften_4 : decode cX8_howOften 4 = .ok (.iconst 0, 1) := by decide +kernel
theorem dX8_howOften_5 : decode cX8_howOften 5 = .ok (.aload_n 0, 1) := by decide +kernel
theorem dX8_howOften_6 : decode cX8_howOften 6 = .ok (.getfield 32, 3) := by decide +kernel
theorem dX8_howOften_9 : decode cX8_howOften 9 = .ok (.iconst 0, 1) := by decide +kernel
theorem dX8_howOften_10 : decode cX8_howOften 10 = .ok (.aload_n 0, 1) := by decide +kernel
theorem dX8_howOften_11 : decode cX8_howOften 11 = .ok (.getfield 41, 3) := by decide +kernel
theorem dX8_howOften_14 : decode cX8_howOften 14 = .ok (.iconst 1, 1) := by decide +kernel
theorem dX8_howOften_15 : decode cX8_howOften 15 = .ok (.iadd, 1) := by decide +kernel
theorem dX8_howOften_16 : decode cX8_howOften 16 = .ok (.invokestatic 108, 3) := by decide +kernel
theorem dX8_howOften_19 : decode cX8_howOften 19 = .ok (.iconst 0, 1) := by decide +kernel
theorem dX8_howOften_20 : decode cX8_howOften 20 = .ok (.istore_n 2, 1) := by decide +kernel
theorem dX8_howOften_21 : decode cX8_howOften 21 = .ok (.iload_n 2, 1) := by decide +kernel
theorem dX8_howOften_22 : decode cX8_howOften 22 = .ok (.aload_n 0, 1) := by decide +kernel
theorem dX8_howOften_23 : decode cX8_howOften 23 = .ok (.getfield 41, 3) := by decide +kernel
theorem dX8_howOften_26 : decode cX8_howOften 26 = .ok (.if_icmp .ge 18, 3) := by decide +kernel
theorem dX8_howOften_29 : decode cX8_howOften 29 = .ok (.aload_n 0, 1) := by decide +kernel
theorem dX8_howOften_30 : decode cX8_howOften 30 = .ok (.iload_n 1, 1) := by decide +kernel
theorem dX8_howOften_31 : decode cX8_howOften 31 = .ok (.iload_n 2, 1) := by decide +kernel
theorem dX8_howOften_32 : decode cX8_howOften 32 = .ok (.invokevirtual 117, 3) := by decide +kernel
theorem dX8_howOften_35 : decode cX8_howOften 35 = .ok (.ifCond .eq 9, 3) := by decide +kernel
theorem dX8_howOften_38 : decode cX8_howOften 38 = .ok (.iinc 2 1, 3) := by decide +kernel
theorem dX8_howOften_41 : decode cX8_howOften 41 = .ok (.goto (-20), 3) := by decide +kernel
theorem dX8_howOften_44 : decode cX8_howOften 44 = .ok (.iload_n 2, 1) := by decide +kernel
theorem dX8_howOften_45 : decode cX8_howOften 45 = .ok (.ireturn, 1) := by decide +kernel
theorem dX8_dividesRest_0 : decode cX8_dividesRest 0 = .ok (.aload_n 0, 1) := by decide +kernel
theorem dX8_dividesRest_1 : decode cX8_dividesRest 1 = .ok (.getfield 41, 3) := by decide +kernel
theorem dX8_dividesRest_4 : decode cX8_dividesRest 4 = .ok (.iconst 1, 1) := by decide +kernel
theorem dX8_dividesRest_5 : decode cX8_dividesRest 5 = .ok (.isub, 1) := by decide +kernel
theorem dX8_dividesRest_6 : decode cX8_dividesRest 6 = .ok (.istore_n 3, 1) := by decide +kernel
theorem dX8_dividesRest_7 : decode cX8_dividesRest 7 = .ok (.iload_n 3, 1) := by decide +kernel
theorem dX8_dividesRest_8 : decode cX8_dividesRest 8 = .ok (.iload_n 2, 1) := by decide +kernel
theorem dX8_dividesRest_9 : decode cX8_dividesRest 9 = .ok (.if_icmp .lt 42, 3) := by decide +kernel
theorem dX8_dividesRest_12 : decode cX8_dividesRest 12 = .ok (.aload_n 0, 1) := by decide +kernel
theorem dX8_dividesRest_13 : decode cX8_dividesRest 13 = .ok (.getfield 32, 3) := by decide +kernel
theorem dX8_dividesRest_16 : decode cX8_dividesRest 16 = .ok (.iload_n 3, 1) := by decide +kernel
theorem dX8_dividesRest_17 : decode cX8_dividesRest 17 = .ok (.aload_n 0, 1) := by decide +kernel
theorem dX8_dividesRest_18 : decode cX8_dividesRest 18 = .ok (.getfield 32, 3) := by decide +kernel
theorem dX8_dividesRest_21 : decode cX8_dividesRest 21 = .ok (.iload_n 3, 1) := by decide +kernel
theorem dX8_dividesRest_22 : decode cX8_dividesRest 22 = .ok (.iaload, 1) := by decide +kernel
theorem dX8_dividesRest_23 : decode cX8_dividesRest 23 = .ok (.iload_n 1, 1) := by decide +kernel
theorem dX8_dividesRest_24 : decode cX8_dividesRest 24 = .ok (.aload_n 0, 1) := by decide +kernel
theorem dX8_dividesRest_25 : decode cX8_dividesRest 25 = .ok (.getfield 32, 3) := by decide +kernel
theorem dX8_dividesRest_28 : decode cX8_dividesRest 28 = .ok (.iload_n 3, 1) := by decide +kernel
theorem dX8_dividesRest_29 : decode cX8_dividesRest 29 = .ok (.iconst 1, 1) := by decide +kernel
theorem dX8_dividesRest_30 : decode cX8_dividesRest 30 = .ok (.iadd, 1) := by decide +kernel
theorem dX8_dividesRest_31 : decode cX8_dividesRest 31 = .ok (.iaload, 1) := by decide +kernel
theorem dX8_dividesRest_32 : decode cX8_dividesRest 32 = .ok (.imul, 1) := by decide +kernel
theorem dX8_dividesRest_33 : decode cX8_dividesRest 33 = .ok (.iadd, 1) := by decide +kernel
theorem dX8_dividesRest_34 : decode cX8_dividesRest 34 = .ok (.aload_n 0, 1) := by decide +kernel
theorem dX8_dividesRest_35 : decode cX8_dividesRest 35 = .ok (.getfield 12, 3) := by decide +kernel
theorem dX8_dividesRest_38 : decode cX8_dividesRest 38 = .ok (.getfield 83, 3) := by decide +kernel
theorem dX8_dividesRest_41 : decode cX8_dividesRest 41 = .ok (.invokestatic 97, 3) := by decide +kernel
theorem dX8_dividesRest_44 : decode cX8_dividesRest 44 = .ok (.iastore, 1) := by decide +kernel
theorem dX8_dividesRest_45 : decode cX8_dividesRest 45 = .ok (.iinc 3 (-1), 3) := by decide +kernel
theorem dX8_dividesRest_48 : decode cX8_dividesRest 48 = .ok (.goto (-41), 3) := by decide +kernel
theorem dX8_dividesRest_51 : decode cX8_dividesRest 51 = .ok (.aload_n 0, 1) := by decide +kernel
theorem dX8_dividesRest_52 : decode cX8_dividesRest 52 = .ok (.getfield 32, 3) := by decide +kernel
theorem dX8_dividesRest_55 : decode cX8_dividesRest 55 = .ok (.iload_n 2, 1) := by decide +kernel
theorem dX8_dividesRest_56 : decode cX8_dividesRest 56 = .ok (.iaload, 1) := by decide +kernel
theorem dX8_dividesRest_57 : decode cX8_dividesRest 57 = .ok (.ifCond .ne 7, 3) := by decide +kernel
theorem dX8_dividesRest_60 : decode cX8_dividesRest 60 = .ok (.iconst 1, 1) := by decide +kernel
theorem dX8_dividesRest_61 : decode cX8_dividesRest 61 = .ok (.goto 4, 3) := by decide +kernel
theorem dX8_dividesRest_64 : decode cX8_dividesRest 64 = .ok (.iconst 0, 1) := by decide +kernel
theorem dX8_dividesRest_65 : decode cX8_dividesRest 65 = .ok (.ireturn, 1) := by decide +kernel
theorem dX9_init_0 : decode cX9_init 0 = .ok (.aload_n 0, 1) := by decide +kernel
theorem dX9_init_1 : decode cX9_init 1 = .ok (.invokespecial 3, 3) := by decide +kernel
theorem dX9_init_4 : decode cX9_init 4 = .ok (.aload_n 0, 1) := by decide +kernel
theorem dX9_init_5 : decode cX9_init 5 = .ok (.new 9, 3) := by decide +kernel
theorem dX9_init_8 : decode cX9_init 8 = .ok (.dup, 1) := by decide +kernel
theorem dX9_init_9 : decode cX9_init 9 = .ok (.invokespecial 11, 3) := by decide +kernel
theorem dX9_init_12 : decode cX9_init 12 = .ok (.putfield 12, 3) := by decide +kernel
theorem dX9_init_15 : decode cX9_init 15 = .ok (.aload_n 0, 1) := by decide +kernel
theorem dX9_init_16 : decode cX9_init 16 = .ok (.new 18, 3) := by decide +kernel
theorem dX9_init_19 : decode cX9_init 19 = .ok (.dup, 1) := by decide +kernel
theorem dX9_init_20 : decode cX9_init 20 = .ok (.invokespecial 20, 3) := by decide +kernel
theorem dX9_init_23 : decode cX9_init 23 = .ok (.putfield 21, 3) := by decide +kernel
theorem dX9_init_26 : decode cX9_init 26 = .ok (.aload_n 0, 1) := by decide +kernel
theorem dX9_init_27 : decode cX9_init 27 = .ok (.iconst 0, 1) := by decide +kernel
theorem dX9_init_28 : decode cX9_init 28 = .ok (.putfield 25, 3) := by decide +kernel
theorem dX9_init_31 : decode cX9_init 31 = .ok (.aload_n 0, 1) := by decide +kernel
theorem dX9_init_32 : decode cX9_init 32 = .ok (.iconst (-1), 1) := by decide +kernel
theorem dX9_init_33 : decode cX9_init 33 = .ok (.putfield 29, 3) := by decide +kernel
theorem dX9_init_36 : decode cX9_init 36 = .ok (.aload_n 0, 1) := by decide +kernel
theorem dX9_init_37 : decode cX9_init 37 = .ok (.getfield 12, 3) := by decide +kernel
theorem dX9_init_40 : decode cX9_init 40 = .ok (.iload_n 1, 1) := by decide +kernel
theorem dX9_init_41 : decode cX9_init 41 = .ok (.putfield 32, 3) := by decide +kernel
theorem dX9_init_44 : decode cX9_init 44 = .ok (.return_, 1) := by decide +kernel
theorem dX9_copyFrom_0 : decode cX9_copyFrom 0 = .ok (.aload_n 0, 1) := by decide +kernel
theorem dX9_copyFrom_1 : decode cX9_copyFrom 1 = .ok (.getfield 12, 3) := by decide +kernel
theorem dX9_copyFrom_4 : decode cX9_copyFrom 4 = .ok (.aload_n 1, 1) := by decide +kernel
theorem dX9_copyFrom_5 : decode cX9_copyFrom 5 = .ok (.getfield 12, 3) := by decide +kernel
theorem dX9_copyFrom_8 : decode cX9_copyFrom 8 = .ok (.invokevirtual 35, 3) := by decide +kernel
theorem dX9_copyFrom_11 : decode cX9_copyFrom 11 = .ok (.aload_n 0, 1) := by decide +kernel
theorem dX9_copyFrom_12 : decode cX9_copyFrom 12 = .ok (.getfield 21, 3) := by decide +kernel
theorem dX9_copyFrom_15 : decode cX9_copyFrom 15 = .ok (.aload_n 1, 1) := by decide +kernel
theorem dX9_copyFrom_16 : decode cX9_copyFrom 16 = .ok (.getfield 21, 3) := by decide +kernel
theorem dX9_copyFrom_19 : decode cX9_copyFrom 19 = .ok (.invokevirtual 39, 3) := by decide +kernel
theorem dX9_copyFrom_22 : decode cX9_copyFrom 22 = .ok (.aload_n 0, 1) := by decide +kernel
theorem dX9_copyFrom_23 : decode cX9_copyFrom 23 = .ok (.aload_n 1, 1) := by decide +kernel
theorem dX9_copyFrom_24 : decode cX9_copyFrom 24 = .ok (.getfield 25, 3) := by decide +kernel
theorem dX9_copyFrom_27 : decode cX9_copyFrom 27 = .ok (.putfield 25, 3) := by decide +kernel
theorem dX9_copyFrom_30 : decode cX9_copyFrom 30 = .ok (.aload_n 0, 1) := by decide +kernel
theorem dX9_copyFrom_31 : decode cX9_copyFrom 31 = .ok (.aload_n 1, 1) := by decide +kernel
theorem dX9_copyFrom_32 : decode cX9_copyFrom 32 = .ok (.getfield 29, 3) := by decide +kernel
theorem dX9_copyFrom_35 : decode cX9_copyFrom 35 = .ok (.putfield 29, 3) := by decide +kernel
theorem dX9_copyFrom_38 : decode cX9_copyFrom 38 = .ok (.return_, 1) := by decide +kernel
theorem dX10_init_0 : decode cX10_init 0 = .ok (.aload_n 0, 1) := by decide +kernel
theorem dX10_init_1 : decode cX10_init 1 = .ok (.invokespecial 1, 3) := by decide +kernel
theorem dX10_init_4 : decode cX10_init 4 = .ok (.aload_n 0, 1) := by decide +kernel
theorem dX10_init_5 : decode cX10_init 5 = .ok (.sipush 300, 3) := by decide +kernel
theorem dX10_init_8 : decode cX10_init 8 = .ok (.newarray .int, 2) := by decide +kernel
theorem dX10_init_10 : decode cX10_init 10 = .ok (.putfield 9, 3) := by decide +kernel
theorem dX10_init_13 : decode cX10_init 13 = .ok (.aload_n 0, 1) := by decide +kernel
theorem dX10_init_14 : decode cX10_init 14 = .ok (.sipush 301, 3) := by decide +kernel
theorem dX10_init_17 : decode cX10_init 17 = .ok (.newarray .int, 2) := by decide +kernel
theorem dX10_init_19 : decode cX10_init 19 = .ok (.putfield 13, 3) := by decide +kernel
theorem dX10_init_22 : decode cX10_init 22 = .ok (.aload_n 0, 1) := by decide +kernel
theorem dX10_init_23 : decode cX10_init 23 = .ok (.sipush 301, 3) := by decide +kernel
theorem dX10_init_26 : decode cX10_init 26 = .ok (.newarray .int, 2) := by decide +kernel
theorem dX10_init_28 : decode cX10_init 28 = .ok (.putfield 16, 3) := by decide +kernel
theorem dX10_init_31 : decode cX10_init 31 = .ok (.aload_n 0, 1) := by decide +kernel
theorem dX10_init_32 : decode cX10_init 32 = .ok (.iconst 0, 1) := by decide +kernel
theorem dX10_init_33 : decode cX10_init 33 = .ok (.putfield 19, 3) := by decide +kernel
theorem dX10_init_36 : decode cX10_init 36 = .ok (.return_, 1) := by decide +kernel
theorem dX10_add_0 : decode cX10_add 0 = .ok (.bipush 24, 2) := by decide +kernel
theorem dX10_add_2 : decode cX10_add 2 = .ok (.istore_n 2, 1) := by decide +kernel
theorem dX10_add_3 : decode cX10_add 3 = .ok (.iload_n 2, 1) := by decide +kernel
theorem dX10_add_4 : decode cX10_add 4 = .ok (.ifCond .lt 45, 3) := by decide +kernel
theorem dX10_add_7 : decode cX10_add 7 = .ok (.aload_n 0, 1) := by decide +kernel
theorem dX10_add_8 : decode cX10_add 8 = .ok (.getfield 19, 3) := by decide +kernel
theorem dX10_add_11 : decode cX10_add 11 = .ok (.sipush 300, 3) := by decide +kernel
theorem dX10_add_14 : decode cX10_add 14 = .ok (.if_icmp .ge 29, 3) := by decide +kernel
theorem dX10_add_17 : decode cX10_add 17 = .ok (.aload_n 0, 1) := by decide +kernel
theorem dX10_add_18 : decode cX10_add 18 = .ok (.getfield 9, 3) := by decide +kernel
theorem dX10_add_21 : decode cX10_add 21 = .ok (.aload_n 0, 1) := by decide +kernel
theorem dX10_add_22 : decode cX10_add 22 = .ok (.getfield 19, 3) := by decide +kernel
theorem dX10_add_25 : decode cX10_add 25 = .ok (.iload_n 1, 1) := by decide +kernel
theorem dX10_add_26 : decode cX10_add 26 = .ok (.iload_n 2, 1) := by decide +kernel
theorem dX10_add_27 : decode cX10_add 27 = .ok (.ishr, 1) := by decide +kernel
theorem dX10_add_28 : decode cX10_add 28 = .ok (.sipush 255, 3) := by decide +kernel
theorem dX10_add_31 : decode cX10_add 31 = .ok (.iand, 1) := by decide +kernel
theorem dX10_add_32 : decode cX10_add 32 = .ok (.iastore, 1) := by decide +kernel
theorem dX10_add_33 : decode cX10_add 33 = .ok (.aload_n 0, 1) := by decide +kernel
theorem dX10_add_34 : decode cX10_add 34 = .ok (.dup, 1) := by decide +kernel
theorem dX10_add_35 : decode cX10_add 35 = .ok (.getfield 19, 3) := by decide +kernel
theorem dX10_add_38 : decode cX10_add 38 = .ok (.iconst 1, 1) := by decide +kernel
theorem dX10_add_39 : decode cX10_add 39 = .ok (.iadd, 1) := by decide +kernel
theorem dX10_add_40 : decode cX10_add 40 = .ok (.putfield 19, 3) := by decide +kernel
theorem dX10_add_43 : decode cX10_add 43 = .ok (.iinc 2 (-8), 3) := by decide +kernel
theorem dX10_add_46 : decode cX10_add 46 = .ok (.goto (-43), 3) := by decide +kernel
theorem dX10_add_49 : decode cX10_add 49 = .ok (.return_, 1) := by decide +kernel
theorem dX10_start_0 : decode cX10_start 0 = .ok (.iload_n 1, 1) := by decide +kernel
theorem dX10_start_1 : decode cX10_start 1 = .ok (.ifCond .lt 21, 3) := by decide +kernel
theorem dX10_start_4 : decode cX10_start 4 = .ok (.iload_n 1, 1) := by decide +kernel
theorem dX10_start_5 : decode cX10_start 5 = .ok (.aload_n 0, 1) := by decide +kernel
theorem dX10_start_6 : decode cX10_start 6 = .ok (.getfield 16, 3) := by decide +kernel
theorem dX10_start_9 : decode cX10_start 9 = .ok (.arraylength, 1) := by decide +kernel
theorem dX10_start_10 : decode cX10_start 10 = .ok (.if_icmp .ge 12, 3) := by decide +kernel
theorem dX10_start_13 : decode cX10_start 13 = .ok (.aload_n 0, 1) := by decide +kernel
theorem dX10_start_14 : decode cX10_start 14 = .ok (.getfield 16, 3) := by decide +kernel
theorem dX10_start_17 : decode cX10_start 17 = .ok (.iload_n 1, 1) := by decide +kernel
theorem dX10_start_18 : decode cX10_start 18 = .ok (.iaload, 1) := by decide +kernel
theorem dX10_start_19 : decode cX10_start 19 = .ok (.goto 7, 3) := by decide +kernel
theorem dX10_start_22 : decode cX10_start 22 = .ok (.aload_n 0, 1) := by decide +kernel
theorem dX10_start_23 : decode cX10_start 23 = .ok (.getfield 19, 3) := by decide +kernel
theorem dX10_start_26 : decode cX10_start 26 = .ok (.ireturn, 1) := by decide +kernel
theorem dX10_split_0 : decode cX10_split 0 = .ok (.iconst 0, 1) := by decide +kernel
theorem dX10_split_1 : decode cX10_split 1 = .ok (.istore_n 1, 1) := by decide +kernel
theorem dX10_split_2 : decode cX10_split 2 = .ok (.iconst 0, 1) := by decide +kernel
theorem dX10_split_3 : decode cX10_split 3 = .ok (.istore_n 2, 1) := by decide +kernel
theorem dX10_split_4 : decode cX10_split 4 = .ok (.iconst 0, 1) := by decide +kernel
theorem dX10_split_5 : decode cX10_split 5 = .ok (.istore_n 3, 1) := by decide +kernel
theorem dX10_split_6 : decode cX10_split 6 = .ok (.iload_n 3, 1) := by decide +kernel
theorem dX10_split_7 : decode cX10_split 7 = .ok (.aload_n 0, 1) := by decide +kernel
theorem dX10_split_8 : decode cX10_split 8 = .ok (.getfield 19, 3) := by decide +kernel
theorem dX10_split_11 : decode cX10_split 11 = .ok (.if_icmp .ge 64, 3) := by decide +kernel
theorem dX10_split_14 : decode cX10_split 14 = .ok (.iload_n 3, 1) := by decide +kernel
theorem dX10_split_15 : decode cX10_split 15 = .ok (.iload_n 2, 1) := by decide +kernel
theorem dX10_split_16 : decode cX10_split 16 = .ok (.if_icmp .lt 53, 3) := by decide +kernel
theorem dX10_split_19 : decode cX10_split 19 = .ok (.aload_n 0, 1) := by decide +kernel
theorem dX10_split_20 : decode cX10_split 20 = .ok (.getfield 9, 3) := by decide +kernel
theorem dX10_split_23 : decode cX10_split 23 = .ok (.iload_n 3, 1) := by decide +kernel
theorem dX10_split_24 : decode cX10_split 24 = .ok (.iaload, 1) := by decide +kernel
theorem dX10_split_25 : decode cX10_split 25 = .ok (.bipush 32, 2) := by decide +kernel
theorem dX10_split_27 : decode cX10_split 27 = .ok (.if_icmp .eq 42, 3) := by decide +kernel
theorem dX10_split_30 : decode cX10_split 30 = .ok (.aload_n 0, 1) := by decide +kernel
theorem dX10_split_31 : decode cX10_split 31 = .ok (.getfield 9, 3) := by decide +kernel
theorem dX10_split_34 : decode cX10_split 34 = .ok (.iload_n 3, 1) := by decide +kernel
theorem dX10_split_35 : decode cX10_split 35 = .ok (.iaload, 1) := by decide +kernel
theorem dX10_split_36 : decode cX10_split 36 = .ok (.bipush 10, 2) := by decide +kernel
theorem dX10_split_38 : decode cX10_split 38 = .ok (.if_icmp .eq 31, 3) := by decide +kernel
theorem dX10_split_41 : decode cX10_split 41 = .ok (.aload_n 0, 1) := by decide +kernel
theorem dX10_split_42 : decode cX10_split 42 = .ok (.iload_n 3, 1) := by decide +kernel
theorem dX10_split_43 : decode cX10_split 43 = .ok (.invokevirtual 23, 3) := by decide +kernel
theorem dX10_split_46 : decode cX10_split 46 = .ok (.istore_n 2, 1) := by decide +kernel
theorem dX10_split_47 : decode cX10_split 47 = .ok (.aload_n 0, 1) := by decide +kernel
theorem dX10_split_48 : decode cX10_split 48 = .ok (.getfield 16, 3) := by decide +kernel
theorem dX10_split_51 : decode cX10_split 51 = .ok (.iload_n 1, 1) := by decide +kernel
theorem dX10_split_52 : decode cX10_split 52 = .ok (.iload_n 3, 1) := by decide +kernel
theorem dX10_split_53 : decode cX10_split 53 = .ok (.iastore, 1) := by decide +kernel
theorem dX10_split_54 : decode cX10_split 54 = .ok (.aload_n 0, 1) := by decide +kernel
theorem dX10_split_55 : decode cX10_split 55 = .ok (.getfield 13, 3) := by decide +kernel
theorem dX10_split_58 : decode cX10_split 58 = .ok (.iload_n 1, 1) := by decide +kernel
theorem dX10_split_59 : decode cX10_split 59 = .ok (.aload_n 0, 1) := by decide +kernel
theorem dX10_split_60 : decode cX10_split 60 = .ok (.iload_n 3, 1) := by decide +kernel
theorem dX10_split_61 : decode cX10_split 61 = .ok (.iload_n 2, 1) := by decide +kernel
theorem dX10_split_62 : decode cX10_split 62 = .ok (.invokevirtual 27, 3) := by decide +kernel
theorem dX10_split_65 : decode cX10_split 65 = .ok (.iastore, 1) := by decide +kernel
theorem dX10_split_66 : decode cX10_split 66 = .ok (.iinc 1 1, 3) := by decide +kernel
theorem dX10_split_69 : decode cX10_split 69 = .ok (.iinc 3 1, 3) := by decide +kernel
theorem dX10_split_72 : decode cX10_split 72 = .ok (.goto (-66), 3) := by decide +kernel
theorem dX10_split_75 : decode cX10_split 75 = .ok (.aload_n 0, 1) := by decide +kernel
theorem dX10_split_76 : decode cX10_split 76 = .ok (.getfield 16, 3) := by decide +kernel
theorem dX10_split_79 : decode cX10_split 79 = .ok (.iload_n 1, 1) := by decide +kernel
theorem dX10_split_80 : decode cX10_split 80 = .ok (.aload_n 0, 1) := by decide +kernel
theorem dX10_split_81 : decode cX10_split 81 = .ok (.getfield 19, 3) := by decide +kernel
theorem dX10_split_84 : decode cX10_split 84 = .ok (.iastore, 1) := by decide +kernel
theorem dX10_split_85 : decode cX10_split 85 = .ok (.aload_n 0, 1) := by decide +kernel
theorem dX10_split_86 : decode cX10_split 86 = .ok (.getfield 13, 3) := by decide +kernel
theorem dX10_split_89 : decode cX10_split 89 = .ok (.iload_n 1, 1) := by decide +kernel
theorem dX10_split_90 : decode cX10_split 90 = .ok (.iconst (-1), 1) := by decide +kernel
theorem dX10_split_91 : decode cX10_split 91 = .ok (.iastore, 1) := by decide +kernel
theorem dX10_split_92 : decode cX10_split 92 = .ok (.return_, 1) := by decide +kernel
theorem dX10_stopOf_0 : decode cX10_stopOf 0 = .ok (.aload_n 0, 1) := by decide +kernel
theorem dX10_stopOf_1 : decode cX10_stopOf 1 = .ok (.getfield 9, 3) := by decide +kernel
theorem dX10_stopOf_4 : decode cX10_stopOf 4 = .ok (.iload_n 1, 1) := by decide +kernel
theorem dX10_stopOf_5 : decode cX10_stopOf 5 = .ok (.iaload, 1) := by decide +kernel
theorem dX10_stopOf_6 : decode cX10_stopOf 6 = .ok (.invokestatic 31, 3) := by decide +kernel
theorem dX10_stopOf_9 : decode cX10_stopOf 9 = .ok (.istore_n 2, 1) := by decide +kernel
theorem dX10_stopOf_10 : decode cX10_stopOf 10 = .ok (.iload_n 1, 1) := by decide +kernel
theorem dX10_stopOf_11 : decode cX10_stopOf 11 = .ok (.iconst 1, 1) := by decide +kernel
theorem dX10_stopOf_12 : decode cX10_stopOf 12 = .ok (.iadd, 1) := by decide +kernel
theorem dX10_stopOf_13 : decode cX10_stopOf 13 = .ok (.istore_n 3, 1) := by decide +kernel
theorem dX10_stopOf_14 : decode cX10_stopOf 14 = .ok (.iload_n 3, 1) := by decide +kernel
theorem dX10_stopOf_15 : decode cX10_stopOf 15 = .ok (.aload_n 0, 1) := by decide +kernel
theorem dX10_stopOf_16 : decode cX10_stopOf 16 = .ok (.getfield 19, 3) := by decide +kernel
theorem dX10_stopOf_19 : decode cX10_stopOf 19 = .ok (.if_icmp .ge 26, 3) := by decide +kernel
theorem dX10_stopOf_22 : decode cX10_stopOf 22 = .ok (.iload_n 2, 1) := by decide +kernel
theorem dX10_stopOf_23 : decode cX10_stopOf 23 = .ok (.ifCond .eq 22, 3) := by decide +kernel
theorem dX10_stopOf_26 : decode cX10_stopOf 26 = .ok (.aload_n 0, 1) := by decide +kernel
theorem dX10_stopOf_27 : decode cX10_stopOf 27 = .ok (.getfield 9, 3) := by decide +kernel
theorem dX10_stopOf_30 : decode cX10_stopOf 30 = .ok (.iload_n 3, 1) := by decide +kernel
theorem dX10_stopOf_31 : decode cX10_stopOf 31 = .ok (.iaload, 1) := by decide +kernel
theorem dX10_stopOf_32 : decode cX10_stopOf 32 = .ok (.invokestatic 31, 3) := by decide +kernel
theorem dX10_stopOf_35 : decode cX10_stopOf 35 = .ok (.iload_n 2, 1) := by decide +kernel
theorem dX10_stopOf_36 : decode cX10_stopOf 36 = .ok (.if_icmp .ne 9, 3) := by decide +kernel
theorem dX10_stopOf_39 : decode cX10_stopOf 39 = .ok (.iinc 3 1, 3) := by decide +kernel
theorem dX10_stopOf_42 : decode cX10_stopOf 42 = .ok (.goto (-28), 3) := by decide +kernel
theorem dX10_stopOf_45 : decode cX10_stopOf 45 = .ok (.iload_n 3, 1) := by decide +kernel
theorem dX10_stopOf_46 : decode cX10_stopOf 46 = .ok (.ireturn, 1) := by decide +kernel
theorem dX10_sortOf_0 : decode cX10_sortOf 0 = .ok (.iload_n 0, 1) := by decide +kernel
theorem dX10_sortOf_1 : decode cX10_sortOf 1 = .ok (.bipush 97, 2) := by decide +kernel
theorem dX10_sortOf_3 : decode cX10_sortOf 3 = .ok (.if_icmp .lt 9, 3) := by decide +kernel
theorem dX10_sortOf_6 : decode cX10_sortOf 6 = .ok (.iload_n 0, 1) := by decide +kernel
theorem dX10_sortOf_7 : decode cX10_sortOf 7 = .ok (.bipush 122, 2) := by decide +kernel
theorem dX10_sortOf_9 : decode cX10_sortOf 9 = .ok (.if_icmp .le 15, 3) := by decide +kernel
theorem dX10_sortOf_12 : decode cX10_sortOf 12 = .ok (.iload_n 0, 1) := by decide +kernel
theorem dX10_sortOf_13 : decode cX10_sortOf 13 = .ok (.bipush 65, 2) := by decide +kernel
theorem dX10_sortOf_15 : decode cX10_sortOf 15 = .ok (.if_icmp .lt 11, 3) := by decide +kernel
theorem dX10_sortOf_18 : decode cX10_sortOf 18 = .ok (.iload_n 0, 1) := by decide +kernel
theorem dX10_sortOf_19 : decode cX10_sortOf 19 = .ok (.bipush 90, 2) := by decide +kernel
theorem dX10_sortOf_21 : decode cX10_sortOf 21 = .ok (.if_icmp .gt 5, 3) := by decide +kernel
theorem dX10_sortOf_24 : decode cX10_sortOf 24 = .ok (.iconst 1, 1) := by decide +kernel
theorem dX10_sortOf_25 : decode cX10_sortOf 25 = .ok (.ireturn, 1) := by decide +kernel
theorem dX10_sortOf_26 : decode cX10_sortOf 26 = .ok (.iload_n 0, 1) := by decide +kernel
theorem dX10_sortOf_27 : decode cX10_sortOf 27 = .ok (.bipush 48, 2) := by decide +kernel
theorem dX10_sortOf_29 : decode cX10_sortOf 29 = .ok (.if_icmp .lt 13, 3) := by decide +kernel
theorem dX10_sortOf_32 : decode cX10_sortOf 32 = .ok (.iload_n 0, 1) := by decide +kernel
theorem dX10_sortOf_33 : decode cX10_sortOf 33 = .ok (.bipush 57, 2) := by decide +kernel
theorem dX10_sortOf_35 : decode cX10_sortOf 35 = .ok (.if_icmp .gt 7, 3) := by decide +kernel
theorem dX10_sortOf_38 : decode cX10_sortOf 38 = .ok (.iconst 2, 1) := by decide +kernel
theorem dX10_sortOf_39 : decode cX10_sortOf 39 = .ok (.goto 4, 3) := by decide +kernel
theorem dX10_sortOf_42 : decode cX10_sortOf 42 = .ok (.iconst 0, 1) := by decide +kernel
theorem dX10_sortOf_43 : decode cX10_sortOf 43 = .ok (.ireturn, 1) := by decide +kernel
theorem dX10_tokenOf_0 : decode cX10_tokenOf 0 = .ok (.aload_n 0, 1) := by decide +kernel
theorem dX10_tokenOf_1 : decode cX10_tokenOf 1 = .ok (.getfield 9, 3) := by decide +kernel
theorem dX10_tokenOf_4 : decode cX10_tokenOf 4 = .ok (.iload_n 1, 1) := by decide +kernel
theorem dX10_tokenOf_5 : decode cX10_tokenOf 5 = .ok (.iaload, 1) := by decide +kernel
theorem dX10_tokenOf_6 : decode cX10_tokenOf 6 = .ok (.invokestatic 31, 3) := by decide +kernel
theorem dX10_tokenOf_9 : decode cX10_tokenOf 9 = .ok (.istore_n 3, 1) := by decide +kernel
theorem dX10_tokenOf_10 : decode cX10_tokenOf 10 = .ok (.iload_n 3, 1) := by decide +kernel
theorem dX10_tokenOf_11 : decode cX10_tokenOf 11 = .ok (.iconst 1, 1) := by decide +kernel
theorem dX10_tokenOf_12 : decode cX10_tokenOf 12 = .ok (.if_icmp .ne 12, 3) := by decide +kernel
theorem dX10_tokenOf_15 : decode cX10_tokenOf 15 = .ok (.aload_n 0, 1) := by decide +kernel
theorem dX10_tokenOf_16 : decode cX10_tokenOf 16 = .ok (.iload_n 1, 1) := by decide +kernel
theorem dX10_tokenOf_17 : decode cX10_tokenOf 17 = .ok (.iload_n 2, 1) := by decide +kernel
theorem dX10_tokenOf_18 : decode cX10_tokenOf 18 = .ok (.invokevirtual 34, 3) := by decide +kernel
theorem dX10_tokenOf_21 : decode cX10_tokenOf 21 = .ok (.goto 23, 3) := by decide +kernel
theorem dX10_tokenOf_24 : decode cX10_tokenOf 24 = .ok (.iload_n 3, 1) := by decide +kernel
theorem dX10_tokenOf_25 : decode cX10_tokenOf 25 = .ok (.iconst 2, 1) := by decide +kernel
theorem dX10_tokenOf_26 : decode cX10_tokenOf 26 = .ok (.if_icmp .ne 12, 3) := by decide +kernel
theorem dX10_tokenOf_29 : decode cX10_tokenOf 29 = .ok (.aload_n 0, 1) := by decide +kernel
theorem dX10_tokenOf_30 : decode cX10_tokenOf 30 = .ok (.iload_n 1, 1) := by decide +kernel
theorem dX10_tokenOf_31 : decode cX10_tokenOf 31 = .ok (.iload_n 2, 1) := by decide +kernel
theorem dX10_tokenOf_32 : decode cX10_tokenOf 32 = .ok (.invokevirtual 37, 3) := by decide +kernel
theorem dX10_tokenOf_35 : decode cX10_tokenOf 35 = .ok (.goto 9, 3) := by decide +kernel
theorem dX10_tokenOf_38 : decode cX10_tokenOf 38 = .ok (.aload_n 0, 1) := by decide +kernel
theorem dX10_tokenOf_39 : decode cX10_tokenOf 39 = .ok (.getfield 9, 3) := by decide +kernel
theorem dX10_tokenOf_42 : decode cX10_tokenOf 42 = .ok (.iload_n 1, 1) := by decide +kernel
theorem dX10_tokenOf_43 : decode cX10_tokenOf 43 = .ok (.iaload, 1) := by decide +kernel
theorem dX10_tokenOf_44 : decode cX10_tokenOf 44 = .ok (.ireturn, 1) := by decide +kernel
theorem dX10_numberOf_0 : decode cX10_numberOf 0 = .ok (.iconst 0, 1) := by decide +kernel
theorem dX10_numberOf_1 : decode cX10_numberOf 1 = .ok (.istore_n 3, 1) := by decide +kernel
theorem dX10_numberOf_2 : decode cX10_numberOf 2 = .ok (.iload_n 1, 1) := by decide +kernel
theorem dX10_numberOf_3 : decode cX10_numberOf 3 = .ok (.istore 4, 2) := by decide +kernel
theorem dX10_numberOf_5 : decode cX10_numberOf 5 = .ok (.iload 4, 2) := by decide +kernel
theorem dX10_numberOf_7 : decode cX10_numberOf 7 = .ok (.iload_n 2, 1) := by decide +kernel
theorem dX10_numberOf_8 : decode cX10_numberOf 8 = .ok (.if_icmp .ge 31, 3) := by decide +kernel
theorem dX10_numberOf_11 : decode cX10_numberOf 11 = .ok (.sipush 10000, 3) := by decide +kernel
theorem dX10_numberOf_14 : decode cX10_numberOf 14 = .ok (.iload_n 3, 1) := by decide +kernel
theorem dX10_numberOf_15 : decode cX10_numberOf 15 = .ok (.bipush 10, 2) := by decide +kernel
theorem dX10_numberOf_17 : decode cX10_numberOf 17 = .ok (.imul, 1) := by decide +kernel
theorem dX10_numberOf_18 : decode cX10_numberOf 18 = .ok (.aload_n 0, 1) := by decide +kernel
theorem dX10_numberOf_19 : decode cX10_numberOf 19 = .ok (.getfield 9, 3) := by decide +kernel
theorem dX10_numberOf_22 : decode cX10_numberOf 22 = .ok (.iload 4, 2) := by decide +kernel
theorem dX10_numberOf_24 : decode cX10_numberOf 24 = .ok (.iaload, 1) := by decide +kernel
theorem dX10_numberOf_25 : decode cX10_numberOf 25 = .ok (.iadd, 1) := by decide +kernel
theorem dX10_numberOf_26 : decode cX10_numberOf 26 = .ok (.bipush 48, 2) := by decide +kernel
theorem dX10_numberOf_28 : decode cX10_numberOf 28 = .ok (.isub, 1) := by decide +kernel
theorem dX10_numberOf_29 : decode cX10_numberOf 29 = .ok (.invokestatic 40, 3) := by decide +kernel
theorem dX10_numberOf_32 : decode cX10_numberOf 32 = .ok (.istore_n 3, 1) := by decide +kernel
theorem dX10_numberOf_33 : decode cX10_numberOf 33 = .ok (.iinc 4 1, 3) := by decide +kernel
theorem dX10_numberOf_36 : decode cX10_numberOf 36 = .ok (.goto (-31), 3) := by decide +kernel
theorem dX10_numberOf_39 : decode cX10_numberOf 39 = .ok (.sipush 300, 3) := by decide +kernel
theorem dX10_numberOf_42 : decode cX10_numberOf 42 = .ok (.iload_n 3, 1) := by decide +kernel
theorem dX10_numberOf_43 : decode cX10_numberOf 43 = .ok (.iadd, 1) := by decide +kernel
theorem dX10_numberOf_44 : decode cX10_numberOf 44 = .ok (.ireturn, 1) := by decide +kernel
theorem dX10_wordOf_0 : decode cX10_wordOf 0 = .ok (.iload_n 2, 1) := by decide +kernel
theorem dX10_wordOf_1 : decode cX10_wordOf 1 = .ok (.iload_n 1, 1) := by decide +kernel
theorem dX10_wordOf_2 : decode cX10_wordOf 2 = .ok (.isub, 1) := by decide +kernel
theorem dX10_wordOf_3 : decode cX10_wordOf 3 = .ok (.iconst 1, 1) := by decide +kernel
theorem dX10_wordOf_4 : decode cX10_wordOf 4 = .ok (.if_icmp .ne 13, 3) := by decide +kernel
theorem dX10_wordOf_7 : decode cX10_wordOf 7 = .ok (.aload_n 0, 1) := by decide +kernel
theorem dX10_wordOf_8 : decode cX10_wordOf 8 = .ok (.getfield 9, 3) := by decide +kernel
theorem dX10_wordOf_11 : decode cX10_wordOf 11 = .ok (.iload_n 1, 1) := by decide +kernel
theorem dX10_wordOf_12 : decode cX10_wordOf 12 = .ok (.iaload, 1) := by decide +kernel
theorem dX10_wordOf_13 : decode cX10_wordOf 13 = .ok (.invokestatic 45, 3) := by decide +kernel
theorem dX10_wordOf_16 : decode cX10_wordOf 16 = .ok (.ireturn, 1) := by decide +kernel
theorem dX10_wordOf_17 : decode cX10_wordOf 17 = .ok (.aload_n 0, 1) := by decide +kernel
theorem dX10_wordOf_18 : decode cX10_wordOf 18 = .ok (.ldc 48, 2) := by decide +kernel
theorem dX10_wordOf_20 : decode cX10_wordOf 20 = .ok (.iload_n 1, 1) := by decide +kernel
theorem dX10_wordOf_21 : decode cX10_wordOf 21 = .ok (.iload_n 2, 1) := by decide +kernel
theorem dX10_wordOf_22 : decode cX10_wordOf 22 = .ok (.invokevirtual 50, 3) := by decide +kernel
theorem dX10_wordOf_25 : decode cX10_wordOf 25 = .ok (.ifCond .eq 7, 3) := by decide +kernel
theorem dX10_wordOf_28 : decode cX10_wordOf 28 = .ok (.sipush 260, 3) := by decide +kernel
theorem dX10_wordOf_31 : decode cX10_wordOf 31 = .ok (.ireturn, 1) := by decide +kernel
theorem dX10_wordOf_32 : decode cX10_wordOf 32 = .ok (.aload_n 0, 1) := by decide +kernel
theorem dX10_wordOf_33 : decode cX10_wordOf 33 = .ok (.ldc 56, 2) := by decide +kernel
theorem dX10_wordOf_35 : decode cX10_wordOf 35 = .ok (.iload_n 1, 1) := by decide +kernel
theorem dX10_wordOf_36 : decode cX10_wordOf 36 = .ok (.iload_n 2, 1) := by decide +kernel
theorem dX10_wordOf_37 : decode cX10_wordOf 37 = .ok (.invokevirtual 50, 3) := by decide +kernel
theorem dX10_wordOf_40 : decode cX10_wordOf 40 = .ok (.ifCond .eq 7, 3) := by decide +kernel
theorem dX10_wordOf_43 : decode cX10_wordOf 43 = .ok (.sipush 261, 3) := by decide +kernel
theorem dX10_wordOf_46 : decode cX10_wordOf 46 = .ok (.ireturn, 1) := by decide +kernel
theorem dX10_wordOf_47 : decode cX10_wordOf 47 = .ok (.aload_n 0, 1) := by decide +kernel
theorem dX10_wordOf_48 : decode cX10_wordOf 48 = .ok (.ldc 58, 2) := by decide +kernel
theorem dX10_wordOf_50 : decode cX10_wordOf 50 = .ok (.iload_n 1, 1) := by decide +kernel
theorem dX10_wordOf_51 : decode cX10_wordOf 51 = .ok (.iload_n 2, 1) := by decide +kernel
theorem dX10_wordOf_52 : decode cX10_wordOf 52 = .ok (.invokevirtual 50, 3) := by decide +kernel
theorem dX10_wordOf_55 : decode cX10_wordOf 55 = .ok (.ifCond .eq 7, 3) := by decide +kernel
theorem dX10_wordOf_58 : decode cX10_wordOf 58 = .ok (.sipush 262, 3) := by decide +kernel
theorem dX10_wordOf_61 : decode cX10_wordOf 61 = .ok (.ireturn, 1) := by decide +kernel
theorem dX10_wordOf_62 : decode cX10_wordOf 62 = .ok (.aload_n 0, 1) := by decide +kernel
theorem dX10_wordOf_63 : decode cX10_wordOf 63 = .ok (.ldc 60, 2) := by decide +kernel
theorem dX10_wordOf_65 : decode cX10_wordOf 65 = .ok (.iload_n 1, 1) := by decide +kernel
theorem dX10_wordOf_66 : decode cX10_wordOf 66 = .ok (.iload_n 2, 1) := by decide +kernel
theorem dX10_wordOf_67 : decode cX10_wordOf 67 = .ok (.invokevirtual 50, 3) := by decide +kernel
theorem dX10_wordOf_70 : decode cX10_wordOf 70 = .ok (.ifCond .eq 7, 3) := by decide +kernel
theorem dX10_wordOf_73 : decode cX10_wordOf 73 = .ok (.sipush 263, 3) := by decide +kernel
theorem dX10_wordOf_76 : decode cX10_wordOf 76 = .ok (.ireturn, 1) := by decide +kernel
theorem dX10_wordOf_77 : decode cX10_wordOf 77 = .ok (.aload_n 0, 1) := by decide +kernel
theorem dX10_wordOf_78 : decode cX10_wordOf 78 = .ok (.ldc 62, 2) := by decide +kernel
theorem dX10_wordOf_80 : decode cX10_wordOf 80 = .ok (.iload_n 1, 1) := by decide +kernel
theorem dX10_wordOf_81 : decode cX10_wordOf 81 = .ok (.iload_n 2, 1) := by decide +kernel
theorem dX10_wordOf_82 : decode cX10_wordOf 82 = .ok (.invokevirtual 50, 3) := by decide +kernel
theorem dX10_wordOf_85 : decode cX10_wordOf 85 = .ok (.ifCond .eq 9, 3) := by decide +kernel
theorem dX10_wordOf_88 : decode cX10_wordOf 88 = .ok (.sipush 271, 3) := by decide +kernel
theorem dX10_wordOf_91 : decode cX10_wordOf 91 = .ok (.goto 6, 3) := by decide +kernel
theorem dX10_wordOf_94 : decode cX10_wordOf 94 = .ok (.sipush 256, 3) := by decide +kernel
theorem dX10_wordOf_97 : decode cX10_wordOf 97 = .ok (.ireturn, 1) := by decide +kernel
theorem dX10_letterWord_0 : decode cX10_letterWord 0 = .ok (.iload_n 0, 1) := by decide +kernel
theorem dX10_letterWord_1 : decode cX10_letterWord 1 = .ok (.lookupswitch 71 #[(97, 51), (98, 55), (99, 59), (100, 67), (117, 63)], 51) := by decide +kernel
theorem dX10_letterWord_52 : decode cX10_letterWord 52 = .ok (.sipush 257, 3) := by decide +kernel
theorem dX10_letterWord_55 : decode cX10_letterWord 55 = .ok (.ireturn, 1) := by decide +kernel
theorem dX10_letterWord_56 : decode cX10_letterWord 56 = .ok (.sipush 258, 3) := by decide +kernel
theorem dX10_letterWord_59 : decode cX10_letterWord 59 = .ok (.ireturn, 1) := by decide +kernel
theorem dX10_letterWord_60 : decode cX10_letterWord 60 = .ok (.sipush 259, 3) := by decide +kernel
theorem dX10_letterWord_63 : decode cX10_letterWord 63 = .ok (.ireturn, 1) := by decide +kernel
theorem dX10_letterWord_64 : decode cX10_letterWord 64 = .ok (.sipush 270, 3) := by decide +kernel
theorem dX10_letterWord_67 : decode cX10_letterWord 67 = .ok (.ireturn, 1) := by decide +kernel
theorem dX10_letterWord_68 : decode cX10_letterWord 68 = .ok (.sipush 272, 3) := by decide +kernel
theorem dX10_letterWord_71 : decode cX10_letterWord 71 = .ok (.ireturn, 1) := by decide +kernel
theorem dX10_letterWord_72 : decode cX10_letterWord 72 = .ok (.sipush 256, 3) := by decide +kernel
theorem dX10_letterWord_75 : decode cX10_letterWord 75 = .ok (.ireturn, 1) := by decide +kernel
theorem dX10_isWord_0 : decode cX10_isWord 0 = .ok (.iload_n 3, 1) := by decide +kernel
theorem dX10_isWord_1 : decode cX10_isWord 1 = .ok (.iload_n 2, 1) := by decide +kernel
theorem dX10_isWord_2 : decode cX10_isWord 2 = .ok (.isub, 1) := by decide +kernel
theorem dX10_isWord_3 : decode cX10_isWord 3 = .ok (.aload_n 1, 1) := by decide +kernel
theorem dX10_isWord_4 : decode cX10_isWord 4 = .ok (.invokevirtual 64, 3) := by decide +kernel
theorem dX10_isWord_7 : decode cX10_isWord 7 = .ok (.if_icmp .eq 5, 3) := by decide +kernel
theorem dX10_isWord_10 : decode cX10_isWord 10 = .ok (.iconst 0, 1) := by decide +kernel
theorem dX10_isWord_11 : decode cX10_isWord 11 = .ok (.ireturn, 1) := by decide +kernel
theorem dX10_isWord_12 : decode cX10_isWord 12 = .ok (.iconst 0, 1) := by decide +kernel
theorem dX10_isWord_13 : decode cX10_isWord 13 = .ok (.istore 4, 2) := by decide +kernel
theorem dX10_isWord_15 : decode cX10_isWord 15 = .ok (.iload 4, 2) := by decide +kernel
theorem dX10_isWord_17 : decode cX10_isWord 17 = .ok (.aload_n 1, 1) := by decide +kernel
theorem dX10_isWord_18 : decode cX10_isWord 18 = .ok (.invokevirtual 64, 3) := by decide +kernel
theorem dX10_isWord_21 : decode cX10_isWord 21 = .ok (.if_icmp .ge 29, 3) := by decide +kernel
theorem dX10_isWord_24 : decode cX10_isWord 24 = .ok (.aload_n 0, 1) := by decide +kernel
theorem dX10_isWord_25 : decode cX10_isWord 25 = .ok (.getfield 9, 3) := by decide +kernel
theorem dX10_isWord_28 : decode cX10_isWord 28 = .ok (.iload_n 2, 1) := by decide +kernel
theorem dX10_isWord_29 : decode cX10_isWord 29 = .ok (.iload 4, 2) := by decide +kernel
theorem dX10_isWord_31 : decode cX10_isWord 31 = .ok (.iadd, 1) := by decide +kernel
theorem dX10_isWord_32 : decode cX10_isWord 32 = .ok (.iaload, 1) := by decide +kernel
theorem dX10_isWord_33 : decode cX10_isWord 33 = .ok (.aload_n 1, 1) := by decide +kernel
theorem dX10_isWord_34 : decode cX10_isWord 34 = .ok (.iload 4, 2) := by decide +kernel
theorem dX10_isWord_36 : decode cX10_isWord 36 = .ok (.invokevirtual 69, 3) := by decide +kernel
theorem dX10_isWord_39 : decode cX10_isWord 39 = .ok (.if_icmp .eq 5, 3) := by decide +kernel
theorem dX10_isWord_42 : decode cX10_isWord 42 = .ok (.iconst 0, 1) := by decide +kernel
theorem dX10_isWord_43 : decode cX10_isWord 43 = .ok (.ireturn, 1) := by decide +kernel
theorem dX10_isWord_44 : decode cX10_isWord 44 = .ok (.iinc 4 1, 3) := by decide +kernel
theorem dX10_isWord_47 : decode cX10_isWord 47 = .ok (.goto (-32), 3) := by decide +kernel
theorem dX10_isWord_50 : decode cX10_isWord 50 = .ok (.iconst 1, 1) := by decide +kernel
theorem dX10_isWord_51 : decode cX10_isWord 51 = .ok (.ireturn, 1) := by decide +kernel
theorem dX11_init_0 : decode cX11_init 0 = .ok (.aload_n 0, 1) := by decide +kernel
theorem dX11_init_1 : decode cX11_init 1 = .ok (.invokespecial 1, 3) := by decide +kernel
theorem dX11_init_4 : decode cX11_init 4 = .ok (.aload_n 0, 1) := by decide +kernel
theorem dX11_init_5 : decode cX11_init 5 = .ok (.new 7, 3) := by decide +kernel
theorem dX11_init_8 : decode cX11_init 8 = .ok (.dup, 1) := by decide +kernel
theorem dX11_init_9 : decode cX11_init 9 = .ok (.invokespecial 9, 3) := by decide +kernel
theorem dX11_init_12 : decode cX11_init 12 = .ok (.putfield 10, 3) := by decide +kernel
theorem dX11_init_15 : decode cX11_init 15 = .ok (.aload_n 0, 1) := by decide +kernel
theorem dX11_init_16 : decode cX11_init 16 = .ok (.iconst 4, 1) := by decide +kernel
theorem dX11_init_17 : decode cX11_init 17 = .ok (.anewarray 16, 3) := by decide +kernel
theorem dX11_init_20 : decode cX11_init 20 = .ok (.putfield 18, 3) := by decide +kernel
theorem dX11_init_23 : decode cX11_init 23 = .ok (.aload_n 0, 1) := by decide +kernel
theorem dX11_init_24 : decode cX11_init 24 = .ok (.new 16, 3) := by decide +kernel
theorem dX11_init_27 : decode cX11_init 27 = .ok (.dup, 1) := by decide +kernel
theorem dX11_init_28 : decode cX11_init 28 = .ok (.invokespecial 22, 3) := by decide +kernel
theorem dX11_init_31 : decode cX11_init 31 = .ok (.putfield 23, 3) := by decide +kernel
theorem dX11_init_34 : decode cX11_init 34 = .ok (.aload_n 0, 1) := by decide +kernel
theorem dX11_init_35 : decode cX11_init 35 = .ok (.new 27, 3) := by decide +kernel
theorem dX11_init_38 : decode cX11_init 38 = .ok (.dup, 1) := by decide +kernel
theorem dX11_init_39 : decode cX11_init 39 = .ok (.aload_n 0, 1) := by decide +kernel
theorem dX11_init_40 : decode cX11_init 40 = .ok (.getfield 10, 3) := by decide +kernel
theorem dX11_init_43 : decode cX11_init 43 = .ok (.aload_n 0, 1) := by decide +kernel
theorem dX11_init_44 : decode cX11_init 44 = .ok (.getfield 23, 3) := by decide +kernel
theorem dX11_init_47 : decode cX11_init 47 = .ok (.invokespecial 29, 3) := by decide +kernel
theorem dX11_init_50 : decode cX11_init 50 = .ok (.putfield 32, 3) := by decide +kernel
theorem dX11_init_53 : decode cX11_init 53 = .ok (.aload_n 0, 1) := by decide +kernel
theorem dX11_init_54 : decode cX11_init 54 = .ok (.new 36, 3) := by decide +kernel
theorem dX11_init_57 : decode cX11_init 57 = .ok (.dup, 1) := by decide +kernel
theorem dX11_init_58 : decode cX11_init 58 = .ok (.invokespecial 38, 3) := by decide +kernel
theorem dX11_init_61 : decode cX11_init 61 = .ok (.putfield 39, 3) := by decide +kernel
theorem dX11_init_64 : decode cX11_init 64 = .ok (.aload_n 0, 1) := by decide +kernel
theorem dX11_init_65 : decode cX11_init 65 = .ok (.new 43, 3) := by decide +kernel
theorem dX11_init_68 : decode cX11_init 68 = .ok (.dup, 1) := by decide +kernel
theorem dX11_init_69 : decode cX11_init 69 = .ok (.invokespecial 45, 3) := by decide +kernel
theorem dX11_init_72 : decode cX11_init 72 = .ok (.putfield 46, 3) := by decide +kernel
theorem dX11_init_75 : decode cX11_init 75 = .ok (.aload_n 0, 1) := by decide +kernel
theorem dX11_init_76 : decode cX11_init 76 = .ok (.new 50, 3) := by decide +kernel
theorem dX11_init_79 : decode cX11_init 79 = .ok (.dup, 1) := by decide +kernel
theorem dX11_init_80 : decode cX11_init 80 = .ok (.aload_n 0, 1) := by decide +kernel
theorem dX11_init_81 : decode cX11_init 81 = .ok (.getfield 46, 3) := by decide +kernel
theorem dX11_init_84 : decode cX11_init 84 = .ok (.invokespecial 52, 3) := by decide +kernel
theorem dX11_init_87 : decode cX11_init 87 = .ok (.putfield 55, 3) := by decide +kernel
theorem dX11_init_90 : decode cX11_init 90 = .ok (.aload_n 0, 1) := by decide +kernel
theorem dX11_init_91 : decode cX11_init 91 = .ok (.new 59, 3) := by decide +kernel
theorem dX11_init_94 : decode cX11_init 94 = .ok (.dup, 1) := by decide +kernel
theorem dX11_init_95 : decode cX11_init 95 = .ok (.aload_n 0, 1) := by decide +kernel
theorem dX11_init_96 : decode cX11_init 96 = .ok (.getfield 46, 3) := by decide +kernel
theorem dX11_init_99 : decode cX11_init 99 = .ok (.invokespecial 61, 3) := by decide +kernel
theorem dX11_init_102 : decode cX11_init 102 = .ok (.putfield 62, 3) := by decide +kernel
theorem dX11_init_105 : decode cX11_init 105 = .ok (.aload_n 0, 1) := by decide +kernel
theorem dX11_init_106 : decode cX11_init 106 = .ok (.new 66, 3) := by decide +kernel
theorem dX11_init_109 : decode cX11_init 109 = .ok (.dup, 1) := by decide +kernel
theorem dX11_init_110 : decode cX11_init 110 = .ok (.invokespecial 68, 3) := by decide +kernel
theorem dX11_init_113 : decode cX11_init 113 = .ok (.putfield 69, 3) := by decide +kernel
theorem dX11_init_116 : decode cX11_init 116 = .ok (.aload_n 0, 1) := by decide +kernel
theorem dX11_init_117 : decode cX11_init 117 = .ok (.new 73, 3) := by decide +kernel
theorem dX11_init_120 : decode cX11_init 120 = .ok (.dup, 1) := by decide +kernel
theorem dX11_init_121 : decode cX11_init 121 = .ok (.invokespecial 75, 3) := by decide +kernel
theorem dX11_init_124 : decode cX11_init 124 = .ok (.putfield 76, 3) := by decide +kernel
theorem dX11_init_127 : decode cX11_init 127 = .ok (.aload_n 0, 1) := by decide +kernel
theorem dX11_init_128 : decode cX11_init 128 = .ok (.sipush 128, 3) := by decide +kernel
theorem dX11_init_131 : decode cX11_init 131 = .ok (.newarray .int, 2) := by decide +kernel
theorem dX11_init_133 : decode cX11_init 133 = .ok (.putfield 80, 3) := by decide +kernel
theorem dX11_init_136 : decode cX11_init 136 = .ok (.aload_n 0, 1) := by decide +kernel
theorem dX11_init_137 : decode cX11_init 137 = .ok (.sipush 128, 3) := by decide +kernel
theorem dX11_init_140 : decode cX11_init 140 = .ok (.newarray .int, 2) := by decide +kernel
theorem dX11_init_142 : decode cX11_init 142 = .ok (.putfield 84, 3) := by decide +kernel
theorem dX11_init_145 : decode cX11_init 145 = .ok (.iconst 2, 1) := by decide +kernel
theorem dX11_init_146 : decode cX11_init 146 = .ok (.bipush 7, 2) := by decide +kernel
theorem dX11_init_148 : decode cX11_init 148 = .ok (.iload_n 1, 1) := by decide +kernel
theorem dX11_init_149 : decode cX11_init 149 = .ok (.invokestatic 87, 3) := by decide +kernel
theorem dX11_init_152 : decode cX11_init 152 = .ok (.invokestatic 93, 3) := by decide +kernel
theorem dX11_init_155 : decode cX11_init 155 = .ok (.istore_n 2, 1) := by decide +kernel
theorem dX11_init_156 : decode cX11_init 156 = .ok (.aload_n 0, 1) := by decide +kernel
theorem dX11_init_157 : decode cX11_init 157 = .ok (.new 96, 3) := by decide +kernel
theorem dX11_init_160 : decode cX11_init 160 = .ok (.dup, 1) := by decide +kernel
theorem dX11_init_161 : decode cX11_init 161 = .ok (.iload_n 2, 1) := by decide +kernel
theorem dX11_init_162 : decode cX11_init 162 = .ok (.invokespecial 98, 3) := by decide +kernel
theorem dX11_init_165 : decode cX11_init 165 = .ok (.putfield 101, 3) := by decide +kernel
theorem dX11_init_168 : decode cX11_init 168 = .ok (.aload_n 0, 1) := by decide +kernel
theorem dX11_init_169 : decode cX11_init 169 = .ok (.new 96, 3) := by decide +kernel
theorem dX11_init_172 : decode cX11_init 172 = .ok (.dup, 1) := by decide +kernel
theorem dX11_init_173 : decode cX11_init 173 = .ok (.iload_n 2, 1) := by decide +kernel
theorem dX11_init_174 : decode cX11_init 174 = .ok (.invokespecial 98, 3) := by decide +kernel
theorem dX11_init_177 : decode cX11_init 177 = .ok (.putfield 105, 3) := by decide +kernel
theorem dX11_init_180 : decode cX11_init 180 = .ok (.iconst 0, 1) := by decide +kernel
theorem dX11_init_181 : decode cX11_init 181 = .ok (.istore_n 3, 1) := by decide +kernel
theorem dX11_init_182 : decode cX11_init 182 = .ok (.iload_n 3, 1) := by decide +kernel
theorem dX11_init_183 : decode cX11_init 183 = .ok (.aload_n 0, 1) := by decide +kernel
theorem dX11_init_184 : decode cX11_init 184 = .ok (.getfield 18, 3) := by decide +kernel
theorem dX11_init_187 : decode cX11_init 187 = .ok (.arraylength, 1) := by decide +kernel
theorem dX11_init_188 : decode cX11_init 188 = .ok (.if_icmp .ge 22, 3) := by decide +kernel
theorem dX11_init_191 : decode cX11_init 191 = .ok (.aload_n 0, 1) := by decide +kernel
theorem dX11_init_192 : decode cX11_init 192 = .ok (.getfield 18, 3) := by decide +kernel
theorem dX11_init_195 : decode cX11_init 195 = .ok (.iload_n 3, 1) := by decide +kernel
theorem dX11_init_196 : decode cX11_init 196 = .ok (.new 16, 3) := by decide +kernel
theorem dX11_init_199 : decode cX11_init 199 = .ok (.dup, 1) := by decide +kernel
theorem dX11_init_200 : decode cX11_init 200 = .ok (.invokespecial 22, 3) := by decide +kernel
theorem dX11_init_203 : decode cX11_init 203 = .ok (.aastore, 1) := by decide +kernel
theorem dX11_init_204 : decode cX11_init 204 = .ok (.iinc 3 1, 3) := by decide +kernel
theorem dX11_init_207 : decode cX11_init 207 = .ok (.goto (-25), 3) := by decide +kernel
theorem dX11_init_210 : decode cX11_init 210 = .ok (.return_, 1) := by decide +kernel
theorem dX11_chain_0 : decode cX11_chain 0 = .ok (.iload_n 1, 1) := by decide +kernel
theorem dX11_chain_1 : decode cX11_chain 1 = .ok (.iconst 2, 1) := by decide +kernel
theorem dX11_chain_2 : decode cX11_chain 2 = .ok (.if_icmp .lt 9, 3) := by decide +kernel
theorem dX11_chain_5 : decode cX11_chain 5 = .ok (.iload_n 1, 1) := by decide +kernel
theorem dX11_chain_6 : decode cX11_chain 6 = .ok (.bipush 7, 2) := by decide +kernel
theorem dX11_chain_8 : decode cX11_chain 8 = .ok (.if_icmp .le 5, 3) := by decide +kernel
theorem dX11_chain_11 : decode cX11_chain 11 = .ok (.iconst 0, 1) := by decide +kernel
theorem dX11_chain_12 : decode cX11_chain 12 = .ok (.ireturn, 1) := by decide +kernel
theorem dX11_chain_13 : decode cX11_chain 13 = .ok (.aload_n 0, 1) := by decide +kernel
theorem dX11_chain_14 : decode cX11_chain 14 = .ok (.getfield 101, 3) := by decide +kernel
theorem dX11_chain_17 : decode cX11_chain 17 = .ok (.getfield 108, 3) := by decide +kernel
theorem dX11_chain_20 : decode cX11_chain 20 = .ok (.iload_n 1, 1) := by decide +kernel
theorem dX11_chain_21 : decode cX11_chain 21 = .ok (.putfield 111, 3) := by decide +kernel
theorem dX11_chain_24 : decode cX11_chain 24 = .ok (.aload_n 0, 1) := by decide +kernel
theorem dX11_chain_25 : decode cX11_chain 25 = .ok (.getfield 101, 3) := by decide +kernel
theorem dX11_chain_28 : decode cX11_chain 28 = .ok (.getfield 108, 3) := by decide +kernel
theorem dX11_chain_31 : decode cX11_chain 31 = .ok (.iload_n 2, 1) := by decide +kernel
theorem dX11_chain_32 : decode cX11_chain 32 = .ok (.putfield 115, 3) := by decide +kernel
theorem dX11_chain_35 : decode cX11_chain 35 = .ok (.aload_n 0, 1) := by decide +kernel
theorem dX11_chain_36 : decode cX11_chain 36 = .ok (.getfield 101, 3) := by decide +kernel
theorem dX11_chain_39 : decode cX11_chain 39 = .ok (.getfield 119, 3) := by decide +kernel
theorem dX11_chain_42 : decode cX11_chain 42 = .ok (.invokevirtual 123, 3) := by decide +kernel
theorem dX11_chain_45 : decode cX11_chain 45 = .ok (.iconst 1, 1) := by decide +kernel
theorem dX11_chain_46 : decode cX11_chain 46 = .ok (.ireturn, 1) := by decide +kernel
theorem dX11_prime_0 : decode cX11_prime 0 = .ok (.iload_n 1, 1) := by decide +kernel
theorem dX11_prime_1 : decode cX11_prime 1 = .ok (.invokestatic 128, 3) := by decide +kernel
theorem dX11_prime_4 : decode cX11_prime 4 = .ok (.ifCond .ne 5, 3) := by decide +kernel
theorem dX11_prime_7 : decode cX11_prime 7 = .ok (.iconst 0, 1) := by decide +kernel
theorem dX11_prime_8 : decode cX11_prime 8 = .ok (.ireturn, 1) := by decide +kernel
theorem dX11_prime_9 : decode cX11_prime 9 = .ok (.aload_n 0, 1) := by decide +kernel
theorem dX11_prime_10 : decode cX11_prime 10 = .ok (.getfield 101, 3) := by decide +kernel
theorem dX11_prime_13 : decode cX11_prime 13 = .ok (.getfield 108, 3) := by decide +kernel
theorem dX11_prime_16 : decode cX11_prime 16 = .ok (.astore_n 2, 1) := by decide +kernel
theorem dX11_prime_17 : decode cX11_prime 17 = .ok (.aload_n 2, 1) := by decide +kernel
theorem dX11_prime_18 : decode cX11_prime 18 = .ok (.iload_n 1, 1) := by decide +kernel
theorem dX11_prime_19 : decode cX11_prime 19 = .ok (.putfield 132, 3) := by decide +kernel
theorem dX11_prime_22 : decode cX11_prime 22 = .ok (.aload_n 2, 1) := by decide +kernel
theorem dX11_prime_23 : decode cX11_prime 23 = .ok (.aload_n 2, 1) := by decide +kernel
theorem dX11_prime_24 : decode cX11_prime 24 = .ok (.getfield 135, 3) := by decide +kernel
theorem dX11_prime_27 : decode cX11_prime 27 = .ok (.iload_n 1, 1) := by decide +kernel
theorem dX11_prime_28 : decode cX11_prime 28 = .ok (.invokestatic 138, 3) := by decide +kernel
theorem dX11_prime_31 : decode cX11_prime 31 = .ok (.putfield 135, 3) := by decide +kernel
theorem dX11_prime_34 : decode cX11_prime 34 = .ok (.aload_n 2, 1) := by decide +kernel
theorem dX11_prime_35 : decode cX11_prime 35 = .ok (.iconst 1, 1) := by decide +kernel
theorem dX11_prime_36 : decode cX11_prime 36 = .ok (.aload_n 2, 1) := by decide +kernel
theorem dX11_prime_37 : decode cX11_prime 37 = .ok (.getfield 141, 3) := by decide +kernel
theorem dX11_prime_40 : decode cX11_prime 40 = .ok (.iload_n 1, 1) := by decide +kernel
theorem dX11_prime_41 : decode cX11_prime 41 = .ok (.invokestatic 138, 3) := by decide +kernel
theorem dX11_prime_44 : decode cX11_prime 44 = .ok (.invokestatic 93, 3) := by decide +kernel
theorem dX11_prime_47 : decode cX11_prime 47 = .ok (.putfield 141, 3) := by decide +kernel
theorem dX11_prime_50 : decode cX11_prime 50 = .ok (.aload_n 0, 1) := by decide +kernel
theorem dX11_prime_51 : decode cX11_prime 51 = .ok (.getfield 101, 3) := by decide +kernel
theorem dX11_prime_54 : decode cX11_prime 54 = .ok (.getfield 119, 3) := by decide +kernel
theorem dX11_prime_57 : decode cX11_prime 57 = .ok (.iload_n 1, 1) := by decide +kernel
theorem dX11_prime_58 : decode cX11_prime 58 = .ok (.invokevirtual 144, 3) := by decide +kernel
theorem dX11_prime_61 : decode cX11_prime 61 = .ok (.iconst 1, 1) := by decide +kernel
theorem dX11_prime_62 : decode cX11_prime 62 = .ok (.ireturn, 1) := by decide +kernel
theorem dX11_numbers_0 : decode cX11_numbers 0 = .ok (.aload_n 0, 1) := by decide +kernel
theorem dX11_numbers_1 : decode cX11_numbers 1 = .ok (.getfield 101, 3) := by decide +kernel
theorem dX11_numbers_4 : decode cX11_numbers 4 = .ok (.getfield 108, 3) := by decide +kernel
theorem dX11_numbers_7 : decode cX11_numbers 7 = .ok (.astore_n 3, 1) := by decide +kernel
theorem dX11_numbers_8 : decode cX11_numbers 8 = .ok (.iload_n 1, 1) := by decide +kernel
theorem dX11_numbers_9 : decode cX11_numbers 9 = .ok (.ifCond .eq 19, 3) := by decide +kernel
theorem dX11_numbers_12 : decode cX11_numbers 12 = .ok (.aload_n 3, 1) := by decide +kernel
theorem dX11_numbers_13 : decode cX11_numbers 13 = .ok (.iload_n 1, 1) := by decide +kernel
theorem dX11_numbers_14 : decode cX11_numbers 14 = .ok (.invokevirtual 147, 3) := by decide +kernel
theorem dX11_numbers_17 : decode cX11_numbers 17 = .ok (.ifCond .eq 11, 3) := by decide +kernel
theorem dX11_numbers_20 : decode cX11_numbers 20 = .ok (.aload_n 3, 1) := by decide +kernel
theorem dX11_numbers_21 : decode cX11_numbers 21 = .ok (.iload_n 2, 1) := by decide +kernel
theorem dX11_numbers_22 : decode cX11_numbers 22 = .ok (.invokevirtual 147, 3) := by decide +kernel
theorem dX11_numbers_25 : decode cX11_numbers 25 = .ok (.ifCond .ne 5, 3) := by decide +kernel
theorem dX11_numbers_28 : decode cX11_numbers 28 = .ok (.iconst 0, 1) := by decide +kernel
theorem dX11_numbers_29 : decode cX11_numbers 29 = .ok (.ireturn, 1) := by decide +kernel
theorem dX11_numbers_30 : decode cX11_numbers 30 = .ok (.aload_n 3, 1) := by decide +kernel
theorem dX11_numbers_31 : decode cX11_numbers 31 = .ok (.iload_n 1, 1) := by decide +kernel
theorem dX11_numbers_32 : decode cX11_numbers 32 = .ok (.putfield 141, 3) := by decide +kernel
theorem dX11_numbers_35 : decode cX11_numbers 35 = .ok (.aload_n 3, 1) := by decide +kernel
theorem dX11_numbers_36 : decode cX11_numbers 36 = .ok (.iload_n 2, 1) := by decide +kernel
theorem dX11_numbers_37 : decode cX11_numbers 37 = .ok (.putfield 135, 3) := by decide +kernel
theorem dX11_numbers_40 : decode cX11_numbers 40 = .ok (.iconst 1, 1) := by decide +kernel
theorem dX11_numbers_41 : decode cX11_numbers 41 = .ok (.ireturn, 1) := by decide +kernel
theorem dX11_feed_0 : decode cX11_feed 0 = .ok (.aload_n 0, 1) := by decide +kernel
theorem dX11_feed_1 : decode cX11_feed 1 = .ok (.getfield 10, 3) := by decide +kernel
theorem dX11_feed_4 : decode cX11_feed 4 = .ok (.getfield 150, 3) := by decide +kernel
theorem dX11_feed_7 : decode cX11_feed 7 = .ok (.bipush 20, 2) := by decide +kernel
theorem dX11_feed_9 : decode cX11_feed 9 = .ok (.iadd, 1) := by decide +kernel
theorem dX11_feed_10 : decode cX11_feed 10 = .ok (.sipush 300, 3) := by decide +kernel
theorem dX11_feed_13 : decode cX11_feed 13 = .ok (.if_icmp .le 5, 3) := by decide +kernel
theorem dX11_feed_16 : decode cX11_feed 16 = .ok (.iconst (-1), 1) := by decide +kernel
theorem dX11_feed_17 : decode cX11_feed 17 = .ok (.ireturn, 1) := by decide +kernel
theorem dX11_feed_18 : decode cX11_feed 18 = .ok (.aload_n 0, 1) := by decide +kernel
theorem dX11_feed_19 : decode cX11_feed 19 = .ok (.getfield 10, 3) := by decide +kernel
theorem dX11_feed_22 : decode cX11_feed 22 = .ok (.iload_n 1, 1) := by decide +kernel
theorem dX11_feed_23 : decode cX11_feed 23 = .ok (.invokevirtual 153, 3) := by decide +kernel
theorem dX11_feed_26 : decode cX11_feed 26 = .ok (.aload_n 0, 1) := by decide +kernel
theorem dX11_feed_27 : decode cX11_feed 27 = .ok (.getfield 10, 3) := by decide +kernel
theorem dX11_feed_30 : decode cX11_feed 30 = .ok (.iload_n 2, 1) := by decide +kernel
theorem dX11_feed_31 : decode cX11_feed 31 = .ok (.invokevirtual 153, 3) := by decide +kernel
theorem dX11_feed_34 : decode cX11_feed 34 = .ok (.aload_n 0, 1) := by decide +kernel
theorem dX11_feed_35 : decode cX11_feed 35 = .ok (.getfield 10, 3) := by decide +kernel
theorem dX11_feed_38 : decode cX11_feed 38 = .ok (.iload_n 3, 1) := by decide +kernel
theorem dX11_feed_39 : decode cX11_feed 39 = .ok (.invokevirtual 153, 3) := by decide +kernel
theorem dX11_feed_42 : decode cX11_feed 42 = .ok (.aload_n 0, 1) := by decide +kernel
theorem dX11_feed_43 : decode cX11_feed 43 = .ok (.getfield 10, 3) := by decide +kernel
theorem dX11_feed_46 : decode cX11_feed 46 = .ok (.iload 4, 2) := by decide +kernel
theorem dX11_feed_48 : decode cX11_feed 48 = .ok (.invokevirtual 153, 3) := by decide +kernel
theorem dX11_feed_51 : decode cX11_feed 51 = .ok (.aload_n 0, 1) := by decide +kernel
theorem dX11_feed_52 : decode cX11_feed 52 = .ok (.getfield 10, 3) := by decide +kernel
theorem dX11_feed_55 : decode cX11_feed 55 = .ok (.iload 5, 2) := by decide +kernel
theorem dX11_feed_57 : decode cX11_feed 57 = .ok (.invokevirtual 153, 3) := by decide +kernel
theorem dX11_feed_60 : decode cX11_feed 60 = .ok (.aload_n 0, 1) := by decide +kernel
theorem dX11_feed_61 : decode cX11_feed 61 = .ok (.getfield 10, 3) := by decide +kernel
theorem dX11_feed_64 : decode cX11_feed 64 = .ok (.getfield 150, 3) := by decide +kernel
theorem dX11_feed_67 : decode cX11_feed 67 = .ok (.ireturn, 1) := by decide +kernel
theorem dX11_end_0 : decode cX11_end 0 = .ok (.iload_n 1, 1) := by decide +kernel
theorem dX11_end_1 : decode cX11_end 1 = .ok (.ifCond .lt 14, 3) := by decide +kernel
theorem dX11_end_4 : decode cX11_end 4 = .ok (.iload_n 1, 1) := by decide +kernel
theorem dX11_end_5 : decode cX11_end 5 = .ok (.aload_n 0, 1) := by decide +kernel
theorem dX11_end_6 : decode cX11_end 6 = .ok (.getfield 10, 3) := by decide +kernel
theorem dX11_end_9 : decode cX11_end 9 = .ok (.getfield 150, 3) := by decide +kernel
theorem dX11_end_12 : decode cX11_end 12 = .ok (.if_icmp .le 5, 3) := by decide +kernel
theorem dX11_end_15 : decode cX11_end 15 = .ok (.iconst (-1), 1) := by decide +kernel
theorem dX11_end_16 : decode cX11_end 16 = .ok (.ireturn, 1) := by decide +kernel
theorem dX11_end_17 : decode cX11_end 17 = .ok (.aload_n 0, 1) := by decide +kernel
theorem dX11_end_18 : decode cX11_end 18 = .ok (.getfield 10, 3) := by decide +kernel
theorem dX11_end_21 : decode cX11_end 21 = .ok (.iload_n 1, 1) := by decide +kernel
theorem dX11_end_22 : decode cX11_end 22 = .ok (.putfield 150, 3) := by decide +kernel
theorem dX11_end_25 : decode cX11_end 25 = .ok (.iload_n 1, 1) := by decide +kernel
theorem dX11_end_26 : decode cX11_end 26 = .ok (.ireturn, 1) := by decide +kernel
theorem dX11_text_0 : decode cX11_text 0 = .ok (.aload_n 0, 1) := by decide +kernel
theorem dX11_text_1 : decode cX11_text 1 = .ok (.getfield 101, 3) := by decide +kernel
theorem dX11_text_4 : decode cX11_text 4 = .ok (.getfield 156, 3) := by decide +kernel
theorem dX11_text_7 : decode cX11_text 7 = .ok (.istore_n 1, 1) := by decide +kernel
theorem dX11_text_8 : decode cX11_text 8 = .ok (.iload_n 1, 1) := by decide +kernel
theorem dX11_text_9 : decode cX11_text 9 = .ok (.ifCond .lt 12, 3) := by decide +kernel
theorem dX11_text_12 : decode cX11_text 12 = .ok (.iload_n 1, 1) := by decide +kernel
theorem dX11_text_13 : decode cX11_text 13 = .ok (.aload_n 0, 1) := by decide +kernel
theorem dX11_text_14 : decode cX11_text 14 = .ok (.getfield 18, 3) := by decide +kernel
theorem dX11_text_17 : decode cX11_text 17 = .ok (.arraylength, 1) := by decide +kernel
theorem dX11_text_18 : decode cX11_text 18 = .ok (.if_icmp .lt 5, 3) := by decide +kernel
theorem dX11_text_21 : decode cX11_text 21 = .ok (.iconst (-1), 1) := by decide +kernel
theorem dX11_text_22 : decode cX11_text 22 = .ok (.ireturn, 1) := by decide +kernel
theorem dX11_text_23 : decode cX11_text 23 = .ok (.aload_n 0, 1) := by decide +kernel
theorem dX11_text_24 : decode cX11_text 24 = .ok (.getfield 32, 3) := by decide +kernel
theorem dX11_text_27 : decode cX11_text 27 = .ok (.aload_n 0, 1) := by decide +kernel
theorem dX11_text_28 : decode cX11_text 28 = .ok (.getfield 18, 3) := by decide +kernel
theorem dX11_text_31 : decode cX11_text 31 = .ok (.iload_n 1, 1) := by decide +kernel
theorem dX11_text_32 : decode cX11_text 32 = .ok (.aaload, 1) := by decide +kernel
theorem dX11_text_33 : decode cX11_text 33 = .ok (.invokevirtual 159, 3) := by decide +kernel
theorem dX11_text_36 : decode cX11_text 36 = .ok (.istore_n 2, 1) := by decide +kernel
theorem dX11_text_37 : decode cX11_text 37 = .ok (.aload_n 0, 1) := by decide +kernel
theorem dX11_text_38 : decode cX11_text 38 = .ok (.getfield 10, 3) := by decide +kernel
theorem dX11_text_41 : decode cX11_text 41 = .ok (.iconst 0, 1) := by decide +kernel
theorem dX11_text_42 : decode cX11_text 42 = .ok (.putfield 150, 3) := by decide +kernel
theorem dX11_text_45 : decode cX11_text 45 = .ok (.iload_n 2, 1) := by decide +kernel
theorem dX11_text_46 : decode cX11_text 46 = .ok (.ifCond .ne 5, 3) := by decide +kernel
theorem dX11_text_49 : decode cX11_text 49 = .ok (.iconst (-1), 1) := by decide +kernel
theorem dX11_text_50 : decode cX11_text 50 = .ok (.ireturn, 1) := by decide +kernel
theorem dX11_text_51 : decode cX11_text 51 = .ok (.aload_n 0, 1) := by decide +kernel
theorem dX11_text_52 : decode cX11_text 52 = .ok (.getfield 101, 3) := by decide +kernel
theorem dX11_text_55 : decode cX11_text 55 = .ok (.iload_n 1, 1) := by decide +kernel
theorem dX11_text_56 : decode cX11_text 56 = .ok (.iconst 1, 1) := by decide +kernel
theorem dX11_text_57 : decode cX11_text 57 = .ok (.iadd, 1) := by decide +kernel
theorem dX11_text_58 : decode cX11_text 58 = .ok (.putfield 156, 3) := by decide +kernel
theorem dX11_text_61 : decode cX11_text 61 = .ok (.iload_n 1, 1) := by decide +kernel
theorem dX11_text_62 : decode cX11_text 62 = .ok (.ireturn, 1) := by decide +kernel
theorem dX11_fault_0 : decode cX11_fault 0 = .ok (.aload_n 0, 1) := by decide +kernel
theorem dX11_fault_1 : decode cX11_fault 1 = .ok (.getfield 32, 3) := by decide +kernel
theorem dX11_fault_4 : decode cX11_fault 4 = .ok (.invokevirtual 163, 3) := by decide +kernel
theorem dX11_fault_7 : decode cX11_fault 7 = .ok (.ifCond .ne 5, 3) := by decide +kernel
theorem dX11_fault_10 : decode cX11_fault 10 = .ok (.iconst (-1), 1) := by decide +kernel
theorem dX11_fault_11 : decode cX11_fault 11 = .ok (.ireturn, 1) := by decide +kernel
theorem dX11_fault_12 : decode cX11_fault 12 = .ok (.iload_n 1, 1) := by decide +kernel
theorem dX11_fault_13 : decode cX11_fault 13 = .ok (.ifCond .ne 13, 3) := by decide +kernel
theorem dX11_fault_16 : decode cX11_fault 16 = .ok (.aload_n 0, 1) := by decide +kernel
theorem dX11_fault_17 : decode cX11_fault 17 = .ok (.getfield 32, 3) := by decide +kernel
theorem dX11_fault_20 : decode cX11_fault 20 = .ok (.getfield 167, 3) := by decide +kernel
theorem dX11_fault_23 : decode cX11_fault 23 = .ok (.goto 19, 3) := by decide +kernel
theorem dX11_fault_26 : decode cX11_fault 26 = .ok (.iload_n 1, 1) := by decide +kernel
theorem dX11_fault_27 : decode cX11_fault 27 = .ok (.iconst 1, 1) := by decide +kernel
theorem dX11_fault_28 : decode cX11_fault 28 = .ok (.if_icmp .ne 13, 3) := by decide +kernel
theorem dX11_fault_31 : decode cX11_fault 31 = .ok (.aload_n 0, 1) := by decide +kernel
theorem dX11_fault_32 : decode cX11_fault 32 = .ok (.getfield 32, 3) := by decide +kernel
theorem dX11_fault_35 : decode cX11_fault 35 = .ok (.getfield 170, 3) := by decide +kernel
theorem dX11_fault_38 : decode cX11_fault 38 = .ok (.goto 4, 3) := by decide +kernel
theorem dX11_fault_41 : decode cX11_fault 41 = .ok (.iconst (-1), 1) := by decide +kernel
theorem dX11_fault_42 : decode cX11_fault 42 = .ok (.ireturn, 1) := by decide +kernel
theorem dX11_by_0 : decode cX11_by 0 = .ok (.iload_n 1, 1) := by decide +kernel
theorem dX11_by_1 : decode cX11_by 1 = .ok (.iconst (-1), 1) := by decide +kernel
theorem dX11_by_2 : decode cX11_by 2 = .ok (.if_icmp .eq 13, 3) := by decide +kernel
theorem dX11_by_5 : decode cX11_by 5 = .ok (.aload_n 0, 1) := by decide +kernel
theorem dX11_by_6 : decode cX11_by 6 = .ok (.iload_n 1, 1) := by decide +kernel
theorem dX11_by_7 : decode cX11_by 7 = .ok (.invokevirtual 173, 3) := by decide +kernel
theorem dX11_by_10 : decode cX11_by 10 = .ok (.ifCond .ne 5, 3) := by decide +kernel
theorem dX11_by_13 : decode cX11_by 13 = .ok (.iconst 0, 1) := by decide +kernel
theorem dX11_by_14 : decode cX11_by 14 = .ok (.ireturn, 1) := by decide +kernel
theorem dX11_by_15 : decode cX11_by 15 = .ok (.aload_n 0, 1) := by decide +kernel
theorem dX11_by_16 : decode cX11_by 16 = .ok (.getfield 101, 3) := by decide +kernel
theorem dX11_by_19 : decode cX11_by 19 = .ok (.iload_n 1, 1) := by decide +kernel
theorem dX11_by_20 : decode cX11_by 20 = .ok (.putfield 176, 3) := by decide +kernel
theorem dX11_by_23 : decode cX11_by 23 = .ok (.iconst 1, 1) := by decide +kernel
theorem dX11_by_24 : decode cX11_by 24 = .ok (.ireturn, 1) := by decide +kernel
theorem dX11_weight_0 : decode cX11_weight 0 = .ok (.iload_n 1, 1) := by decide +kernel
theorem dX11_weight_1 : decode cX11_weight 1 = .ok (.ifCond .lt 22, 3) := by decide +kernel
theorem dX11_weight_4 : decode cX11_weight 4 = .ok (.iload_n 1, 1) := by decide +kernel
theorem dX11_weight_5 : decode cX11_weight 5 = .ok (.iconst 2, 1) := by decide +kernel
theorem dX11_weight_6 : decode cX11_weight 6 = .ok (.if_icmp .gt 17, 3) := by decide +kernel
theorem dX11_weight_9 : decode cX11_weight 9 = .ok (.aload_n 0, 1) := by decide +kernel
theorem dX11_weight_10 : decode cX11_weight 10 = .ok (.getfield 101, 3) := by decide +kernel
theorem dX11_weight_13 : decode cX11_weight 13 = .ok (.getfield 108, 3) := by decide +kernel
theorem dX11_weight_16 : decode cX11_weight 16 = .ok (.iload_n 2, 1) := by decide +kernel
theorem dX11_weight_17 : decode cX11_weight 17 = .ok (.invokevirtual 147, 3) := by decide +kernel
theorem dX11_weight_20 : decode cX11_weight 20 = .ok (.ifCond .ne 5, 3) := by decide +kernel
theorem dX11_weight_23 : decode cX11_weight 23 = .ok (.iconst (-1), 1) := by decide +kernel
theorem dX11_weight_24 : decode cX11_weight 24 = .ok (.ireturn, 1) := by decide +kernel
theorem dX11_weight_25 : decode cX11_weight 25 = .ok (.aload_n 0, 1) := by decide +kernel
theorem dX11_weight_26 : decode cX11_weight 26 = .ok (.invokevirtual 179, 3) := by decide +kernel
theorem dX11_weight_29 : decode cX11_weight 29 = .ok (.iload_n 1, 1) := by decide +kernel
theorem dX11_weight_30 : decode cX11_weight 30 = .ok (.iload_n 2, 1) := by decide +kernel
theorem dX11_weight_31 : decode cX11_weight 31 = .ok (.aload_n 0, 1) := by decide +kernel
theorem dX11_weight_32 : decode cX11_weight 32 = .ok (.getfield 101, 3) := by decide +kernel
theorem dX11_weight_35 : decode cX11_weight 35 = .ok (.getfield 108, 3) := by decide +kernel
theorem dX11_weight_38 : decode cX11_weight 38 = .ok (.invokevirtual 183, 3) := by decide +kernel
theorem dX11_weight_41 : decode cX11_weight 41 = .ok (.ireturn, 1) := by decide +kernel
theorem dX11_equation_0 : decode cX11_equation 0 = .ok (.iload_n 1, 1) := by decide +kernel
theorem dX11_equation_1 : decode cX11_equation 1 = .ok (.ifCond .lt 8, 3) := by decide +kernel
theorem dX11_equation_4 : decode cX11_equation 4 = .ok (.iload_n 1, 1) := by decide +kernel
theorem dX11_equation_5 : decode cX11_equation 5 = .ok (.iconst 2, 1) := by decide +kernel
theorem dX11_equation_6 : decode cX11_equation 6 = .ok (.if_icmp .le 5, 3) := by decide +kernel
theorem dX11_equation_9 : decode cX11_equation 9 = .ok (.iconst (-1), 1) := by decide +kernel
theorem dX11_equation_10 : decode cX11_equation 10 = .ok (.ireturn, 1) := by decide +kernel
theorem dX11_equation_11 : decode cX11_equation 11 = .ok (.aload_n 0, 1) := by decide +kernel
theorem dX11_equation_12 : decode cX11_equation 12 = .ok (.getfield 39, 3) := by decide +kernel
theorem dX11_equation_15 : decode cX11_equation 15 = .ok (.aload_n 0, 1) := by decide +kernel
theorem dX11_equation_16 : decode cX11_equation 16 = .ok (.getfield 101, 3) := by decide +kernel
theorem dX11_equation_19 : decode cX11_equation 19 = .ok (.getfield 108, 3) := by decide +kernel
theorem dX11_equation_22 : decode cX11_equation 22 = .ok (.aload_n 0, 1) := by decide +kernel
theorem dX11_equation_23 : decode cX11_equation 23 = .ok (.invokevirtual 179, 3) := by decide +kernel
theorem dX11_equation_26 : decode cX11_equation 26 = .ok (.invokevirtual 187, 3) := by decide +kernel
theorem dX11_equation_29 : decode cX11_equation 29 = .ok (.aload_n 0, 1) := by decide +kernel
theorem dX11_equation_30 : decode cX11_equation 30 = .ok (.getfield 39, 3) := by decide +kernel
theorem dX11_equation_33 : decode cX11_equation 33 = .ok (.invokevirtual 191, 3) := by decide +kernel
theorem dX11_equation_36 : decode cX11_equation 36 = .ok (.iload_n 1, 1) := by decide +kernel
theorem dX11_equation_37 : decode cX11_equation 37 = .ok (.ifCond .ne 13, 3) := by decide +kernel
theorem dX11_equation_40 : decode cX11_equation 40 = .ok (.aload_n 0, 1) := by decide +kernel
theorem dX11_equation_41 : decode cX11_equation 41 = .ok (.getfield 39, 3) := by decide +kernel
theorem dX11_equation_44 : decode cX11_equation 44 = .ok (.getfield 194, 3) := by decide +kernel
theorem dX11_equation_47 : decode cX11_equation 47 = .ok (.goto 25, 3) := by decide +kernel
theorem dX11_equation_50 : decode cX11_equation 50 = .ok (.iload_n 1, 1) := by decide +kernel
theorem dX11_equation_51 : decode cX11_equation 51 = .ok (.iconst 1, 1) := by decide +kernel
theorem dX11_equation_52 : decode cX11_equation 52 = .ok (.if_icmp .ne 13, 3) := by decide +kernel
theorem dX11_equation_55 : decode cX11_equation 55 = .ok (.aload_n 0, 1) := by decide +kernel
theorem dX11_equation_56 : decode cX11_equation 56 = .ok (.getfield 39, 3) := by decide +kernel
theorem dX11_equation_59 : decode cX11_equation 59 = .ok (.getfield 197, 3) := by decide +kernel
theorem dX11_equation_62 : decode cX11_equation 62 = .ok (.goto 10, 3) := by decide +kernel
theorem dX11_equation_65 : decode cX11_equation 65 = .ok (.aload_n 0, 1) := by decide +kernel
theorem dX11_equation_66 : decode cX11_equation 66 = .ok (.getfield 39, 3) := by decide +kernel
theorem dX11_equation_69 : decode cX11_equation 69 = .ok (.getfield 200, 3) := by decide +kernel
theorem dX11_equation_72 : decode cX11_equation 72 = .ok (.ireturn, 1) := by decide +kernel
theorem dX11_sum_0 : decode cX11_sum 0 = .ok (.aload_n 0, 1) := by decide +kernel
theorem dX11_sum_1 : decode cX11_sum 1 = .ok (.getfield 101, 3) := by decide +kernel
theorem dX11_sum_4 : decode cX11_sum 4 = .ok (.getfield 108, 3) := by decide +kernel
theorem dX11_sum_7 : decode cX11_sum 7 = .ok (.astore_n 3, 1) := by decide +kernel
theorem dX11_sum_8 : decode cX11_sum 8 = .ok (.aload_n 3, 1) := by decide +kernel
theorem dX11_sum_9 : decode cX11_sum 9 = .ok (.iload_n 1, 1) := by decide +kernel
theorem dX11_sum_10 : decode cX11_sum 10 = .ok (.invokevirtual 203, 3) := by decide +kernel
theorem dX11_sum_13 : decode cX11_sum 13 = .ok (.ifCond .eq 20, 3) := by decide +kernel
theorem dX11_sum_16 : decode cX11_sum 16 = .ok (.aload_n 3, 1) := by decide +kernel
theorem dX11_sum_17 : decode cX11_sum 17 = .ok (.iload_n 2, 1) := by decide +kernel
theorem dX11_sum_18 : decode cX11_sum 18 = .ok (.invokevirtual 203, 3) := by decide +kernel
theorem dX11_sum_21 : decode cX11_sum 21 = .ok (.ifCond .eq 12, 3) := by decide +kernel
theorem dX11_sum_24 : decode cX11_sum 24 = .ok (.aload_n 3, 1) := by decide +kernel
theorem dX11_sum_25 : decode cX11_sum 25 = .ok (.iload_n 1, 1) := by decide +kernel
theorem dX11_sum_26 : decode cX11_sum 26 = .ok (.iload_n 2, 1) := by decide +kernel
theorem dX11_sum_27 : decode cX11_sum 27 = .ok (.invokevirtual 206, 3) := by decide +kernel
theorem dX11_sum_30 : decode cX11_sum 30 = .ok (.goto 4, 3) := by decide +kernel
theorem dX11_sum_33 : decode cX11_sum 33 = .ok (.iconst (-1), 1) := by decide +kernel
theorem dX11_sum_34 : decode cX11_sum 34 = .ok (.ireturn, 1) := by decide +kernel
theorem dX11_table_0 : decode cX11_table 0 = .ok (.aload_n 0, 1) := by decide +kernel
theorem dX11_table_1 : decode cX11_table 1 = .ok (.getfield 101, 3) := by decide +kernel
theorem dX11_table_4 : decode cX11_table 4 = .ok (.getfield 108, 3) := by decide +kernel
theorem dX11_table_7 : decode cX11_table 7 = .ok (.astore 4, 2) := by decide +kernel
theorem dX11_table_9 : decode cX11_table 9 = .ok (.aload 4, 2) := by decide +kernel
theorem dX11_table_11 : decode cX11_table 11 = .ok (.iload_n 1, 1) := by decide +kernel
theorem dX11_table_12 : decode cX11_table 12 = .ok (.invokevirtual 147, 3) := by decide +kernel
theorem dX11_table_15 : decode cX11_table 15 = .ok (.ifCond .eq 21, 3) := by decide +kernel
theorem dX11_table_18 : decode cX11_table 18 = .ok (.aload 4, 2) := by decide +kernel
theorem dX11_table_20 : decode cX11_table 20 = .ok (.iload_n 2, 1) := by decide +kernel
theorem dX11_table_21 : decode cX11_table 21 = .ok (.invokevirtual 203, 3) := by decide +kernel
theorem dX11_table_24 : decode cX11_table 24 = .ok (.ifCond .eq 12, 3) := by decide +kernel
theorem dX11_table_27 : decode cX11_table 27 = .ok (.aload 4, 2) := by decide +kernel
theorem dX11_table_29 : decode cX11_table 29 = .ok (.iload_n 3, 1) := by decide +kernel
theorem dX11_table_30 : decode cX11_table 30 = .ok (.invokevirtual 203, 3) := by decide +kernel
theorem dX11_table_33 : decode cX11_table 33 = .ok (.ifCond .ne 5, 3) := by decide +kernel
theorem dX11_table_36 : decode cX11_table 36 = .ok (.iconst (-1), 1) := by decide +kernel
theorem dX11_table_37 : decode cX11_table 37 = .ok (.ireturn, 1) := by decide +kernel
theorem dX11_table_38 : decode cX11_table 38 = .ok (.aload_n 0, 1) := by decide +kernel
theorem dX11_table_39 : decode cX11_table 39 = .ok (.getfield 39, 3) := by decide +kernel
theorem dX11_table_42 : decode cX11_table 42 = .ok (.aload 4, 2) := by decide +kernel
theorem dX11_table_44 : decode cX11_table 44 = .ok (.aload_n 0, 1) := by decide +kernel
theorem dX11_table_45 : decode cX11_table 45 = .ok (.invokevirtual 179, 3) := by decide +kernel
theorem dX11_table_48 : decode cX11_table 48 = .ok (.invokevirtual 187, 3) := by decide +kernel
theorem dX11_table_51 : decode cX11_table 51 = .ok (.aload_n 0, 1) := by decide +kernel
theorem dX11_table_52 : decode cX11_table 52 = .ok (.getfield 39, 3) := by decide +kernel
theorem dX11_table_55 : decode cX11_table 55 = .ok (.iload_n 1, 1) := by decide +kernel
theorem dX11_table_56 : decode cX11_table 56 = .ok (.iload_n 2, 1) := by decide +kernel
theorem dX11_table_57 : decode cX11_table 57 = .ok (.iload_n 3, 1) := by decide +kernel
theorem dX11_table_58 : decode cX11_table 58 = .ok (.invokevirtual 209, 3) := by decide +kernel
theorem dX11_table_61 : decode cX11_table 61 = .ok (.ireturn, 1) := by decide +kernel
theorem dX11_commute_0 : decode cX11_commute 0 = .ok (.aload_n 0, 1) := by decide +kernel
theorem dX11_commute_1 : decode cX11_commute 1 = .ok (.getfield 101, 3) := by decide +kernel
theorem dX11_commute_4 : decode cX11_commute 4 = .ok (.getfield 108, 3) := by decide +kernel
theorem dX11_commute_7 : decode cX11_commute 7 = .ok (.astore_n 3, 1) := by decide +kernel
theorem dX11_commute_8 : decode cX11_commute 8 = .ok (.aload_n 3, 1) := by decide +kernel
theorem dX11_commute_9 : decode cX11_commute 9 = .ok (.iload_n 1, 1) := by decide +kernel
theorem dX11_commute_10 : decode cX11_commute 10 = .ok (.invokevirtual 147, 3) := by decide +kernel
theorem dX11_commute_13 : decode cX11_commute 13 = .ok (.ifCond .eq 11, 3) := by decide +kernel
theorem dX11_commute_16 : decode cX11_commute 16 = .ok (.aload_n 3, 1) := by decide +kernel
theorem dX11_commute_17 : decode cX11_commute 17 = .ok (.iload_n 2, 1) := by decide +kernel
theorem dX11_commute_18 : decode cX11_commute 18 = .ok (.invokevirtual 147, 3) := by decide +kernel
theorem dX11_commute_21 : decode cX11_commute 21 = .ok (.ifCond .ne 5, 3) := by decide +kernel
theorem dX11_commute_24 : decode cX11_commute 24 = .ok (.iconst 0, 1) := by decide +kernel
theorem dX11_commute_25 : decode cX11_commute 25 = .ok (.ireturn, 1) := by decide +kernel
theorem dX11_commute_26 : decode cX11_commute 26 = .ok (.aload_n 0, 1) := by decide +kernel
theorem dX11_commute_27 : decode cX11_commute 27 = .ok (.iload_n 1, 1) := by decide +kernel
theorem dX11_commute_28 : decode cX11_commute 28 = .ok (.iload_n 2, 1) := by decide +kernel
theorem dX11_commute_29 : decode cX11_commute 29 = .ok (.invokevirtual 213, 3) := by decide +kernel
theorem dX11_commute_32 : decode cX11_commute 32 = .ok (.ireturn, 1) := by decide +kernel
theorem dX11_keeps_0 : decode cX11_keeps 0 = .ok (.aload_n 0, 1) := by decide +kernel
theorem dX11_keeps_1 : decode cX11_keeps 1 = .ok (.getfield 101, 3) := by decide +kernel
theorem dX11_keeps_4 : decode cX11_keeps 4 = .ok (.getfield 108, 3) := by decide +kernel
theorem dX11_keeps_7 : decode cX11_keeps 7 = .ok (.iload_n 1, 1) := by decide +kernel
theorem dX11_keeps_8 : decode cX11_keeps 8 = .ok (.invokevirtual 147, 3) := by decide +kernel
theorem dX11_keeps_11 : decode cX11_keeps 11 = .ok (.ifCond .eq 16, 3) := by decide +kernel
theorem dX11_keeps_14 : decode cX11_keeps 14 = .ok (.aload_n 0, 1) := by decide +kernel
theorem dX11_keeps_15 : decode cX11_keeps 15 = .ok (.iload_n 1, 1) := by decide +kernel
theorem dX11_keeps_16 : decode cX11_keeps 16 = .ok (.iconst (-1), 1) := by decide +kernel
theorem dX11_keeps_17 : decode cX11_keeps 17 = .ok (.invokevirtual 213, 3) := by decide +kernel
theorem dX11_keeps_20 : decode cX11_keeps 20 = .ok (.ifCond .eq 7, 3) := by decide +kernel
theorem dX11_keeps_23 : decode cX11_keeps 23 = .ok (.iconst 1, 1) := by decide +kernel
theorem dX11_keeps_24 : decode cX11_keeps 24 = .ok (.goto 4, 3) := by decide +kernel
theorem dX11_keeps_27 : decode cX11_keeps 27 = .ok (.iconst 0, 1) := by decide +kernel
theorem dX11_keeps_28 : decode cX11_keeps 28 = .ok (.ireturn, 1) := by decide +kernel
theorem dX11_size_0 : decode cX11_size 0 = .ok (.aload_n 0, 1) := by decide +kernel
theorem dX11_size_1 : decode cX11_size 1 = .ok (.iload_n 1, 1) := by decide +kernel
theorem dX11_size_2 : decode cX11_size 2 = .ok (.iload_n 2, 1) := by decide +kernel
theorem dX11_size_3 : decode cX11_size 3 = .ok (.invokevirtual 217, 3) := by decide +kernel
theorem dX11_size_6 : decode cX11_size 6 = .ok (.ifCond .ne 5, 3) := by decide +kernel
theorem dX11_size_9 : decode cX11_size 9 = .ok (.iconst (-1), 1) := by decide +kernel
theorem dX11_size_10 : decode cX11_size 10 = .ok (.ireturn, 1) := by decide +kernel
theorem dX11_size_11 : decode cX11_size 11 = .ok (.aload_n 0, 1) := by decide +kernel
theorem dX11_size_12 : decode cX11_size 12 = .ok (.getfield 46, 3) := by decide +kernel
theorem dX11_size_15 : decode cX11_size 15 = .ok (.aload_n 0, 1) := by decide +kernel
theorem dX11_size_16 : decode cX11_size 16 = .ok (.getfield 101, 3) := by decide +kernel
theorem dX11_size_19 : decode cX11_size 19 = .ok (.getfield 108, 3) := by decide +kernel
theorem dX11_size_22 : decode cX11_size 22 = .ok (.iload_n 1, 1) := by decide +kernel
theorem dX11_size_23 : decode cX11_size 23 = .ok (.iload_n 2, 1) := by decide +kernel
theorem dX11_size_24 : decode cX11_size 24 = .ok (.invokevirtual 220, 3) := by decide +kernel
theorem dX11_size_27 : decode cX11_size 27 = .ok (.aload_n 0, 1) := by decide +kernel
theorem dX11_size_28 : decode cX11_size 28 = .ok (.getfield 46, 3) := by decide +kernel
theorem dX11_size_31 : decode cX11_size 31 = .ok (.getfield 224, 3) := by decide +kernel
theorem dX11_size_34 : decode cX11_size 34 = .ok (.ireturn, 1) := by decide +kernel
theorem dX11_trace_0 : decode cX11_trace 0 = .ok (.aload_n 0, 1) := by decide +kernel
theorem dX11_trace_1 : decode cX11_trace 1 = .ok (.getfield 101, 3) := by decide +kernel
theorem dX11_trace_4 : decode cX11_trace 4 = .ok (.getfield 108, 3) := by decide +kernel
theorem dX11_trace_7 : decode cX11_trace 7 = .ok (.iload_n 1, 1) := by decide +kernel
theorem dX11_trace_8 : decode cX11_trace 8 = .ok (.invokevirtual 227, 3) := by decide +kernel
theorem dX11_trace_11 : decode cX11_trace 11 = .ok (.ifCond .eq 13, 3) := by decide +kernel
theorem dX11_trace_14 : decode cX11_trace 14 = .ok (.iload_n 2, 1) := by decide +kernel
theorem dX11_trace_15 : decode cX11_trace 15 = .ok (.ifCond .lt 9, 3) := by decide +kernel
theorem dX11_trace_18 : decode cX11_trace 18 = .ok (.iload_n 2, 1) := by decide +kernel
theorem dX11_trace_19 : decode cX11_trace 19 = .ok (.bipush 100, 2) := by decide +kernel
theorem dX11_trace_21 : decode cX11_trace 21 = .ok (.if_icmp .lt 5, 3) := by decide +kernel
theorem dX11_trace_24 : decode cX11_trace 24 = .ok (.iconst (-1), 1) := by decide +kernel
theorem dX11_trace_25 : decode cX11_trace 25 = .ok (.ireturn, 1) := by decide +kernel
theorem dX11_trace_26 : decode cX11_trace 26 = .ok (.aload_n 0, 1) := by decide +kernel
theorem dX11_trace_27 : decode cX11_trace 27 = .ok (.getfield 55, 3) := by decide +kernel
theorem dX11_trace_30 : decode cX11_trace 30 = .ok (.aload_n 0, 1) := by decide +kernel
theorem dX11_trace_31 : decode cX11_trace 31 = .ok (.getfield 101, 3) := by decide +kernel
theorem dX11_trace_34 : decode cX11_trace 34 = .ok (.getfield 108, 3) := by decide +kernel
theorem dX11_trace_37 : decode cX11_trace 37 = .ok (.iload_n 1, 1) := by decide +kernel
theorem dX11_trace_38 : decode cX11_trace 38 = .ok (.iconst (-1), 1) := by decide +kernel
theorem dX11_trace_39 : decode cX11_trace 39 = .ok (.invokevirtual 230, 3) := by decide +kernel
theorem dX11_trace_42 : decode cX11_trace 42 = .ok (.aload_n 0, 1) := by decide +kernel
theorem dX11_trace_43 : decode cX11_trace 43 = .ok (.getfield 55, 3) := by decide +kernel
theorem dX11_trace_46 : decode cX11_trace 46 = .ok (.iload_n 2, 1) := by decide +kernel
theorem dX11_trace_47 : decode cX11_trace 47 = .ok (.invokevirtual 232, 3) := by decide +kernel
theorem dX11_trace_50 : decode cX11_trace 50 = .ok (.ireturn, 1) := by decide +kernel
theorem dX11_poly_0 : decode cX11_poly 0 = .ok (.aload_n 0, 1) := by decide +kernel
theorem dX11_poly_1 : decode cX11_poly 1 = .ok (.iload_n 1, 1) := by decide +kernel
theorem dX11_poly_2 : decode cX11_poly 2 = .ok (.iload_n 2, 1) := by decide +kernel
theorem dX11_poly_3 : decode cX11_poly 3 = .ok (.invokevirtual 217, 3) := by decide +kernel
theorem dX11_poly_6 : decode cX11_poly 6 = .ok (.ifCond .eq 21, 3) := by decide +kernel
theorem dX11_poly_9 : decode cX11_poly 9 = .ok (.iload_n 2, 1) := by decide +kernel
theorem dX11_poly_10 : decode cX11_poly 10 = .ok (.iconst (-1), 1) := by decide +kernel
theorem dX11_poly_11 : decode cX11_poly 11 = .ok (.if_icmp .eq 18, 3) := by decide +kernel
theorem dX11_poly_14 : decode cX11_poly 14 = .ok (.aload_n 0, 1) := by decide +kernel
theorem dX11_poly_15 : decode cX11_poly 15 = .ok (.getfield 101, 3) := by decide +kernel
theorem dX11_poly_18 : decode cX11_poly 18 = .ok (.getfield 108, 3) := by decide +kernel
theorem dX11_poly_21 : decode cX11_poly 21 = .ok (.getfield 115, 3) := by decide +kernel
theorem dX11_poly_24 : decode cX11_poly 24 = .ok (.ifCond .ne 5, 3) := by decide +kernel
theorem dX11_poly_27 : decode cX11_poly 27 = .ok (.iconst (-1), 1) := by decide +kernel
theorem dX11_poly_28 : decode cX11_poly 28 = .ok (.ireturn, 1) := by decide +kernel
theorem dX11_poly_29 : decode cX11_poly 29 = .ok (.aload_n 0, 1) := by decide +kernel
theorem dX11_poly_30 : decode cX11_poly 30 = .ok (.getfield 55, 3) := by decide +kernel
theorem dX11_poly_33 : decode cX11_poly 33 = .ok (.aload_n 0, 1) := by decide +kernel
theorem dX11_poly_34 : decode cX11_poly 34 = .ok (.getfield 101, 3) := by decide +kernel
theorem dX11_poly_37 : decode cX11_poly 37 = .ok (.getfield 108, 3) := by decide +kernel
theorem dX11_poly_40 : decode cX11_poly 40 = .ok (.iload_n 1, 1) := by decide +kernel
theorem dX11_poly_41 : decode cX11_poly 41 = .ok (.iload_n 2, 1) := by decide +kernel
theorem dX11_poly_42 : decode cX11_poly 42 = .ok (.invokevirtual 230, 3) := by decide +kernel
theorem dX11_poly_45 : decode cX11_poly 45 = .ok (.iload_n 3, 1) := by decide +kernel
theorem dX11_poly_46 : decode cX11_poly 46 = .ok (.ifCond .lt 26, 3) := by decide +kernel
theorem dX11_poly_49 : decode cX11_poly 49 = .ok (.iload_n 3, 1) := by decide +kernel
theorem dX11_poly_50 : decode cX11_poly 50 = .ok (.aload_n 0, 1) := by decide +kernel
theorem dX11_poly_51 : decode cX11_poly 51 = .ok (.getfield 55, 3) := by decide +kernel
theorem dX11_poly_54 : decode cX11_poly 54 = .ok (.getfield 236, 3) := by decide +kernel
theorem dX11_poly_57 : decode cX11_poly 57 = .ok (.if_icmp .gt 15, 3) := by decide +kernel
theorem dX11_poly_60 : decode cX11_poly 60 = .ok (.aload_n 0, 1) := by decide +kernel
theorem dX11_poly_61 : decode cX11_poly 61 = .ok (.getfield 55, 3) := by decide +kernel
theorem dX11_poly_64 : decode cX11_poly 64 = .ok (.getfield 239, 3) := by decide +kernel
theorem dX11_poly_67 : decode cX11_poly 67 = .ok (.iload_n 3, 1) := by decide +kernel
theorem dX11_poly_68 : decode cX11_poly 68 = .ok (.iaload, 1) := by decide +kernel
theorem dX11_poly_69 : decode cX11_poly 69 = .ok (.goto 4, 3) := by decide +kernel
theorem dX11_poly_72 : decode cX11_poly 72 = .ok (.iconst (-1), 1) := by decide +kernel
theorem dX11_poly_73 : decode cX11_poly 73 = .ok (.ireturn, 1) := by decide +kernel
theorem dX11_own_0 : decode cX11_own 0 = .ok (.aload_n 0, 1) := by decide +kernel
theorem dX11_own_1 : decode cX11_own 1 = .ok (.getfield 101, 3) := by decide +kernel
theorem dX11_own_4 : decode cX11_own 4 = .ok (.getfield 108, 3) := by decide +kernel
theorem dX11_own_7 : decode cX11_own 7 = .ok (.iload_n 1, 1) := by decide +kernel
theorem dX11_own_8 : decode cX11_own 8 = .ok (.invokevirtual 227, 3) := by decide +kernel
theorem dX11_own_11 : decode cX11_own 11 = .ok (.ifCond .eq 8, 3) := by decide +kernel
theorem dX11_own_14 : decode cX11_own 14 = .ok (.iload_n 2, 1) := by decide +kernel
theorem dX11_own_15 : decode cX11_own 15 = .ok (.iconst (-1), 1) := by decide +kernel
theorem dX11_own_16 : decode cX11_own 16 = .ok (.if_icmp .ge 5, 3) := by decide +kernel
theorem dX11_own_19 : decode cX11_own 19 = .ok (.iconst (-1), 1) := by decide +kernel
theorem dX11_own_20 : decode cX11_own 20 = .ok (.ireturn, 1) := by decide +kernel
theorem dX11_own_21 : decode cX11_own 21 = .ok (.aload_n 0, 1) := by decide +kernel
theorem dX11_own_22 : decode cX11_own 22 = .ok (.getfield 55, 3) := by decide +kernel
theorem dX11_own_25 : decode cX11_own 25 = .ok (.aload_n 0, 1) := by decide +kernel
theorem dX11_own_26 : decode cX11_own 26 = .ok (.getfield 101, 3) := by decide +kernel
theorem dX11_own_29 : decode cX11_own 29 = .ok (.getfield 108, 3) := by decide +kernel
theorem dX11_own_32 : decode cX11_own 32 = .ok (.iload_n 1, 1) := by decide +kernel
theorem dX11_own_33 : decode cX11_own 33 = .ok (.iconst (-1), 1) := by decide +kernel
theorem dX11_own_34 : decode cX11_own 34 = .ok (.invokevirtual 230, 3) := by decide +kernel
theorem dX11_own_37 : decode cX11_own 37 = .ok (.iload_n 2, 1) := by decide +kernel
theorem dX11_own_38 : decode cX11_own 38 = .ok (.iconst (-1), 1) := by decide +kernel
theorem dX11_own_39 : decode cX11_own 39 = .ok (.if_icmp .ne 13, 3) := by decide +kernel
theorem dX11_own_42 : decode cX11_own 42 = .ok (.aload_n 0, 1) := by decide +kernel
theorem dX11_own_43 : decode cX11_own 43 = .ok (.getfield 55, 3) := by decide +kernel
theorem dX11_own_46 : decode cX11_own 46 = .ok (.invokevirtual 242, 3) := by decide +kernel
theorem dX11_own_49 : decode cX11_own 49 = .ok (.goto 11, 3) := by decide +kernel
theorem dX11_own_52 : decode cX11_own 52 = .ok (.aload_n 0, 1) := by decide +kernel
theorem dX11_own_53 : decode cX11_own 53 = .ok (.getfield 55, 3) := by decide +kernel
theorem dX11_own_56 : decode cX11_own 56 = .ok (.iload_n 2, 1) := by decide +kernel
theorem dX11_own_57 : decode cX11_own 57 = .ok (.invokevirtual 246, 3) := by decide +kernel
theorem dX11_own_60 : decode cX11_own 60 = .ok (.ireturn, 1) := by decide +kernel
theorem dX11_often_0 : decode cX11_often 0 = .ok (.aload_n 0, 1) := by decide +kernel
theorem dX11_often_1 : decode cX11_often 1 = .ok (.getfield 101, 3) := by decide +kernel
theorem dX11_often_4 : decode cX11_often 4 = .ok (.getfield 108, 3) := by decide +kernel
theorem dX11_often_7 : decode cX11_often 7 = .ok (.iload_n 1, 1) := by decide +kernel
theorem dX11_often_8 : decode cX11_often 8 = .ok (.invokevirtual 227, 3) := by decide +kernel
theorem dX11_often_11 : decode cX11_often 11 = .ok (.ifCond .eq 17, 3) := by decide +kernel
theorem dX11_often_14 : decode cX11_often 14 = .ok (.aload_n 0, 1) := by decide +kernel
theorem dX11_often_15 : decode cX11_often 15 = .ok (.getfield 101, 3) := by decide +kernel
theorem dX11_often_18 : decode cX11_often 18 = .ok (.getfield 108, 3) := by decide +kernel
theorem dX11_often_21 : decode cX11_often 21 = .ok (.iload_n 2, 1) := by decide +kernel
theorem dX11_often_22 : decode cX11_often 22 = .ok (.invokevirtual 147, 3) := by decide +kernel
theorem dX11_often_25 : decode cX11_often 25 = .ok (.ifCond .ne 5, 3) := by decide +kernel
theorem dX11_often_28 : decode cX11_often 28 = .ok (.iconst (-1), 1) := by decide +kernel
theorem dX11_often_29 : decode cX11_often 29 = .ok (.ireturn, 1) := by decide +kernel
theorem dX11_often_30 : decode cX11_often 30 = .ok (.aload_n 0, 1) := by decide +kernel
theorem dX11_often_31 : decode cX11_often 31 = .ok (.getfield 55, 3) := by decide +kernel
theorem dX11_often_34 : decode cX11_often 34 = .ok (.aload_n 0, 1) := by decide +kernel
theorem dX11_often_35 : decode cX11_often 35 = .ok (.getfield 101, 3) := by decide +kernel
theorem dX11_often_38 : decode cX11_often 38 = .ok (.getfield 108, 3) := by decide +kernel
theorem dX11_often_41 : decode cX11_often 41 = .ok (.iload_n 1, 1) := by decide +kernel
theorem dX11_often_42 : decode cX11_often 42 = .ok (.iconst (-1), 1) := by decide +kernel
theorem dX11_often_43 : decode cX11_often 43 = .ok (.invokevirtual 230, 3) := by decide +kernel
theorem dX11_often_46 : decode cX11_often 46 = .ok (.aload_n 0, 1) := by decide +kernel
theorem dX11_often_47 : decode cX11_often 47 = .ok (.getfield 55, 3) := by decide +kernel
theorem dX11_often_50 : decode cX11_often 50 = .ok (.iload_n 2, 1) := by decide +kernel
theorem dX11_often_51 : decode cX11_often 51 = .ok (.invokevirtual 249, 3) := by decide +kernel
theorem dX11_often_54 : decode cX11_often 54 = .ok (.ireturn, 1) := by decide +kernel
theorem dX11_root_0 : decode cX11_root 0 = .ok (.aload_n 0, 1) := by decide +kernel
theorem dX11_root_1 : decode cX11_root 1 = .ok (.getfield 101, 3) := by decide +kernel
theorem dX11_root_4 : decode cX11_root 4 = .ok (.getfield 108, 3) := by decide +kernel
theorem dX11_root_7 : decode cX11_root 7 = .ok (.invokevirtual 252, 3) := by decide +kernel
theorem dX11_root_10 : decode cX11_root 10 = .ok (.ireturn, 1) := by decide +kernel
theorem dX11_mean_0 : decode cX11_mean 0 = .ok (.aload_n 0, 1) := by decide +kernel
theorem dX11_mean_1 : decode cX11_mean 1 = .ok (.getfield 101, 3) := by decide +kernel
theorem dX11_mean_4 : decode cX11_mean 4 = .ok (.getfield 108, 3) := by decide +kernel
theorem dX11_mean_7 : decode cX11_mean 7 = .ok (.astore_n 3, 1) := by decide +kernel
theorem dX11_mean_8 : decode cX11_mean 8 = .ok (.aload_n 3, 1) := by decide +kernel
theorem dX11_mean_9 : decode cX11_mean 9 = .ok (.iload_n 1, 1) := by decide +kernel
theorem dX11_mean_10 : decode cX11_mean 10 = .ok (.invokevirtual 227, 3) := by decide +kernel
theorem dX11_mean_13 : decode cX11_mean 13 = .ok (.ifCond .eq 16, 3) := by decide +kernel
theorem dX11_mean_16 : decode cX11_mean 16 = .ok (.iload_n 2, 1) := by decide +kernel
theorem dX11_mean_17 : decode cX11_mean 17 = .ok (.iconst 1, 1) := by decide +kernel
theorem dX11_mean_18 : decode cX11_mean 18 = .ok (.if_icmp .lt 11, 3) := by decide +kernel
theorem dX11_mean_21 : decode cX11_mean 21 = .ok (.iload_n 2, 1) := by decide +kernel
theorem dX11_mean_22 : decode cX11_mean 22 = .ok (.aload_n 3, 1) := by decide +kernel
theorem dX11_mean_23 : decode cX11_mean 23 = .ok (.getfield 111, 3) := by decide +kernel
theorem dX11_mean_26 : decode cX11_mean 26 = .ok (.if_icmp .lt 5, 3) := by decide +kernel
theorem dX11_mean_29 : decode cX11_mean 29 = .ok (.iconst (-1), 1) := by decide +kernel
theorem dX11_mean_30 : decode cX11_mean 30 = .ok (.ireturn, 1) := by decide +kernel
theorem dX11_mean_31 : decode cX11_mean 31 = .ok (.iconst 0, 1) := by decide +kernel
theorem dX11_mean_32 : decode cX11_mean 32 = .ok (.istore 4, 2) := by decide +kernel
theorem dX11_mean_34 : decode cX11_mean 34 = .ok (.iconst 0, 1) := by decide +kernel
theorem dX11_mean_35 : decode cX11_mean 35 = .ok (.istore 5, 2) := by decide +kernel
theorem dX11_mean_37 : decode cX11_mean 37 = .ok (.iload 5, 2) := by decide +kernel
theorem dX11_mean_39 : decode cX11_mean 39 = .ok (.aload_n 3, 1) := by decide +kernel
theorem dX11_mean_40 : decode cX11_mean 40 = .ok (.invokevirtual 255, 3) := by decide +kernel
theorem dX11_mean_43 : decode cX11_mean 43 = .ok (.if_icmp .ge 30, 3) := by decide +kernel
theorem dX11_mean_46 : decode cX11_mean 46 = .ok (.iload 5, 2) := by decide +kernel
theorem dX11_mean_48 : decode cX11_mean 48 = .ok (.invokestatic 258, 3) := by decide +kernel
theorem dX11_mean_51 : decode cX11_mean 51 = .ok (.iload_n 1, 1) := by decide +kernel
theorem dX11_mean_52 : decode cX11_mean 52 = .ok (.if_icmp .ne 15, 3) := by decide +kernel
theorem dX11_mean_55 : decode cX11_mean 55 = .ok (.iload 4, 2) := by decide +kernel
theorem dX11_mean_57 : decode cX11_mean 57 = .ok (.aload_n 3, 1) := by decide +kernel
theorem dX11_mean_58 : decode cX11_mean 58 = .ok (.iload 5, 2) := by decide +kernel
theorem dX11_mean_60 : decode cX11_mean 60 = .ok (.iload_n 2, 1) := by decide +kernel
theorem dX11_mean_61 : decode cX11_mean 61 = .ok (.invokevirtual 263, 3) := by decide +kernel
theorem dX11_mean_64 : decode cX11_mean 64 = .ok (.iadd, 1) := by decide +kernel
theorem dX11_mean_65 : decode cX11_mean 65 = .ok (.istore 4, 2) := by decide +kernel
theorem dX11_mean_67 : decode cX11_mean 67 = .ok (.iinc 5 1, 3) := by decide +kernel
theorem dX11_mean_70 : decode cX11_mean 70 = .ok (.goto (-33), 3) := by decide +kernel
theorem dX11_mean_73 : decode cX11_mean 73 = .ok (.iload 4, 2) := by decide +kernel
theorem dX11_mean_75 : decode cX11_mean 75 = .ok (.ireturn, 1) := by decide +kernel
theorem dX11_pair_0 : decode cX11_pair 0 = .ok (.aload_n 0, 1) := by decide +kernel
theorem dX11_pair_1 : decode cX11_pair 1 = .ok (.getfield 101, 3) := by decide +kernel
theorem dX11_pair_4 : decode cX11_pair 4 = .ok (.getfield 108, 3) := by decide +kernel
theorem dX11_pair_7 : decode cX11_pair 7 = .ok (.astore 4, 2) := by decide +kernel
theorem dX11_pair_9 : decode cX11_pair 9 = .ok (.iload_n 1, 1) := by decide +kernel
theorem dX11_pair_10 : decode cX11_pair 10 = .ok (.ifCond .lt 13, 3) := by decide +kernel
theorem dX11_pair_13 : decode cX11_pair 13 = .ok (.iload_n 1, 1) := by decide +kernel
theorem dX11_pair_14 : decode cX11_pair 14 = .ok (.iconst 2, 1) := by decide +kernel
theorem dX11_pair_15 : decode cX11_pair 15 = .ok (.if_icmp .gt 8, 3) := by decide +kernel
theorem dX11_pair_18 : decode cX11_pair 18 = .ok (.iload_n 2, 1) := by decide +kernel
theorem dX11_pair_19 : decode cX11_pair 19 = .ok (.iconst (-1), 1) := by decide +kernel
theorem dX11_pair_20 : decode cX11_pair 20 = .ok (.if_icmp .ge 5, 3) := by decide +kernel
theorem dX11_pair_23 : decode cX11_pair 23 = .ok (.iconst (-1), 1) := by decide +kernel
theorem dX11_pair_24 : decode cX11_pair 24 = .ok (.ireturn, 1) := by decide +kernel
theorem dX11_pair_25 : decode cX11_pair 25 = .ok (.iload_n 2, 1) := by decide +kernel
theorem dX11_pair_26 : decode cX11_pair 26 = .ok (.iconst (-1), 1) := by decide +kernel
theorem dX11_pair_27 : decode cX11_pair 27 = .ok (.if_icmp .ne 14, 3) := by decide +kernel
theorem dX11_pair_30 : decode cX11_pair 30 = .ok (.aload_n 0, 1) := by decide +kernel
theorem dX11_pair_31 : decode cX11_pair 31 = .ok (.getfield 69, 3) := by decide +kernel
theorem dX11_pair_34 : decode cX11_pair 34 = .ok (.aload 4, 2) := by decide +kernel
theorem dX11_pair_36 : decode cX11_pair 36 = .ok (.iload_n 1, 1) := by decide +kernel
theorem dX11_pair_37 : decode cX11_pair 37 = .ok (.invokevirtual 266, 3) := by decide +kernel
theorem dX11_pair_40 : decode cX11_pair 40 = .ok (.ireturn, 1) := by decide +kernel
theorem dX11_pair_41 : decode cX11_pair 41 = .ok (.aload_n 0, 1) := by decide +kernel
theorem dX11_pair_42 : decode cX11_pair 42 = .ok (.getfield 69, 3) := by decide +kernel
theorem dX11_pair_45 : decode cX11_pair 45 = .ok (.aload 4, 2) := by decide +kernel
theorem dX11_pair_47 : decode cX11_pair 47 = .ok (.iload_n 1, 1) := by decide +kernel
theorem dX11_pair_48 : decode cX11_pair 48 = .ok (.iload_n 2, 1) := by decide +kernel
theorem dX11_pair_49 : decode cX11_pair 49 = .ok (.invokevirtual 270, 3) := by decide +kernel
theorem dX11_pair_52 : decode cX11_pair 52 = .ok (.ifCond .ne 5, 3) := by decide +kernel
theorem dX11_pair_55 : decode cX11_pair 55 = .ok (.iconst (-1), 1) := by decide +kernel
theorem dX11_pair_56 : decode cX11_pair 56 = .ok (.ireturn, 1) := by decide +kernel
theorem dX11_pair_57 : decode cX11_pair 57 = .ok (.iload_n 3, 1) := by decide +kernel
theorem dX11_pair_58 : decode cX11_pair 58 = .ok (.ifCond .lt 18, 3) := by decide +kernel
theorem dX11_pair_61 : decode cX11_pair 61 = .ok (.iload_n 3, 1) := by decide +kernel
theorem dX11_pair_62 : decode cX11_pair 62 = .ok (.iload_n 1, 1) := by decide +kernel
theorem dX11_pair_63 : decode cX11_pair 63 = .ok (.if_icmp .gt 13, 3) := by decide +kernel
theorem dX11_pair_66 : decode cX11_pair 66 = .ok (.aload_n 0, 1) := by decide +kernel
theorem dX11_pair_67 : decode cX11_pair 67 = .ok (.getfield 69, 3) := by decide +kernel
theorem dX11_pair_70 : decode cX11_pair 70 = .ok (.getfield 274, 3) := by decide +kernel
theorem dX11_pair_73 : decode cX11_pair 73 = .ok (.iload_n 3, 1) := by decide +kernel
theorem dX11_pair_74 : decode cX11_pair 74 = .ok (.iaload, 1) := by decide +kernel
theorem dX11_pair_75 : decode cX11_pair 75 = .ok (.ireturn, 1) := by decide +kernel
theorem dX11_pair_76 : decode cX11_pair 76 = .ok (.iload_n 3, 1) := by decide +kernel
theorem dX11_pair_77 : decode cX11_pair 77 = .ok (.bipush 10, 2) := by decide +kernel
theorem dX11_pair_79 : decode cX11_pair 79 = .ok (.if_icmp .lt 28, 3) := by decide +kernel
theorem dX11_pair_82 : decode cX11_pair 82 = .ok (.iload_n 3, 1) := by decide +kernel
theorem dX11_pair_83 : decode cX11_pair 83 = .ok (.bipush 10, 2) := by decide +kernel
theorem dX11_pair_85 : decode cX11_pair 85 = .ok (.aload 4, 2) := by decide +kernel
theorem dX11_pair_87 : decode cX11_pair 87 = .ok (.getfield 111, 3) := by decide +kernel
theorem dX11_pair_90 : decode cX11_pair 90 = .ok (.iadd, 1) := by decide +kernel
theorem dX11_pair_91 : decode cX11_pair 91 = .ok (.if_icmp .gt 16, 3) := by decide +kernel
theorem dX11_pair_94 : decode cX11_pair 94 = .ok (.aload_n 0, 1) := by decide +kernel
theorem dX11_pair_95 : decode cX11_pair 95 = .ok (.getfield 69, 3) := by decide +kernel
theorem dX11_pair_98 : decode cX11_pair 98 = .ok (.getfield 277, 3) := by decide +kernel
theorem dX11_pair_101 : decode cX11_pair 101 = .ok (.iload_n 3, 1) := by decide +kernel
theorem dX11_pair_102 : decode cX11_pair 102 = .ok (.bipush 10, 2) := by decide +kernel
theorem dX11_pair_104 : decode cX11_pair 104 = .ok (.isub, 1) := by decide +kernel
theorem dX11_pair_105 : decode cX11_pair 105 = .ok (.iaload, 1) := by decide +kernel
theorem dX11_pair_106 : decode cX11_pair 106 = .ok (.ireturn, 1) := by decide +kernel
theorem dX11_pair_107 : decode cX11_pair 107 = .ok (.iload_n 3, 1) := by decide +kernel
theorem dX11_pair_108 : decode cX11_pair 108 = .ok (.tableswitch 63 30 32 #[28, 38, 48], 28) := by decide +kernel
theorem dX11_pair_136 : decode cX11_pair 136 = .ok (.aload_n 0, 1) := by decide +kernel
theorem dX11_pair_137 : decode cX11_pair 137 = .ok (.getfield 69, 3) := by decide +kernel
theorem dX11_pair_140 : decode cX11_pair 140 = .ok (.aload 4, 2) := by decide +kernel
theorem dX11_pair_142 : decode cX11_pair 142 = .ok (.invokevirtual 280, 3) := by decide +kernel
theorem dX11_pair_145 : decode cX11_pair 145 = .ok (.ireturn, 1) := by decide +kernel
theorem dX11_pair_146 : decode cX11_pair 146 = .ok (.aload_n 0, 1) := by decide +kernel
theorem dX11_pair_147 : decode cX11_pair 147 = .ok (.getfield 69, 3) := by decide +kernel
theorem dX11_pair_150 : decode cX11_pair 150 = .ok (.aload 4, 2) := by decide +kernel
theorem dX11_pair_152 : decode cX11_pair 152 = .ok (.invokevirtual 284, 3) := by decide +kernel
theorem dX11_pair_155 : decode cX11_pair 155 = .ok (.ireturn, 1) := by decide +kernel
theorem dX11_pair_156 : decode cX11_pair 156 = .ok (.aload_n 0, 1) := by decide +kernel
theorem dX11_pair_157 : decode cX11_pair 157 = .ok (.iload_n 1, 1) := by decide +kernel
theorem dX11_pair_158 : decode cX11_pair 158 = .ok (.aload_n 0, 1) := by decide +kernel
theorem dX11_pair_159 : decode cX11_pair 159 = .ok (.getfield 69, 3) := by decide +kernel
theorem dX11_pair_162 : decode cX11_pair 162 = .ok (.aload 4, 2) := by decide +kernel
theorem dX11_pair_164 : decode cX11_pair 164 = .ok (.invokevirtual 280, 3) := by decide +kernel
theorem dX11_pair_167 : decode cX11_pair 167 = .ok (.invokevirtual 287, 3) := by decide +kernel
theorem dX11_pair_170 : decode cX11_pair 170 = .ok (.ireturn, 1) := by decide +kernel
theorem dX11_pair_171 : decode cX11_pair 171 = .ok (.iconst (-1), 1) := by decide +kernel
theorem dX11_pair_172 : decode cX11_pair 172 = .ok (.ireturn, 1) := by decide +kernel
theorem dX11_set_0 : decode cX11_set 0 = .ok (.aload_n 0, 1) := by decide +kernel
theorem dX11_set_1 : decode cX11_set 1 = .ok (.getfield 101, 3) := by decide +kernel
theorem dX11_set_4 : decode cX11_set 4 = .ok (.getfield 108, 3) := by decide +kernel
theorem dX11_set_7 : decode cX11_set 7 = .ok (.iload_n 1, 1) := by decide +kernel
theorem dX11_set_8 : decode cX11_set 8 = .ok (.invokevirtual 203, 3) := by decide +kernel
theorem dX11_set_11 : decode cX11_set 11 = .ok (.ifCond .ne 5, 3) := by decide +kernel
theorem dX11_set_14 : decode cX11_set 14 = .ok (.iconst 0, 1) := by decide +kernel
theorem dX11_set_15 : decode cX11_set 15 = .ok (.ireturn, 1) := by decide +kernel
theorem dX11_set_16 : decode cX11_set 16 = .ok (.aload_n 0, 1) := by decide +kernel
theorem dX11_set_17 : decode cX11_set 17 = .ok (.getfield 101, 3) := by decide +kernel
theorem dX11_set_20 : decode cX11_set 20 = .ok (.getfield 119, 3) := by decide +kernel
theorem dX11_set_23 : decode cX11_set 23 = .ok (.invokevirtual 123, 3) := by decide +kernel
theorem dX11_set_26 : decode cX11_set 26 = .ok (.aload_n 0, 1) := by decide +kernel
theorem dX11_set_27 : decode cX11_set 27 = .ok (.getfield 101, 3) := by decide +kernel
theorem dX11_set_30 : decode cX11_set 30 = .ok (.getfield 119, 3) := by decide +kernel
theorem dX11_set_33 : decode cX11_set 33 = .ok (.invokevirtual 290, 3) := by decide +kernel
theorem dX11_set_36 : decode cX11_set 36 = .ok (.iload_n 1, 1) := by decide +kernel
theorem dX11_set_37 : decode cX11_set 37 = .ok (.iconst 1, 1) := by decide +kernel
theorem dX11_set_38 : decode cX11_set 38 = .ok (.iastore, 1) := by decide +kernel
theorem dX11_set_39 : decode cX11_set 39 = .ok (.iconst 1, 1) := by decide +kernel
theorem dX11_set_40 : decode cX11_set 40 = .ok (.ireturn, 1) := by decide +kernel
theorem dX11_act_0 : decode cX11_act 0 = .ok (.aload_n 0, 1) := by decide +kernel
theorem dX11_act_1 : decode cX11_act 1 = .ok (.iload_n 1, 1) := by decide +kernel
theorem dX11_act_2 : decode cX11_act 2 = .ok (.iload_n 2, 1) := by decide +kernel
theorem dX11_act_3 : decode cX11_act 3 = .ok (.invokevirtual 294, 3) := by decide +kernel
theorem dX11_act_6 : decode cX11_act 6 = .ok (.ireturn, 1) := by decide +kernel
theorem dX11_played_0 : decode cX11_played 0 = .ok (.aload_n 0, 1) := by decide +kernel
theorem dX11_played_1 : decode cX11_played 1 = .ok (.iload_n 1, 1) := by decide +kernel
theorem dX11_played_2 : decode cX11_played 2 = .ok (.invokevirtual 173, 3) := by decide +kernel
theorem dX11_played_5 : decode cX11_played 5 = .ok (.ifCond .ne 6, 3) := by decide +kernel
theorem dX11_played_8 : decode cX11_played 8 = .ok (.bipush (-2), 2) := by decide +kernel
theorem dX11_played_10 : decode cX11_played 10 = .ok (.ireturn, 1) := by decide +kernel
theorem dX11_played_11 : decode cX11_played 11 = .ok (.aload_n 0, 1) := by decide +kernel
theorem dX11_played_12 : decode cX11_played 12 = .ok (.getfield 18, 3) := by decide +kernel
theorem dX11_played_15 : decode cX11_played 15 = .ok (.iload_n 1, 1) := by decide +kernel
theorem dX11_played_16 : decode cX11_played 16 = .ok (.aaload, 1) := by decide +kernel
theorem dX11_played_17 : decode cX11_played 17 = .ok (.astore_n 2, 1) := by decide +kernel
theorem dX11_played_18 : decode cX11_played 18 = .ok (.iconst 0, 1) := by decide +kernel
theorem dX11_played_19 : decode cX11_played 19 = .ok (.istore_n 3, 1) := by decide +kernel
theorem dX11_played_20 : decode cX11_played 20 = .ok (.iload_n 3, 1) := by decide +kernel
theorem dX11_played_21 : decode cX11_played 21 = .ok (.aload_n 2, 1) := by decide +kernel
theorem dX11_played_22 : decode cX11_played 22 = .ok (.getfield 297, 3) := by decide +kernel
theorem dX11_played_25 : decode cX11_played 25 = .ok (.if_icmp .ge 46, 3) := by decide +kernel
theorem dX11_played_28 : decode cX11_played 28 = .ok (.aload_n 2, 1) := by decide +kernel
theorem dX11_played_29 : decode cX11_played 29 = .ok (.iload_n 3, 1) := by decide +kernel
theorem dX11_played_30 : decode cX11_played 30 = .ok (.invokevirtual 300, 3) := by decide +kernel
theorem dX11_played_33 : decode cX11_played 33 = .ok (.iconst 3, 1) := by decide +kernel
theorem dX11_played_34 : decode cX11_played 34 = .ok (.isub, 1) := by decide +kernel
