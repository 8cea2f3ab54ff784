theorem dX3_divides_33 : decode cX3_divides 33 = .ok (.iconst 0, 1) := by decide +kernel
theorem dX3_divides_34 : decode cX3_divides 34 = .ok (.istore 6, 2) := by decide +kernel
theorem dX3_divides_36 : decode cX3_divides 36 = .ok (.iconst 0, 1) := by decide +kernel
theorem dX3_divides_37 : decode cX3_divides 37 = .ok (.istore 7, 2) := by decide +kernel
theorem dX3_divides_39 : decode cX3_divides 39 = .ok (.aload_n 0, 1) := by decide +kernel
theorem dX3_divides_40 : decode cX3_divides 40 = .ok (.getfield 12, 3) := by decide +kernel
theorem dX3_divides_43 : decode cX3_divides 43 = .ok (.getfield 68, 3) := by decide +kernel
theorem dX3_divides_46 : decode cX3_divides 46 = .ok (.iconst 1, 1) := by decide +kernel
theorem dX3_divides_47 : decode cX3_divides 47 = .ok (.iadd, 1) := by decide +kernel
theorem dX3_divides_48 : decode cX3_divides 48 = .ok (.istore 8, 2) := by decide +kernel
theorem dX3_divides_50 : decode cX3_divides 50 = .ok (.iload 8, 2) := by decide +kernel
theorem dX3_divides_52 : decode cX3_divides 52 = .ok (.ifCond .lt 70, 3) := by decide +kernel
theorem dX3_divides_55 : decode cX3_divides 55 = .ok (.aload_n 0, 1) := by decide +kernel
theorem dX3_divides_56 : decode cX3_divides 56 = .ok (.getfield 29, 3) := by decide +kernel
theorem dX3_divides_59 : decode cX3_divides 59 = .ok (.iload 8, 2) := by decide +kernel
theorem dX3_divides_61 : decode cX3_divides 61 = .ok (.iaload, 1) := by decide +kernel
theorem dX3_divides_62 : decode cX3_divides 62 = .ok (.iload 4, 2) := by decide +kernel
theorem dX3_divides_64 : decode cX3_divides 64 = .ok (.iload 6, 2) := by decide +kernel
theorem dX3_divides_66 : decode cX3_divides 66 = .ok (.imul, 1) := by decide +kernel
theorem dX3_divides_67 : decode cX3_divides 67 = .ok (.isub, 1) := by decide +kernel
theorem dX3_divides_68 : decode cX3_divides 68 = .ok (.iload 5, 2) := by decide +kernel
theorem dX3_divides_70 : decode cX3_divides 70 = .ok (.iload 7, 2) := by decide +kernel
theorem dX3_divides_72 : decode cX3_divides 72 = .ok (.imul, 1) := by decide +kernel
theorem dX3_divides_73 : decode cX3_divides 73 = .ok (.isub, 1) := by decide +kernel
theorem dX3_divides_74 : decode cX3_divides 74 = .ok (.aload_n 0, 1) := by decide +kernel
theorem dX3_divides_75 : decode cX3_divides 75 = .ok (.getfield 12, 3) := by decide +kernel
theorem dX3_divides_78 : decode cX3_divides 78 = .ok (.getfield 61, 3) := by decide +kernel
theorem dX3_divides_81 : decode cX3_divides 81 = .ok (.invokestatic 107, 3) := by decide +kernel
theorem dX3_divides_84 : decode cX3_divides 84 = .ok (.istore 9, 2) := by decide +kernel
theorem dX3_divides_86 : decode cX3_divides 86 = .ok (.iload 8, 2) := by decide +kernel
theorem dX3_divides_88 : decode cX3_divides 88 = .ok (.iload_n 3, 1) := by decide +kernel
theorem dX3_divides_89 : decode cX3_divides 89 = .ok (.if_icmp .ge 10, 3) := by decide +kernel
theorem dX3_divides_92 : decode cX3_divides 92 = .ok (.iload 9, 2) := by decide +kernel
theorem dX3_divides_94 : decode cX3_divides 94 = .ok (.ifCond .eq 5, 3) := by decide +kernel
theorem dX3_divides_97 : decode cX3_divides 97 = .ok (.iconst 0, 1) := by decide +kernel
theorem dX3_divides_98 : decode cX3_divides 98 = .ok (.ireturn, 1) := by decide +kernel
theorem dX3_divides_99 : decode cX3_divides 99 = .ok (.aload_n 0, 1) := by decide +kernel
theorem dX3_divides_100 : decode cX3_divides 100 = .ok (.getfield 32, 3) := by decide +kernel
theorem dX3_divides_103 : decode cX3_divides 103 = .ok (.iload 8, 2) := by decide +kernel
theorem dX3_divides_105 : decode cX3_divides 105 = .ok (.iload 9, 2) := by decide +kernel
theorem dX3_divides_107 : decode cX3_divides 107 = .ok (.iastore, 1) := by decide +kernel
theorem dX3_divides_108 : decode cX3_divides 108 = .ok (.iload 6, 2) := by decide +kernel
theorem dX3_divides_110 : decode cX3_divides 110 = .ok (.istore 7, 2) := by decide +kernel
theorem dX3_divides_112 : decode cX3_divides 112 = .ok (.iload 9, 2) := by decide +kernel
theorem dX3_divides_114 : decode cX3_divides 114 = .ok (.istore 6, 2) := by decide +kernel
theorem dX3_divides_116 : decode cX3_divides 116 = .ok (.iinc 8 (-1), 3) := by decide +kernel
theorem dX3_divides_119 : decode cX3_divides 119 = .ok (.goto (-69), 3) := by decide +kernel
theorem dX3_divides_122 : decode cX3_divides 122 = .ok (.iconst 1, 1) := by decide +kernel
theorem dX3_divides_123 : decode cX3_divides 123 = .ok (.ireturn, 1) := by decide +kernel
theorem dX4_init_0 : decode cX4_init 0 = .ok (.aload_n 0, 1) := by decide +kernel
theorem dX4_init_1 : decode cX4_init 1 = .ok (.invokespecial 3, 3) := by decide +kernel
theorem dX4_init_4 : decode cX4_init 4 = .ok (.aload_n 0, 1) := by decide +kernel
theorem dX4_init_5 : decode cX4_init 5 = .ok (.sipush 1225, 3) := by decide +kernel
theorem dX4_init_8 : decode cX4_init 8 = .ok (.newarray .int, 2) := by decide +kernel
theorem dX4_init_10 : decode cX4_init 10 = .ok (.putfield 9, 3) := by decide +kernel
theorem dX4_init_13 : decode cX4_init 13 = .ok (.aload_n 0, 1) := by decide +kernel
theorem dX4_init_14 : decode cX4_init 14 = .ok (.sipush 1225, 3) := by decide +kernel
theorem dX4_init_17 : decode cX4_init 17 = .ok (.newarray .int, 2) := by decide +kernel
theorem dX4_init_19 : decode cX4_init 19 = .ok (.putfield 15, 3) := by decide +kernel
theorem dX4_init_22 : decode cX4_init 22 = .ok (.aload_n 0, 1) := by decide +kernel
theorem dX4_init_23 : decode cX4_init 23 = .ok (.aload_n 1, 1) := by decide +kernel
theorem dX4_init_24 : decode cX4_init 24 = .ok (.putfield 18, 3) := by decide +kernel
theorem dX4_init_27 : decode cX4_init 27 = .ok (.return_, 1) := by decide +kernel
theorem dX4_fillTable_0 : decode cX4_fillTable 0 = .ok (.aload_n 0, 1) := by decide +kernel
theorem dX4_fillTable_1 : decode cX4_fillTable 1 = .ok (.getfield 18, 3) := by decide +kernel
theorem dX4_fillTable_4 : decode cX4_fillTable 4 = .ok (.getfield 22, 3) := by decide +kernel
theorem dX4_fillTable_7 : decode cX4_fillTable 7 = .ok (.istore 4, 2) := by decide +kernel
theorem dX4_fillTable_9 : decode cX4_fillTable 9 = .ok (.iconst 0, 1) := by decide +kernel
theorem dX4_fillTable_10 : decode cX4_fillTable 10 = .ok (.istore 5, 2) := by decide +kernel
theorem dX4_fillTable_12 : decode cX4_fillTable 12 = .ok (.iload 5, 2) := by decide +kernel
theorem dX4_fillTable_14 : decode cX4_fillTable 14 = .ok (.iload 4, 2) := by decide +kernel
theorem dX4_fillTable_16 : decode cX4_fillTable 16 = .ok (.if_icmp .ge 58, 3) := by decide +kernel
theorem dX4_fillTable_19 : decode cX4_fillTable 19 = .ok (.iconst 0, 1) := by decide +kernel
theorem dX4_fillTable_20 : decode cX4_fillTable 20 = .ok (.istore 6, 2) := by decide +kernel
theorem dX4_fillTable_22 : decode cX4_fillTable 22 = .ok (.iload 6, 2) := by decide +kernel
theorem dX4_fillTable_24 : decode cX4_fillTable 24 = .ok (.iload 4, 2) := by decide +kernel
theorem dX4_fillTable_26 : decode cX4_fillTable 26 = .ok (.if_icmp .ge 42, 3) := by decide +kernel
theorem dX4_fillTable_29 : decode cX4_fillTable 29 = .ok (.aload_n 3, 1) := by decide +kernel
theorem dX4_fillTable_30 : decode cX4_fillTable 30 = .ok (.iload 5, 2) := by decide +kernel
theorem dX4_fillTable_32 : decode cX4_fillTable 32 = .ok (.iload 4, 2) := by decide +kernel
theorem dX4_fillTable_34 : decode cX4_fillTable 34 = .ok (.imul, 1) := by decide +kernel
theorem dX4_fillTable_35 : decode cX4_fillTable 35 = .ok (.iload 6, 2) := by decide +kernel
theorem dX4_fillTable_37 : decode cX4_fillTable 37 = .ok (.iadd, 1) := by decide +kernel
theorem dX4_fillTable_38 : decode cX4_fillTable 38 = .ok (.aload_n 1, 1) := by decide +kernel
theorem dX4_fillTable_39 : decode cX4_fillTable 39 = .ok (.iload_n 2, 1) := by decide +kernel
theorem dX4_fillTable_40 : decode cX4_fillTable 40 = .ok (.aload_n 0, 1) := by decide +kernel
theorem dX4_fillTable_41 : decode cX4_fillTable 41 = .ok (.getfield 18, 3) := by decide +kernel
theorem dX4_fillTable_44 : decode cX4_fillTable 44 = .ok (.iload 5, 2) := by decide +kernel
theorem dX4_fillTable_46 : decode cX4_fillTable 46 = .ok (.invokevirtual 28, 3) := by decide +kernel
theorem dX4_fillTable_49 : decode cX4_fillTable 49 = .ok (.aload_n 0, 1) := by decide +kernel
theorem dX4_fillTable_50 : decode cX4_fillTable 50 = .ok (.getfield 18, 3) := by decide +kernel
theorem dX4_fillTable_53 : decode cX4_fillTable 53 = .ok (.iload 6, 2) := by decide +kernel
theorem dX4_fillTable_55 : decode cX4_fillTable 55 = .ok (.invokevirtual 28, 3) := by decide +kernel
theorem dX4_fillTable_58 : decode cX4_fillTable 58 = .ok (.invokevirtual 32, 3) := by decide +kernel
theorem dX4_fillTable_61 : decode cX4_fillTable 61 = .ok (.iastore, 1) := by decide +kernel
theorem dX4_fillTable_62 : decode cX4_fillTable 62 = .ok (.iinc 6 1, 3) := by decide +kernel
theorem dX4_fillTable_65 : decode cX4_fillTable 65 = .ok (.goto (-43), 3) := by decide +kernel
theorem dX4_fillTable_68 : decode cX4_fillTable 68 = .ok (.iinc 5 1, 3) := by decide +kernel
theorem dX4_fillTable_71 : decode cX4_fillTable 71 = .ok (.goto (-59), 3) := by decide +kernel
theorem dX4_fillTable_74 : decode cX4_fillTable 74 = .ok (.return_, 1) := by decide +kernel
theorem dX4_agree_0 : decode cX4_agree 0 = .ok (.aload_n 0, 1) := by decide +kernel
theorem dX4_agree_1 : decode cX4_agree 1 = .ok (.getfield 18, 3) := by decide +kernel
theorem dX4_agree_4 : decode cX4_agree 4 = .ok (.getfield 22, 3) := by decide +kernel
theorem dX4_agree_7 : decode cX4_agree 7 = .ok (.istore_n 2, 1) := by decide +kernel
theorem dX4_agree_8 : decode cX4_agree 8 = .ok (.iconst 0, 1) := by decide +kernel
theorem dX4_agree_9 : decode cX4_agree 9 = .ok (.istore_n 3, 1) := by decide +kernel
theorem dX4_agree_10 : decode cX4_agree 10 = .ok (.iload_n 3, 1) := by decide +kernel
theorem dX4_agree_11 : decode cX4_agree 11 = .ok (.iload_n 2, 1) := by decide +kernel
theorem dX4_agree_12 : decode cX4_agree 12 = .ok (.if_icmp .ge 111, 3) := by decide +kernel
theorem dX4_agree_15 : decode cX4_agree 15 = .ok (.iconst 0, 1) := by decide +kernel
theorem dX4_agree_16 : decode cX4_agree 16 = .ok (.istore 4, 2) := by decide +kernel
theorem dX4_agree_18 : decode cX4_agree 18 = .ok (.iload 4, 2) := by decide +kernel
theorem dX4_agree_20 : decode cX4_agree 20 = .ok (.iload_n 2, 1) := by decide +kernel
theorem dX4_agree_21 : decode cX4_agree 21 = .ok (.if_icmp .ge 96, 3) := by decide +kernel
theorem dX4_agree_24 : decode cX4_agree 24 = .ok (.iconst 0, 1) := by decide +kernel
theorem dX4_agree_25 : decode cX4_agree 25 = .ok (.istore 5, 2) := by decide +kernel
theorem dX4_agree_27 : decode cX4_agree 27 = .ok (.iconst 0, 1) := by decide +kernel
theorem dX4_agree_28 : decode cX4_agree 28 = .ok (.istore 6, 2) := by decide +kernel
theorem dX4_agree_30 : decode cX4_agree 30 = .ok (.iload 6, 2) := by decide +kernel
theorem dX4_agree_32 : decode cX4_agree 32 = .ok (.iload_n 2, 1) := by decide +kernel
theorem dX4_agree_33 : decode cX4_agree 33 = .ok (.if_icmp .ge 67, 3) := by decide +kernel
theorem dX4_agree_36 : decode cX4_agree 36 = .ok (.iload 5, 2) := by decide +kernel
theorem dX4_agree_38 : decode cX4_agree 38 = .ok (.aload_n 0, 1) := by decide +kernel
theorem dX4_agree_39 : decode cX4_agree 39 = .ok (.getfield 9, 3) := by decide +kernel
theorem dX4_agree_42 : decode cX4_agree 42 = .ok (.iload_n 3, 1) := by decide +kernel
theorem dX4_agree_43 : decode cX4_agree 43 = .ok (.iload_n 2, 1) := by decide +kernel
theorem dX4_agree_44 : decode cX4_agree 44 = .ok (.imul, 1) := by decide +kernel
theorem dX4_agree_45 : decode cX4_agree 45 = .ok (.iload 6, 2) := by decide +kernel
theorem dX4_agree_47 : decode cX4_agree 47 = .ok (.iadd, 1) := by decide +kernel
theorem dX4_agree_48 : decode cX4_agree 48 = .ok (.iaload, 1) := by decide +kernel
theorem dX4_agree_49 : decode cX4_agree 49 = .ok (.aload_n 0, 1) := by decide +kernel
theorem dX4_agree_50 : decode cX4_agree 50 = .ok (.getfield 15, 3) := by decide +kernel
theorem dX4_agree_53 : decode cX4_agree 53 = .ok (.iload 6, 2) := by decide +kernel
theorem dX4_agree_55 : decode cX4_agree 55 = .ok (.iload_n 2, 1) := by decide +kernel
theorem dX4_agree_56 : decode cX4_agree 56 = .ok (.imul, 1) := by decide +kernel
theorem dX4_agree_57 : decode cX4_agree 57 = .ok (.iload 4, 2) := by decide +kernel
theorem dX4_agree_59 : decode cX4_agree 59 = .ok (.iadd, 1) := by decide +kernel
theorem dX4_agree_60 : decode cX4_agree 60 = .ok (.iaload, 1) := by decide +kernel
theorem dX4_agree_61 : decode cX4_agree 61 = .ok (.imul, 1) := by decide +kernel
theorem dX4_agree_62 : decode cX4_agree 62 = .ok (.iadd, 1) := by decide +kernel
theorem dX4_agree_63 : decode cX4_agree 63 = .ok (.istore 5, 2) := by decide +kernel
theorem dX4_agree_65 : decode cX4_agree 65 = .ok (.iload 5, 2) := by decide +kernel
theorem dX4_agree_67 : decode cX4_agree 67 = .ok (.aload_n 0, 1) := by decide +kernel
theorem dX4_agree_68 : decode cX4_agree 68 = .ok (.getfield 15, 3) := by decide +kernel
theorem dX4_agree_71 : decode cX4_agree 71 = .ok (.iload_n 3, 1) := by decide +kernel
theorem dX4_agree_72 : decode cX4_agree 72 = .ok (.iload_n 2, 1) := by decide +kernel
theorem dX4_agree_73 : decode cX4_agree 73 = .ok (.imul, 1) := by decide +kernel
theorem dX4_agree_74 : decode cX4_agree 74 = .ok (.iload 6, 2) := by decide +kernel
theorem dX4_agree_76 : decode cX4_agree 76 = .ok (.iadd, 1) := by decide +kernel
theorem dX4_agree_77 : decode cX4_agree 77 = .ok (.iaload, 1) := by decide +kernel
theorem dX4_agree_78 : decode cX4_agree 78 = .ok (.aload_n 0, 1) := by decide +kernel
theorem dX4_agree_79 : decode cX4_agree 79 = .ok (.getfield 9, 3) := by decide +kernel
theorem dX4_agree_82 : decode cX4_agree 82 = .ok (.iload 6, 2) := by decide +kernel
theorem dX4_agree_84 : decode cX4_agree 84 = .ok (.iload_n 2, 1) := by decide +kernel
theorem dX4_agree_85 : decode cX4_agree 85 = .ok (.imul, 1) := by decide +kernel
theorem dX4_agree_86 : decode cX4_agree 86 = .ok (.iload 4, 2) := by decide +kernel
theorem dX4_agree_88 : decode cX4_agree 88 = .ok (.iadd, 1) := by decide +kernel
theorem dX4_agree_89 : decode cX4_agree 89 = .ok (.iaload, 1) := by decide +kernel
theorem dX4_agree_90 : decode cX4_agree 90 = .ok (.imul, 1) := by decide +kernel
theorem dX4_agree_91 : decode cX4_agree 91 = .ok (.isub, 1) := by decide +kernel
theorem dX4_agree_92 : decode cX4_agree 92 = .ok (.istore 5, 2) := by decide +kernel
theorem dX4_agree_94 : decode cX4_agree 94 = .ok (.iinc 6 1, 3) := by decide +kernel
theorem dX4_agree_97 : decode cX4_agree 97 = .ok (.goto (-67), 3) := by decide +kernel
theorem dX4_agree_100 : decode cX4_agree 100 = .ok (.iload 5, 2) := by decide +kernel
theorem dX4_agree_102 : decode cX4_agree 102 = .ok (.iload_n 1, 1) := by decide +kernel
theorem dX4_agree_103 : decode cX4_agree 103 = .ok (.invokestatic 38, 3) := by decide +kernel
theorem dX4_agree_106 : decode cX4_agree 106 = .ok (.ifCond .eq 5, 3) := by decide +kernel
theorem dX4_agree_109 : decode cX4_agree 109 = .ok (.iconst 0, 1) := by decide +kernel
theorem dX4_agree_110 : decode cX4_agree 110 = .ok (.ireturn, 1) := by decide +kernel
theorem dX4_agree_111 : decode cX4_agree 111 = .ok (.iinc 4 1, 3) := by decide +kernel
theorem dX4_agree_114 : decode cX4_agree 114 = .ok (.goto (-96), 3) := by decide +kernel
theorem dX4_agree_117 : decode cX4_agree 117 = .ok (.iinc 3 1, 3) := by decide +kernel
theorem dX4_agree_120 : decode cX4_agree 120 = .ok (.goto (-110), 3) := by decide +kernel
theorem dX4_agree_123 : decode cX4_agree 123 = .ok (.iconst 1, 1) := by decide +kernel
theorem dX4_agree_124 : decode cX4_agree 124 = .ok (.ireturn, 1) := by decide +kernel
theorem dX5_init_0 : decode cX5_init 0 = .ok (.aload_n 0, 1) := by decide +kernel
theorem dX5_init_1 : decode cX5_init 1 = .ok (.invokespecial 3, 3) := by decide +kernel
theorem dX5_init_4 : decode cX5_init 4 = .ok (.aload_n 0, 1) := by decide +kernel
theorem dX5_init_5 : decode cX5_init 5 = .ok (.iconst 0, 1) := by decide +kernel
theorem dX5_init_6 : decode cX5_init 6 = .ok (.putfield 9, 3) := by decide +kernel
theorem dX5_init_9 : decode cX5_init 9 = .ok (.aload_n 0, 1) := by decide +kernel
theorem dX5_init_10 : decode cX5_init 10 = .ok (.iconst (-1), 1) := by decide +kernel
theorem dX5_init_11 : decode cX5_init 11 = .ok (.putfield 17, 3) := by decide +kernel
theorem dX5_init_14 : decode cX5_init 14 = .ok (.aload_n 0, 1) := by decide +kernel
theorem dX5_init_15 : decode cX5_init 15 = .ok (.iconst 0, 1) := by decide +kernel
theorem dX5_init_16 : decode cX5_init 16 = .ok (.putfield 20, 3) := by decide +kernel
theorem dX5_init_19 : decode cX5_init 19 = .ok (.aload_n 0, 1) := by decide +kernel
theorem dX5_init_20 : decode cX5_init 20 = .ok (.iconst 0, 1) := by decide +kernel
theorem dX5_init_21 : decode cX5_init 21 = .ok (.putfield 24, 3) := by decide +kernel
theorem dX5_init_24 : decode cX5_init 24 = .ok (.aload_n 0, 1) := by decide +kernel
theorem dX5_init_25 : decode cX5_init 25 = .ok (.iconst 0, 1) := by decide +kernel
theorem dX5_init_26 : decode cX5_init 26 = .ok (.putfield 27, 3) := by decide +kernel
theorem dX5_init_29 : decode cX5_init 29 = .ok (.aload_n 0, 1) := by decide +kernel
theorem dX5_init_30 : decode cX5_init 30 = .ok (.iconst (-1), 1) := by decide +kernel
theorem dX5_init_31 : decode cX5_init 31 = .ok (.putfield 30, 3) := by decide +kernel
theorem dX5_init_34 : decode cX5_init 34 = .ok (.aload_n 0, 1) := by decide +kernel
theorem dX5_init_35 : decode cX5_init 35 = .ok (.aload_n 1, 1) := by decide +kernel
theorem dX5_init_36 : decode cX5_init 36 = .ok (.putfield 33, 3) := by decide +kernel
theorem dX5_init_39 : decode cX5_init 39 = .ok (.aload_n 0, 1) := by decide +kernel
theorem dX5_init_40 : decode cX5_init 40 = .ok (.aload_n 2, 1) := by decide +kernel
theorem dX5_init_41 : decode cX5_init 41 = .ok (.putfield 37, 3) := by decide +kernel
theorem dX5_init_44 : decode cX5_init 44 = .ok (.return_, 1) := by decide +kernel
theorem dX5_hasRead_0 : decode cX5_hasRead 0 = .ok (.aload_n 0, 1) := by decide +kernel
theorem dX5_hasRead_1 : decode cX5_hasRead 1 = .ok (.getfield 24, 3) := by decide +kernel
theorem dX5_hasRead_4 : decode cX5_hasRead 4 = .ok (.ifCond .le 7, 3) := by decide +kernel
theorem dX5_hasRead_7 : decode cX5_hasRead 7 = .ok (.iconst 1, 1) := by decide +kernel
theorem dX5_hasRead_8 : decode cX5_hasRead 8 = .ok (.goto 4, 3) := by decide +kernel
theorem dX5_hasRead_11 : decode cX5_hasRead 11 = .ok (.iconst 0, 1) := by decide +kernel
theorem dX5_hasRead_12 : decode cX5_hasRead 12 = .ok (.ireturn, 1) := by decide +kernel
theorem dX5_readInto_0 : decode cX5_readInto 0 = .ok (.aload_n 0, 1) := by decide +kernel
theorem dX5_readInto_1 : decode cX5_readInto 1 = .ok (.dup, 1) := by decide +kernel
theorem dX5_readInto_2 : decode cX5_readInto 2 = .ok (.getfield 24, 3) := by decide +kernel
theorem dX5_readInto_5 : decode cX5_readInto 5 = .ok (.iconst 1, 1) := by decide +kernel
theorem dX5_readInto_6 : decode cX5_readInto 6 = .ok (.iadd, 1) := by decide +kernel
theorem dX5_readInto_7 : decode cX5_readInto 7 = .ok (.putfield 24, 3) := by decide +kernel
theorem dX5_readInto_10 : decode cX5_readInto 10 = .ok (.aload_n 0, 1) := by decide +kernel
theorem dX5_readInto_11 : decode cX5_readInto 11 = .ok (.aload_n 1, 1) := by decide +kernel
theorem dX5_readInto_12 : decode cX5_readInto 12 = .ok (.putfield 37, 3) := by decide +kernel
theorem dX5_readInto_15 : decode cX5_readInto 15 = .ok (.aload_n 0, 1) := by decide +kernel
theorem dX5_readInto_16 : decode cX5_readInto 16 = .ok (.getfield 37, 3) := by decide +kernel
theorem dX5_readInto_19 : decode cX5_readInto 19 = .ok (.aload_n 0, 1) := by decide +kernel
theorem dX5_readInto_20 : decode cX5_readInto 20 = .ok (.getfield 24, 3) := by decide +kernel
theorem dX5_readInto_23 : decode cX5_readInto 23 = .ok (.invokevirtual 41, 3) := by decide +kernel
theorem dX5_readInto_26 : decode cX5_readInto 26 = .ok (.aload_n 0, 1) := by decide +kernel
theorem dX5_readInto_27 : decode cX5_readInto 27 = .ok (.iconst 0, 1) := by decide +kernel
theorem dX5_readInto_28 : decode cX5_readInto 28 = .ok (.putfield 27, 3) := by decide +kernel
theorem dX5_readInto_31 : decode cX5_readInto 31 = .ok (.aload_n 0, 1) := by decide +kernel
theorem dX5_readInto_32 : decode cX5_readInto 32 = .ok (.getfield 33, 3) := by decide +kernel
theorem dX5_readInto_35 : decode cX5_readInto 35 = .ok (.invokevirtual 47, 3) := by decide +kernel
theorem dX5_readInto_38 : decode cX5_readInto 38 = .ok (.aload_n 0, 1) := by decide +kernel
theorem dX5_readInto_39 : decode cX5_readInto 39 = .ok (.iconst (-1), 1) := by decide +kernel
theorem dX5_readInto_40 : decode cX5_readInto 40 = .ok (.putfield 9, 3) := by decide +kernel
theorem dX5_readInto_43 : decode cX5_readInto 43 = .ok (.aload_n 0, 1) := by decide +kernel
theorem dX5_readInto_44 : decode cX5_readInto 44 = .ok (.invokevirtual 50, 3) := by decide +kernel
theorem dX5_readInto_47 : decode cX5_readInto 47 = .ok (.iconst 1, 1) := by decide +kernel
theorem dX5_readInto_48 : decode cX5_readInto 48 = .ok (.istore_n 2, 1) := by decide +kernel
theorem dX5_readInto_49 : decode cX5_readInto 49 = .ok (.iconst 0, 1) := by decide +kernel
theorem dX5_readInto_50 : decode cX5_readInto 50 = .ok (.istore_n 3, 1) := by decide +kernel
theorem dX5_readInto_51 : decode cX5_readInto 51 = .ok (.iload_n 2, 1) := by decide +kernel
theorem dX5_readInto_52 : decode cX5_readInto 52 = .ok (.ifCond .eq 28, 3) := by decide +kernel
theorem dX5_readInto_55 : decode cX5_readInto 55 = .ok (.aload_n 0, 1) := by decide +kernel
theorem dX5_readInto_56 : decode cX5_readInto 56 = .ok (.getfield 17, 3) := by decide +kernel
theorem dX5_readInto_59 : decode cX5_readInto 59 = .ok (.iconst (-1), 1) := by decide +kernel
theorem dX5_readInto_60 : decode cX5_readInto 60 = .ok (.if_icmp .eq 20, 3) := by decide +kernel
theorem dX5_readInto_63 : decode cX5_readInto 63 = .ok (.iload_n 3, 1) := by decide +kernel
theorem dX5_readInto_64 : decode cX5_readInto 64 = .ok (.bipush 30, 2) := by decide +kernel
theorem dX5_readInto_66 : decode cX5_readInto 66 = .ok (.if_icmp .gt 14, 3) := by decide +kernel
theorem dX5_readInto_69 : decode cX5_readInto 69 = .ok (.aload_n 0, 1) := by decide +kernel
theorem dX5_readInto_70 : decode cX5_readInto 70 = .ok (.invokevirtual 53, 3) := by decide +kernel
theorem dX5_readInto_73 : decode cX5_readInto 73 = .ok (.istore_n 2, 1) := by decide +kernel
theorem dX5_readInto_74 : decode cX5_readInto 74 = .ok (.iinc 3 1, 3) := by decide +kernel
theorem dX5_readInto_77 : decode cX5_readInto 77 = .ok (.goto (-26), 3) := by decide +kernel
theorem dX5_readInto_80 : decode cX5_readInto 80 = .ok (.aload_n 0, 1) := by decide +kernel
theorem dX5_readInto_81 : decode cX5_readInto 81 = .ok (.iload_n 2, 1) := by decide +kernel
theorem dX5_readInto_82 : decode cX5_readInto 82 = .ok (.ifCond .eq 7, 3) := by decide +kernel
theorem dX5_readInto_85 : decode cX5_readInto 85 = .ok (.iconst (-1), 1) := by decide +kernel
theorem dX5_readInto_86 : decode cX5_readInto 86 = .ok (.goto 14, 3) := by decide +kernel
theorem dX5_readInto_89 : decode cX5_readInto 89 = .ok (.aload_n 0, 1) := by decide +kernel
theorem dX5_readInto_90 : decode cX5_readInto 90 = .ok (.getfield 33, 3) := by decide +kernel
theorem dX5_readInto_93 : decode cX5_readInto 93 = .ok (.aload_n 0, 1) := by decide +kernel
theorem dX5_readInto_94 : decode cX5_readInto 94 = .ok (.getfield 9, 3) := by decide +kernel
theorem dX5_readInto_97 : decode cX5_readInto 97 = .ok (.invokevirtual 57, 3) := by decide +kernel
theorem dX5_readInto_100 : decode cX5_readInto 100 = .ok (.putfield 30, 3) := by decide +kernel
theorem dX5_readInto_103 : decode cX5_readInto 103 = .ok (.iload_n 2, 1) := by decide +kernel
theorem dX5_readInto_104 : decode cX5_readInto 104 = .ok (.ireturn, 1) := by decide +kernel
theorem dX5_advance_0 : decode cX5_advance 0 = .ok (.aload_n 0, 1) := by decide +kernel
theorem dX5_advance_1 : decode cX5_advance 1 = .ok (.dup, 1) := by decide +kernel
theorem dX5_advance_2 : decode cX5_advance 2 = .ok (.getfield 9, 3) := by decide +kernel
theorem dX5_advance_5 : decode cX5_advance 5 = .ok (.iconst 1, 1) := by decide +kernel
theorem dX5_advance_6 : decode cX5_advance 6 = .ok (.iadd, 1) := by decide +kernel
theorem dX5_advance_7 : decode cX5_advance 7 = .ok (.putfield 9, 3) := by decide +kernel
theorem dX5_advance_10 : decode cX5_advance 10 = .ok (.aload_n 0, 1) := by decide +kernel
theorem dX5_advance_11 : decode cX5_advance 11 = .ok (.aload_n 0, 1) := by decide +kernel
theorem dX5_advance_12 : decode cX5_advance 12 = .ok (.getfield 9, 3) := by decide +kernel
theorem dX5_advance_15 : decode cX5_advance 15 = .ok (.aload_n 0, 1) := by decide +kernel
theorem dX5_advance_16 : decode cX5_advance 16 = .ok (.getfield 33, 3) := by decide +kernel
theorem dX5_advance_19 : decode cX5_advance 19 = .ok (.getfield 61, 3) := by decide +kernel
theorem dX5_advance_22 : decode cX5_advance 22 = .ok (.arraylength, 1) := by decide +kernel
theorem dX5_advance_23 : decode cX5_advance 23 = .ok (.if_icmp .ge 18, 3) := by decide +kernel
theorem dX5_advance_26 : decode cX5_advance 26 = .ok (.aload_n 0, 1) := by decide +kernel
theorem dX5_advance_27 : decode cX5_advance 27 = .ok (.getfield 33, 3) := by decide +kernel
theorem dX5_advance_30 : decode cX5_advance 30 = .ok (.getfield 61, 3) := by decide +kernel
theorem dX5_advance_33 : decode cX5_advance 33 = .ok (.aload_n 0, 1) := by decide +kernel
theorem dX5_advance_34 : decode cX5_advance 34 = .ok (.getfield 9, 3) := by decide +kernel
theorem dX5_advance_37 : decode cX5_advance 37 = .ok (.iaload, 1) := by decide +kernel
theorem dX5_advance_38 : decode cX5_advance 38 = .ok (.goto 4, 3) := by decide +kernel
theorem dX5_advance_41 : decode cX5_advance 41 = .ok (.iconst (-1), 1) := by decide +kernel
theorem dX5_advance_42 : decode cX5_advance 42 = .ok (.putfield 17, 3) := by decide +kernel
theorem dX5_advance_45 : decode cX5_advance 45 = .ok (.return_, 1) := by decide +kernel
theorem dX5_refuse_0 : decode cX5_refuse 0 = .ok (.aload_n 0, 1) := by decide +kernel
theorem dX5_refuse_1 : decode cX5_refuse 1 = .ok (.iload_n 1, 1) := by decide +kernel
theorem dX5_refuse_2 : decode cX5_refuse 2 = .ok (.putfield 27, 3) := by decide +kernel
theorem dX5_refuse_5 : decode cX5_refuse 5 = .ok (.iconst 0, 1) := by decide +kernel
theorem dX5_refuse_6 : decode cX5_refuse 6 = .ok (.ireturn, 1) := by decide +kernel
theorem dX5_pass_0 : decode cX5_pass 0 = .ok (.aload_n 0, 1) := by decide +kernel
theorem dX5_pass_1 : decode cX5_pass 1 = .ok (.getfield 17, 3) := by decide +kernel
theorem dX5_pass_4 : decode cX5_pass 4 = .ok (.iload_n 1, 1) := by decide +kernel
theorem dX5_pass_5 : decode cX5_pass 5 = .ok (.if_icmp .eq 9, 3) := by decide +kernel
theorem dX5_pass_8 : decode cX5_pass 8 = .ok (.aload_n 0, 1) := by decide +kernel
theorem dX5_pass_9 : decode cX5_pass 9 = .ok (.iconst 1, 1) := by decide +kernel
theorem dX5_pass_10 : decode cX5_pass 10 = .ok (.invokevirtual 65, 3) := by decide +kernel
theorem dX5_pass_13 : decode cX5_pass 13 = .ok (.ireturn, 1) := by decide +kernel
theorem dX5_pass_14 : decode cX5_pass 14 = .ok (.aload_n 0, 1) := by decide +kernel
theorem dX5_pass_15 : decode cX5_pass 15 = .ok (.invokevirtual 50, 3) := by decide +kernel
theorem dX5_pass_18 : decode cX5_pass 18 = .ok (.iconst 1, 1) := by decide +kernel
theorem dX5_pass_19 : decode cX5_pass 19 = .ok (.ireturn, 1) := by decide +kernel
theorem dX5_readClause_0 : decode cX5_readClause 0 = .ok (.aload_n 0, 1) := by decide +kernel
theorem dX5_readClause_1 : decode cX5_readClause 1 = .ok (.getfield 17, 3) := by decide +kernel
theorem dX5_readClause_4 : decode cX5_readClause 4 = .ok (.sipush 257, 3) := by decide +kernel
theorem dX5_readClause_7 : decode cX5_readClause 7 = .ok (.isub, 1) := by decide +kernel
theorem dX5_readClause_8 : decode cX5_readClause 8 = .ok (.istore_n 1, 1) := by decide +kernel
theorem dX5_readClause_9 : decode cX5_readClause 9 = .ok (.iload_n 1, 1) := by decide +kernel
theorem dX5_readClause_10 : decode cX5_readClause 10 = .ok (.ifCond .lt 9, 3) := by decide +kernel
theorem dX5_readClause_13 : decode cX5_readClause 13 = .ok (.iload_n 1, 1) := by decide +kernel
theorem dX5_readClause_14 : decode cX5_readClause 14 = .ok (.bipush 6, 2) := by decide +kernel
theorem dX5_readClause_16 : decode cX5_readClause 16 = .ok (.if_icmp .le 9, 3) := by decide +kernel
theorem dX5_readClause_19 : decode cX5_readClause 19 = .ok (.aload_n 0, 1) := by decide +kernel
theorem dX5_readClause_20 : decode cX5_readClause 20 = .ok (.iconst 1, 1) := by decide +kernel
theorem dX5_readClause_21 : decode cX5_readClause 21 = .ok (.invokevirtual 65, 3) := by decide +kernel
theorem dX5_readClause_24 : decode cX5_readClause 24 = .ok (.ireturn, 1) := by decide +kernel
theorem dX5_readClause_25 : decode cX5_readClause 25 = .ok (.aload_n 0, 1) := by decide +kernel
theorem dX5_readClause_26 : decode cX5_readClause 26 = .ok (.getfield 37, 3) := by decide +kernel
theorem dX5_readClause_29 : decode cX5_readClause 29 = .ok (.iload_n 1, 1) := by decide +kernel
theorem dX5_readClause_30 : decode cX5_readClause 30 = .ok (.invokevirtual 69, 3) := by decide +kernel
theorem dX5_readClause_33 : decode cX5_readClause 33 = .ok (.ifCond .eq 9, 3) := by decide +kernel
theorem dX5_readClause_36 : decode cX5_readClause 36 = .ok (.aload_n 0, 1) := by decide +kernel
theorem dX5_readClause_37 : decode cX5_readClause 37 = .ok (.iconst 4, 1) := by decide +kernel
theorem dX5_readClause_38 : decode cX5_readClause 38 = .ok (.invokevirtual 65, 3) := by decide +kernel
theorem dX5_readClause_41 : decode cX5_readClause 41 = .ok (.ireturn, 1) := by decide +kernel
theorem dX5_readClause_42 : decode cX5_readClause 42 = .ok (.aload_n 0, 1) := by decide +kernel
theorem dX5_readClause_43 : decode cX5_readClause 43 = .ok (.getfield 37, 3) := by decide +kernel
theorem dX5_readClause_46 : decode cX5_readClause 46 = .ok (.getfield 72, 3) := by decide +kernel
theorem dX5_readClause_49 : decode cX5_readClause 49 = .ok (.bipush 30, 2) := by decide +kernel
theorem dX5_readClause_51 : decode cX5_readClause 51 = .ok (.if_icmp .lt 10, 3) := by decide +kernel
theorem dX5_readClause_54 : decode cX5_readClause 54 = .ok (.aload_n 0, 1) := by decide +kernel
theorem dX5_readClause_55 : decode cX5_readClause 55 = .ok (.bipush 6, 2) := by decide +kernel
theorem dX5_readClause_57 : decode cX5_readClause 57 = .ok (.invokevirtual 65, 3) := by decide +kernel
theorem dX5_readClause_60 : decode cX5_readClause 60 = .ok (.ireturn, 1) := by decide +kernel
theorem dX5_readClause_61 : decode cX5_readClause 61 = .ok (.aload_n 0, 1) := by decide +kernel
theorem dX5_readClause_62 : decode cX5_readClause 62 = .ok (.getfield 37, 3) := by decide +kernel
theorem dX5_readClause_65 : decode cX5_readClause 65 = .ok (.iload_n 1, 1) := by decide +kernel
theorem dX5_readClause_66 : decode cX5_readClause 66 = .ok (.invokevirtual 75, 3) := by decide +kernel
theorem dX5_readClause_69 : decode cX5_readClause 69 = .ok (.aload_n 0, 1) := by decide +kernel
theorem dX5_readClause_70 : decode cX5_readClause 70 = .ok (.invokevirtual 50, 3) := by decide +kernel
theorem dX5_readClause_73 : decode cX5_readClause 73 = .ok (.aload_n 0, 1) := by decide +kernel
theorem dX5_readClause_74 : decode cX5_readClause 74 = .ok (.iload_n 1, 1) := by decide +kernel
theorem dX5_readClause_75 : decode cX5_readClause 75 = .ok (.bipush 6, 2) := by decide +kernel
theorem dX5_readClause_77 : decode cX5_readClause 77 = .ok (.if_icmp .ne 7, 3) := by decide +kernel
theorem dX5_readClause_80 : decode cX5_readClause 80 = .ok (.iconst 1, 1) := by decide +kernel
theorem dX5_readClause_81 : decode cX5_readClause 81 = .ok (.goto 4, 3) := by decide +kernel
theorem dX5_readClause_84 : decode cX5_readClause 84 = .ok (.iconst 0, 1) := by decide +kernel
theorem dX5_readClause_85 : decode cX5_readClause 85 = .ok (.putfield 20, 3) := by decide +kernel
theorem dX5_readClause_88 : decode cX5_readClause 88 = .ok (.iconst 1, 1) := by decide +kernel
theorem dX5_readClause_89 : decode cX5_readClause 89 = .ok (.istore_n 2, 1) := by decide +kernel
theorem dX5_readClause_90 : decode cX5_readClause 90 = .ok (.iload_n 1, 1) := by decide +kernel
theorem dX5_readClause_91 : decode cX5_readClause 91 = .ok (.iconst 4, 1) := by decide +kernel
theorem dX5_readClause_92 : decode cX5_readClause 92 = .ok (.if_icmp .ne 13, 3) := by decide +kernel
theorem dX5_readClause_95 : decode cX5_readClause 95 = .ok (.aload_n 0, 1) := by decide +kernel
theorem dX5_readClause_96 : decode cX5_readClause 96 = .ok (.bipush 6, 2) := by decide +kernel
theorem dX5_readClause_98 : decode cX5_readClause 98 = .ok (.invokevirtual 78, 3) := by decide +kernel
theorem dX5_readClause_101 : decode cX5_readClause 101 = .ok (.istore_n 2, 1) := by decide +kernel
theorem dX5_readClause_102 : decode cX5_readClause 102 = .ok (.goto 19, 3) := by decide +kernel
theorem dX5_readClause_105 : decode cX5_readClause 105 = .ok (.iload_n 1, 1) := by decide +kernel
theorem dX5_readClause_106 : decode cX5_readClause 106 = .ok (.iconst 3, 1) := by decide +kernel
theorem dX5_readClause_107 : decode cX5_readClause 107 = .ok (.if_icmp .eq 14, 3) := by decide +kernel
theorem dX5_readClause_110 : decode cX5_readClause 110 = .ok (.iload_n 1, 1) := by decide +kernel
theorem dX5_readClause_111 : decode cX5_readClause 111 = .ok (.iconst 5, 1) := by decide +kernel
theorem dX5_readClause_112 : decode cX5_readClause 112 = .ok (.if_icmp .eq 9, 3) := by decide +kernel
theorem dX5_readClause_115 : decode cX5_readClause 115 = .ok (.aload_n 0, 1) := by decide +kernel
theorem dX5_readClause_116 : decode cX5_readClause 116 = .ok (.iconst 0, 1) := by decide +kernel
theorem dX5_readClause_117 : decode cX5_readClause 117 = .ok (.invokevirtual 81, 3) := by decide +kernel
theorem dX5_readClause_120 : decode cX5_readClause 120 = .ok (.istore_n 2, 1) := by decide +kernel
theorem dX5_readClause_121 : decode cX5_readClause 121 = .ok (.iload_n 2, 1) := by decide +kernel
theorem dX5_readClause_122 : decode cX5_readClause 122 = .ok (.ifCond .eq 16, 3) := by decide +kernel
theorem dX5_readClause_125 : decode cX5_readClause 125 = .ok (.aload_n 0, 1) := by decide +kernel
theorem dX5_readClause_126 : decode cX5_readClause 126 = .ok (.bipush 59, 2) := by decide +kernel
theorem dX5_readClause_128 : decode cX5_readClause 128 = .ok (.invokevirtual 84, 3) := by decide +kernel
theorem dX5_readClause_131 : decode cX5_readClause 131 = .ok (.ifCond .eq 7, 3) := by decide +kernel
theorem dX5_readClause_134 : decode cX5_readClause 134 = .ok (.iconst 1, 1) := by decide +kernel
theorem dX5_readClause_135 : decode cX5_readClause 135 = .ok (.goto 4, 3) := by decide +kernel
theorem dX5_readClause_138 : decode cX5_readClause 138 = .ok (.iconst 0, 1) := by decide +kernel
theorem dX5_readClause_139 : decode cX5_readClause 139 = .ok (.ireturn, 1) := by decide +kernel
theorem dX5_readSum_0 : decode cX5_readSum 0 = .ok (.aload_n 0, 1) := by decide +kernel
theorem dX5_readSum_1 : decode cX5_readSum 1 = .ok (.iload_n 1, 1) := by decide +kernel
theorem dX5_readSum_2 : decode cX5_readSum 2 = .ok (.invokevirtual 87, 3) := by decide +kernel
theorem dX5_readSum_5 : decode cX5_readSum 5 = .ok (.istore_n 2, 1) := by decide +kernel
theorem dX5_readSum_6 : decode cX5_readSum 6 = .ok (.iconst 0, 1) := by decide +kernel
theorem dX5_readSum_7 : decode cX5_readSum 7 = .ok (.istore_n 3, 1) := by decide +kernel
theorem dX5_readSum_8 : decode cX5_readSum 8 = .ok (.iload_n 3, 1) := by decide +kernel
theorem dX5_readSum_9 : decode cX5_readSum 9 = .ok (.sipush 300, 3) := by decide +kernel
theorem dX5_readSum_12 : decode cX5_readSum 12 = .ok (.if_icmp .ge 68, 3) := by decide +kernel
theorem dX5_readSum_15 : decode cX5_readSum 15 = .ok (.iload_n 2, 1) := by decide +kernel
theorem dX5_readSum_16 : decode cX5_readSum 16 = .ok (.ifCond .eq 64, 3) := by decide +kernel
theorem dX5_readSum_19 : decode cX5_readSum 19 = .ok (.aload_n 0, 1) := by decide +kernel
theorem dX5_readSum_20 : decode cX5_readSum 20 = .ok (.getfield 17, 3) := by decide +kernel
theorem dX5_readSum_23 : decode cX5_readSum 23 = .ok (.bipush 43, 2) := by decide +kernel
theorem dX5_readSum_25 : decode cX5_readSum 25 = .ok (.if_icmp .eq 12, 3) := by decide +kernel
theorem dX5_readSum_28 : decode cX5_readSum 28 = .ok (.aload_n 0, 1) := by decide +kernel
theorem dX5_readSum_29 : decode cX5_readSum 29 = .ok (.getfield 17, 3) := by decide +kernel
theorem dX5_readSum_32 : decode cX5_readSum 32 = .ok (.bipush 45, 2) := by decide +kernel
theorem dX5_readSum_34 : decode cX5_readSum 34 = .ok (.if_icmp .ne 46, 3) := by decide +kernel
theorem dX5_readSum_37 : decode cX5_readSum 37 = .ok (.aload_n 0, 1) := by decide +kernel
theorem dX5_readSum_38 : decode cX5_readSum 38 = .ok (.getfield 17, 3) := by decide +kernel
theorem dX5_readSum_41 : decode cX5_readSum 41 = .ok (.bipush 43, 2) := by decide +kernel
theorem dX5_readSum_43 : decode cX5_readSum 43 = .ok (.if_icmp .ne 8, 3) := by decide +kernel
theorem dX5_readSum_46 : decode cX5_readSum 46 = .ok (.bipush (-5), 2) := by decide +kernel
theorem dX5_readSum_48 : decode cX5_readSum 48 = .ok (.goto 5, 3) := by decide +kernel
theorem dX5_readSum_51 : decode cX5_readSum 51 = .ok (.bipush (-6), 2) := by decide +kernel
theorem dX5_readSum_53 : decode cX5_readSum 53 = .ok (.istore 4, 2) := by decide +kernel
theorem dX5_readSum_55 : decode cX5_readSum 55 = .ok (.aload_n 0, 1) := by decide +kernel
theorem dX5_readSum_56 : decode cX5_readSum 56 = .ok (.invokevirtual 50, 3) := by decide +kernel
theorem dX5_readSum_59 : decode cX5_readSum 59 = .ok (.aload_n 0, 1) := by decide +kernel
theorem dX5_readSum_60 : decode cX5_readSum 60 = .ok (.iload_n 1, 1) := by decide +kernel
theorem dX5_readSum_61 : decode cX5_readSum 61 = .ok (.invokevirtual 87, 3) := by decide +kernel
theorem dX5_readSum_64 : decode cX5_readSum 64 = .ok (.istore_n 2, 1) := by decide +kernel
theorem dX5_readSum_65 : decode cX5_readSum 65 = .ok (.aload_n 0, 1) := by decide +kernel
theorem dX5_readSum_66 : decode cX5_readSum 66 = .ok (.getfield 37, 3) := by decide +kernel
theorem dX5_readSum_69 : decode cX5_readSum 69 = .ok (.iload 4, 2) := by decide +kernel
theorem dX5_readSum_71 : decode cX5_readSum 71 = .ok (.invokevirtual 90, 3) := by decide +kernel
theorem dX5_readSum_74 : decode cX5_readSum 74 = .ok (.iinc 3 1, 3) := by decide +kernel
theorem dX5_readSum_77 : decode cX5_readSum 77 = .ok (.goto (-69), 3) := by decide +kernel
theorem dX5_readSum_80 : decode cX5_readSum 80 = .ok (.iload_n 2, 1) := by decide +kernel
theorem dX5_readSum_81 : decode cX5_readSum 81 = .ok (.ireturn, 1) := by decide +kernel
theorem dX5_readProduct_0 : decode cX5_readProduct 0 = .ok (.aload_n 0, 1) := by decide +kernel
theorem dX5_readProduct_1 : decode cX5_readProduct 1 = .ok (.iload_n 1, 1) := by decide +kernel
theorem dX5_readProduct_2 : decode cX5_readProduct 2 = .ok (.invokevirtual 93, 3) := by decide +kernel
theorem dX5_readProduct_5 : decode cX5_readProduct 5 = .ok (.istore_n 2, 1) := by decide +kernel
theorem dX5_readProduct_6 : decode cX5_readProduct 6 = .ok (.iconst 0, 1) := by decide +kernel
theorem dX5_readProduct_7 : decode cX5_readProduct 7 = .ok (.istore_n 3, 1) := by decide +kernel
theorem dX5_readProduct_8 : decode cX5_readProduct 8 = .ok (.iload_n 3, 1) := by decide +kernel
theorem dX5_readProduct_9 : decode cX5_readProduct 9 = .ok (.sipush 300, 3) := by decide +kernel
theorem dX5_readProduct_12 : decode cX5_readProduct 12 = .ok (.if_icmp .ge 68, 3) := by decide +kernel
theorem dX5_readProduct_15 : decode cX5_readProduct 15 = .ok (.iload_n 2, 1) := by decide +kernel
theorem dX5_readProduct_16 : decode cX5_readProduct 16 = .ok (.ifCond .eq 64, 3) := by decide +kernel
theorem dX5_readProduct_19 : decode cX5_readProduct 19 = .ok (.aload_n 0, 1) := by decide +kernel
theorem dX5_readProduct_20 : decode cX5_readProduct 20 = .ok (.getfield 17, 3) := by decide +kernel
theorem dX5_readProduct_23 : decode cX5_readProduct 23 = .ok (.bipush 42, 2) := by decide +kernel
theorem dX5_readProduct_25 : decode cX5_readProduct 25 = .ok (.if_icmp .eq 12, 3) := by decide +kernel
theorem dX5_readProduct_28 : decode cX5_readProduct 28 = .ok (.aload_n 0, 1) := by decide +kernel
theorem dX5_readProduct_29 : decode cX5_readProduct 29 = .ok (.getfield 17, 3) := by decide +kernel
theorem dX5_readProduct_32 : decode cX5_readProduct 32 = .ok (.bipush 47, 2) := by decide +kernel
theorem dX5_readProduct_34 : decode cX5_readProduct 34 = .ok (.if_icmp .ne 46, 3) := by decide +kernel
theorem dX5_readProduct_37 : decode cX5_readProduct 37 = .ok (.aload_n 0, 1) := by decide +kernel
theorem dX5_readProduct_38 : decode cX5_readProduct 38 = .ok (.getfield 17, 3) := by decide +kernel
theorem dX5_readProduct_41 : decode cX5_readProduct 41 = .ok (.bipush 42, 2) := by decide +kernel
theorem dX5_readProduct_43 : decode cX5_readProduct 43 = .ok (.if_icmp .ne 8, 3) := by decide +kernel
theorem dX5_readProduct_46 : decode cX5_readProduct 46 = .ok (.bipush (-7), 2) := by decide +kernel
theorem dX5_readProduct_48 : decode cX5_readProduct 48 = .ok (.goto 5, 3) := by decide +kernel
theorem dX5_readProduct_51 : decode cX5_readProduct 51 = .ok (.bipush (-8), 2) := by decide +kernel
theorem dX5_readProduct_53 : decode cX5_readProduct 53 = .ok (.istore 4, 2) := by decide +kernel
theorem dX5_readProduct_55 : decode cX5_readProduct 55 = .ok (.aload_n 0, 1) := by decide +kernel
theorem dX5_readProduct_56 : decode cX5_readProduct 56 = .ok (.invokevirtual 50, 3) := by decide +kernel
theorem dX5_readProduct_59 : decode cX5_readProduct 59 = .ok (.aload_n 0, 1) := by decide +kernel
theorem dX5_readProduct_60 : decode cX5_readProduct 60 = .ok (.iload_n 1, 1) := by decide +kernel
theorem dX5_readProduct_61 : decode cX5_readProduct 61 = .ok (.invokevirtual 93, 3) := by decide +kernel
theorem dX5_readProduct_64 : decode cX5_readProduct 64 = .ok (.istore_n 2, 1) := by decide +kernel
theorem dX5_readProduct_65 : decode cX5_readProduct 65 = .ok (.aload_n 0, 1) := by decide +kernel
theorem dX5_readProduct_66 : decode cX5_readProduct 66 = .ok (.getfield 37, 3) := by decide +kernel
theorem dX5_readProduct_69 : decode cX5_readProduct 69 = .ok (.iload 4, 2) := by decide +kernel
theorem dX5_readProduct_71 : decode cX5_readProduct 71 = .ok (.invokevirtual 90, 3) := by decide +kernel
theorem dX5_readProduct_74 : decode cX5_readProduct 74 = .ok (.iinc 3 1, 3) := by decide +kernel
theorem dX5_readProduct_77 : decode cX5_readProduct 77 = .ok (.goto (-69), 3) := by decide +kernel
theorem dX5_readProduct_80 : decode cX5_readProduct 80 = .ok (.iload_n 2, 1) := by decide +kernel
theorem dX5_readProduct_81 : decode cX5_readProduct 81 = .ok (.ireturn, 1) := by decide +kernel
theorem dX5_readOne_0 : decode cX5_readOne 0 = .ok (.aload_n 0, 1) := by decide +kernel
theorem dX5_readOne_1 : decode cX5_readOne 1 = .ok (.getfield 17, 3) := by decide +kernel
theorem dX5_readOne_4 : decode cX5_readOne 4 = .ok (.sipush 300, 3) := by decide +kernel
theorem dX5_readOne_7 : decode cX5_readOne 7 = .ok (.if_icmp .lt 11, 3) := by decide +kernel
theorem dX5_readOne_10 : decode cX5_readOne 10 = .ok (.aload_n 0, 1) := by decide +kernel
theorem dX5_readOne_11 : decode cX5_readOne 11 = .ok (.sipush 9999, 3) := by decide +kernel
theorem dX5_readOne_14 : decode cX5_readOne 14 = .ok (.invokevirtual 78, 3) := by decide +kernel
theorem dX5_readOne_17 : decode cX5_readOne 17 = .ok (.ireturn, 1) := by decide +kernel
theorem dX5_readOne_18 : decode cX5_readOne 18 = .ok (.aload_n 0, 1) := by decide +kernel
theorem dX5_readOne_19 : decode cX5_readOne 19 = .ok (.getfield 17, 3) := by decide +kernel
theorem dX5_readOne_22 : decode cX5_readOne 22 = .ok (.bipush 40, 2) := by decide +kernel
theorem dX5_readOne_24 : decode cX5_readOne 24 = .ok (.if_icmp .eq 17, 3) := by decide +kernel
theorem dX5_readOne_27 : decode cX5_readOne 27 = .ok (.aload_n 0, 1) := by decide +kernel
theorem dX5_readOne_28 : decode cX5_readOne 28 = .ok (.getfield 17, 3) := by decide +kernel
theorem dX5_readOne_31 : decode cX5_readOne 31 = .ok (.bipush 45, 2) := by decide +kernel
theorem dX5_readOne_33 : decode cX5_readOne 33 = .ok (.if_icmp .eq 8, 3) := by decide +kernel
theorem dX5_readOne_36 : decode cX5_readOne 36 = .ok (.aload_n 0, 1) := by decide +kernel
theorem dX5_readOne_37 : decode cX5_readOne 37 = .ok (.invokevirtual 96, 3) := by decide +kernel
theorem dX5_readOne_40 : decode cX5_readOne 40 = .ok (.ireturn, 1) := by decide +kernel
theorem dX5_readOne_41 : decode cX5_readOne 41 = .ok (.iload_n 1, 1) := by decide +kernel
theorem dX5_readOne_42 : decode cX5_readOne 42 = .ok (.bipush 8, 2) := by decide +kernel
theorem dX5_readOne_44 : decode cX5_readOne 44 = .ok (.if_icmp .lt 9, 3) := by decide +kernel
theorem dX5_readOne_47 : decode cX5_readOne 47 = .ok (.aload_n 0, 1) := by decide +kernel
theorem dX5_readOne_48 : decode cX5_readOne 48 = .ok (.iconst 3, 1) := by decide +kernel
theorem dX5_readOne_49 : decode cX5_readOne 49 = .ok (.invokevirtual 65, 3) := by decide +kernel
theorem dX5_readOne_52 : decode cX5_readOne 52 = .ok (.ireturn, 1) := by decide +kernel
theorem dX5_readOne_53 : decode cX5_readOne 53 = .ok (.aload_n 0, 1) := by decide +kernel
theorem dX5_readOne_54 : decode cX5_readOne 54 = .ok (.getfield 17, 3) := by decide +kernel
theorem dX5_readOne_57 : decode cX5_readOne 57 = .ok (.bipush 40, 2) := by decide +kernel
theorem dX5_readOne_59 : decode cX5_readOne 59 = .ok (.if_icmp .ne 7, 3) := by decide +kernel
theorem dX5_readOne_62 : decode cX5_readOne 62 = .ok (.iconst 1, 1) := by decide +kernel
theorem dX5_readOne_63 : decode cX5_readOne 63 = .ok (.goto 4, 3) := by decide +kernel
theorem dX5_readOne_66 : decode cX5_readOne 66 = .ok (.iconst 0, 1) := by decide +kernel
theorem dX5_readOne_67 : decode cX5_readOne 67 = .ok (.istore_n 2, 1) := by decide +kernel
theorem dX5_readOne_68 : decode cX5_readOne 68 = .ok (.aload_n 0, 1) := by decide +kernel
theorem dX5_readOne_69 : decode cX5_readOne 69 = .ok (.invokevirtual 50, 3) := by decide +kernel
theorem dX5_readOne_72 : decode cX5_readOne 72 = .ok (.iload_n 2, 1) := by decide +kernel
theorem dX5_readOne_73 : decode cX5_readOne 73 = .ok (.ifCond .eq 28, 3) := by decide +kernel
theorem dX5_readOne_76 : decode cX5_readOne 76 = .ok (.aload_n 0, 1) := by decide +kernel
theorem dX5_readOne_77 : decode cX5_readOne 77 = .ok (.iload_n 1, 1) := by decide +kernel
theorem dX5_readOne_78 : decode cX5_readOne 78 = .ok (.iconst 1, 1) := by decide +kernel
theorem dX5_readOne_79 : decode cX5_readOne 79 = .ok (.iadd, 1) := by decide +kernel
theorem dX5_readOne_80 : decode cX5_readOne 80 = .ok (.invokevirtual 81, 3) := by decide +kernel
theorem dX5_readOne_83 : decode cX5_readOne 83 = .ok (.ifCond .eq 16, 3) := by decide +kernel
theorem dX5_readOne_86 : decode cX5_readOne 86 = .ok (.aload_n 0, 1) := by decide +kernel
theorem dX5_readOne_87 : decode cX5_readOne 87 = .ok (.bipush 41, 2) := by decide +kernel
theorem dX5_readOne_89 : decode cX5_readOne 89 = .ok (.invokevirtual 84, 3) := by decide +kernel
theorem dX5_readOne_92 : decode cX5_readOne 92 = .ok (.ifCond .eq 7, 3) := by decide +kernel
theorem dX5_readOne_95 : decode cX5_readOne 95 = .ok (.iconst 1, 1) := by decide +kernel
theorem dX5_readOne_96 : decode cX5_readOne 96 = .ok (.goto 4, 3) := by decide +kernel
theorem dX5_readOne_99 : decode cX5_readOne 99 = .ok (.iconst 0, 1) := by decide +kernel
theorem dX5_readOne_100 : decode cX5_readOne 100 = .ok (.ireturn, 1) := by decide +kernel
theorem dX5_readOne_101 : decode cX5_readOne 101 = .ok (.aload_n 0, 1) := by decide +kernel
theorem dX5_readOne_102 : decode cX5_readOne 102 = .ok (.iload_n 1, 1) := by decide +kernel
theorem dX5_readOne_103 : decode cX5_readOne 103 = .ok (.iconst 1, 1) := by decide +kernel
theorem dX5_readOne_104 : decode cX5_readOne 104 = .ok (.iadd, 1) := by decide +kernel
theorem dX5_readOne_105 : decode cX5_readOne 105 = .ok (.invokevirtual 93, 3) := by decide +kernel
theorem dX5_readOne_108 : decode cX5_readOne 108 = .ok (.istore_n 3, 1) := by decide +kernel
theorem dX5_readOne_109 : decode cX5_readOne 109 = .ok (.aload_n 0, 1) := by decide +kernel
theorem dX5_readOne_110 : decode cX5_readOne 110 = .ok (.getfield 37, 3) := by decide +kernel
theorem dX5_readOne_113 : decode cX5_readOne 113 = .ok (.bipush (-4), 2) := by decide +kernel
theorem dX5_readOne_115 : decode cX5_readOne 115 = .ok (.invokevirtual 90, 3) := by decide +kernel
theorem dX5_readOne_118 : decode cX5_readOne 118 = .ok (.iload_n 3, 1) := by decide +kernel
theorem dX5_readOne_119 : decode cX5_readOne 119 = .ok (.ireturn, 1) := by decide +kernel
theorem dX5_readNumber_0 : decode cX5_readNumber 0 = .ok (.aload_n 0, 1) := by decide +kernel
theorem dX5_readNumber_1 : decode cX5_readNumber 1 = .ok (.getfield 17, 3) := by decide +kernel
theorem dX5_readNumber_4 : decode cX5_readNumber 4 = .ok (.sipush 300, 3) := by decide +kernel
theorem dX5_readNumber_7 : decode cX5_readNumber 7 = .ok (.if_icmp .ge 9, 3) := by decide +kernel
theorem dX5_readNumber_10 : decode cX5_readNumber 10 = .ok (.aload_n 0, 1) := by decide +kernel
theorem dX5_readNumber_11 : decode cX5_readNumber 11 = .ok (.iconst 1, 1) := by decide +kernel
theorem dX5_readNumber_12 : decode cX5_readNumber 12 = .ok (.invokevirtual 65, 3) := by decide +kernel
theorem dX5_readNumber_15 : decode cX5_readNumber 15 = .ok (.ireturn, 1) := by decide +kernel
theorem dX5_readNumber_16 : decode cX5_readNumber 16 = .ok (.aload_n 0, 1) := by decide +kernel
theorem dX5_readNumber_17 : decode cX5_readNumber 17 = .ok (.getfield 17, 3) := by decide +kernel
theorem dX5_readNumber_20 : decode cX5_readNumber 20 = .ok (.sipush 300, 3) := by decide +kernel
theorem dX5_readNumber_23 : decode cX5_readNumber 23 = .ok (.isub, 1) := by decide +kernel
theorem dX5_readNumber_24 : decode cX5_readNumber 24 = .ok (.iload_n 1, 1) := by decide +kernel
theorem dX5_readNumber_25 : decode cX5_readNumber 25 = .ok (.if_icmp .le 9, 3) := by decide +kernel
theorem dX5_readNumber_28 : decode cX5_readNumber 28 = .ok (.aload_n 0, 1) := by decide +kernel
theorem dX5_readNumber_29 : decode cX5_readNumber 29 = .ok (.iconst 2, 1) := by decide +kernel
theorem dX5_readNumber_30 : decode cX5_readNumber 30 = .ok (.invokevirtual 65, 3) := by decide +kernel
theorem dX5_readNumber_33 : decode cX5_readNumber 33 = .ok (.ireturn, 1) := by decide +kernel
theorem dX5_readNumber_34 : decode cX5_readNumber 34 = .ok (.aload_n 0, 1) := by decide +kernel
theorem dX5_readNumber_35 : decode cX5_readNumber 35 = .ok (.getfield 37, 3) := by decide +kernel
theorem dX5_readNumber_38 : decode cX5_readNumber 38 = .ok (.aload_n 0, 1) := by decide +kernel
theorem dX5_readNumber_39 : decode cX5_readNumber 39 = .ok (.getfield 17, 3) := by decide +kernel
theorem dX5_readNumber_42 : decode cX5_readNumber 42 = .ok (.sipush 300, 3) := by decide +kernel
theorem dX5_readNumber_45 : decode cX5_readNumber 45 = .ok (.isub, 1) := by decide +kernel
theorem dX5_readNumber_46 : decode cX5_readNumber 46 = .ok (.invokevirtual 90, 3) := by decide +kernel
theorem dX5_readNumber_49 : decode cX5_readNumber 49 = .ok (.aload_n 0, 1) := by decide +kernel
theorem dX5_readNumber_50 : decode cX5_readNumber 50 = .ok (.invokevirtual 50, 3) := by decide +kernel
theorem dX5_readNumber_53 : decode cX5_readNumber 53 = .ok (.iconst 1, 1) := by decide +kernel
theorem dX5_readNumber_54 : decode cX5_readNumber 54 = .ok (.ireturn, 1) := by decide +kernel
theorem dX5_readName_0 : decode cX5_readName 0 = .ok (.aload_n 0, 1) := by decide +kernel
theorem dX5_readName_1 : decode cX5_readName 1 = .ok (.getfield 17, 3) := by decide +kernel
theorem dX5_readName_4 : decode cX5_readName 4 = .ok (.sipush 270, 3) := by decide +kernel
theorem dX5_readName_7 : decode cX5_readName 7 = .ok (.if_icmp .eq 29, 3) := by decide +kernel
theorem dX5_readName_10 : decode cX5_readName 10 = .ok (.aload_n 0, 1) := by decide +kernel
theorem dX5_readName_11 : decode cX5_readName 11 = .ok (.getfield 17, 3) := by decide +kernel
theorem dX5_readName_14 : decode cX5_readName 14 = .ok (.sipush 271, 3) := by decide +kernel
theorem dX5_readName_17 : decode cX5_readName 17 = .ok (.if_icmp .eq 19, 3) := by decide +kernel
theorem dX5_readName_20 : decode cX5_readName 20 = .ok (.aload_n 0, 1) := by decide +kernel
theorem dX5_readName_21 : decode cX5_readName 21 = .ok (.getfield 17, 3) := by decide +kernel
theorem dX5_readName_24 : decode cX5_readName 24 = .ok (.sipush 272, 3) := by decide +kernel
theorem dX5_readName_27 : decode cX5_readName 27 = .ok (.if_icmp .eq 9, 3) := by decide +kernel
theorem dX5_readName_30 : decode cX5_readName 30 = .ok (.aload_n 0, 1) := by decide +kernel
theorem dX5_readName_31 : decode cX5_readName 31 = .ok (.iconst 1, 1) := by decide +kernel
theorem dX5_readName_32 : decode cX5_readName 32 = .ok (.invokevirtual 65, 3) := by decide +kernel
theorem dX5_readName_35 : decode cX5_readName 35 = .ok (.ireturn, 1) := by decide +kernel
theorem dX5_readName_36 : decode cX5_readName 36 = .ok (.aload_n 0, 1) := by decide +kernel
theorem dX5_readName_37 : decode cX5_readName 37 = .ok (.getfield 17, 3) := by decide +kernel
theorem dX5_readName_40 : decode cX5_readName 40 = .ok (.sipush 270, 3) := by decide +kernel
theorem dX5_readName_43 : decode cX5_readName 43 = .ok (.if_icmp .ne 16, 3) := by decide +kernel
theorem dX5_readName_46 : decode cX5_readName 46 = .ok (.aload_n 0, 1) := by decide +kernel
theorem dX5_readName_47 : decode cX5_readName 47 = .ok (.getfield 20, 3) := by decide +kernel
theorem dX5_readName_50 : decode cX5_readName 50 = .ok (.ifCond .eq 9, 3) := by decide +kernel
theorem dX5_readName_53 : decode cX5_readName 53 = .ok (.aload_n 0, 1) := by decide +kernel
theorem dX5_readName_54 : decode cX5_readName 54 = .ok (.iconst 5, 1) := by decide +kernel
theorem dX5_readName_55 : decode cX5_readName 55 = .ok (.invokevirtual 65, 3) := by decide +kernel
theorem dX5_readName_58 : decode cX5_readName 58 = .ok (.ireturn, 1) := by decide +kernel
theorem dX5_readName_59 : decode cX5_readName 59 = .ok (.aload_n 0, 1) := by decide +kernel
theorem dX5_readName_60 : decode cX5_readName 60 = .ok (.getfield 37, 3) := by decide +kernel
theorem dX5_readName_63 : decode cX5_readName 63 = .ok (.aload_n 0, 1) := by decide +kernel
theorem dX5_readName_64 : decode cX5_readName 64 = .ok (.getfield 17, 3) := by decide +kernel
theorem dX5_readName_67 : decode cX5_readName 67 = .ok (.sipush 270, 3) := by decide +kernel
theorem dX5_readName_70 : decode cX5_readName 70 = .ok (.if_icmp .ne 7, 3) := by decide +kernel
theorem dX5_readName_73 : decode cX5_readName 73 = .ok (.iconst (-1), 1) := by decide +kernel
theorem dX5_readName_74 : decode cX5_readName 74 = .ok (.goto 20, 3) := by decide +kernel
theorem dX5_readName_77 : decode cX5_readName 77 = .ok (.aload_n 0, 1) := by decide +kernel
theorem dX5_readName_78 : decode cX5_readName 78 = .ok (.getfield 17, 3) := by decide +kernel
theorem dX5_readName_81 : decode cX5_readName 81 = .ok (.sipush 271, 3) := by decide +kernel
theorem dX5_readName_84 : decode cX5_readName 84 = .ok (.if_icmp .ne 8, 3) := by decide +kernel
theorem dX5_readName_87 : decode cX5_readName 87 = .ok (.bipush (-2), 2) := by decide +kernel
theorem dX5_readName_89 : decode cX5_readName 89 = .ok (.goto 5, 3) := by decide +kernel
theorem dX5_readName_92 : decode cX5_readName 92 = .ok (.bipush (-3), 2) := by decide +kernel
theorem dX5_readName_94 : decode cX5_readName 94 = .ok (.invokevirtual 90, 3) := by decide +kernel
theorem dX5_readName_97 : decode cX5_readName 97 = .ok (.aload_n 0, 1) := by decide +kernel
theorem dX5_readName_98 : decode cX5_readName 98 = .ok (.invokevirtual 50, 3) := by decide +kernel
theorem dX5_readName_101 : decode cX5_readName 101 = .ok (.iconst 1, 1) := by decide +kernel
theorem dX5_readName_102 : decode cX5_readName 102 = .ok (.ireturn, 1) := by decide +kernel
theorem dX6_init_0 : decode cX6_init 0 = .ok (.aload_n 0, 1) := by decide +kernel
theorem dX6_init_1 : decode cX6_init 1 = .ok (.invokespecial 3, 3) := by decide +kernel
theorem dX6_init_4 : decode cX6_init 4 = .ok (.aload_n 0, 1) := by decide +kernel
theorem dX6_init_5 : decode cX6_init 5 = .ok (.iconst 2, 1) := by decide +kernel
theorem dX6_init_6 : decode cX6_init 6 = .ok (.putfield 9, 3) := by decide +kernel
theorem dX6_init_9 : decode cX6_init 9 = .ok (.aload_n 0, 1) := by decide +kernel
theorem dX6_init_10 : decode cX6_init 10 = .ok (.iconst 1, 1) := by decide +kernel
theorem dX6_init_11 : decode cX6_init 11 = .ok (.putfield 15, 3) := by decide +kernel
theorem dX6_init_14 : decode cX6_init 14 = .ok (.aload_n 0, 1) := by decide +kernel
theorem dX6_init_15 : decode cX6_init 15 = .ok (.bipush 13, 2) := by decide +kernel
theorem dX6_init_17 : decode cX6_init 17 = .ok (.putfield 19, 3) := by decide +kernel
theorem dX6_init_20 : decode cX6_init 20 = .ok (.aload_n 0, 1) := by decide +kernel
theorem dX6_init_21 : decode cX6_init 21 = .ok (.iconst 1, 1) := by decide +kernel
theorem dX6_init_22 : decode cX6_init 22 = .ok (.putfield 22, 3) := by decide +kernel
theorem dX6_init_25 : decode cX6_init 25 = .ok (.aload_n 0, 1) := by decide +kernel
theorem dX6_init_26 : decode cX6_init 26 = .ok (.iconst 1, 1) := by decide +kernel
theorem dX6_init_27 : decode cX6_init 27 = .ok (.putfield 25, 3) := by decide +kernel
theorem dX6_init_30 : decode cX6_init 30 = .ok (.return_, 1) := by decide +kernel
theorem dX6_copyFrom_0 : decode cX6_copyFrom 0 = .ok (.aload_n 0, 1) := by decide +kernel
theorem dX6_copyFrom_1 : decode cX6_copyFrom 1 = .ok (.aload_n 1, 1) := by decide +kernel
theorem dX6_copyFrom_2 : decode cX6_copyFrom 2 = .ok (.getfield 9, 3) := by decide +kernel
theorem dX6_copyFrom_5 : decode cX6_copyFrom 5 = .ok (.putfield 9, 3) := by decide +kernel
theorem dX6_copyFrom_8 : decode cX6_copyFrom 8 = .ok (.aload_n 0, 1) := by decide +kernel
theorem dX6_copyFrom_9 : decode cX6_copyFrom 9 = .ok (.aload_n 1, 1) := by decide +kernel
theorem dX6_copyFrom_10 : decode cX6_copyFrom 10 = .ok (.getfield 15, 3) := by decide +kernel
theorem dX6_copyFrom_13 : decode cX6_copyFrom 13 = .ok (.putfield 15, 3) := by decide +kernel
theorem dX6_copyFrom_16 : decode cX6_copyFrom 16 = .ok (.aload_n 0, 1) := by decide +kernel
theorem dX6_copyFrom_17 : decode cX6_copyFrom 17 = .ok (.aload_n 1, 1) := by decide +kernel
theorem dX6_copyFrom_18 : decode cX6_copyFrom 18 = .ok (.getfield 19, 3) := by decide +kernel
theorem dX6_copyFrom_21 : decode cX6_copyFrom 21 = .ok (.putfield 19, 3) := by decide +kernel
theorem dX6_copyFrom_24 : decode cX6_copyFrom 24 = .ok (.aload_n 0, 1) := by decide +kernel
theorem dX6_copyFrom_25 : decode cX6_copyFrom 25 = .ok (.aload_n 1, 1) := by decide +kernel
theorem dX6_copyFrom_26 : decode cX6_copyFrom 26 = .ok (.getfield 22, 3) := by decide +kernel
theorem dX6_copyFrom_29 : decode cX6_copyFrom 29 = .ok (.putfield 22, 3) := by decide +kernel
theorem dX6_copyFrom_32 : decode cX6_copyFrom 32 = .ok (.aload_n 0, 1) := by decide +kernel
theorem dX6_copyFrom_33 : decode cX6_copyFrom 33 = .ok (.aload_n 1, 1) := by decide +kernel
theorem dX6_copyFrom_34 : decode cX6_copyFrom 34 = .ok (.getfield 25, 3) := by decide +kernel
theorem dX6_copyFrom_37 : decode cX6_copyFrom 37 = .ok (.putfield 25, 3) := by decide +kernel
theorem dX6_copyFrom_40 : decode cX6_copyFrom 40 = .ok (.return_, 1) := by decide +kernel
theorem dX6_isLike_0 : decode cX6_isLike 0 = .ok (.aload_n 0, 1) := by decide +kernel
theorem dX6_isLike_1 : decode cX6_isLike 1 = .ok (.getfield 9, 3) := by decide +kernel
theorem dX6_isLike_4 : decode cX6_isLike 4 = .ok (.aload_n 1, 1) := by decide +kernel
theorem dX6_isLike_5 : decode cX6_isLike 5 = .ok (.getfield 9, 3) := by decide +kernel
theorem dX6_isLike_8 : decode cX6_isLike 8 = .ok (.if_icmp .ne 51, 3) := by decide +kernel
theorem dX6_isLike_11 : decode cX6_isLike 11 = .ok (.aload_n 0, 1) := by decide +kernel
theorem dX6_isLike_12 : decode cX6_isLike 12 = .ok (.getfield 15, 3) := by decide +kernel
theorem dX6_isLike_15 : decode cX6_isLike 15 = .ok (.aload_n 1, 1) := by decide +kernel
theorem dX6_isLike_16 : decode cX6_isLike 16 = .ok (.getfield 15, 3) := by decide +kernel
theorem dX6_isLike_19 : decode cX6_isLike 19 = .ok (.if_icmp .ne 40, 3) := by decide +kernel
theorem dX6_isLike_22 : decode cX6_isLike 22 = .ok (.aload_n 0, 1) := by decide +kernel
theorem dX6_isLike_23 : decode cX6_isLike 23 = .ok (.getfield 19, 3) := by decide +kernel
theorem dX6_isLike_26 : decode cX6_isLike 26 = .ok (.aload_n 1, 1) := by decide +kernel
theorem dX6_isLike_27 : decode cX6_isLike 27 = .ok (.getfield 19, 3) := by decide +kernel
theorem dX6_isLike_30 : decode cX6_isLike 30 = .ok (.if_icmp .ne 29, 3) := by decide +kernel
theorem dX6_isLike_33 : decode cX6_isLike 33 = .ok (.aload_n 0, 1) := by decide +kernel
theorem dX6_isLike_34 : decode cX6_isLike 34 = .ok (.getfield 22, 3) := by decide +kernel
theorem dX6_isLike_37 : decode cX6_isLike 37 = .ok (.aload_n 1, 1) := by decide +kernel
theorem dX6_isLike_38 : decode cX6_isLike 38 = .ok (.getfield 22, 3) := by decide +kernel
theorem dX6_isLike_41 : decode cX6_isLike 41 = .ok (.if_icmp .ne 18, 3) := by decide +kernel
theorem dX6_isLike_44 : decode cX6_isLike 44 = .ok (.aload_n 0, 1) := by decide +kernel
theorem dX6_isLike_45 : decode cX6_isLike 45 = .ok (.getfield 25, 3) := by decide +kernel
theorem dX6_isLike_48 : decode cX6_isLike 48 = .ok (.aload_n 1, 1) := by decide +kernel
theorem dX6_isLike_49 : decode cX6_isLike 49 = .ok (.getfield 25, 3) := by decide +kernel
theorem dX6_isLike_52 : decode cX6_isLike 52 = .ok (.if_icmp .ne 7, 3) := by decide +kernel
theorem dX6_isLike_55 : decode cX6_isLike 55 = .ok (.iconst 1, 1) := by decide +kernel
theorem dX6_isLike_56 : decode cX6_isLike 56 = .ok (.goto 4, 3) := by decide +kernel
theorem dX6_isLike_59 : decode cX6_isLike 59 = .ok (.iconst 0, 1) := by decide +kernel
theorem dX6_isLike_60 : decode cX6_isLike 60 = .ok (.ireturn, 1) := by decide +kernel
theorem dX6_states_0 : decode cX6_states 0 = .ok (.iconst 1, 1) := by decide +kernel
theorem dX6_states_1 : decode cX6_states 1 = .ok (.aload_n 0, 1) := by decide +kernel
theorem dX6_states_2 : decode cX6_states 2 = .ok (.getfield 9, 3) := by decide +kernel
theorem dX6_states_5 : decode cX6_states 5 = .ok (.ishl, 1) := by decide +kernel
theorem dX6_states_6 : decode cX6_states 6 = .ok (.ireturn, 1) := by decide +kernel
theorem dX6_isState_0 : decode cX6_isState 0 = .ok (.iload_n 1, 1) := by decide +kernel
theorem dX6_isState_1 : decode cX6_isState 1 = .ok (.ifCond .lt 15, 3) := by decide +kernel
theorem dX6_isState_4 : decode cX6_isState 4 = .ok (.iload_n 1, 1) := by decide +kernel
theorem dX6_isState_5 : decode cX6_isState 5 = .ok (.aload_n 0, 1) := by decide +kernel
theorem dX6_isState_6 : decode cX6_isState 6 = .ok (.invokevirtual 28, 3) := by decide +kernel
theorem dX6_isState_9 : decode cX6_isState 9 = .ok (.if_icmp .ge 7, 3) := by decide +kernel
theorem dX6_isState_12 : decode cX6_isState 12 = .ok (.iconst 1, 1) := by decide +kernel
theorem dX6_isState_13 : decode cX6_isState 13 = .ok (.goto 4, 3) := by decide +kernel
theorem dX6_isState_16 : decode cX6_isState 16 = .ok (.iconst 0, 1) := by decide +kernel
theorem dX6_isState_17 : decode cX6_isState 17 = .ok (.ireturn, 1) := by decide +kernel
theorem dX6_isNumber_0 : decode cX6_isNumber 0 = .ok (.iload_n 1, 1) := by decide +kernel
theorem dX6_isNumber_1 : decode cX6_isNumber 1 = .ok (.ifCond .lt 15, 3) := by decide +kernel
theorem dX6_isNumber_4 : decode cX6_isNumber 4 = .ok (.iload_n 1, 1) := by decide +kernel
theorem dX6_isNumber_5 : decode cX6_isNumber 5 = .ok (.aload_n 0, 1) := by decide +kernel
theorem dX6_isNumber_6 : decode cX6_isNumber 6 = .ok (.getfield 19, 3) := by decide +kernel
theorem dX6_isNumber_9 : decode cX6_isNumber 9 = .ok (.if_icmp .ge 7, 3) := by decide +kernel
theorem dX6_isNumber_12 : decode cX6_isNumber 12 = .ok (.iconst 1, 1) := by decide +kernel
theorem dX6_isNumber_13 : decode cX6_isNumber 13 = .ok (.goto 4, 3) := by decide +kernel
theorem dX6_isNumber_16 : decode cX6_isNumber 16 = .ok (.iconst 0, 1) := by decide +kernel
theorem dX6_isNumber_17 : decode cX6_isNumber 17 = .ok (.ireturn, 1) := by decide +kernel
theorem dX6_isCount_0 : decode cX6_isCount 0 = .ok (.iload_n 1, 1) := by decide +kernel
theorem dX6_isCount_1 : decode cX6_isCount 1 = .ok (.ifCond .lt 15, 3) := by decide +kernel
theorem dX6_isCount_4 : decode cX6_isCount 4 = .ok (.iload_n 1, 1) := by decide +kernel
theorem dX6_isCount_5 : decode cX6_isCount 5 = .ok (.aload_n 0, 1) := by decide +kernel
theorem dX6_isCount_6 : decode cX6_isCount 6 = .ok (.getfield 9, 3) := by decide +kernel
theorem dX6_isCount_9 : decode cX6_isCount 9 = .ok (.if_icmp .gt 7, 3) := by decide +kernel
theorem dX6_isCount_12 : decode cX6_isCount 12 = .ok (.iconst 1, 1) := by decide +kernel
theorem dX6_isCount_13 : decode cX6_isCount 13 = .ok (.goto 4, 3) := by decide +kernel
theorem dX6_isCount_16 : decode cX6_isCount 16 = .ok (.iconst 0, 1) := by decide +kernel
theorem dX6_isCount_17 : decode cX6_isCount 17 = .ok (.ireturn, 1) := by decide +kernel
theorem dX6_bonds_0 : decode cX6_bonds 0 = .ok (.aload_n 0, 1) := by decide +kernel
theorem dX6_bonds_1 : decode cX6_bonds 1 = .ok (.getfield 15, 3) := by decide +kernel
theorem dX6_bonds_4 : decode cX6_bonds 4 = .ok (.ifCond .eq 10, 3) := by decide +kernel
theorem dX6_bonds_7 : decode cX6_bonds 7 = .ok (.aload_n 0, 1) := by decide +kernel
theorem dX6_bonds_8 : decode cX6_bonds 8 = .ok (.getfield 9, 3) := by decide +kernel
theorem dX6_bonds_11 : decode cX6_bonds 11 = .ok (.goto 9, 3) := by decide +kernel
theorem dX6_bonds_14 : decode cX6_bonds 14 = .ok (.aload_n 0, 1) := by decide +kernel
theorem dX6_bonds_15 : decode cX6_bonds 15 = .ok (.getfield 9, 3) := by decide +kernel
theorem dX6_bonds_18 : decode cX6_bonds 18 = .ok (.iconst 1, 1) := by decide +kernel
theorem dX6_bonds_19 : decode cX6_bonds 19 = .ok (.isub, 1) := by decide +kernel
theorem dX6_bonds_20 : decode cX6_bonds 20 = .ok (.ireturn, 1) := by decide +kernel
theorem dX6_bond_0 : decode cX6_bond 0 = .ok (.iconst 1, 1) := by decide +kernel
theorem dX6_bond_1 : decode cX6_bond 1 = .ok (.iload_n 1, 1) := by decide +kernel
theorem dX6_bond_2 : decode cX6_bond 2 = .ok (.ishl, 1) := by decide +kernel
theorem dX6_bond_3 : decode cX6_bond 3 = .ok (.iconst 1, 1) := by decide +kernel
theorem dX6_bond_4 : decode cX6_bond 4 = .ok (.iload_n 1, 1) := by decide +kernel
theorem dX6_bond_5 : decode cX6_bond 5 = .ok (.iconst 1, 1) := by decide +kernel
theorem dX6_bond_6 : decode cX6_bond 6 = .ok (.iadd, 1) := by decide +kernel
theorem dX6_bond_7 : decode cX6_bond 7 = .ok (.aload_n 0, 1) := by decide +kernel
theorem dX6_bond_8 : decode cX6_bond 8 = .ok (.getfield 9, 3) := by decide +kernel
theorem dX6_bond_11 : decode cX6_bond 11 = .ok (.if_icmp .ne 7, 3) := by decide +kernel
theorem dX6_bond_14 : decode cX6_bond 14 = .ok (.iconst 0, 1) := by decide +kernel
theorem dX6_bond_15 : decode cX6_bond 15 = .ok (.goto 6, 3) := by decide +kernel
theorem dX6_bond_18 : decode cX6_bond 18 = .ok (.iload_n 1, 1) := by decide +kernel
theorem dX6_bond_19 : decode cX6_bond 19 = .ok (.iconst 1, 1) := by decide +kernel
theorem dX6_bond_20 : decode cX6_bond 20 = .ok (.iadd, 1) := by decide +kernel
theorem dX6_bond_21 : decode cX6_bond 21 = .ok (.ishl, 1) := by decide +kernel
theorem dX6_bond_22 : decode cX6_bond 22 = .ok (.ior, 1) := by decide +kernel
theorem dX6_bond_23 : decode cX6_bond 23 = .ok (.ireturn, 1) := by decide +kernel
theorem dX6_areAlike_0 : decode cX6_areAlike 0 = .ok (.iload_n 0, 1) := by decide +kernel
theorem dX6_areAlike_1 : decode cX6_areAlike 1 = .ok (.iload_n 1, 1) := by decide +kernel
theorem dX6_areAlike_2 : decode cX6_areAlike 2 = .ok (.iand, 1) := by decide +kernel
theorem dX6_areAlike_3 : decode cX6_areAlike 3 = .ok (.istore_n 2, 1) := by decide +kernel
theorem dX6_areAlike_4 : decode cX6_areAlike 4 = .ok (.iload_n 2, 1) := by decide +kernel
theorem dX6_areAlike_5 : decode cX6_areAlike 5 = .ok (.ifCond .eq 8, 3) := by decide +kernel
theorem dX6_areAlike_8 : decode cX6_areAlike 8 = .ok (.iload_n 2, 1) := by decide +kernel
theorem dX6_areAlike_9 : decode cX6_areAlike 9 = .ok (.iload_n 1, 1) := by decide +kernel
theorem dX6_areAlike_10 : decode cX6_areAlike 10 = .ok (.if_icmp .ne 7, 3) := by decide +kernel
theorem dX6_areAlike_13 : decode cX6_areAlike 13 = .ok (.iconst 1, 1) := by decide +kernel
theorem dX6_areAlike_14 : decode cX6_areAlike 14 = .ok (.goto 4, 3) := by decide +kernel
theorem dX6_areAlike_17 : decode cX6_areAlike 17 = .ok (.iconst 0, 1) := by decide +kernel
theorem dX6_areAlike_18 : decode cX6_areAlike 18 = .ok (.ireturn, 1) := by decide +kernel
theorem dX6_shifted_0 : decode cX6_shifted 0 = .ok (.iload_n 1, 1) := by decide +kernel
theorem dX6_shifted_1 : decode cX6_shifted 1 = .ok (.iconst 1, 1) := by decide +kernel
theorem dX6_shifted_2 : decode cX6_shifted 2 = .ok (.ishl, 1) := by decide +kernel
theorem dX6_shifted_3 : decode cX6_shifted 3 = .ok (.iload_n 1, 1) := by decide +kernel
theorem dX6_shifted_4 : decode cX6_shifted 4 = .ok (.aload_n 0, 1) := by decide +kernel
theorem dX6_shifted_5 : decode cX6_shifted 5 = .ok (.getfield 9, 3) := by decide +kernel
theorem dX6_shifted_8 : decode cX6_shifted 8 = .ok (.iconst 1, 1) := by decide +kernel
theorem dX6_shifted_9 : decode cX6_shifted 9 = .ok (.isub, 1) := by decide +kernel
theorem dX6_shifted_10 : decode cX6_shifted 10 = .ok (.ishr, 1) := by decide +kernel
theorem dX6_shifted_11 : decode cX6_shifted 11 = .ok (.ior, 1) := by decide +kernel
theorem dX6_shifted_12 : decode cX6_shifted 12 = .ok (.aload_n 0, 1) := by decide +kernel
theorem dX6_shifted_13 : decode cX6_shifted 13 = .ok (.invokevirtual 28, 3) := by decide +kernel
theorem dX6_shifted_16 : decode cX6_shifted 16 = .ok (.iconst 1, 1) := by decide +kernel
theorem dX6_shifted_17 : decode cX6_shifted 17 = .ok (.isub, 1) := by decide +kernel
theorem dX6_shifted_18 : decode cX6_shifted 18 = .ok (.iand, 1) := by decide +kernel
theorem dX6_shifted_19 : decode cX6_shifted 19 = .ok (.ireturn, 1) := by decide +kernel
theorem dX6_sumBetween_0 : decode cX6_sumBetween 0 = .ok (.iconst 0, 1) := by decide +kernel
theorem dX6_sumBetween_1 : decode cX6_sumBetween 1 = .ok (.istore_n 3, 1) := by decide +kernel
theorem dX6_sumBetween_2 : decode cX6_sumBetween 2 = .ok (.iconst 0, 1) := by decide +kernel
theorem dX6_sumBetween_3 : decode cX6_sumBetween 3 = .ok (.istore 4, 2) := by decide +kernel
theorem dX6_sumBetween_5 : decode cX6_sumBetween 5 = .ok (.iload 4, 2) := by decide +kernel
theorem dX6_sumBetween_7 : decode cX6_sumBetween 7 = .ok (.aload_n 0, 1) := by decide +kernel
theorem dX6_sumBetween_8 : decode cX6_sumBetween 8 = .ok (.invokevirtual 32, 3) := by decide +kernel
theorem dX6_sumBetween_11 : decode cX6_sumBetween 11 = .ok (.if_icmp .ge 61, 3) := by decide +kernel
theorem dX6_sumBetween_14 : decode cX6_sumBetween 14 = .ok (.aload_n 0, 1) := by decide +kernel
theorem dX6_sumBetween_15 : decode cX6_sumBetween 15 = .ok (.iload 4, 2) := by decide +kernel
theorem dX6_sumBetween_17 : decode cX6_sumBetween 17 = .ok (.invokevirtual 35, 3) := by decide +kernel
theorem dX6_sumBetween_20 : decode cX6_sumBetween 20 = .ok (.istore 5, 2) := by decide +kernel
theorem dX6_sumBetween_22 : decode cX6_sumBetween 22 = .ok (.iload_n 1, 1) := by decide +kernel
theorem dX6_sumBetween_23 : decode cX6_sumBetween 23 = .ok (.iload 5, 2) := by decide +kernel
theorem dX6_sumBetween_25 : decode cX6_sumBetween 25 = .ok (.invokestatic 39, 3) := by decide +kernel
theorem dX6_sumBetween_28 : decode cX6_sumBetween 28 = .ok (.istore 6, 2) := by decide +kernel
theorem dX6_sumBetween_30 : decode cX6_sumBetween 30 = .ok (.iload 6, 2) := by decide +kernel
theorem dX6_sumBetween_32 : decode cX6_sumBetween 32 = .ok (.ifCond .eq 18, 3) := by decide +kernel
theorem dX6_sumBetween_35 : decode cX6_sumBetween 35 = .ok (.iload_n 1, 1) := by decide +kernel
theorem dX6_sumBetween_36 : decode cX6_sumBetween 36 = .ok (.iload_n 2, 1) := by decide +kernel
theorem dX6_sumBetween_37 : decode cX6_sumBetween 37 = .ok (.if_icmp .ne 13, 3) := by decide +kernel
theorem dX6_sumBetween_40 : decode cX6_sumBetween 40 = .ok (.iload_n 3, 1) := by decide +kernel
theorem dX6_sumBetween_41 : decode cX6_sumBetween 41 = .ok (.aload_n 0, 1) := by decide +kernel
theorem dX6_sumBetween_42 : decode cX6_sumBetween 42 = .ok (.getfield 25, 3) := by decide +kernel
theorem dX6_sumBetween_45 : decode cX6_sumBetween 45 = .ok (.iadd, 1) := by decide +kernel
theorem dX6_sumBetween_46 : decode cX6_sumBetween 46 = .ok (.istore_n 3, 1) := by decide +kernel
theorem dX6_sumBetween_47 : decode cX6_sumBetween 47 = .ok (.goto 19, 3) := by decide +kernel
theorem dX6_sumBetween_50 : decode cX6_sumBetween 50 = .ok (.iload 6, 2) := by decide +kernel
theorem dX6_sumBetween_52 : decode cX6_sumBetween 52 = .ok (.ifCond .ne 14, 3) := by decide +kernel
theorem dX6_sumBetween_55 : decode cX6_sumBetween 55 = .ok (.iload_n 1, 1) := by decide +kernel
theorem dX6_sumBetween_56 : decode cX6_sumBetween 56 = .ok (.iload 5, 2) := by decide +kernel
theorem dX6_sumBetween_58 : decode cX6_sumBetween 58 = .ok (.ixor, 1) := by decide +kernel
theorem dX6_sumBetween_59 : decode cX6_sumBetween 59 = .ok (.iload_n 2, 1) := by decide +kernel
theorem dX6_sumBetween_60 : decode cX6_sumBetween 60 = .ok (.if_icmp .ne 6, 3) := by decide +kernel
theorem dX6_sumBetween_63 : decode cX6_sumBetween 63 = .ok (.iinc 3 1, 3) := by decide +kernel
theorem dX6_sumBetween_66 : decode cX6_sumBetween 66 = .ok (.iinc 4 1, 3) := by decide +kernel
theorem dX6_sumBetween_69 : decode cX6_sumBetween 69 = .ok (.goto (-64), 3) := by decide +kernel
theorem dX6_sumBetween_72 : decode cX6_sumBetween 72 = .ok (.iload_n 3, 1) := by decide +kernel
theorem dX6_sumBetween_73 : decode cX6_sumBetween 73 = .ok (.aload_n 0, 1) := by decide +kernel
theorem dX6_sumBetween_74 : decode cX6_sumBetween 74 = .ok (.getfield 19, 3) := by decide +kernel
theorem dX6_sumBetween_77 : decode cX6_sumBetween 77 = .ok (.invokestatic 43, 3) := by decide +kernel
theorem dX6_sumBetween_80 : decode cX6_sumBetween 80 = .ok (.ireturn, 1) := by decide +kernel
theorem dX6_sumOver_0 : decode cX6_sumOver 0 = .ok (.aload_n 2, 1) := by decide +kernel
theorem dX6_sumOver_1 : decode cX6_sumOver 1 = .ok (.invokestatic 47, 3) := by decide +kernel
theorem dX6_sumOver_4 : decode cX6_sumOver 4 = .ok (.iconst 0, 1) := by decide +kernel
theorem dX6_sumOver_5 : decode cX6_sumOver 5 = .ok (.istore_n 3, 1) := by decide +kernel
theorem dX6_sumOver_6 : decode cX6_sumOver 6 = .ok (.iload_n 3, 1) := by decide +kernel
theorem dX6_sumOver_7 : decode cX6_sumOver 7 = .ok (.aload_n 0, 1) := by decide +kernel
theorem dX6_sumOver_8 : decode cX6_sumOver 8 = .ok (.invokevirtual 28, 3) := by decide +kernel
theorem dX6_sumOver_11 : decode cX6_sumOver 11 = .ok (.if_icmp .ge 24, 3) := by decide +kernel
theorem dX6_sumOver_14 : decode cX6_sumOver 14 = .ok (.aload_n 1, 1) := by decide +kernel
theorem dX6_sumOver_15 : decode cX6_sumOver 15 = .ok (.iload_n 3, 1) := by decide +kernel
theorem dX6_sumOver_16 : decode cX6_sumOver 16 = .ok (.iaload, 1) := by decide +kernel
theorem dX6_sumOver_17 : decode cX6_sumOver 17 = .ok (.ifCond .eq 12, 3) := by decide +kernel
theorem dX6_sumOver_20 : decode cX6_sumOver 20 = .ok (.aload_n 0, 1) := by decide +kernel
theorem dX6_sumOver_21 : decode cX6_sumOver 21 = .ok (.iload_n 3, 1) := by decide +kernel
theorem dX6_sumOver_22 : decode cX6_sumOver 22 = .ok (.aload_n 1, 1) := by decide +kernel
theorem dX6_sumOver_23 : decode cX6_sumOver 23 = .ok (.iload_n 3, 1) := by decide +kernel
theorem dX6_sumOver_24 : decode cX6_sumOver 24 = .ok (.iaload, 1) := by decide +kernel
theorem dX6_sumOver_25 : decode cX6_sumOver 25 = .ok (.aload_n 2, 1) := by decide +kernel
theorem dX6_sumOver_26 : decode cX6_sumOver 26 = .ok (.invokevirtual 51, 3) := by decide +kernel
theorem dX6_sumOver_29 : decode cX6_sumOver 29 = .ok (.iinc 3 1, 3) := by decide +kernel
theorem dX6_sumOver_32 : decode cX6_sumOver 32 = .ok (.goto (-26), 3) := by decide +kernel
theorem dX6_sumOver_35 : decode cX6_sumOver 35 = .ok (.iconst 0, 1) := by decide +kernel
theorem dX6_sumOver_36 : decode cX6_sumOver 36 = .ok (.istore_n 3, 1) := by decide +kernel
theorem dX6_sumOver_37 : decode cX6_sumOver 37 = .ok (.iload_n 3, 1) := by decide +kernel
theorem dX6_sumOver_38 : decode cX6_sumOver 38 = .ok (.aload_n 0, 1) := by decide +kernel
theorem dX6_sumOver_39 : decode cX6_sumOver 39 = .ok (.invokevirtual 28, 3) := by decide +kernel
theorem dX6_sumOver_42 : decode cX6_sumOver 42 = .ok (.if_icmp .ge 22, 3) := by decide +kernel
theorem dX6_sumOver_45 : decode cX6_sumOver 45 = .ok (.aload_n 2, 1) := by decide +kernel
theorem dX6_sumOver_46 : decode cX6_sumOver 46 = .ok (.iload_n 3, 1) := by decide +kernel
theorem dX6_sumOver_47 : decode cX6_sumOver 47 = .ok (.aload_n 2, 1) := by decide +kernel
theorem dX6_sumOver_48 : decode cX6_sumOver 48 = .ok (.iload_n 3, 1) := by decide +kernel
theorem dX6_sumOver_49 : decode cX6_sumOver 49 = .ok (.iaload, 1) := by decide +kernel
theorem dX6_sumOver_50 : decode cX6_sumOver 50 = .ok (.aload_n 0, 1) := by decide +kernel
theorem dX6_sumOver_51 : decode cX6_sumOver 51 = .ok (.getfield 19, 3) := by decide +kernel
theorem dX6_sumOver_54 : decode cX6_sumOver 54 = .ok (.invokestatic 43, 3) := by decide +kernel
theorem dX6_sumOver_57 : decode cX6_sumOver 57 = .ok (.iastore, 1) := by decide +kernel
theorem dX6_sumOver_58 : decode cX6_sumOver 58 = .ok (.iinc 3 1, 3) := by decide +kernel
theorem dX6_sumOver_61 : decode cX6_sumOver 61 = .ok (.goto (-24), 3) := by decide +kernel
theorem dX6_sumOver_64 : decode cX6_sumOver 64 = .ok (.return_, 1) := by decide +kernel
theorem dX6_addSumOf_0 : decode cX6_addSumOf 0 = .ok (.iconst 0, 1) := by decide +kernel
theorem dX6_addSumOf_1 : decode cX6_addSumOf 1 = .ok (.istore 4, 2) := by decide +kernel
theorem dX6_addSumOf_3 : decode cX6_addSumOf 3 = .ok (.iload 4, 2) := by decide +kernel
theorem dX6_addSumOf_5 : decode cX6_addSumOf 5 = .ok (.aload_n 0, 1) := by decide +kernel
theorem dX6_addSumOf_6 : decode cX6_addSumOf 6 = .ok (.invokevirtual 32, 3) := by decide +kernel
theorem dX6_addSumOf_9 : decode cX6_addSumOf 9 = .ok (.if_icmp .ge 51, 3) := by decide +kernel
theorem dX6_addSumOf_12 : decode cX6_addSumOf 12 = .ok (.aload_n 0, 1) := by decide +kernel
theorem dX6_addSumOf_13 : decode cX6_addSumOf 13 = .ok (.iload 4, 2) := by decide +kernel
theorem dX6_addSumOf_15 : decode cX6_addSumOf 15 = .ok (.invokevirtual 35, 3) := by decide +kernel
theorem dX6_addSumOf_18 : decode cX6_addSumOf 18 = .ok (.istore 5, 2) := by decide +kernel
theorem dX6_addSumOf_20 : decode cX6_addSumOf 20 = .ok (.iload_n 1, 1) := by decide +kernel
theorem dX6_addSumOf_21 : decode cX6_addSumOf 21 = .ok (.iload 5, 2) := by decide +kernel
theorem dX6_addSumOf_23 : decode cX6_addSumOf 23 = .ok (.invokestatic 39, 3) := by decide +kernel
theorem dX6_addSumOf_26 : decode cX6_addSumOf 26 = .ok (.ifCond .eq 18, 3) := by decide +kernel
theorem dX6_addSumOf_29 : decode cX6_addSumOf 29 = .ok (.aload_n 3, 1) := by decide +kernel
theorem dX6_addSumOf_30 : decode cX6_addSumOf 30 = .ok (.iload_n 1, 1) := by decide +kernel
theorem dX6_addSumOf_31 : decode cX6_addSumOf 31 = .ok (.dup2, 1) := by decide +kernel
theorem dX6_addSumOf_32 : decode cX6_addSumOf 32 = .ok (.iaload, 1) := by decide +kernel
theorem dX6_addSumOf_33 : decode cX6_addSumOf 33 = .ok (.aload_n 0, 1) := by decide +kernel
theorem dX6_addSumOf_34 : decode cX6_addSumOf 34 = .ok (.getfield 25, 3) := by decide +kernel
theorem dX6_addSumOf_37 : decode cX6_addSumOf 37 = .ok (.iload_n 2, 1) := by decide +kernel
theorem dX6_addSumOf_38 : decode cX6_addSumOf 38 = .ok (.imul, 1) := by decide +kernel
theorem dX6_addSumOf_39 : decode cX6_addSumOf 39 = .ok (.iadd, 1) := by decide +kernel
theorem dX6_addSumOf_40 : decode cX6_addSumOf 40 = .ok (.iastore, 1) := by decide +kernel
theorem dX6_addSumOf_41 : decode cX6_addSumOf 41 = .ok (.goto 13, 3) := by decide +kernel
theorem dX6_addSumOf_44 : decode cX6_addSumOf 44 = .ok (.aload_n 3, 1) := by decide +kernel
theorem dX6_addSumOf_45 : decode cX6_addSumOf 45 = .ok (.iload_n 1, 1) := by decide +kernel
theorem dX6_addSumOf_46 : decode cX6_addSumOf 46 = .ok (.iload 5, 2) := by decide +kernel
theorem dX6_addSumOf_48 : decode cX6_addSumOf 48 = .ok (.ixor, 1) := by decide +kernel
theorem dX6_addSumOf_49 : decode cX6_addSumOf 49 = .ok (.dup2, 1) := by decide +kernel
theorem dX6_addSumOf_50 : decode cX6_addSumOf 50 = .ok (.iaload, 1) := by decide +kernel
theorem dX6_addSumOf_51 : decode cX6_addSumOf 51 = .ok (.iload_n 2, 1) := by decide +kernel
theorem dX6_addSumOf_52 : decode cX6_addSumOf 52 = .ok (.iadd, 1) := by decide +kernel
theorem dX6_addSumOf_53 : decode cX6_addSumOf 53 = .ok (.iastore, 1) := by decide +kernel
theorem dX6_addSumOf_54 : decode cX6_addSumOf 54 = .ok (.iinc 4 1, 3) := by decide +kernel
theorem dX6_addSumOf_57 : decode cX6_addSumOf 57 = .ok (.goto (-54), 3) := by decide +kernel
theorem dX6_addSumOf_60 : decode cX6_addSumOf 60 = .ok (.return_, 1) := by decide +kernel
theorem dX6_shiftOver_0 : decode cX6_shiftOver 0 = .ok (.iconst 0, 1) := by decide +kernel
theorem dX6_shiftOver_1 : decode cX6_shiftOver 1 = .ok (.istore_n 3, 1) := by decide +kernel
theorem dX6_shiftOver_2 : decode cX6_shiftOver 2 = .ok (.iload_n 3, 1) := by decide +kernel
theorem dX6_shiftOver_3 : decode cX6_shiftOver 3 = .ok (.aload_n 0, 1) := by decide +kernel
theorem dX6_shiftOver_4 : decode cX6_shiftOver 4 = .ok (.invokevirtual 28, 3) := by decide +kernel
theorem dX6_shiftOver_7 : decode cX6_shiftOver 7 = .ok (.if_icmp .ge 19, 3) := by decide +kernel
theorem dX6_shiftOver_10 : decode cX6_shiftOver 10 = .ok (.aload_n 2, 1) := by decide +kernel
theorem dX6_shiftOver_11 : decode cX6_shiftOver 11 = .ok (.aload_n 0, 1) := by decide +kernel
theorem dX6_shiftOver_12 : decode cX6_shiftOver 12 = .ok (.iload_n 3, 1) := by decide +kernel
theorem dX6_shiftOver_13 : decode cX6_shiftOver 13 = .ok (.invokevirtual 55, 3) := by decide +kernel
theorem dX6_shiftOver_16 : decode cX6_shiftOver 16 = .ok (.aload_n 1, 1) := by decide +kernel
theorem dX6_shiftOver_17 : decode cX6_shiftOver 17 = .ok (.iload_n 3, 1) := by decide +kernel
theorem dX6_shiftOver_18 : decode cX6_shiftOver 18 = .ok (.iaload, 1) := by decide +kernel
theorem dX6_shiftOver_19 : decode cX6_shiftOver 19 = .ok (.iastore, 1) := by decide +kernel
theorem dX6_shiftOver_20 : decode cX6_shiftOver 20 = .ok (.iinc 3 1, 3) := by decide +kernel
theorem dX6_shiftOver_23 : decode cX6_shiftOver 23 = .ok (.goto (-21), 3) := by decide +kernel
theorem dX6_shiftOver_26 : decode cX6_shiftOver 26 = .ok (.return_, 1) := by decide +kernel
theorem dX6_turnOver_0 : decode cX6_turnOver 0 = .ok (.iconst 0, 1) := by decide +kernel
theorem dX6_turnOver_1 : decode cX6_turnOver 1 = .ok (.istore 4, 2) := by decide +kernel
theorem dX6_turnOver_3 : decode cX6_turnOver 3 = .ok (.iload 4, 2) := by decide +kernel
theorem dX6_turnOver_5 : decode cX6_turnOver 5 = .ok (.aload_n 0, 1) := by decide +kernel
theorem dX6_turnOver_6 : decode cX6_turnOver 6 = .ok (.invokevirtual 28, 3) := by decide +kernel
theorem dX6_turnOver_9 : decode cX6_turnOver 9 = .ok (.if_icmp .ge 21, 3) := by decide +kernel
theorem dX6_turnOver_12 : decode cX6_turnOver 12 = .ok (.aload_n 3, 1) := by decide +kernel
theorem dX6_turnOver_13 : decode cX6_turnOver 13 = .ok (.iload 4, 2) := by decide +kernel
theorem dX6_turnOver_15 : decode cX6_turnOver 15 = .ok (.iconst 1, 1) := by decide +kernel
theorem dX6_turnOver_16 : decode cX6_turnOver 16 = .ok (.iload_n 1, 1) := by decide +kernel
theorem dX6_turnOver_17 : decode cX6_turnOver 17 = .ok (.ishl, 1) := by decide +kernel
theorem dX6_turnOver_18 : decode cX6_turnOver 18 = .ok (.ixor, 1) := by decide +kernel
theorem dX6_turnOver_19 : decode cX6_turnOver 19 = .ok (.aload_n 2, 1) := by decide +kernel
theorem dX6_turnOver_20 : decode cX6_turnOver 20 = .ok (.iload 4, 2) := by decide +kernel
theorem dX6_turnOver_22 : decode cX6_turnOver 22 = .ok (.iaload, 1) := by decide +kernel
theorem dX6_turnOver_23 : decode cX6_turnOver 23 = .ok (.iastore, 1) := by decide +kernel
theorem dX6_turnOver_24 : decode cX6_turnOver 24 = .ok (.iinc 4 1, 3) := by decide +kernel
theorem dX6_turnOver_27 : decode cX6_turnOver 27 = .ok (.goto (-24), 3) := by decide +kernel
theorem dX6_turnOver_30 : decode cX6_turnOver 30 = .ok (.return_, 1) := by decide +kernel
theorem dX6_alikeAt_0 : decode cX6_alikeAt 0 = .ok (.iconst 0, 1) := by decide +kernel
theorem dX6_alikeAt_1 : decode cX6_alikeAt 1 = .ok (.istore_n 3, 1) := by decide +kernel
theorem dX6_alikeAt_2 : decode cX6_alikeAt 2 = .ok (.iconst 0, 1) := by decide +kernel
theorem dX6_alikeAt_3 : decode cX6_alikeAt 3 = .ok (.istore 4, 2) := by decide +kernel
theorem dX6_alikeAt_5 : decode cX6_alikeAt 5 = .ok (.iload 4, 2) := by decide +kernel
theorem dX6_alikeAt_7 : decode cX6_alikeAt 7 = .ok (.aload_n 0, 1) := by decide +kernel
theorem dX6_alikeAt_8 : decode cX6_alikeAt 8 = .ok (.getfield 9, 3) := by decide +kernel
theorem dX6_alikeAt_11 : decode cX6_alikeAt 11 = .ok (.if_icmp .ge 56, 3) := by decide +kernel
theorem dX6_alikeAt_14 : decode cX6_alikeAt 14 = .ok (.iload 4, 2) := by decide +kernel
theorem dX6_alikeAt_16 : decode cX6_alikeAt 16 = .ok (.iload_n 2, 1) := by decide +kernel
theorem dX6_alikeAt_17 : decode cX6_alikeAt 17 = .ok (.iadd, 1) := by decide +kernel
theorem dX6_alikeAt_18 : decode cX6_alikeAt 18 = .ok (.aload_n 0, 1) := by decide +kernel
theorem dX6_alikeAt_19 : decode cX6_alikeAt 19 = .ok (.getfield 9, 3) := by decide +kernel
theorem dX6_alikeAt_22 : decode cX6_alikeAt 22 = .ok (.if_icmp .ge 10, 3) := by decide +kernel
theorem dX6_alikeAt_25 : decode cX6_alikeAt 25 = .ok (.iload 4, 2) := by decide +kernel
theorem dX6_alikeAt_27 : decode cX6_alikeAt 27 = .ok (.iload_n 2, 1) := by decide +kernel
theorem dX6_alikeAt_28 : decode cX6_alikeAt 28 = .ok (.iadd, 1) := by decide +kernel
theorem dX6_alikeAt_29 : decode cX6_alikeAt 29 = .ok (.goto 12, 3) := by decide +kernel
theorem dX6_alikeAt_32 : decode cX6_alikeAt 32 = .ok (.iload 4, 2) := by decide +kernel
theorem dX6_alikeAt_34 : decode cX6_alikeAt 34 = .ok (.iload_n 2, 1) := by decide +kernel
theorem dX6_alikeAt_35 : decode cX6_alikeAt 35 = .ok (.iadd, 1) := by decide +kernel
theorem dX6_alikeAt_36 : decode cX6_alikeAt 36 = .ok (.aload_n 0, 1) := by decide +kernel
theorem dX6_alikeAt_37 : decode cX6_alikeAt 37 = .ok (.getfield 9, 3) := by decide +kernel
theorem dX6_alikeAt_40 : decode cX6_alikeAt 40 = .ok (.isub, 1) := by decide +kernel
theorem dX6_alikeAt_41 : decode cX6_alikeAt 41 = .ok (.istore 5, 2) := by decide +kernel
theorem dX6_alikeAt_43 : decode cX6_alikeAt 43 = .ok (.iload_n 1, 1) := by decide +kernel
theorem dX6_alikeAt_44 : decode cX6_alikeAt 44 = .ok (.iload 4, 2) := by decide +kernel
theorem dX6_alikeAt_46 : decode cX6_alikeAt 46 = .ok (.ishr, 1) := by decide +kernel
theorem dX6_alikeAt_47 : decode cX6_alikeAt 47 = .ok (.iconst 1, 1) := by decide +kernel
theorem dX6_alikeAt_48 : decode cX6_alikeAt 48 = .ok (.iand, 1) := by decide +kernel
theorem dX6_alikeAt_49 : decode cX6_alikeAt 49 = .ok (.iload_n 1, 1) := by decide +kernel
theorem dX6_alikeAt_50 : decode cX6_alikeAt 50 = .ok (.iload 5, 2) := by decide +kernel
theorem dX6_alikeAt_52 : decode cX6_alikeAt 52 = .ok (.ishr, 1) := by decide +kernel
theorem dX6_alikeAt_53 : decode cX6_alikeAt 53 = .ok (.iconst 1, 1) := by decide +kernel
theorem dX6_alikeAt_54 : decode cX6_alikeAt 54 = .ok (.iand, 1) := by decide +kernel
theorem dX6_alikeAt_55 : decode cX6_alikeAt 55 = .ok (.if_icmp .ne 6, 3) := by decide +kernel
theorem dX6_alikeAt_58 : decode cX6_alikeAt 58 = .ok (.iinc 3 1, 3) := by decide +kernel
theorem dX6_alikeAt_61 : decode cX6_alikeAt 61 = .ok (.iinc 4 1, 3) := by decide +kernel
theorem dX6_alikeAt_64 : decode cX6_alikeAt 64 = .ok (.goto (-59), 3) := by decide +kernel
theorem dX6_alikeAt_67 : decode cX6_alikeAt 67 = .ok (.iload_n 3, 1) := by decide +kernel
theorem dX6_alikeAt_68 : decode cX6_alikeAt 68 = .ok (.ireturn, 1) := by decide +kernel
theorem dX6_leastRoot_0 : decode cX6_leastRoot 0 = .ok (.iconst 1, 1) := by decide +kernel
theorem dX6_leastRoot_1 : decode cX6_leastRoot 1 = .ok (.istore_n 1, 1) := by decide +kernel
theorem dX6_leastRoot_2 : decode cX6_leastRoot 2 = .ok (.iload_n 1, 1) := by decide +kernel
theorem dX6_leastRoot_3 : decode cX6_leastRoot 3 = .ok (.aload_n 0, 1) := by decide +kernel
theorem dX6_leastRoot_4 : decode cX6_leastRoot 4 = .ok (.getfield 19, 3) := by decide +kernel
theorem dX6_leastRoot_7 : decode cX6_leastRoot 7 = .ok (.if_icmp .ge 19, 3) := by decide +kernel
theorem dX6_leastRoot_10 : decode cX6_leastRoot 10 = .ok (.aload_n 0, 1) := by decide +kernel
theorem dX6_leastRoot_11 : decode cX6_leastRoot 11 = .ok (.iload_n 1, 1) := by decide +kernel
theorem dX6_leastRoot_12 : decode cX6_leastRoot 12 = .ok (.invokevirtual 58, 3) := by decide +kernel
theorem dX6_leastRoot_15 : decode cX6_leastRoot 15 = .ok (.ifCond .eq 5, 3) := by decide +kernel
theorem dX6_leastRoot_18 : decode cX6_leastRoot 18 = .ok (.iload_n 1, 1) := by decide +kernel
theorem dX6_leastRoot_19 : decode cX6_leastRoot 19 = .ok (.ireturn, 1) := by decide +kernel
theorem dX6_leastRoot_20 : decode cX6_leastRoot 20 = .ok (.iinc 1 1, 3) := by decide +kernel
theorem dX6_leastRoot_23 : decode cX6_leastRoot 23 = .ok (.goto (-21), 3) := by decide +kernel
theorem dX6_leastRoot_26 : decode cX6_leastRoot 26 = .ok (.iconst (-1), 1) := by decide +kernel
theorem dX6_leastRoot_27 : decode cX6_leastRoot 27 = .ok (.ireturn, 1) := by decide +kernel
theorem dX6_isRoot_0 : decode cX6_isRoot 0 = .ok (.iconst 1, 1) := by decide +kernel
theorem dX6_isRoot_1 : decode cX6_isRoot 1 = .ok (.istore_n 2, 1) := by decide +kernel
theorem dX6_isRoot_2 : decode cX6_isRoot 2 = .ok (.iconst 1, 1) := by decide +kernel
theorem dX6_isRoot_3 : decode cX6_isRoot 3 = .ok (.istore_n 3, 1) := by decide +kernel
theorem dX6_isRoot_4 : decode cX6_isRoot 4 = .ok (.iload_n 3, 1) := by decide +kernel
theorem dX6_isRoot_5 : decode cX6_isRoot 5 = .ok (.aload_n 0, 1) := by decide +kernel
theorem dX6_isRoot_6 : decode cX6_isRoot 6 = .ok (.getfield 9, 3) := by decide +kernel
theorem dX6_isRoot_9 : decode cX6_isRoot 9 = .ok (.if_icmp .ge 27, 3) := by decide +kernel
theorem dX6_isRoot_12 : decode cX6_isRoot 12 = .ok (.iload_n 2, 1) := by decide +kernel
theorem dX6_isRoot_13 : decode cX6_isRoot 13 = .ok (.iload_n 1, 1) := by decide +kernel
theorem dX6_isRoot_14 : decode cX6_isRoot 14 = .ok (.imul, 1) := by decide +kernel
theorem dX6_isRoot_15 : decode cX6_isRoot 15 = .ok (.aload_n 0, 1) := by decide +kernel
theorem dX6_isRoot_16 : decode cX6_isRoot 16 = .ok (.getfield 19, 3) := by decide +kernel
theorem dX6_isRoot_19 : decode cX6_isRoot 19 = .ok (.invokestatic 43, 3) := by decide +kernel
theorem dX6_isRoot_22 : decode cX6_isRoot 22 = .ok (.istore_n 2, 1) := by decide +kernel
theorem dX6_isRoot_23 : decode cX6_isRoot 23 = .ok (.iload_n 2, 1) := by decide +kernel
theorem dX6_isRoot_24 : decode cX6_isRoot 24 = .ok (.iconst 1, 1) := by decide +kernel
theorem dX6_isRoot_25 : decode cX6_isRoot 25 = .ok (.if_icmp .ne 5, 3) := by decide +kernel
theorem dX6_isRoot_28 : decode cX6_isRoot 28 = .ok (.iconst 0, 1) := by decide +kernel
theorem dX6_isRoot_29 : decode cX6_isRoot 29 = .ok (.ireturn, 1) := by decide +kernel
theorem dX6_isRoot_30 : decode cX6_isRoot 30 = .ok (.iinc 3 1, 3) := by decide +kernel
theorem dX6_isRoot_33 : decode cX6_isRoot 33 = .ok (.goto (-29), 3) := by decide +kernel
theorem dX6_isRoot_36 : decode cX6_isRoot 36 = .ok (.iload_n 2, 1) := by decide +kernel
theorem dX6_isRoot_37 : decode cX6_isRoot 37 = .ok (.iload_n 1, 1) := by decide +kernel
theorem dX6_isRoot_38 : decode cX6_isRoot 38 = .ok (.imul, 1) := by decide +kernel
theorem dX6_isRoot_39 : decode cX6_isRoot 39 = .ok (.aload_n 0, 1) := by decide +kernel
theorem dX6_isRoot_40 : decode cX6_isRoot 40 = .ok (.getfield 19, 3) := by decide +kernel
theorem dX6_isRoot_43 : decode cX6_isRoot 43 = .ok (.invokestatic 43, 3) := by decide +kernel
theorem dX6_isRoot_46 : decode cX6_isRoot 46 = .ok (.iconst 1, 1) := by decide +kernel
theorem dX6_isRoot_47 : decode cX6_isRoot 47 = .ok (.if_icmp .ne 7, 3) := by decide +kernel
theorem dX6_isRoot_50 : decode cX6_isRoot 50 = .ok (.iconst 1, 1) := by decide +kernel
theorem dX6_isRoot_51 : decode cX6_isRoot 51 = .ok (.goto 4, 3) := by decide +kernel
theorem dX6_isRoot_54 : decode cX6_isRoot 54 = .ok (.iconst 0, 1) := by decide +kernel
theorem dX6_isRoot_55 : decode cX6_isRoot 55 = .ok (.ireturn, 1) := by decide +kernel
theorem dX7_init_0 : decode cX7_init 0 = .ok (.aload_n 0, 1) := by decide +kernel
theorem dX7_init_1 : decode cX7_init 1 = .ok (.invokespecial 3, 3) := by decide +kernel
theorem dX7_init_4 : decode cX7_init 4 = .ok (.aload_n 0, 1) := by decide +kernel
theorem dX7_init_5 : decode cX7_init 5 = .ok (.iconst 0, 1) := by decide +kernel
theorem dX7_init_6 : decode cX7_init 6 = .ok (.putfield 9, 3) := by decide +kernel
theorem dX7_init_9 : decode cX7_init 9 = .ok (.aload_n 0, 1) := by decide +kernel
theorem dX7_init_10 : decode cX7_init 10 = .ok (.bipush 30, 2) := by decide +kernel
theorem dX7_init_12 : decode cX7_init 12 = .ok (.newarray .int, 2) := by decide +kernel
theorem dX7_init_14 : decode cX7_init 14 = .ok (.putfield 15, 3) := by decide +kernel
theorem dX7_init_17 : decode cX7_init 17 = .ok (.aload_n 0, 1) := by decide +kernel
theorem dX7_init_18 : decode cX7_init 18 = .ok (.bipush 31, 2) := by decide +kernel
theorem dX7_init_20 : decode cX7_init 20 = .ok (.newarray .int, 2) := by decide +kernel
theorem dX7_init_22 : decode cX7_init 22 = .ok (.putfield 19, 3) := by decide +kernel
theorem dX7_init_25 : decode cX7_init 25 = .ok (.aload_n 0, 1) := by decide +kernel
theorem dX7_init_26 : decode cX7_init 26 = .ok (.sipush 300, 3) := by decide +kernel
theorem dX7_init_29 : decode cX7_init 29 = .ok (.newarray .int, 2) := by decide +kernel
theorem dX7_init_31 : decode cX7_init 31 = .ok (.putfield 24, 3) := by decide +kernel
theorem dX7_init_34 : decode cX7_init 34 = .ok (.aload_n 0, 1) := by decide +kernel
theorem dX7_init_35 : decode cX7_init 35 = .ok (.iconst 3, 1) := by decide +kernel
theorem dX7_init_36 : decode cX7_init 36 = .ok (.newarray .int, 2) := by decide +kernel
theorem dX7_init_38 : decode cX7_init 38 = .ok (.dup, 1) := by decide +kernel
theorem dX7_init_39 : decode cX7_init 39 = .ok (.iconst 0, 1) := by decide +kernel
theorem dX7_init_40 : decode cX7_init 40 = .ok (.iconst (-1), 1) := by decide +kernel
theorem dX7_init_41 : decode cX7_init 41 = .ok (.iastore, 1) := by decide +kernel
theorem dX7_init_42 : decode cX7_init 42 = .ok (.dup, 1) := by decide +kernel
theorem dX7_init_43 : decode cX7_init 43 = .ok (.iconst 1, 1) := by decide +kernel
theorem dX7_init_44 : decode cX7_init 44 = .ok (.iconst (-1), 1) := by decide +kernel
theorem dX7_init_45 : decode cX7_init 45 = .ok (.iastore, 1) := by decide +kernel
theorem dX7_init_46 : decode cX7_init 46 = .ok (.dup, 1) := by decide +kernel
theorem dX7_init_47 : decode cX7_init 47 = .ok (.iconst 2, 1) := by decide +kernel
theorem dX7_init_48 : decode cX7_init 48 = .ok (.iconst (-1), 1) := by decide +kernel
theorem dX7_init_49 : decode cX7_init 49 = .ok (.iastore, 1) := by decide +kernel
theorem dX7_init_50 : decode cX7_init 50 = .ok (.putfield 27, 3) := by decide +kernel
theorem dX7_init_53 : decode cX7_init 53 = .ok (.aload_n 0, 1) := by decide +kernel
theorem dX7_init_54 : decode cX7_init 54 = .ok (.bipush 40, 2) := by decide +kernel
theorem dX7_init_56 : decode cX7_init 56 = .ok (.newarray .int, 2) := by decide +kernel
theorem dX7_init_58 : decode cX7_init 58 = .ok (.putfield 30, 3) := by decide +kernel
theorem dX7_init_61 : decode cX7_init 61 = .ok (.aload_n 0, 1) := by decide +kernel
theorem dX7_init_62 : decode cX7_init 62 = .ok (.iconst 0, 1) := by decide +kernel
theorem dX7_init_63 : decode cX7_init 63 = .ok (.putfield 33, 3) := by decide +kernel
theorem dX7_init_66 : decode cX7_init 66 = .ok (.return_, 1) := by decide +kernel
theorem dX7_restart_0 : decode cX7_restart 0 = .ok (.aload_n 0, 1) := by decide +kernel
theorem dX7_restart_1 : decode cX7_restart 1 = .ok (.iconst 0, 1) := by decide +kernel
theorem dX7_restart_2 : decode cX7_restart 2 = .ok (.putfield 9, 3) := by decide +kernel
theorem dX7_restart_5 : decode cX7_restart 5 = .ok (.aload_n 0, 1) := by decide +kernel
theorem dX7_restart_6 : decode cX7_restart 6 = .ok (.getfield 19, 3) := by decide +kernel
theorem dX7_restart_9 : decode cX7_restart 9 = .ok (.iconst 0, 1) := by decide +kernel
theorem dX7_restart_10 : decode cX7_restart 10 = .ok (.iconst 0, 1) := by decide +kernel
theorem dX7_restart_11 : decode cX7_restart 11 = .ok (.iastore, 1) := by decide +kernel
theorem dX7_restart_12 : decode cX7_restart 12 = .ok (.iconst 0, 1) := by decide +kernel
theorem dX7_restart_13 : decode cX7_restart 13 = .ok (.istore_n 2, 1) := by decide +kernel
theorem dX7_restart_14 : decode cX7_restart 14 = .ok (.iload_n 2, 1) := by decide +kernel
theorem dX7_restart_15 : decode cX7_restart 15 = .ok (.aload_n 0, 1) := by decide +kernel
theorem dX7_restart_16 : decode cX7_restart 16 = .ok (.getfield 27, 3) := by decide +kernel
theorem dX7_restart_19 : decode cX7_restart 19 = .ok (.arraylength, 1) := by decide +kernel
theorem dX7_restart_20 : decode cX7_restart 20 = .ok (.if_icmp .ge 16, 3) := by decide +kernel
theorem dX7_restart_23 : decode cX7_restart 23 = .ok (.aload_n 0, 1) := by decide +kernel
theorem dX7_restart_24 : decode cX7_restart 24 = .ok (.getfield 27, 3) := by decide +kernel
theorem dX7_restart_27 : decode cX7_restart 27 = .ok (.iload_n 2, 1) := by decide +kernel
theorem dX7_restart_28 : decode cX7_restart 28 = .ok (.iconst (-1), 1) := by decide +kernel
theorem dX7_restart_29 : decode cX7_restart 29 = .ok (.iastore, 1) := by decide +kernel
theorem dX7_restart_30 : decode cX7_restart 30 = .ok (.iinc 2 1, 3) := by decide +kernel
theorem dX7_restart_33 : decode cX7_restart 33 = .ok (.goto (-19), 3) := by decide +kernel
theorem dX7_restart_36 : decode cX7_restart 36 = .ok (.aload_n 0, 1) := by decide +kernel
theorem dX7_restart_37 : decode cX7_restart 37 = .ok (.iload_n 1, 1) := by decide +kernel
theorem dX7_restart_38 : decode cX7_restart 38 = .ok (.putfield 33, 3) := by decide +kernel
theorem dX7_restart_41 : decode cX7_restart 41 = .ok (.return_, 1) := by decide +kernel
theorem dX7_hasWeight_0 : decode cX7_hasWeight 0 = .ok (.iload_n 1, 1) := by decide +kernel
theorem dX7_hasWeight_1 : decode cX7_hasWeight 1 = .ok (.ifCond .lt 26, 3) := by decide +kernel
theorem dX7_hasWeight_4 : decode cX7_hasWeight 4 = .ok (.iload_n 1, 1) := by decide +kernel
theorem dX7_hasWeight_5 : decode cX7_hasWeight 5 = .ok (.aload_n 0, 1) := by decide +kernel
theorem dX7_hasWeight_6 : decode cX7_hasWeight 6 = .ok (.getfield 27, 3) := by decide +kernel
theorem dX7_hasWeight_9 : decode cX7_hasWeight 9 = .ok (.arraylength, 1) := by decide +kernel
theorem dX7_hasWeight_10 : decode cX7_hasWeight 10 = .ok (.if_icmp .ge 17, 3) := by decide +kernel
theorem dX7_hasWeight_13 : decode cX7_hasWeight 13 = .ok (.aload_n 0, 1) := by decide +kernel
theorem dX7_hasWeight_14 : decode cX7_hasWeight 14 = .ok (.getfield 27, 3) := by decide +kernel
theorem dX7_hasWeight_17 : decode cX7_hasWeight 17 = .ok (.iload_n 1, 1) := by decide +kernel
theorem dX7_hasWeight_18 : decode cX7_hasWeight 18 = .ok (.iaload, 1) := by decide +kernel
theorem dX7_hasWeight_19 : decode cX7_hasWeight 19 = .ok (.iconst (-1), 1) := by decide +kernel
theorem dX7_hasWeight_20 : decode cX7_hasWeight 20 = .ok (.if_icmp .eq 7, 3) := by decide +kernel
theorem dX7_hasWeight_23 : decode cX7_hasWeight 23 = .ok (.iconst 1, 1) := by decide +kernel
theorem dX7_hasWeight_24 : decode cX7_hasWeight 24 = .ok (.goto 4, 3) := by decide +kernel
theorem dX7_hasWeight_27 : decode cX7_hasWeight 27 = .ok (.iconst 0, 1) := by decide +kernel
theorem dX7_hasWeight_28 : decode cX7_hasWeight 28 = .ok (.ireturn, 1) := by decide +kernel
theorem dX7_open_0 : decode cX7_open 0 = .ok (.aload_n 0, 1) := by decide +kernel
theorem dX7_open_1 : decode cX7_open 1 = .ok (.getfield 9, 3) := by decide +kernel
theorem dX7_open_4 : decode cX7_open 4 = .ok (.bipush 30, 2) := by decide +kernel
theorem dX7_open_6 : decode cX7_open 6 = .ok (.if_icmp .ge 66, 3) := by decide +kernel
theorem dX7_open_9 : decode cX7_open 9 = .ok (.aload_n 0, 1) := by decide +kernel
theorem dX7_open_10 : decode cX7_open 10 = .ok (.getfield 15, 3) := by decide +kernel
theorem dX7_open_13 : decode cX7_open 13 = .ok (.aload_n 0, 1) := by decide +kernel
theorem dX7_open_14 : decode cX7_open 14 = .ok (.getfield 9, 3) := by decide +kernel
theorem dX7_open_17 : decode cX7_open 17 = .ok (.iload_n 1, 1) := by decide +kernel
theorem dX7_open_18 : decode cX7_open 18 = .ok (.iastore, 1) := by decide +kernel
theorem dX7_open_19 : decode cX7_open 19 = .ok (.iload_n 1, 1) := by decide +kernel
theorem dX7_open_20 : decode cX7_open 20 = .ok (.ifCond .lt 22, 3) := by decide +kernel
theorem dX7_open_23 : decode cX7_open 23 = .ok (.iload_n 1, 1) := by decide +kernel
theorem dX7_open_24 : decode cX7_open 24 = .ok (.aload_n 0, 1) := by decide +kernel
theorem dX7_open_25 : decode cX7_open 25 = .ok (.getfield 27, 3) := by decide +kernel
theorem dX7_open_28 : decode cX7_open 28 = .ok (.arraylength, 1) := by decide +kernel
theorem dX7_open_29 : decode cX7_open 29 = .ok (.if_icmp .ge 13, 3) := by decide +kernel
theorem dX7_open_32 : decode cX7_open 32 = .ok (.aload_n 0, 1) := by decide +kernel
theorem dX7_open_33 : decode cX7_open 33 = .ok (.getfield 27, 3) := by decide +kernel
theorem dX7_open_36 : decode cX7_open 36 = .ok (.iload_n 1, 1) := by decide +kernel
theorem dX7_open_37 : decode cX7_open 37 = .ok (.aload_n 0, 1) := by decide +kernel
theorem dX7_open_38 : decode cX7_open 38 = .ok (.getfield 9, 3) := by decide +kernel
theorem dX7_open_41 : decode cX7_open 41 = .ok (.iastore, 1) := by decide +kernel
theorem dX7_open_42 : decode cX7_open 42 = .ok (.aload_n 0, 1) := by decide +kernel
theorem dX7_open_43 : decode cX7_open 43 = .ok (.dup, 1) := by decide +kernel
theorem dX7_open_44 : decode cX7_open 44 = .ok (.getfield 9, 3) := by decide +kernel
theorem dX7_open_47 : decode cX7_open 47 = .ok (.iconst 1, 1) := by decide +kernel
theorem dX7_open_48 : decode cX7_open 48 = .ok (.iadd, 1) := by decide +kernel
theorem dX7_open_49 : decode cX7_open 49 = .ok (.putfield 9, 3) := by decide +kernel
theorem dX7_open_52 : decode cX7_open 52 = .ok (.aload_n 0, 1) := by decide +kernel
theorem dX7_open_53 : decode cX7_open 53 = .ok (.getfield 19, 3) := by decide +kernel
theorem dX7_open_56 : decode cX7_open 56 = .ok (.aload_n 0, 1) := by decide +kernel
theorem dX7_open_57 : decode cX7_open 57 = .ok (.getfield 9, 3) := by decide +kernel
theorem dX7_open_60 : decode cX7_open 60 = .ok (.aload_n 0, 1) := by decide +kernel
theorem dX7_open_61 : decode cX7_open 61 = .ok (.getfield 19, 3) := by decide +kernel
theorem dX7_open_64 : decode cX7_open 64 = .ok (.aload_n 0, 1) := by decide +kernel
theorem dX7_open_65 : decode cX7_open 65 = .ok (.getfield 9, 3) := by decide +kernel
theorem dX7_open_68 : decode cX7_open 68 = .ok (.iconst 1, 1) := by decide +kernel
theorem dX7_open_69 : decode cX7_open 69 = .ok (.isub, 1) := by decide +kernel
theorem dX7_open_70 : decode cX7_open 70 = .ok (.iaload, 1) := by decide +kernel
theorem dX7_open_71 : decode cX7_open 71 = .ok (.iastore, 1) := by decide +kernel
theorem dX7_open_72 : decode cX7_open 72 = .ok (.return_, 1) := by decide +kernel
theorem dX7_add_0 : decode cX7_add 0 = .ok (.aload_n 0, 1) := by decide +kernel
theorem dX7_add_1 : decode cX7_add 1 = .ok (.getfield 19, 3) := by decide +kernel
theorem dX7_add_4 : decode cX7_add 4 = .ok (.aload_n 0, 1) := by decide +kernel
theorem dX7_add_5 : decode cX7_add 5 = .ok (.getfield 9, 3) := by decide +kernel
theorem dX7_add_8 : decode cX7_add 8 = .ok (.iaload, 1) := by decide +kernel
theorem dX7_add_9 : decode cX7_add 9 = .ok (.istore_n 2, 1) := by decide +kernel
theorem dX7_add_10 : decode cX7_add 10 = .ok (.iload_n 2, 1) := by decide +kernel
theorem dX7_add_11 : decode cX7_add 11 = .ok (.aload_n 0, 1) := by decide +kernel
theorem dX7_add_12 : decode cX7_add 12 = .ok (.getfield 24, 3) := by decide +kernel
theorem dX7_add_15 : decode cX7_add 15 = .ok (.arraylength, 1) := by decide +kernel
theorem dX7_add_16 : decode cX7_add 16 = .ok (.if_icmp .ge 22, 3) := by decide +kernel
theorem dX7_add_19 : decode cX7_add 19 = .ok (.aload_n 0, 1) := by decide +kernel
theorem dX7_add_20 : decode cX7_add 20 = .ok (.getfield 24, 3) := by decide +kernel
theorem dX7_add_23 : decode cX7_add 23 = .ok (.iload_n 2, 1) := by decide +kernel
theorem dX7_add_24 : decode cX7_add 24 = .ok (.iload_n 1, 1) := by decide +kernel
theorem dX7_add_25 : decode cX7_add 25 = .ok (.iastore, 1) := by decide +kernel
theorem dX7_add_26 : decode cX7_add 26 = .ok (.aload_n 0, 1) := by decide +kernel
theorem dX7_add_27 : decode cX7_add 27 = .ok (.getfield 19, 3) := by decide +kernel
theorem dX7_add_30 : decode cX7_add 30 = .ok (.aload_n 0, 1) := by decide +kernel
theorem dX7_add_31 : decode cX7_add 31 = .ok (.getfield 9, 3) := by decide +kernel
theorem dX7_add_34 : decode cX7_add 34 = .ok (.iload_n 2, 1) := by decide +kernel
theorem dX7_add_35 : decode cX7_add 35 = .ok (.iconst 1, 1) := by decide +kernel
theorem dX7_add_36 : decode cX7_add 36 = .ok (.iadd, 1) := by decide +kernel
theorem dX7_add_37 : decode cX7_add 37 = .ok (.iastore, 1) := by decide +kernel
theorem dX7_add_38 : decode cX7_add 38 = .ok (.return_, 1) := by decide +kernel
theorem dX7_kindOf_0 : decode cX7_kindOf 0 = .ok (.iload_n 1, 1) := by decide +kernel
theorem dX7_kindOf_1 : decode cX7_kindOf 1 = .ok (.ifCond .lt 20, 3) := by decide +kernel
theorem dX7_kindOf_4 : decode cX7_kindOf 4 = .ok (.iload_n 1, 1) := by decide +kernel
theorem dX7_kindOf_5 : decode cX7_kindOf 5 = .ok (.aload_n 0, 1) := by decide +kernel
theorem dX7_kindOf_6 : decode cX7_kindOf 6 = .ok (.getfield 9, 3) := by decide +kernel
theorem dX7_kindOf_9 : decode cX7_kindOf 9 = .ok (.if_icmp .ge 12, 3) := by decide +kernel
theorem dX7_kindOf_12 : decode cX7_kindOf 12 = .ok (.aload_n 0, 1) := by decide +kernel
theorem dX7_kindOf_13 : decode cX7_kindOf 13 = .ok (.getfield 15, 3) := by decide +kernel
theorem dX7_kindOf_16 : decode cX7_kindOf 16 = .ok (.iload_n 1, 1) := by decide +kernel
theorem dX7_kindOf_17 : decode cX7_kindOf 17 = .ok (.iaload, 1) := by decide +kernel
theorem dX7_kindOf_18 : decode cX7_kindOf 18 = .ok (.goto 4, 3) := by decide +kernel
theorem dX7_kindOf_21 : decode cX7_kindOf 21 = .ok (.iconst (-1), 1) := by decide +kernel
theorem dX7_kindOf_22 : decode cX7_kindOf 22 = .ok (.ireturn, 1) := by decide +kernel
theorem dX7_argument_0 : decode cX7_argument 0 = .ok (.aload_n 0, 1) := by decide +kernel
theorem dX7_argument_1 : decode cX7_argument 1 = .ok (.iload_n 1, 1) := by decide +kernel
theorem dX7_argument_2 : decode cX7_argument 2 = .ok (.invokevirtual 36, 3) := by decide +kernel
theorem dX7_argument_5 : decode cX7_argument 5 = .ok (.istore_n 3, 1) := by decide +kernel
theorem dX7_argument_6 : decode cX7_argument 6 = .ok (.iload_n 3, 1) := by decide +kernel
theorem dX7_argument_7 : decode cX7_argument 7 = .ok (.iconst 4, 1) := by decide +kernel
theorem dX7_argument_8 : decode cX7_argument 8 = .ok (.if_icmp .ne 15, 3) := by decide +kernel
theorem dX7_argument_11 : decode cX7_argument 11 = .ok (.aload_n 0, 1) := by decide +kernel
theorem dX7_argument_12 : decode cX7_argument 12 = .ok (.getfield 24, 3) := by decide +kernel
theorem dX7_argument_15 : decode cX7_argument 15 = .ok (.aload_n 0, 1) := by decide +kernel
theorem dX7_argument_16 : decode cX7_argument 16 = .ok (.getfield 19, 3) := by decide +kernel
theorem dX7_argument_19 : decode cX7_argument 19 = .ok (.iload_n 1, 1) := by decide +kernel
theorem dX7_argument_20 : decode cX7_argument 20 = .ok (.iaload, 1) := by decide +kernel
theorem dX7_argument_21 : decode cX7_argument 21 = .ok (.iaload, 1) := by decide +kernel
theorem dX7_argument_22 : decode cX7_argument 22 = .ok (.ireturn, 1) := by decide +kernel
theorem dX7_argument_23 : decode cX7_argument 23 = .ok (.iload_n 3, 1) := by decide +kernel
theorem dX7_argument_24 : decode cX7_argument 24 = .ok (.bipush 6, 2) := by decide +kernel
theorem dX7_argument_26 : decode cX7_argument 26 = .ok (.if_icmp .ne 13, 3) := by decide +kernel
theorem dX7_argument_29 : decode cX7_argument 29 = .ok (.aload_n 0, 1) := by decide +kernel
theorem dX7_argument_30 : decode cX7_argument 30 = .ok (.iload_n 1, 1) := by decide +kernel
theorem dX7_argument_31 : decode cX7_argument 31 = .ok (.iconst 0, 1) := by decide +kernel
theorem dX7_argument_32 : decode cX7_argument 32 = .ok (.aload_n 2, 1) := by decide +kernel
theorem dX7_argument_33 : decode cX7_argument 33 = .ok (.invokevirtual 40, 3) := by decide +kernel
theorem dX7_argument_36 : decode cX7_argument 36 = .ok (.goto 4, 3) := by decide +kernel
theorem dX7_argument_39 : decode cX7_argument 39 = .ok (.iconst 0, 1) := by decide +kernel
theorem dX7_argument_40 : decode cX7_argument 40 = .ok (.ireturn, 1) := by decide +kernel
theorem dX7_worth_0 : decode cX7_worth 0 = .ok (.aload_n 0, 1) := by decide +kernel
theorem dX7_worth_1 : decode cX7_worth 1 = .ok (.iload_n 1, 1) := by decide +kernel
theorem dX7_worth_2 : decode cX7_worth 2 = .ok (.invokevirtual 44, 3) := by decide +kernel
theorem dX7_worth_5 : decode cX7_worth 5 = .ok (.ifCond .eq 16, 3) := by decide +kernel
theorem dX7_worth_8 : decode cX7_worth 8 = .ok (.aload_n 0, 1) := by decide +kernel
theorem dX7_worth_9 : decode cX7_worth 9 = .ok (.aload_n 0, 1) := by decide +kernel
theorem dX7_worth_10 : decode cX7_worth 10 = .ok (.getfield 27, 3) := by decide +kernel
theorem dX7_worth_13 : decode cX7_worth 13 = .ok (.iload_n 1, 1) := by decide +kernel
theorem dX7_worth_14 : decode cX7_worth 14 = .ok (.iaload, 1) := by decide +kernel
theorem dX7_worth_15 : decode cX7_worth 15 = .ok (.iload_n 2, 1) := by decide +kernel
theorem dX7_worth_16 : decode cX7_worth 16 = .ok (.aload_n 3, 1) := by decide +kernel
theorem dX7_worth_17 : decode cX7_worth 17 = .ok (.invokevirtual 40, 3) := by decide +kernel
theorem dX7_worth_20 : decode cX7_worth 20 = .ok (.ireturn, 1) := by decide +kernel
theorem dX7_worth_21 : decode cX7_worth 21 = .ok (.iload_n 1, 1) := by decide +kernel
theorem dX7_worth_22 : decode cX7_worth 22 = .ok (.ifCond .ne 12, 3) := by decide +kernel
theorem dX7_worth_25 : decode cX7_worth 25 = .ok (.iload_n 2, 1) := by decide +kernel
theorem dX7_worth_26 : decode cX7_worth 26 = .ok (.aload_n 3, 1) := by decide +kernel
theorem dX7_worth_27 : decode cX7_worth 27 = .ok (.getfield 48, 3) := by decide +kernel
theorem dX7_worth_30 : decode cX7_worth 30 = .ok (.iadd, 1) := by decide +kernel
theorem dX7_worth_31 : decode cX7_worth 31 = .ok (.goto 16, 3) := by decide +kernel
theorem dX7_worth_34 : decode cX7_worth 34 = .ok (.iload_n 1, 1) := by decide +kernel
theorem dX7_worth_35 : decode cX7_worth 35 = .ok (.iconst 1, 1) := by decide +kernel
theorem dX7_worth_36 : decode cX7_worth 36 = .ok (.if_icmp .ne 7, 3) := by decide +kernel
theorem dX7_worth_39 : decode cX7_worth 39 = .ok (.iload_n 2, 1) := by decide +kernel
theorem dX7_worth_40 : decode cX7_worth 40 = .ok (.goto 7, 3) := by decide +kernel
theorem dX7_worth_43 : decode cX7_worth 43 = .ok (.aload_n 3, 1) := by decide +kernel
theorem dX7_worth_44 : decode cX7_worth 44 = .ok (.getfield 48, 3) := by decide +kernel
theorem dX7_worth_47 : decode cX7_worth 47 = .ok (.aload_n 3, 1) := by decide +kernel
theorem dX7_worth_48 : decode cX7_worth 48 = .ok (.getfield 53, 3) := by decide +kernel
theorem dX7_worth_51 : decode cX7_worth 51 = .ok (.invokestatic 56, 3) := by decide +kernel
theorem dX7_worth_54 : decode cX7_worth 54 = .ok (.ireturn, 1) := by decide +kernel
theorem dX7_reckoned_0 : decode cX7_reckoned 0 = .ok (.iconst 0, 1) := by decide +kernel
theorem dX7_reckoned_1 : decode cX7_reckoned 1 = .ok (.istore 4, 2) := by decide +kernel
theorem dX7_reckoned_3 : decode cX7_reckoned 3 = .ok (.aload_n 0, 1) := by decide +kernel
theorem dX7_reckoned_4 : decode cX7_reckoned 4 = .ok (.getfield 19, 3) := by decide +kernel
theorem dX7_reckoned_7 : decode cX7_reckoned 7 = .ok (.iload_n 1, 1) := by decide +kernel
theorem dX7_reckoned_8 : decode cX7_reckoned 8 = .ok (.iaload, 1) := by decide +kernel
theorem dX7_reckoned_9 : decode cX7_reckoned 9 = .ok (.istore 5, 2) := by decide +kernel
theorem dX7_reckoned_11 : decode cX7_reckoned 11 = .ok (.iload 5, 2) := by decide +kernel
theorem dX7_reckoned_13 : decode cX7_reckoned 13 = .ok (.aload_n 0, 1) := by decide +kernel
theorem dX7_reckoned_14 : decode cX7_reckoned 14 = .ok (.getfield 19, 3) := by decide +kernel
theorem dX7_reckoned_17 : decode cX7_reckoned 17 = .ok (.iload_n 1, 1) := by decide +kernel
theorem dX7_reckoned_18 : decode cX7_reckoned 18 = .ok (.iconst 1, 1) := by decide +kernel
theorem dX7_reckoned_19 : decode cX7_reckoned 19 = .ok (.iadd, 1) := by decide +kernel
theorem dX7_reckoned_20 : decode cX7_reckoned 20 = .ok (.iaload, 1) := by decide +kernel
theorem dX7_reckoned_21 : decode cX7_reckoned 21 = .ok (.if_icmp .ge 156, 3) := by decide +kernel
theorem dX7_reckoned_24 : decode cX7_reckoned 24 = .ok (.aload_n 0, 1) := by decide +kernel
theorem dX7_reckoned_25 : decode cX7_reckoned 25 = .ok (.getfield 24, 3) := by decide +kernel
theorem dX7_reckoned_28 : decode cX7_reckoned 28 = .ok (.iload 5, 2) := by decide +kernel
theorem dX7_reckoned_30 : decode cX7_reckoned 30 = .ok (.iaload, 1) := by decide +kernel
theorem dX7_reckoned_31 : decode cX7_reckoned 31 = .ok (.istore 6, 2) := by decide +kernel
theorem dX7_reckoned_33 : decode cX7_reckoned 33 = .ok (.iload 6, 2) := by decide +kernel
theorem dX7_reckoned_35 : decode cX7_reckoned 35 = .ok (.bipush (-3), 2) := by decide +kernel
theorem dX7_reckoned_37 : decode cX7_reckoned 37 = .ok (.if_icmp .lt 50, 3) := by decide +kernel
theorem dX7_reckoned_40 : decode cX7_reckoned 40 = .ok (.iload 4, 2) := by decide +kernel
theorem dX7_reckoned_42 : decode cX7_reckoned 42 = .ok (.aload_n 0, 1) := by decide +kernel
theorem dX7_reckoned_43 : decode cX7_reckoned 43 = .ok (.getfield 30, 3) := by decide +kernel
theorem dX7_reckoned_46 : decode cX7_reckoned 46 = .ok (.arraylength, 1) := by decide +kernel
theorem dX7_reckoned_47 : decode cX7_reckoned 47 = .ok (.if_icmp .ge 124, 3) := by decide +kernel
theorem dX7_reckoned_50 : decode cX7_reckoned 50 = .ok (.aload_n 0, 1) := by decide +kernel
theorem dX7_reckoned_51 : decode cX7_reckoned 51 = .ok (.getfield 30, 3) := by decide +kernel
theorem dX7_reckoned_54 : decode cX7_reckoned 54 = .ok (.iload 4, 2) := by decide +kernel
theorem dX7_reckoned_56 : decode cX7_reckoned 56 = .ok (.iload 6, 2) := by decide +kernel
theorem dX7_reckoned_58 : decode cX7_reckoned 58 = .ok (.ifCond .lt 8, 3) := by decide +kernel
theorem dX7_reckoned_61 : decode cX7_reckoned 61 = .ok (.iload 6, 2) := by decide +kernel
theorem dX7_reckoned_63 : decode cX7_reckoned 63 = .ok (.goto 10, 3) := by decide +kernel
theorem dX7_reckoned_66 : decode cX7_reckoned 66 = .ok (.iload 6, 2) := by decide +kernel
theorem dX7_reckoned_68 : decode cX7_reckoned 68 = .ok (.iload_n 2, 1) := by decide +kernel
theorem dX7_reckoned_69 : decode cX7_reckoned 69 = .ok (.aload_n 3, 1) := by decide +kernel
theorem dX7_reckoned_70 : decode cX7_reckoned 70 = .ok (.invokestatic 60, 3) := by decide +kernel
theorem dX7_reckoned_73 : decode cX7_reckoned 73 = .ok (.aload_n 3, 1) := by decide +kernel
theorem dX7_reckoned_74 : decode cX7_reckoned 74 = .ok (.getfield 53, 3) := by decide +kernel
theorem dX7_reckoned_77 : decode cX7_reckoned 77 = .ok (.invokestatic 56, 3) := by decide +kernel
theorem dX7_reckoned_80 : decode cX7_reckoned 80 = .ok (.iastore, 1) := by decide +kernel
theorem dX7_reckoned_81 : decode cX7_reckoned 81 = .ok (.iinc 4 1, 3) := by decide +kernel
theorem dX7_reckoned_84 : decode cX7_reckoned 84 = .ok (.goto 87, 3) := by decide +kernel
theorem dX7_reckoned_87 : decode cX7_reckoned 87 = .ok (.iload 6, 2) := by decide +kernel
theorem dX7_reckoned_89 : decode cX7_reckoned 89 = .ok (.bipush (-4), 2) := by decide +kernel
theorem dX7_reckoned_91 : decode cX7_reckoned 91 = .ok (.if_icmp .ne 37, 3) := by decide +kernel
theorem dX7_reckoned_94 : decode cX7_reckoned 94 = .ok (.iload 4, 2) := by decide +kernel
theorem dX7_reckoned_96 : decode cX7_reckoned 96 = .ok (.ifCond .le 75, 3) := by decide +kernel
theorem dX7_reckoned_99 : decode cX7_reckoned 99 = .ok (.aload_n 0, 1) := by decide +kernel
theorem dX7_reckoned_100 : decode cX7_reckoned 100 = .ok (.getfield 30, 3) := by decide +kernel
theorem dX7_reckoned_103 : decode cX7_reckoned 103 = .ok (.iload 4, 2) := by decide +kernel
theorem dX7_reckoned_105 : decode cX7_reckoned 105 = .ok (.iconst 1, 1) := by decide +kernel
theorem dX7_reckoned_106 : decode cX7_reckoned 106 = .ok (.isub, 1) := by decide +kernel
theorem dX7_reckoned_107 : decode cX7_reckoned 107 = .ok (.aload_n 0, 1) := by decide +kernel
theorem dX7_reckoned_108 : decode cX7_reckoned 108 = .ok (.getfield 30, 3) := by decide +kernel
theorem dX7_reckoned_111 : decode cX7_reckoned 111 = .ok (.iload 4, 2) := by decide +kernel
theorem dX7_reckoned_113 : decode cX7_reckoned 113 = .ok (.iconst 1, 1) := by decide +kernel
theorem dX7_reckoned_114 : decode cX7_reckoned 114 = .ok (.isub, 1) := by decide +kernel
theorem dX7_reckoned_115 : decode cX7_reckoned 115 = .ok (.iaload, 1) := by decide +kernel
theorem dX7_reckoned_116 : decode cX7_reckoned 116 = .ok (.ineg, 1) := by decide +kernel
theorem dX7_reckoned_117 : decode cX7_reckoned 117 = .ok (.aload_n 3, 1) := by decide +kernel
theorem dX7_reckoned_118 : decode cX7_reckoned 118 = .ok (.getfield 53, 3) := by decide +kernel
theorem dX7_reckoned_121 : decode cX7_reckoned 121 = .ok (.invokestatic 56, 3) := by decide +kernel
theorem dX7_reckoned_124 : decode cX7_reckoned 124 = .ok (.iastore, 1) := by decide +kernel
theorem dX7_reckoned_125 : decode cX7_reckoned 125 = .ok (.goto 46, 3) := by decide +kernel
theorem dX7_reckoned_128 : decode cX7_reckoned 128 = .ok (.iload 4, 2) := by decide +kernel
theorem dX7_reckoned_130 : decode cX7_reckoned 130 = .ok (.iconst 1, 1) := by decide +kernel
theorem dX7_reckoned_131 : decode cX7_reckoned 131 = .ok (.if_icmp .le 40, 3) := by decide +kernel
theorem dX7_reckoned_134 : decode cX7_reckoned 134 = .ok (.iinc 4 (-1), 3) := by decide +kernel
theorem dX7_reckoned_137 : decode cX7_reckoned 137 = .ok (.aload_n 0, 1) := by decide +kernel
theorem dX7_reckoned_138 : decode cX7_reckoned 138 = .ok (.getfield 30, 3) := by decide +kernel
theorem dX7_reckoned_141 : decode cX7_reckoned 141 = .ok (.iload 4, 2) := by decide +kernel
theorem dX7_reckoned_143 : decode cX7_reckoned 143 = .ok (.iconst 1, 1) := by decide +kernel
theorem dX7_reckoned_144 : decode cX7_reckoned 144 = .ok (.isub, 1) := by decide +kernel
theorem dX7_reckoned_145 : decode cX7_reckoned 145 = .ok (.iload 6, 2) := by decide +kernel
theorem dX7_reckoned_147 : decode cX7_reckoned 147 = .ok (.aload_n 0, 1) := by decide +kernel
theorem dX7_reckoned_148 : decode cX7_reckoned 148 = .ok (.getfield 30, 3) := by decide +kernel
theorem dX7_reckoned_151 : decode cX7_reckoned 151 = .ok (.iload 4, 2) := by decide +kernel
theorem dX7_reckoned_153 : decode cX7_reckoned 153 = .ok (.iconst 1, 1) := by decide +kernel
theorem dX7_reckoned_154 : decode cX7_reckoned 154 = .ok (.isub, 1) := by decide +kernel
theorem dX7_reckoned_155 : decode cX7_reckoned 155 = .ok (.iaload, 1) := by decide +kernel
theorem dX7_reckoned_156 : decode cX7_reckoned 156 = .ok (.aload_n 0, 1) := by decide +kernel
theorem dX7_reckoned_157 : decode cX7_reckoned 157 = .ok (.getfield 30, 3) := by decide +kernel
theorem dX7_reckoned_160 : decode cX7_reckoned 160 = .ok (.iload 4, 2) := by decide +kernel
theorem dX7_reckoned_162 : decode cX7_reckoned 162 = .ok (.iaload, 1) := by decide +kernel
theorem dX7_reckoned_163 : decode cX7_reckoned 163 = .ok (.aload_n 3, 1) := by decide +kernel
theorem dX7_reckoned_164 : decode cX7_reckoned 164 = .ok (.getfield 53, 3) := by decide +kernel
theorem dX7_reckoned_167 : decode cX7_reckoned 167 = .ok (.invokestatic 63, 3) := by decide +kernel
theorem dX7_reckoned_170 : decode cX7_reckoned 170 = .ok (.iastore, 1) := by decide +kernel
theorem dX7_reckoned_171 : decode cX7_reckoned 171 = .ok (.iinc 5 1, 3) := by decide +kernel
theorem dX7_reckoned_174 : decode cX7_reckoned 174 = .ok (.goto (-163), 3) := by decide +kernel
theorem dX7_reckoned_177 : decode cX7_reckoned 177 = .ok (.iload 4, 2) := by decide +kernel
theorem dX7_reckoned_179 : decode cX7_reckoned 179 = .ok (.ifCond .le 15, 3) := by decide +kernel
theorem dX7_reckoned_182 : decode cX7_reckoned 182 = .ok (.aload_n 0, 1) := by decide +kernel
theorem dX7_reckoned_183 : decode cX7_reckoned 183 = .ok (.getfield 30, 3) := by decide +kernel
theorem dX7_reckoned_186 : decode cX7_reckoned 186 = .ok (.iload 4, 2) := by decide +kernel
theorem dX7_reckoned_188 : decode cX7_reckoned 188 = .ok (.iconst 1, 1) := by decide +kernel
theorem dX7_reckoned_189 : decode cX7_reckoned 189 = .ok (.isub, 1) := by decide +kernel
theorem dX7_reckoned_190 : decode cX7_reckoned 190 = .ok (.iaload, 1) := by decide +kernel
theorem dX7_reckoned_191 : decode cX7_reckoned 191 = .ok (.goto 4, 3) := by decide +kernel
theorem dX7_reckoned_194 : decode cX7_reckoned 194 = .ok (.iconst 0, 1) := by decide +kernel
theorem dX7_reckoned_195 : decode cX7_reckoned 195 = .ok (.ireturn, 1) := by decide +kernel
theorem dX7_named_0 : decode cX7_named 0 = .ok (.iload_n 0, 1) := by decide +kernel
theorem dX7_named_1 : decode cX7_named 1 = .ok (.iconst (-1), 1) := by decide +kernel
theorem dX7_named_2 : decode cX7_named 2 = .ok (.if_icmp .ne 7, 3) := by decide +kernel
theorem dX7_named_5 : decode cX7_named 5 = .ok (.iload_n 1, 1) := by decide +kernel
theorem dX7_named_6 : decode cX7_named 6 = .ok (.goto 20, 3) := by decide +kernel
theorem dX7_named_9 : decode cX7_named 9 = .ok (.iload_n 0, 1) := by decide +kernel
theorem dX7_named_10 : decode cX7_named 10 = .ok (.bipush (-2), 2) := by decide +kernel
theorem dX7_named_12 : decode cX7_named 12 = .ok (.if_icmp .ne 10, 3) := by decide +kernel
theorem dX7_named_15 : decode cX7_named 15 = .ok (.aload_n 2, 1) := by decide +kernel
theorem dX7_named_16 : decode cX7_named 16 = .ok (.getfield 48, 3) := by decide +kernel
theorem dX7_named_19 : decode cX7_named 19 = .ok (.goto 7, 3) := by decide +kernel
theorem dX7_named_22 : decode cX7_named 22 = .ok (.aload_n 2, 1) := by decide +kernel
theorem dX7_named_23 : decode cX7_named 23 = .ok (.getfield 67, 3) := by decide +kernel
theorem dX7_named_26 : decode cX7_named 26 = .ok (.ireturn, 1) := by decide +kernel
theorem dX7_joined_0 : decode cX7_joined 0 = .ok (.iload_n 0, 1) := by decide +kernel
theorem dX7_joined_1 : decode cX7_joined 1 = .ok (.tableswitch 51 (-7) (-5) #[43, 35, 27], 27) := by decide +kernel
theorem dX7_joined_28 : decode cX7_joined 28 = .ok (.iload_n 1, 1) := by decide +kernel
theorem dX7_joined_29 : decode cX7_joined 29 = .ok (.iload_n 2, 1) := by decide +kernel
theorem dX7_joined_30 : decode cX7_joined 30 = .ok (.iadd, 1) := by decide +kernel
theorem dX7_joined_31 : decode cX7_joined 31 = .ok (.iload_n 3, 1) := by decide +kernel
theorem dX7_joined_32 : decode cX7_joined 32 = .ok (.invokestatic 56, 3) := by decide +kernel
theorem dX7_joined_35 : decode cX7_joined 35 = .ok (.ireturn, 1) := by decide +kernel
theorem dX7_joined_36 : decode cX7_joined 36 = .ok (.iload_n 1, 1) := by decide +kernel
theorem dX7_joined_37 : decode cX7_joined 37 = .ok (.iload_n 2, 1) := by decide +kernel
theorem dX7_joined_38 : decode cX7_joined 38 = .ok (.isub, 1) := by decide +kernel
theorem dX7_joined_39 : decode cX7_joined 39 = .ok (.iload_n 3, 1) := by decide +kernel
theorem dX7_joined_40 : decode cX7_joined 40 = .ok (.invokestatic 56, 3) := by decide +kernel
theorem dX7_joined_43 : decode cX7_joined 43 = .ok (.ireturn, 1) := by decide +kernel
theorem dX7_joined_44 : decode cX7_joined 44 = .ok (.iload_n 1, 1) := by decide +kernel
theorem dX7_joined_45 : decode cX7_joined 45 = .ok (.iload_n 2, 1) := by decide +kernel
theorem dX7_joined_46 : decode cX7_joined 46 = .ok (.imul, 1) := by decide +kernel
theorem dX7_joined_47 : decode cX7_joined 47 = .ok (.iload_n 3, 1) := by decide +kernel
theorem dX7_joined_48 : decode cX7_joined 48 = .ok (.invokestatic 56, 3) := by decide +kernel
theorem dX7_joined_51 : decode cX7_joined 51 = .ok (.ireturn, 1) := by decide +kernel
theorem dX7_joined_52 : decode cX7_joined 52 = .ok (.iload_n 1, 1) := by decide +kernel
theorem dX7_joined_53 : decode cX7_joined 53 = .ok (.iload_n 2, 1) := by decide +kernel
theorem dX7_joined_54 : decode cX7_joined 54 = .ok (.iload_n 3, 1) := by decide +kernel
theorem dX7_joined_55 : decode cX7_joined 55 = .ok (.iconst 2, 1) := by decide +kernel
theorem dX7_joined_56 : decode cX7_joined 56 = .ok (.isub, 1) := by decide +kernel
theorem dX7_joined_57 : decode cX7_joined 57 = .ok (.iload_n 3, 1) := by decide +kernel
theorem dX7_joined_58 : decode cX7_joined 58 = .ok (.invokestatic 70, 3) := by decide +kernel
theorem dX7_joined_61 : decode cX7_joined 61 = .ok (.imul, 1) := by decide +kernel
theorem dX7_joined_62 : decode cX7_joined 62 = .ok (.iload_n 3, 1) := by decide +kernel
theorem dX7_joined_63 : decode cX7_joined 63 = .ok (.invokestatic 56, 3) := by decide +kernel
theorem dX7_joined_66 : decode cX7_joined 66 = .ok (.ireturn, 1) := by decide +kernel
theorem dX8_init_0 : decode cX8_init 0 = .ok (.aload_n 0, 1) := by decide +kernel
theorem dX8_init_1 : decode cX8_init 1 = .ok (.invokespecial 3, 3) := by decide +kernel
theorem dX8_init_4 : decode cX8_init 4 = .ok (.aload_n 0, 1) := by decide +kernel
theorem dX8_init_5 : decode cX8_init 5 = .ok (.new 9, 3) := by decide +kernel
theorem dX8_init_8 : decode cX8_init 8 = .ok (.dup, 1) := by decide +kernel
theorem dX8_init_9 : decode cX8_init 9 = .ok (.invokespecial 11, 3) := by decide +kernel
theorem dX8_init_12 : decode cX8_init 12 = .ok (.putfield 12, 3) := by decide +kernel
theorem dX8_init_15 : decode cX8_init 15 = .ok (.aload_n 0, 1) := by decide +kernel
theorem dX8_init_16 : decode cX8_init 16 = .ok (.iconst (-1), 1) := by decide +kernel
theorem dX8_init_17 : decode cX8_init 17 = .ok (.putfield 18, 3) := by decide +kernel
theorem dX8_init_20 : decode cX8_init 20 = .ok (.aload_n 0, 1) := by decide +kernel
theorem dX8_init_21 : decode cX8_init 21 = .ok (.iconst (-1), 1) := by decide +kernel
theorem dX8_init_22 : decode cX8_init 22 = .ok (.putfield 22, 3) := by decide +kernel
theorem dX8_init_25 : decode cX8_init 25 = .ok (.aload_n 0, 1) := by decide +kernel
theorem dX8_init_26 : decode cX8_init 26 = .ok (.sipush 1225, 3) := by decide +kernel
theorem dX8_init_29 : decode cX8_init 29 = .ok (.newarray .int, 2) := by decide +kernel
theorem dX8_init_31 : decode cX8_init 31 = .ok (.putfield 25, 3) := by decide +kernel
theorem dX8_init_34 : decode cX8_init 34 = .ok (.aload_n 0, 1) := by decide +kernel
theorem dX8_init_35 : decode cX8_init 35 = .ok (.sipush 1296, 3) := by decide +kernel
theorem dX8_init_38 : decode cX8_init 38 = .ok (.newarray .int, 2) := by decide +kernel
theorem dX8_init_40 : decode cX8_init 40 = .ok (.putfield 29, 3) := by decide +kernel
theorem dX8_init_43 : decode cX8_init 43 = .ok (.aload_n 0, 1) := by decide +kernel
theorem dX8_init_44 : decode cX8_init 44 = .ok (.bipush 36, 2) := by decide +kernel
theorem dX8_init_46 : decode cX8_init 46 = .ok (.newarray .int, 2) := by decide +kernel
theorem dX8_init_48 : decode cX8_init 48 = .ok (.putfield 32, 3) := by decide +kernel
theorem dX8_init_51 : decode cX8_init 51 = .ok (.aload_n 0, 1) := by decide +kernel
theorem dX8_init_52 : decode cX8_init 52 = .ok (.bipush 100, 2) := by decide +kernel
theorem dX8_init_54 : decode cX8_init 54 = .ok (.newarray .int, 2) := by decide +kernel
theorem dX8_init_56 : decode cX8_init 56 = .ok (.putfield 35, 3) := by decide +kernel
theorem dX8_init_59 : decode cX8_init 59 = .ok (.aload_n 0, 1) := by decide +kernel
theorem dX8_init_60 : decode cX8_init 60 = .ok (.bipush 36, 2) := by decide +kernel
theorem dX8_init_62 : decode cX8_init 62 = .ok (.newarray .int, 2) := by decide +kernel
theorem dX8_init_64 : decode cX8_init 64 = .ok (.putfield 38, 3) := by decide +kernel
theorem dX8_init_67 : decode cX8_init 67 = .ok (.aload_n 0, 1) := by decide +kernel
theorem dX8_init_68 : decode cX8_init 68 = .ok (.iconst 0, 1) := by decide +kernel
theorem dX8_init_69 : decode cX8_init 69 = .ok (.putfield 41, 3) := by decide +kernel
theorem dX8_init_72 : decode cX8_init 72 = .ok (.aload_n 0, 1) := by decide +kernel
theorem dX8_init_73 : decode cX8_init 73 = .ok (.aload_n 1, 1) := by decide +kernel
theorem dX8_init_74 : decode cX8_init 74 = .ok (.putfield 44, 3) := by decide +kernel
theorem dX8_init_77 : decode cX8_init 77 = .ok (.return_, 1) := by decide +kernel
theorem dX8_look_0 : decode cX8_look 0 = .ok (.iload_n 2, 1) := by decide +kernel
theorem dX8_look_1 : decode cX8_look 1 = .ok (.aload_n 0, 1) := by decide +kernel
theorem dX8_look_2 : decode cX8_look 2 = .ok (.getfield 18, 3) := by decide +kernel
theorem dX8_look_5 : decode cX8_look 5 = .ok (.if_icmp .ne 23, 3) := by decide +kernel
theorem dX8_look_8 : decode cX8_look 8 = .ok (.iload_n 3, 1) := by decide +kernel
theorem dX8_look_9 : decode cX8_look 9 = .ok (.aload_n 0, 1) := by decide +kernel
theorem dX8_look_10 : decode cX8_look 10 = .ok (.getfield 22, 3) := by decide +kernel
theorem dX8_look_13 : decode cX8_look 13 = .ok (.if_icmp .ne 15, 3) := by decide +kernel
theorem dX8_look_16 : decode cX8_look 16 = .ok (.aload_n 0, 1) := by decide +kernel
theorem dX8_look_17 : decode cX8_look 17 = .ok (.getfield 12, 3) := by decide +kernel
theorem dX8_look_20 : decode cX8_look 20 = .ok (.aload_n 1, 1) := by decide +kernel
theorem dX8_look_21 : decode cX8_look 21 = .ok (.invokevirtual 48, 3) := by decide +kernel
theorem dX8_look_24 : decode cX8_look 24 = .ok (.ifCond .eq 4, 3) := by decide +kernel
theorem dX8_look_27 : decode cX8_look 27 = .ok (.return_, 1) := by decide +kernel
theorem dX8_look_28 : decode cX8_look 28 = .ok (.aload_n 0, 1) := by decide +kernel
theorem dX8_look_29 : decode cX8_look 29 = .ok (.iload_n 2, 1) := by decide +kernel
theorem dX8_look_30 : decode cX8_look 30 = .ok (.putfield 18, 3) := by decide +kernel
theorem dX8_look_33 : decode cX8_look 33 = .ok (.aload_n 0, 1) := by decide +kernel
theorem dX8_look_34 : decode cX8_look 34 = .ok (.iload_n 3, 1) := by decide +kernel
theorem dX8_look_35 : decode cX8_look 35 = .ok (.putfield 22, 3) := by decide +kernel
theorem dX8_look_38 : decode cX8_look 38 = .ok (.aload_n 0, 1) := by decide +kernel
theorem dX8_look_39 : decode cX8_look 39 = .ok (.getfield 12, 3) := by decide +kernel
theorem dX8_look_42 : decode cX8_look 42 = .ok (.aload_n 1, 1) := by decide +kernel
theorem dX8_look_43 : decode cX8_look 43 = .ok (.invokevirtual 52, 3) := by decide +kernel
theorem dX8_look_46 : decode cX8_look 46 = .ok (.aload_n 0, 1) := by decide +kernel
theorem dX8_look_47 : decode cX8_look 47 = .ok (.getfield 44, 3) := by decide +kernel
theorem dX8_look_50 : decode cX8_look 50 = .ok (.aload_n 1, 1) := by decide +kernel
theorem dX8_look_51 : decode cX8_look 51 = .ok (.iload_n 2, 1) := by decide +kernel
theorem dX8_look_52 : decode cX8_look 52 = .ok (.iload_n 3, 1) := by decide +kernel
theorem dX8_look_53 : decode cX8_look 53 = .ok (.invokevirtual 56, 3) := by decide +kernel
theorem dX8_look_56 : decode cX8_look 56 = .ok (.aload_n 0, 1) := by decide +kernel
theorem dX8_look_57 : decode cX8_look 57 = .ok (.getfield 44, 3) := by decide +kernel
theorem dX8_look_60 : decode cX8_look 60 = .ok (.aload_n 1, 1) := by decide +kernel
theorem dX8_look_61 : decode cX8_look 61 = .ok (.aload_n 0, 1) := by decide +kernel
theorem dX8_look_62 : decode cX8_look 62 = .ok (.getfield 25, 3) := by decide +kernel
theorem dX8_look_65 : decode cX8_look 65 = .ok (.invokevirtual 62, 3) := by decide +kernel
theorem dX8_look_68 : decode cX8_look 68 = .ok (.aload_n 0, 1) := by decide +kernel
theorem dX8_look_69 : decode cX8_look 69 = .ok (.aload_n 0, 1) := by decide +kernel
theorem dX8_look_70 : decode cX8_look 70 = .ok (.getfield 44, 3) := by decide +kernel
theorem dX8_look_73 : decode cX8_look 73 = .ok (.getfield 66, 3) := by decide +kernel
theorem dX8_look_76 : decode cX8_look 76 = .ok (.putfield 41, 3) := by decide +kernel
theorem dX8_look_79 : decode cX8_look 79 = .ok (.aload_n 0, 1) := by decide +kernel
theorem dX8_look_80 : decode cX8_look 80 = .ok (.invokevirtual 69, 3) := by decide +kernel
theorem dX8_look_83 : decode cX8_look 83 = .ok (.aload_n 0, 1) := by decide +kernel
theorem dX8_look_84 : decode cX8_look 84 = .ok (.invokevirtual 72, 3) := by decide +kernel
theorem dX8_look_87 : decode cX8_look 87 = .ok (.return_, 1) := by decide +kernel
theorem dX8_flatten_0 : decode cX8_flatten 0 = .ok (.iconst 1, 1) := by decide +kernel
theorem dX8_flatten_1 : decode cX8_flatten 1 = .ok (.istore_n 1, 1) := by decide +kernel
theorem dX8_flatten_2 : decode cX8_flatten 2 = .ok (.iload_n 1, 1) := by decide +kernel
theorem dX8_flatten_3 : decode cX8_flatten 3 = .ok (.iconst 1, 1) := by decide +kernel
theorem dX8_flatten_4 : decode cX8_flatten 4 = .ok (.iadd, 1) := by decide +kernel
theorem dX8_flatten_5 : decode cX8_flatten 5 = .ok (.aload_n 0, 1) := by decide +kernel
theorem dX8_flatten_6 : decode cX8_flatten 6 = .ok (.getfield 41, 3) := by decide +kernel
theorem dX8_flatten_9 : decode cX8_flatten 9 = .ok (.if_icmp .ge 99, 3) := by decide +kernel
theorem dX8_flatten_12 : decode cX8_flatten 12 = .ok (.aload_n 0, 1) := by decide +kernel
theorem dX8_flatten_13 : decode cX8_flatten 13 = .ok (.iload_n 1, 1) := by decide +kernel
theorem dX8_flatten_14 : decode cX8_flatten 14 = .ok (.invokevirtual 75, 3) := by decide +kernel
theorem dX8_flatten_17 : decode cX8_flatten 17 = .ok (.istore_n 2, 1) := by decide +kernel
theorem dX8_flatten_18 : decode cX8_flatten 18 = .ok (.iload_n 2, 1) := by decide +kernel
theorem dX8_flatten_19 : decode cX8_flatten 19 = .ok (.iconst (-1), 1) := by decide +kernel
theorem dX8_flatten_20 : decode cX8_flatten 20 = .ok (.if_icmp .eq 82, 3) := by decide +kernel
theorem dX8_flatten_23 : decode cX8_flatten 23 = .ok (.aload_n 0, 1) := by decide +kernel
theorem dX8_flatten_24 : decode cX8_flatten 24 = .ok (.iload_n 1, 1) := by decide +kernel
theorem dX8_flatten_25 : decode cX8_flatten 25 = .ok (.iload_n 2, 1) := by decide +kernel
theorem dX8_flatten_26 : decode cX8_flatten 26 = .ok (.invokevirtual 79, 3) := by decide +kernel
theorem dX8_flatten_29 : decode cX8_flatten 29 = .ok (.iload_n 1, 1) := by decide +kernel
theorem dX8_flatten_30 : decode cX8_flatten 30 = .ok (.iconst 1, 1) := by decide +kernel
theorem dX8_flatten_31 : decode cX8_flatten 31 = .ok (.iadd, 1) := by decide +kernel
theorem dX8_flatten_32 : decode cX8_flatten 32 = .ok (.istore_n 3, 1) := by decide +kernel
theorem dX8_flatten_33 : decode cX8_flatten 33 = .ok (.iload_n 3, 1) := by decide +kernel
theorem dX8_flatten_34 : decode cX8_flatten 34 = .ok (.aload_n 0, 1) := by decide +kernel
theorem dX8_flatten_35 : decode cX8_flatten 35 = .ok (.getfield 41, 3) := by decide +kernel
theorem dX8_flatten_38 : decode cX8_flatten 38 = .ok (.if_icmp .ge 64, 3) := by decide +kernel
theorem dX8_flatten_41 : decode cX8_flatten 41 = .ok (.aload_n 0, 1) := by decide +kernel
theorem dX8_flatten_42 : decode cX8_flatten 42 = .ok (.getfield 25, 3) := by decide +kernel
theorem dX8_flatten_45 : decode cX8_flatten 45 = .ok (.iload_n 3, 1) := by decide +kernel
theorem dX8_flatten_46 : decode cX8_flatten 46 = .ok (.aload_n 0, 1) := by decide +kernel
theorem dX8_flatten_47 : decode cX8_flatten 47 = .ok (.getfield 41, 3) := by decide +kernel
theorem dX8_flatten_50 : decode cX8_flatten 50 = .ok (.imul, 1) := by decide +kernel
theorem dX8_flatten_51 : decode cX8_flatten 51 = .ok (.iload_n 1, 1) := by decide +kernel
theorem dX8_flatten_52 : decode cX8_flatten 52 = .ok (.iadd, 1) := by decide +kernel
theorem dX8_flatten_53 : decode cX8_flatten 53 = .ok (.iconst 1, 1) := by decide +kernel
theorem dX8_flatten_54 : decode cX8_flatten 54 = .ok (.isub, 1) := by decide +kernel
theorem dX8_flatten_55 : decode cX8_flatten 55 = .ok (.iaload, 1) := by decide +kernel
theorem dX8_flatten_56 : decode cX8_flatten 56 = .ok (.aload_n 0, 1) := by decide +kernel
theorem dX8_flatten_57 : decode cX8_flatten 57 = .ok (.getfield 25, 3) := by decide +kernel
theorem dX8_flatten_60 : decode cX8_flatten 60 = .ok (.iload_n 1, 1) := by decide +kernel
theorem dX8_flatten_61 : decode cX8_flatten 61 = .ok (.aload_n 0, 1) := by decide +kernel
theorem dX8_flatten_62 : decode cX8_flatten 62 = .ok (.getfield 41, 3) := by decide +kernel
theorem dX8_flatten_65 : decode cX8_flatten 65 = .ok (.imul, 1) := by decide +kernel
theorem dX8_flatten_66 : decode cX8_flatten 66 = .ok (.iload_n 1, 1) := by decide +kernel
theorem dX8_flatten_67 : decode cX8_flatten 67 = .ok (.iadd, 1) := by decide +kernel
theorem dX8_flatten_68 : decode cX8_flatten 68 = .ok (.iconst 1, 1) := by decide +kernel
theorem dX8_flatten_69 : decode cX8_flatten 69 = .ok (.isub, 1) := by decide +kernel
theorem dX8_flatten_70 : decode cX8_flatten 70 = .ok (.iaload, 1) := by decide +kernel
theorem dX8_flatten_71 : decode cX8_flatten 71 = .ok (.aload_n 0, 1) := by decide +kernel
theorem dX8_flatten_72 : decode cX8_flatten 72 = .ok (.getfield 12, 3) := by decide +kernel
theorem dX8_flatten_75 : decode cX8_flatten 75 = .ok (.getfield 83, 3) := by decide +kernel
theorem dX8_flatten_78 : decode cX8_flatten 78 = .ok (.invokestatic 86, 3) := by decide +kernel
theorem dX8_flatten_81 : decode cX8_flatten 81 = .ok (.istore 4, 2) := by decide +kernel
theorem dX8_flatten_83 : decode cX8_flatten 83 = .ok (.iload 4, 2) := by decide +kernel
theorem dX8_flatten_85 : decode cX8_flatten 85 = .ok (.ifCond .eq 11, 3) := by decide +kernel
theorem dX8_flatten_88 : decode cX8_flatten 88 = .ok (.aload_n 0, 1) := by decide +kernel
theorem dX8_flatten_89 : decode cX8_flatten 89 = .ok (.iload_n 1, 1) := by decide +kernel
theorem dX8_flatten_90 : decode cX8_flatten 90 = .ok (.iload_n 3, 1) := by decide +kernel
theorem dX8_flatten_91 : decode cX8_flatten 91 = .ok (.iload 4, 2) := by decide +kernel
theorem dX8_flatten_93 : decode cX8_flatten 93 = .ok (.invokevirtual 90, 3) := by decide +kernel
theorem dX8_flatten_96 : decode cX8_flatten 96 = .ok (.iinc 3 1, 3) := by decide +kernel
theorem dX8_flatten_99 : decode cX8_flatten 99 = .ok (.goto (-66), 3) := by decide +kernel
theorem dX8_flatten_102 : decode cX8_flatten 102 = .ok (.iinc 1 1, 3) := by decide +kernel
theorem dX8_flatten_105 : decode cX8_flatten 105 = .ok (.goto (-103), 3) := by decide +kernel
theorem dX8_flatten_108 : decode cX8_flatten 108 = .ok (.return_, 1) := by decide +kernel
theorem dX8_pivotFor_0 : decode cX8_pivotFor 0 = .ok (.iload_n 1, 1) := by decide +kernel
theorem dX8_pivotFor_1 : decode cX8_pivotFor 1 = .ok (.istore_n 2, 1) := by decide +kernel
theorem dX8_pivotFor_2 : decode cX8_pivotFor 2 = .ok (.iload_n 2, 1) := by decide +kernel
theorem dX8_pivotFor_3 : decode cX8_pivotFor 3 = .ok (.aload_n 0, 1) := by decide +kernel
theorem dX8_pivotFor_4 : decode cX8_pivotFor 4 = .ok (.getfield 41, 3) := by decide +kernel
theorem dX8_pivotFor_7 : decode cX8_pivotFor 7 = .ok (.if_icmp .ge 29, 3) := by decide +kernel
theorem dX8_pivotFor_10 : decode cX8_pivotFor 10 = .ok (.aload_n 0, 1) := by decide +kernel
theorem dX8_pivotFor_11 : decode cX8_pivotFor 11 = .ok (.getfield 25, 3) := by decide +kernel
theorem dX8_pivotFor_14 : decode cX8_pivotFor 14 = .ok (.iload_n 2, 1) := by decide +kernel
theorem dX8_pivotFor_15 : decode cX8_pivotFor 15 = .ok (.aload_n 0, 1) := by decide +kernel
theorem dX8_pivotFor_16 : decode cX8_pivotFor 16 = .ok (.getfield 41, 3) := by decide +kernel
theorem dX8_pivotFor_19 : decode cX8_pivotFor 19 = .ok (.imul, 1) := by decide +kernel
theorem dX8_pivotFor_20 : decode cX8_pivotFor 20 = .ok (.iload_n 1, 1) := by decide +kernel
theorem dX8_pivotFor_21 : decode cX8_pivotFor 21 = .ok (.iadd, 1) := by decide +kernel
theorem dX8_pivotFor_22 : decode cX8_pivotFor 22 = .ok (.iconst 1, 1) := by decide +kernel
theorem dX8_pivotFor_23 : decode cX8_pivotFor 23 = .ok (.isub, 1) := by decide +kernel
theorem dX8_pivotFor_24 : decode cX8_pivotFor 24 = .ok (.iaload, 1) := by decide +kernel
theorem dX8_pivotFor_25 : decode cX8_pivotFor 25 = .ok (.ifCond .eq 5, 3) := by decide +kernel
theorem dX8_pivotFor_28 : decode cX8_pivotFor 28 = .ok (.iload_n 2, 1) := by decide +kernel
theorem dX8_pivotFor_29 : decode cX8_pivotFor 29 = .ok (.ireturn, 1) := by decide +kernel
theorem dX8_pivotFor_30 : decode cX8_pivotFor 30 = .ok (.iinc 2 1, 3) := by decide +kernel
theorem dX8_pivotFor_33 : decode cX8_pivotFor 33 = .ok (.goto (-31), 3) := by decide +kernel
theorem dX8_pivotFor_36 : decode cX8_pivotFor 36 = .ok (.iconst (-1), 1) := by decide +kernel
theorem dX8_pivotFor_37 : decode cX8_pivotFor 37 = .ok (.ireturn, 1) := by decide +kernel
theorem dX8_swapBoth_0 : decode cX8_swapBoth 0 = .ok (.iload_n 2, 1) := by decide +kernel
theorem dX8_swapBoth_1 : decode cX8_swapBoth 1 = .ok (.iload_n 1, 1) := by decide +kernel
theorem dX8_swapBoth_2 : decode cX8_swapBoth 2 = .ok (.if_icmp .ne 4, 3) := by decide +kernel
theorem dX8_swapBoth_5 : decode cX8_swapBoth 5 = .ok (.return_, 1) := by decide +kernel
theorem dX8_swapBoth_6 : decode cX8_swapBoth 6 = .ok (.iconst 0, 1) := by decide +kernel
theorem dX8_swapBoth_7 : decode cX8_swapBoth 7 = .ok (.istore_n 3, 1) := by decide +kernel
theorem dX8_swapBoth_8 : decode cX8_swapBoth 8 = .ok (.iload_n 3, 1) := by decide +kernel
theorem dX8_swapBoth_9 : decode cX8_swapBoth 9 = .ok (.aload_n 0, 1) := by decide +kernel
theorem dX8_swapBoth_10 : decode cX8_swapBoth 10 = .ok (.getfield 41, 3) := by decide +kernel
theorem dX8_swapBoth_13 : decode cX8_swapBoth 13 = .ok (.if_icmp .ge 29, 3) := by decide +kernel
theorem dX8_swapBoth_16 : decode cX8_swapBoth 16 = .ok (.aload_n 0, 1) := by decide +kernel
theorem dX8_swapBoth_17 : decode cX8_swapBoth 17 = .ok (.iload_n 1, 1) := by decide +kernel
theorem dX8_swapBoth_18 : decode cX8_swapBoth 18 = .ok (.aload_n 0, 1) := by decide +kernel
theorem dX8_swapBoth_19 : decode cX8_swapBoth 19 = .ok (.getfield 41, 3) := by decide +kernel
theorem dX8_swapBoth_22 : decode cX8_swapBoth 22 = .ok (.imul, 1) := by decide +kernel
theorem dX8_swapBoth_23 : decode cX8_swapBoth 23 = .ok (.iload_n 3, 1) := by decide +kernel
theorem dX8_swapBoth_24 : decode cX8_swapBoth 24 = .ok (.iadd, 1) := by decide +kernel
theorem dX8_swapBoth_25 : decode cX8_swapBoth 25 = .ok (.iload_n 2, 1) := by decide +kernel
theorem dX8_swapBoth_26 : decode cX8_swapBoth 26 = .ok (.aload_n 0, 1) := by decide +kernel
theorem dX8_swapBoth_27 : decode cX8_swapBoth 27 = .ok (.getfield 41, 3) := by decide +kernel
theorem dX8_swapBoth_30 : decode cX8_swapBoth 30 = .ok (.imul, 1) := by decide +kernel
theorem dX8_swapBoth_31 : decode cX8_swapBoth 31 = .ok (.iload_n 3, 1) := by decide +kernel
theorem dX8_swapBoth_32 : decode cX8_swapBoth 32 = .ok (.iadd, 1) := by decide +kernel
theorem dX8_swapBoth_33 : decode cX8_swapBoth 33 = .ok (.invokevirtual 94, 3) := by decide +kernel
theorem dX8_swapBoth_36 : decode cX8_swapBoth 36 = .ok (.iinc 3 1, 3) := by decide +kernel
theorem dX8_swapBoth_39 : decode cX8_swapBoth 39 = .ok (.goto (-31), 3) := by decide +kernel
theorem dX8_swapBoth_42 : decode cX8_swapBoth 42 = .ok (.iconst 0, 1) := by decide +kernel
theorem dX8_swapBoth_43 : decode cX8_swapBoth 43 = .ok (.istore_n 3, 1) := by decide +kernel
theorem dX8_swapBoth_44 : decode cX8_swapBoth 44 = .ok (.iload_n 3, 1) := by decide +kernel
theorem dX8_swapBoth_45 : decode cX8_swapBoth 45 = .ok (.aload_n 0, 1) := by decide +kernel
theorem dX8_swapBoth_46 : decode cX8_swapBoth 46 = .ok (.getfield 41, 3) := by decide +kernel
theorem dX8_swapBoth_49 : decode cX8_swapBoth 49 = .ok (.if_icmp .ge 29, 3) := by decide +kernel
theorem dX8_swapBoth_52 : decode cX8_swapBoth 52 = .ok (.aload_n 0, 1) := by decide +kernel
theorem dX8_swapBoth_53 : decode cX8_swapBoth 53 = .ok (.iload_n 3, 1) := by decide +kernel
theorem dX8_swapBoth_54 : decode cX8_swapBoth 54 = .ok (.aload_n 0, 1) := by decide +kernel
theorem dX8_swapBoth_55 : decode cX8_swapBoth 55 = .ok (.getfield 41, 3) := by decide +kernel
theorem dX8_swapBoth_58 : decode cX8_swapBoth 58 = .ok (.imul, 1) := by decide +kernel
theorem dX8_swapBoth_59 : decode cX8_swapBoth 59 = .ok (.iload_n 1, 1) := by decide +kernel
theorem dX8_swapBoth_60 : decode cX8_swapBoth 60 = .ok (.iadd, 1) := by decide +kernel
theorem dX8_swapBoth_61 : decode cX8_swapBoth 61 = .ok (.iload_n 3, 1) := by decide +kernel
theorem dX8_swapBoth_62 : decode cX8_swapBoth 62 = .ok (.aload_n 0, 1) := by decide +kernel
theorem dX8_swapBoth_63 : decode cX8_swapBoth 63 = .ok (.getfield 41, 3) := by decide +kernel
theorem dX8_swapBoth_66 : decode cX8_swapBoth 66 = .ok (.imul, 1) := by decide +kernel
theorem dX8_swapBoth_67 : decode cX8_swapBoth 67 = .ok (.iload_n 2, 1) := by decide +kernel
