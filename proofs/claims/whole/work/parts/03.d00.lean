theorem dX0_init_0 : decode cX0_init 0 = .ok (.aload_n 0, 1) := by decide +kernel
theorem dX0_init_1 : decode cX0_init 1 = .ok (.invokespecial 3, 3) := by decide +kernel
theorem dX0_init_4 : decode cX0_init 4 = .ok (.aload_n 0, 1) := by decide +kernel
theorem dX0_init_5 : decode cX0_init 5 = .ok (.bipush 35, 2) := by decide +kernel
theorem dX0_init_7 : decode cX0_init 7 = .ok (.newarray .int, 2) := by decide +kernel
theorem dX0_init_9 : decode cX0_init 9 = .ok (.putfield 9, 3) := by decide +kernel
theorem dX0_init_12 : decode cX0_init 12 = .ok (.aload_n 0, 1) := by decide +kernel
theorem dX0_init_13 : decode cX0_init 13 = .ok (.sipush 128, 3) := by decide +kernel
theorem dX0_init_16 : decode cX0_init 16 = .ok (.newarray .int, 2) := by decide +kernel
theorem dX0_init_18 : decode cX0_init 18 = .ok (.putfield 15, 3) := by decide +kernel
theorem dX0_init_21 : decode cX0_init 21 = .ok (.aload_n 0, 1) := by decide +kernel
theorem dX0_init_22 : decode cX0_init 22 = .ok (.sipush 128, 3) := by decide +kernel
theorem dX0_init_25 : decode cX0_init 25 = .ok (.newarray .int, 2) := by decide +kernel
theorem dX0_init_27 : decode cX0_init 27 = .ok (.putfield 18, 3) := by decide +kernel
theorem dX0_init_30 : decode cX0_init 30 = .ok (.aload_n 0, 1) := by decide +kernel
theorem dX0_init_31 : decode cX0_init 31 = .ok (.iconst 0, 1) := by decide +kernel
theorem dX0_init_32 : decode cX0_init 32 = .ok (.putfield 21, 3) := by decide +kernel
theorem dX0_init_35 : decode cX0_init 35 = .ok (.return_, 1) := by decide +kernel
theorem dX0_head_0 : decode cX0_head 0 = .ok (.iload_n 1, 1) := by decide +kernel
theorem dX0_head_1 : decode cX0_head 1 = .ok (.ifCond .lt 20, 3) := by decide +kernel
theorem dX0_head_4 : decode cX0_head 4 = .ok (.iload_n 1, 1) := by decide +kernel
theorem dX0_head_5 : decode cX0_head 5 = .ok (.aload_n 0, 1) := by decide +kernel
theorem dX0_head_6 : decode cX0_head 6 = .ok (.getfield 21, 3) := by decide +kernel
theorem dX0_head_9 : decode cX0_head 9 = .ok (.if_icmp .ge 12, 3) := by decide +kernel
theorem dX0_head_12 : decode cX0_head 12 = .ok (.aload_n 0, 1) := by decide +kernel
theorem dX0_head_13 : decode cX0_head 13 = .ok (.getfield 9, 3) := by decide +kernel
theorem dX0_head_16 : decode cX0_head 16 = .ok (.iload_n 1, 1) := by decide +kernel
theorem dX0_head_17 : decode cX0_head 17 = .ok (.iaload, 1) := by decide +kernel
theorem dX0_head_18 : decode cX0_head 18 = .ok (.goto 4, 3) := by decide +kernel
theorem dX0_head_21 : decode cX0_head 21 = .ok (.iconst 0, 1) := by decide +kernel
theorem dX0_head_22 : decode cX0_head 22 = .ok (.ireturn, 1) := by decide +kernel
theorem dX0_gather_0 : decode cX0_gather 0 = .ok (.aload_n 0, 1) := by decide +kernel
theorem dX0_gather_1 : decode cX0_gather 1 = .ok (.iconst 0, 1) := by decide +kernel
theorem dX0_gather_2 : decode cX0_gather 2 = .ok (.putfield 21, 3) := by decide +kernel
theorem dX0_gather_5 : decode cX0_gather 5 = .ok (.iload_n 3, 1) := by decide +kernel
theorem dX0_gather_6 : decode cX0_gather 6 = .ok (.ifCond .le 18, 3) := by decide +kernel
theorem dX0_gather_9 : decode cX0_gather 9 = .ok (.aload_n 1, 1) := by decide +kernel
theorem dX0_gather_10 : decode cX0_gather 10 = .ok (.invokevirtual 25, 3) := by decide +kernel
theorem dX0_gather_13 : decode cX0_gather 13 = .ok (.iload_n 3, 1) := by decide +kernel
theorem dX0_gather_14 : decode cX0_gather 14 = .ok (.aload_n 1, 1) := by decide +kernel
theorem dX0_gather_15 : decode cX0_gather 15 = .ok (.getfield 31, 3) := by decide +kernel
theorem dX0_gather_18 : decode cX0_gather 18 = .ok (.invokestatic 34, 3) := by decide +kernel
theorem dX0_gather_21 : decode cX0_gather 21 = .ok (.goto 4, 3) := by decide +kernel
theorem dX0_gather_24 : decode cX0_gather 24 = .ok (.iconst 1, 1) := by decide +kernel
theorem dX0_gather_25 : decode cX0_gather 25 = .ok (.istore 4, 2) := by decide +kernel
theorem dX0_gather_27 : decode cX0_gather 27 = .ok (.iconst 0, 1) := by decide +kernel
theorem dX0_gather_28 : decode cX0_gather 28 = .ok (.istore 5, 2) := by decide +kernel
theorem dX0_gather_30 : decode cX0_gather 30 = .ok (.iload 5, 2) := by decide +kernel
theorem dX0_gather_32 : decode cX0_gather 32 = .ok (.aload_n 1, 1) := by decide +kernel
theorem dX0_gather_33 : decode cX0_gather 33 = .ok (.invokevirtual 38, 3) := by decide +kernel
theorem dX0_gather_36 : decode cX0_gather 36 = .ok (.if_icmp .ge 18, 3) := by decide +kernel
theorem dX0_gather_39 : decode cX0_gather 39 = .ok (.aload_n 0, 1) := by decide +kernel
theorem dX0_gather_40 : decode cX0_gather 40 = .ok (.getfield 15, 3) := by decide +kernel
theorem dX0_gather_43 : decode cX0_gather 43 = .ok (.iload 5, 2) := by decide +kernel
theorem dX0_gather_45 : decode cX0_gather 45 = .ok (.bipush (-2), 2) := by decide +kernel
theorem dX0_gather_47 : decode cX0_gather 47 = .ok (.iastore, 1) := by decide +kernel
theorem dX0_gather_48 : decode cX0_gather 48 = .ok (.iinc 5 1, 3) := by decide +kernel
theorem dX0_gather_51 : decode cX0_gather 51 = .ok (.goto (-21), 3) := by decide +kernel
theorem dX0_gather_54 : decode cX0_gather 54 = .ok (.iconst 0, 1) := by decide +kernel
theorem dX0_gather_55 : decode cX0_gather 55 = .ok (.istore 5, 2) := by decide +kernel
theorem dX0_gather_57 : decode cX0_gather 57 = .ok (.iload 5, 2) := by decide +kernel
theorem dX0_gather_59 : decode cX0_gather 59 = .ok (.aload_n 1, 1) := by decide +kernel
theorem dX0_gather_60 : decode cX0_gather 60 = .ok (.invokevirtual 38, 3) := by decide +kernel
theorem dX0_gather_63 : decode cX0_gather 63 = .ok (.if_icmp .ge 61, 3) := by decide +kernel
theorem dX0_gather_66 : decode cX0_gather 66 = .ok (.iload 5, 2) := by decide +kernel
theorem dX0_gather_68 : decode cX0_gather 68 = .ok (.invokestatic 41, 3) := by decide +kernel
theorem dX0_gather_71 : decode cX0_gather 71 = .ok (.iload_n 2, 1) := by decide +kernel
theorem dX0_gather_72 : decode cX0_gather 72 = .ok (.if_icmp .ne 46, 3) := by decide +kernel
theorem dX0_gather_75 : decode cX0_gather 75 = .ok (.aload_n 0, 1) := by decide +kernel
theorem dX0_gather_76 : decode cX0_gather 76 = .ok (.getfield 15, 3) := by decide +kernel
theorem dX0_gather_79 : decode cX0_gather 79 = .ok (.iload 5, 2) := by decide +kernel
theorem dX0_gather_81 : decode cX0_gather 81 = .ok (.iaload, 1) := by decide +kernel
theorem dX0_gather_82 : decode cX0_gather 82 = .ok (.bipush (-2), 2) := by decide +kernel
theorem dX0_gather_84 : decode cX0_gather 84 = .ok (.if_icmp .ne 34, 3) := by decide +kernel
theorem dX0_gather_87 : decode cX0_gather 87 = .ok (.iload_n 3, 1) := by decide +kernel
theorem dX0_gather_88 : decode cX0_gather 88 = .ok (.iconst (-1), 1) := by decide +kernel
theorem dX0_gather_89 : decode cX0_gather 89 = .ok (.if_icmp .ne 19, 3) := by decide +kernel
theorem dX0_gather_92 : decode cX0_gather 92 = .ok (.aload_n 0, 1) := by decide +kernel
theorem dX0_gather_93 : decode cX0_gather 93 = .ok (.iload 5, 2) := by decide +kernel
theorem dX0_gather_95 : decode cX0_gather 95 = .ok (.aload_n 0, 1) := by decide +kernel
theorem dX0_gather_96 : decode cX0_gather 96 = .ok (.iload 5, 2) := by decide +kernel
theorem dX0_gather_98 : decode cX0_gather 98 = .ok (.invokevirtual 47, 3) := by decide +kernel
theorem dX0_gather_101 : decode cX0_gather 101 = .ok (.iconst 1, 1) := by decide +kernel
theorem dX0_gather_102 : decode cX0_gather 102 = .ok (.invokevirtual 50, 3) := by decide +kernel
theorem dX0_gather_105 : decode cX0_gather 105 = .ok (.goto 13, 3) := by decide +kernel
theorem dX0_gather_108 : decode cX0_gather 108 = .ok (.aload_n 0, 1) := by decide +kernel
theorem dX0_gather_109 : decode cX0_gather 109 = .ok (.aload_n 1, 1) := by decide +kernel
theorem dX0_gather_110 : decode cX0_gather 110 = .ok (.iload 5, 2) := by decide +kernel
theorem dX0_gather_112 : decode cX0_gather 112 = .ok (.iload_n 3, 1) := by decide +kernel
theorem dX0_gather_113 : decode cX0_gather 113 = .ok (.iload 4, 2) := by decide +kernel
theorem dX0_gather_115 : decode cX0_gather 115 = .ok (.invokevirtual 54, 3) := by decide +kernel
theorem dX0_gather_118 : decode cX0_gather 118 = .ok (.iinc 5 1, 3) := by decide +kernel
theorem dX0_gather_121 : decode cX0_gather 121 = .ok (.goto (-64), 3) := by decide +kernel
theorem dX0_gather_124 : decode cX0_gather 124 = .ok (.return_, 1) := by decide +kernel
theorem dX0_gatherRound_0 : decode cX0_gatherRound 0 = .ok (.iconst 1, 1) := by decide +kernel
theorem dX0_gatherRound_1 : decode cX0_gatherRound 1 = .ok (.istore 5, 2) := by decide +kernel
theorem dX0_gatherRound_3 : decode cX0_gatherRound 3 = .ok (.aload_n 1, 1) := by decide +kernel
theorem dX0_gatherRound_4 : decode cX0_gatherRound 4 = .ok (.iload_n 2, 1) := by decide +kernel
theorem dX0_gatherRound_5 : decode cX0_gatherRound 5 = .ok (.invokevirtual 58, 3) := by decide +kernel
theorem dX0_gatherRound_8 : decode cX0_gatherRound 8 = .ok (.istore 6, 2) := by decide +kernel
theorem dX0_gatherRound_10 : decode cX0_gatherRound 10 = .ok (.iload 6, 2) := by decide +kernel
theorem dX0_gatherRound_12 : decode cX0_gatherRound 12 = .ok (.iload_n 2, 1) := by decide +kernel
theorem dX0_gatherRound_13 : decode cX0_gatherRound 13 = .ok (.if_icmp .eq 26, 3) := by decide +kernel
theorem dX0_gatherRound_16 : decode cX0_gatherRound 16 = .ok (.iload 5, 2) := by decide +kernel
theorem dX0_gatherRound_18 : decode cX0_gatherRound 18 = .ok (.aload_n 1, 1) := by decide +kernel
theorem dX0_gatherRound_19 : decode cX0_gatherRound 19 = .ok (.getfield 61, 3) := by decide +kernel
theorem dX0_gatherRound_22 : decode cX0_gatherRound 22 = .ok (.if_icmp .ge 17, 3) := by decide +kernel
theorem dX0_gatherRound_25 : decode cX0_gatherRound 25 = .ok (.iinc 5 1, 3) := by decide +kernel
theorem dX0_gatherRound_28 : decode cX0_gatherRound 28 = .ok (.aload_n 1, 1) := by decide +kernel
theorem dX0_gatherRound_29 : decode cX0_gatherRound 29 = .ok (.iload 6, 2) := by decide +kernel
theorem dX0_gatherRound_31 : decode cX0_gatherRound 31 = .ok (.invokevirtual 58, 3) := by decide +kernel
theorem dX0_gatherRound_34 : decode cX0_gatherRound 34 = .ok (.istore 6, 2) := by decide +kernel
theorem dX0_gatherRound_36 : decode cX0_gatherRound 36 = .ok (.goto (-26), 3) := by decide +kernel
theorem dX0_gatherRound_39 : decode cX0_gatherRound 39 = .ok (.iload_n 3, 1) := by decide +kernel
theorem dX0_gatherRound_40 : decode cX0_gatherRound 40 = .ok (.iload 5, 2) := by decide +kernel
theorem dX0_gatherRound_42 : decode cX0_gatherRound 42 = .ok (.imul, 1) := by decide +kernel
theorem dX0_gatherRound_43 : decode cX0_gatherRound 43 = .ok (.aload_n 1, 1) := by decide +kernel
theorem dX0_gatherRound_44 : decode cX0_gatherRound 44 = .ok (.getfield 61, 3) := by decide +kernel
theorem dX0_gatherRound_47 : decode cX0_gatherRound 47 = .ok (.invokestatic 64, 3) := by decide +kernel
theorem dX0_gatherRound_50 : decode cX0_gatherRound 50 = .ok (.ifCond .ne 11, 3) := by decide +kernel
theorem dX0_gatherRound_53 : decode cX0_gatherRound 53 = .ok (.aload_n 0, 1) := by decide +kernel
theorem dX0_gatherRound_54 : decode cX0_gatherRound 54 = .ok (.iload_n 2, 1) := by decide +kernel
theorem dX0_gatherRound_55 : decode cX0_gatherRound 55 = .ok (.invokevirtual 47, 3) := by decide +kernel
theorem dX0_gatherRound_58 : decode cX0_gatherRound 58 = .ok (.goto 4, 3) := by decide +kernel
theorem dX0_gatherRound_61 : decode cX0_gatherRound 61 = .ok (.iconst (-1), 1) := by decide +kernel
theorem dX0_gatherRound_62 : decode cX0_gatherRound 62 = .ok (.istore 6, 2) := by decide +kernel
theorem dX0_gatherRound_64 : decode cX0_gatherRound 64 = .ok (.iload_n 2, 1) := by decide +kernel
theorem dX0_gatherRound_65 : decode cX0_gatherRound 65 = .ok (.istore 7, 2) := by decide +kernel
theorem dX0_gatherRound_67 : decode cX0_gatherRound 67 = .ok (.iconst 1, 1) := by decide +kernel
theorem dX0_gatherRound_68 : decode cX0_gatherRound 68 = .ok (.istore 8, 2) := by decide +kernel
theorem dX0_gatherRound_70 : decode cX0_gatherRound 70 = .ok (.iconst 0, 1) := by decide +kernel
theorem dX0_gatherRound_71 : decode cX0_gatherRound 71 = .ok (.istore 9, 2) := by decide +kernel
theorem dX0_gatherRound_73 : decode cX0_gatherRound 73 = .ok (.iload 9, 2) := by decide +kernel
theorem dX0_gatherRound_75 : decode cX0_gatherRound 75 = .ok (.iload 5, 2) := by decide +kernel
theorem dX0_gatherRound_77 : decode cX0_gatherRound 77 = .ok (.if_icmp .ge 41, 3) := by decide +kernel
theorem dX0_gatherRound_80 : decode cX0_gatherRound 80 = .ok (.aload_n 0, 1) := by decide +kernel
theorem dX0_gatherRound_81 : decode cX0_gatherRound 81 = .ok (.iload 7, 2) := by decide +kernel
theorem dX0_gatherRound_83 : decode cX0_gatherRound 83 = .ok (.iload 6, 2) := by decide +kernel
theorem dX0_gatherRound_85 : decode cX0_gatherRound 85 = .ok (.iload 8, 2) := by decide +kernel
theorem dX0_gatherRound_87 : decode cX0_gatherRound 87 = .ok (.invokevirtual 50, 3) := by decide +kernel
theorem dX0_gatherRound_90 : decode cX0_gatherRound 90 = .ok (.aload_n 1, 1) := by decide +kernel
theorem dX0_gatherRound_91 : decode cX0_gatherRound 91 = .ok (.iload 7, 2) := by decide +kernel
theorem dX0_gatherRound_93 : decode cX0_gatherRound 93 = .ok (.invokevirtual 58, 3) := by decide +kernel
theorem dX0_gatherRound_96 : decode cX0_gatherRound 96 = .ok (.istore 7, 2) := by decide +kernel
theorem dX0_gatherRound_98 : decode cX0_gatherRound 98 = .ok (.iload 8, 2) := by decide +kernel
theorem dX0_gatherRound_100 : decode cX0_gatherRound 100 = .ok (.iload 4, 2) := by decide +kernel
theorem dX0_gatherRound_102 : decode cX0_gatherRound 102 = .ok (.imul, 1) := by decide +kernel
theorem dX0_gatherRound_103 : decode cX0_gatherRound 103 = .ok (.aload_n 1, 1) := by decide +kernel
theorem dX0_gatherRound_104 : decode cX0_gatherRound 104 = .ok (.getfield 31, 3) := by decide +kernel
theorem dX0_gatherRound_107 : decode cX0_gatherRound 107 = .ok (.invokestatic 64, 3) := by decide +kernel
theorem dX0_gatherRound_110 : decode cX0_gatherRound 110 = .ok (.istore 8, 2) := by decide +kernel
theorem dX0_gatherRound_112 : decode cX0_gatherRound 112 = .ok (.iinc 9 1, 3) := by decide +kernel
theorem dX0_gatherRound_115 : decode cX0_gatherRound 115 = .ok (.goto (-42), 3) := by decide +kernel
theorem dX0_gatherRound_118 : decode cX0_gatherRound 118 = .ok (.return_, 1) := by decide +kernel
theorem dX0_takeIn_0 : decode cX0_takeIn 0 = .ok (.aload_n 0, 1) := by decide +kernel
theorem dX0_takeIn_1 : decode cX0_takeIn 1 = .ok (.getfield 21, 3) := by decide +kernel
theorem dX0_takeIn_4 : decode cX0_takeIn 4 = .ok (.aload_n 0, 1) := by decide +kernel
theorem dX0_takeIn_5 : decode cX0_takeIn 5 = .ok (.getfield 9, 3) := by decide +kernel
theorem dX0_takeIn_8 : decode cX0_takeIn 8 = .ok (.arraylength, 1) := by decide +kernel
theorem dX0_takeIn_9 : decode cX0_takeIn 9 = .ok (.if_icmp .lt 5, 3) := by decide +kernel
theorem dX0_takeIn_12 : decode cX0_takeIn 12 = .ok (.iconst (-1), 1) := by decide +kernel
theorem dX0_takeIn_13 : decode cX0_takeIn 13 = .ok (.ireturn, 1) := by decide +kernel
theorem dX0_takeIn_14 : decode cX0_takeIn 14 = .ok (.aload_n 0, 1) := by decide +kernel
theorem dX0_takeIn_15 : decode cX0_takeIn 15 = .ok (.getfield 9, 3) := by decide +kernel
theorem dX0_takeIn_18 : decode cX0_takeIn 18 = .ok (.aload_n 0, 1) := by decide +kernel
theorem dX0_takeIn_19 : decode cX0_takeIn 19 = .ok (.getfield 21, 3) := by decide +kernel
theorem dX0_takeIn_22 : decode cX0_takeIn 22 = .ok (.iload_n 1, 1) := by decide +kernel
theorem dX0_takeIn_23 : decode cX0_takeIn 23 = .ok (.iastore, 1) := by decide +kernel
theorem dX0_takeIn_24 : decode cX0_takeIn 24 = .ok (.aload_n 0, 1) := by decide +kernel
theorem dX0_takeIn_25 : decode cX0_takeIn 25 = .ok (.dup, 1) := by decide +kernel
theorem dX0_takeIn_26 : decode cX0_takeIn 26 = .ok (.getfield 21, 3) := by decide +kernel
theorem dX0_takeIn_29 : decode cX0_takeIn 29 = .ok (.iconst 1, 1) := by decide +kernel
theorem dX0_takeIn_30 : decode cX0_takeIn 30 = .ok (.iadd, 1) := by decide +kernel
theorem dX0_takeIn_31 : decode cX0_takeIn 31 = .ok (.putfield 21, 3) := by decide +kernel
theorem dX0_takeIn_34 : decode cX0_takeIn 34 = .ok (.aload_n 0, 1) := by decide +kernel
theorem dX0_takeIn_35 : decode cX0_takeIn 35 = .ok (.getfield 21, 3) := by decide +kernel
theorem dX0_takeIn_38 : decode cX0_takeIn 38 = .ok (.iconst 1, 1) := by decide +kernel
theorem dX0_takeIn_39 : decode cX0_takeIn 39 = .ok (.isub, 1) := by decide +kernel
theorem dX0_takeIn_40 : decode cX0_takeIn 40 = .ok (.ireturn, 1) := by decide +kernel
theorem dX0_place_0 : decode cX0_place 0 = .ok (.aload_n 0, 1) := by decide +kernel
theorem dX0_place_1 : decode cX0_place 1 = .ok (.getfield 15, 3) := by decide +kernel
theorem dX0_place_4 : decode cX0_place 4 = .ok (.iload_n 1, 1) := by decide +kernel
theorem dX0_place_5 : decode cX0_place 5 = .ok (.iload_n 2, 1) := by decide +kernel
theorem dX0_place_6 : decode cX0_place 6 = .ok (.iastore, 1) := by decide +kernel
theorem dX0_place_7 : decode cX0_place 7 = .ok (.aload_n 0, 1) := by decide +kernel
theorem dX0_place_8 : decode cX0_place 8 = .ok (.getfield 18, 3) := by decide +kernel
theorem dX0_place_11 : decode cX0_place 11 = .ok (.iload_n 1, 1) := by decide +kernel
theorem dX0_place_12 : decode cX0_place 12 = .ok (.iload_n 3, 1) := by decide +kernel
theorem dX0_place_13 : decode cX0_place 13 = .ok (.iastore, 1) := by decide +kernel
theorem dX0_place_14 : decode cX0_place 14 = .ok (.return_, 1) := by decide +kernel
theorem dX0_fillSum_0 : decode cX0_fillSum 0 = .ok (.iconst 0, 1) := by decide +kernel
theorem dX0_fillSum_1 : decode cX0_fillSum 1 = .ok (.istore_n 3, 1) := by decide +kernel
theorem dX0_fillSum_2 : decode cX0_fillSum 2 = .ok (.iload_n 3, 1) := by decide +kernel
theorem dX0_fillSum_3 : decode cX0_fillSum 3 = .ok (.aload_n 0, 1) := by decide +kernel
theorem dX0_fillSum_4 : decode cX0_fillSum 4 = .ok (.getfield 21, 3) := by decide +kernel
theorem dX0_fillSum_7 : decode cX0_fillSum 7 = .ok (.aload_n 0, 1) := by decide +kernel
theorem dX0_fillSum_8 : decode cX0_fillSum 8 = .ok (.getfield 21, 3) := by decide +kernel
theorem dX0_fillSum_11 : decode cX0_fillSum 11 = .ok (.imul, 1) := by decide +kernel
theorem dX0_fillSum_12 : decode cX0_fillSum 12 = .ok (.if_icmp .ge 19, 3) := by decide +kernel
theorem dX0_fillSum_15 : decode cX0_fillSum 15 = .ok (.iload_n 3, 1) := by decide +kernel
theorem dX0_fillSum_16 : decode cX0_fillSum 16 = .ok (.aload_n 2, 1) := by decide +kernel
theorem dX0_fillSum_17 : decode cX0_fillSum 17 = .ok (.arraylength, 1) := by decide +kernel
theorem dX0_fillSum_18 : decode cX0_fillSum 18 = .ok (.if_icmp .ge 13, 3) := by decide +kernel
theorem dX0_fillSum_21 : decode cX0_fillSum 21 = .ok (.aload_n 2, 1) := by decide +kernel
theorem dX0_fillSum_22 : decode cX0_fillSum 22 = .ok (.iload_n 3, 1) := by decide +kernel
theorem dX0_fillSum_23 : decode cX0_fillSum 23 = .ok (.iconst 0, 1) := by decide +kernel
theorem dX0_fillSum_24 : decode cX0_fillSum 24 = .ok (.iastore, 1) := by decide +kernel
theorem dX0_fillSum_25 : decode cX0_fillSum 25 = .ok (.iinc 3 1, 3) := by decide +kernel
theorem dX0_fillSum_28 : decode cX0_fillSum 28 = .ok (.goto (-26), 3) := by decide +kernel
theorem dX0_fillSum_31 : decode cX0_fillSum 31 = .ok (.iconst 0, 1) := by decide +kernel
theorem dX0_fillSum_32 : decode cX0_fillSum 32 = .ok (.istore_n 3, 1) := by decide +kernel
theorem dX0_fillSum_33 : decode cX0_fillSum 33 = .ok (.iload_n 3, 1) := by decide +kernel
theorem dX0_fillSum_34 : decode cX0_fillSum 34 = .ok (.aload_n 0, 1) := by decide +kernel
theorem dX0_fillSum_35 : decode cX0_fillSum 35 = .ok (.getfield 21, 3) := by decide +kernel
theorem dX0_fillSum_38 : decode cX0_fillSum 38 = .ok (.if_icmp .ge 134, 3) := by decide +kernel
theorem dX0_fillSum_41 : decode cX0_fillSum 41 = .ok (.iconst 0, 1) := by decide +kernel
theorem dX0_fillSum_42 : decode cX0_fillSum 42 = .ok (.istore 4, 2) := by decide +kernel
theorem dX0_fillSum_44 : decode cX0_fillSum 44 = .ok (.iload 4, 2) := by decide +kernel
theorem dX0_fillSum_46 : decode cX0_fillSum 46 = .ok (.aload_n 1, 1) := by decide +kernel
theorem dX0_fillSum_47 : decode cX0_fillSum 47 = .ok (.invokevirtual 68, 3) := by decide +kernel
theorem dX0_fillSum_50 : decode cX0_fillSum 50 = .ok (.if_icmp .ge 116, 3) := by decide +kernel
theorem dX0_fillSum_53 : decode cX0_fillSum 53 = .ok (.aload_n 1, 1) := by decide +kernel
theorem dX0_fillSum_54 : decode cX0_fillSum 54 = .ok (.iload 4, 2) := by decide +kernel
theorem dX0_fillSum_56 : decode cX0_fillSum 56 = .ok (.invokevirtual 71, 3) := by decide +kernel
theorem dX0_fillSum_59 : decode cX0_fillSum 59 = .ok (.istore 5, 2) := by decide +kernel
theorem dX0_fillSum_61 : decode cX0_fillSum 61 = .ok (.aload_n 0, 1) := by decide +kernel
theorem dX0_fillSum_62 : decode cX0_fillSum 62 = .ok (.getfield 9, 3) := by decide +kernel
theorem dX0_fillSum_65 : decode cX0_fillSum 65 = .ok (.iload_n 3, 1) := by decide +kernel
theorem dX0_fillSum_66 : decode cX0_fillSum 66 = .ok (.iaload, 1) := by decide +kernel
theorem dX0_fillSum_67 : decode cX0_fillSum 67 = .ok (.iload 5, 2) := by decide +kernel
theorem dX0_fillSum_69 : decode cX0_fillSum 69 = .ok (.invokestatic 74, 3) := by decide +kernel
theorem dX0_fillSum_72 : decode cX0_fillSum 72 = .ok (.istore 6, 2) := by decide +kernel
theorem dX0_fillSum_74 : decode cX0_fillSum 74 = .ok (.iload 6, 2) := by decide +kernel
theorem dX0_fillSum_76 : decode cX0_fillSum 76 = .ok (.ifCond .eq 12, 3) := by decide +kernel
theorem dX0_fillSum_79 : decode cX0_fillSum 79 = .ok (.aload_n 0, 1) := by decide +kernel
theorem dX0_fillSum_80 : decode cX0_fillSum 80 = .ok (.getfield 9, 3) := by decide +kernel
theorem dX0_fillSum_83 : decode cX0_fillSum 83 = .ok (.iload_n 3, 1) := by decide +kernel
theorem dX0_fillSum_84 : decode cX0_fillSum 84 = .ok (.iaload, 1) := by decide +kernel
theorem dX0_fillSum_85 : decode cX0_fillSum 85 = .ok (.goto 12, 3) := by decide +kernel
theorem dX0_fillSum_88 : decode cX0_fillSum 88 = .ok (.aload_n 0, 1) := by decide +kernel
theorem dX0_fillSum_89 : decode cX0_fillSum 89 = .ok (.getfield 9, 3) := by decide +kernel
theorem dX0_fillSum_92 : decode cX0_fillSum 92 = .ok (.iload_n 3, 1) := by decide +kernel
theorem dX0_fillSum_93 : decode cX0_fillSum 93 = .ok (.iaload, 1) := by decide +kernel
theorem dX0_fillSum_94 : decode cX0_fillSum 94 = .ok (.iload 5, 2) := by decide +kernel
theorem dX0_fillSum_96 : decode cX0_fillSum 96 = .ok (.ixor, 1) := by decide +kernel
theorem dX0_fillSum_97 : decode cX0_fillSum 97 = .ok (.istore 7, 2) := by decide +kernel
theorem dX0_fillSum_99 : decode cX0_fillSum 99 = .ok (.aload_n 0, 1) := by decide +kernel
theorem dX0_fillSum_100 : decode cX0_fillSum 100 = .ok (.getfield 15, 3) := by decide +kernel
theorem dX0_fillSum_103 : decode cX0_fillSum 103 = .ok (.iload 7, 2) := by decide +kernel
theorem dX0_fillSum_105 : decode cX0_fillSum 105 = .ok (.iaload, 1) := by decide +kernel
theorem dX0_fillSum_106 : decode cX0_fillSum 106 = .ok (.ifCond .lt 54, 3) := by decide +kernel
theorem dX0_fillSum_109 : decode cX0_fillSum 109 = .ok (.iload_n 3, 1) := by decide +kernel
theorem dX0_fillSum_110 : decode cX0_fillSum 110 = .ok (.aload_n 0, 1) := by decide +kernel
theorem dX0_fillSum_111 : decode cX0_fillSum 111 = .ok (.getfield 21, 3) := by decide +kernel
theorem dX0_fillSum_114 : decode cX0_fillSum 114 = .ok (.imul, 1) := by decide +kernel
theorem dX0_fillSum_115 : decode cX0_fillSum 115 = .ok (.aload_n 0, 1) := by decide +kernel
theorem dX0_fillSum_116 : decode cX0_fillSum 116 = .ok (.getfield 15, 3) := by decide +kernel
theorem dX0_fillSum_119 : decode cX0_fillSum 119 = .ok (.iload 7, 2) := by decide +kernel
theorem dX0_fillSum_121 : decode cX0_fillSum 121 = .ok (.iaload, 1) := by decide +kernel
theorem dX0_fillSum_122 : decode cX0_fillSum 122 = .ok (.iadd, 1) := by decide +kernel
theorem dX0_fillSum_123 : decode cX0_fillSum 123 = .ok (.istore 8, 2) := by decide +kernel
theorem dX0_fillSum_125 : decode cX0_fillSum 125 = .ok (.aload_n 2, 1) := by decide +kernel
theorem dX0_fillSum_126 : decode cX0_fillSum 126 = .ok (.iload 8, 2) := by decide +kernel
theorem dX0_fillSum_128 : decode cX0_fillSum 128 = .ok (.aload_n 2, 1) := by decide +kernel
theorem dX0_fillSum_129 : decode cX0_fillSum 129 = .ok (.iload 8, 2) := by decide +kernel
theorem dX0_fillSum_131 : decode cX0_fillSum 131 = .ok (.iaload, 1) := by decide +kernel
theorem dX0_fillSum_132 : decode cX0_fillSum 132 = .ok (.iload 6, 2) := by decide +kernel
theorem dX0_fillSum_134 : decode cX0_fillSum 134 = .ok (.ifCond .eq 10, 3) := by decide +kernel
theorem dX0_fillSum_137 : decode cX0_fillSum 137 = .ok (.aload_n 1, 1) := by decide +kernel
theorem dX0_fillSum_138 : decode cX0_fillSum 138 = .ok (.getfield 78, 3) := by decide +kernel
theorem dX0_fillSum_141 : decode cX0_fillSum 141 = .ok (.goto 10, 3) := by decide +kernel
theorem dX0_fillSum_144 : decode cX0_fillSum 144 = .ok (.aload_n 0, 1) := by decide +kernel
theorem dX0_fillSum_145 : decode cX0_fillSum 145 = .ok (.getfield 18, 3) := by decide +kernel
theorem dX0_fillSum_148 : decode cX0_fillSum 148 = .ok (.iload 7, 2) := by decide +kernel
theorem dX0_fillSum_150 : decode cX0_fillSum 150 = .ok (.iaload, 1) := by decide +kernel
theorem dX0_fillSum_151 : decode cX0_fillSum 151 = .ok (.iadd, 1) := by decide +kernel
theorem dX0_fillSum_152 : decode cX0_fillSum 152 = .ok (.aload_n 1, 1) := by decide +kernel
theorem dX0_fillSum_153 : decode cX0_fillSum 153 = .ok (.getfield 31, 3) := by decide +kernel
theorem dX0_fillSum_156 : decode cX0_fillSum 156 = .ok (.invokestatic 64, 3) := by decide +kernel
theorem dX0_fillSum_159 : decode cX0_fillSum 159 = .ok (.iastore, 1) := by decide +kernel
theorem dX0_fillSum_160 : decode cX0_fillSum 160 = .ok (.iinc 4 1, 3) := by decide +kernel
theorem dX0_fillSum_163 : decode cX0_fillSum 163 = .ok (.goto (-119), 3) := by decide +kernel
theorem dX0_fillSum_166 : decode cX0_fillSum 166 = .ok (.iinc 3 1, 3) := by decide +kernel
theorem dX0_fillSum_169 : decode cX0_fillSum 169 = .ok (.goto (-136), 3) := by decide +kernel
theorem dX0_fillSum_172 : decode cX0_fillSum 172 = .ok (.return_, 1) := by decide +kernel
theorem dX1_init_0 : decode cX1_init 0 = .ok (.aload_n 0, 1) := by decide +kernel
theorem dX1_init_1 : decode cX1_init 1 = .ok (.invokespecial 3, 3) := by decide +kernel
theorem dX1_init_4 : decode cX1_init 4 = .ok (.aload_n 0, 1) := by decide +kernel
theorem dX1_init_5 : decode cX1_init 5 = .ok (.bipush 97, 2) := by decide +kernel
theorem dX1_init_7 : decode cX1_init 7 = .ok (.newarray .int, 2) := by decide +kernel
theorem dX1_init_9 : decode cX1_init 9 = .ok (.putfield 9, 3) := by decide +kernel
theorem dX1_init_12 : decode cX1_init 12 = .ok (.aload_n 0, 1) := by decide +kernel
theorem dX1_init_13 : decode cX1_init 13 = .ok (.bipush 97, 2) := by decide +kernel
theorem dX1_init_15 : decode cX1_init 15 = .ok (.newarray .int, 2) := by decide +kernel
theorem dX1_init_17 : decode cX1_init 17 = .ok (.putfield 15, 3) := by decide +kernel
theorem dX1_init_20 : decode cX1_init 20 = .ok (.aload_n 0, 1) := by decide +kernel
theorem dX1_init_21 : decode cX1_init 21 = .ok (.bipush 97, 2) := by decide +kernel
theorem dX1_init_23 : decode cX1_init 23 = .ok (.newarray .int, 2) := by decide +kernel
theorem dX1_init_25 : decode cX1_init 25 = .ok (.putfield 18, 3) := by decide +kernel
theorem dX1_init_28 : decode cX1_init 28 = .ok (.aload_n 0, 1) := by decide +kernel
theorem dX1_init_29 : decode cX1_init 29 = .ok (.sipush 256, 3) := by decide +kernel
theorem dX1_init_32 : decode cX1_init 32 = .ok (.newarray .int, 2) := by decide +kernel
theorem dX1_init_34 : decode cX1_init 34 = .ok (.putfield 21, 3) := by decide +kernel
theorem dX1_init_37 : decode cX1_init 37 = .ok (.aload_n 0, 1) := by decide +kernel
theorem dX1_init_38 : decode cX1_init 38 = .ok (.new 24, 3) := by decide +kernel
theorem dX1_init_41 : decode cX1_init 41 = .ok (.dup, 1) := by decide +kernel
theorem dX1_init_42 : decode cX1_init 42 = .ok (.invokespecial 26, 3) := by decide +kernel
theorem dX1_init_45 : decode cX1_init 45 = .ok (.putfield 27, 3) := by decide +kernel
theorem dX1_init_48 : decode cX1_init 48 = .ok (.aload_n 0, 1) := by decide +kernel
theorem dX1_init_49 : decode cX1_init 49 = .ok (.iconst (-1), 1) := by decide +kernel
theorem dX1_init_50 : decode cX1_init 50 = .ok (.putfield 31, 3) := by decide +kernel
theorem dX1_init_53 : decode cX1_init 53 = .ok (.aload_n 0, 1) := by decide +kernel
theorem dX1_init_54 : decode cX1_init 54 = .ok (.iconst 0, 1) := by decide +kernel
theorem dX1_init_55 : decode cX1_init 55 = .ok (.putfield 35, 3) := by decide +kernel
theorem dX1_init_58 : decode cX1_init 58 = .ok (.aload_n 0, 1) := by decide +kernel
theorem dX1_init_59 : decode cX1_init 59 = .ok (.iconst 0, 1) := by decide +kernel
theorem dX1_init_60 : decode cX1_init 60 = .ok (.putfield 39, 3) := by decide +kernel
theorem dX1_init_63 : decode cX1_init 63 = .ok (.aload_n 0, 1) := by decide +kernel
theorem dX1_init_64 : decode cX1_init 64 = .ok (.iconst (-1), 1) := by decide +kernel
theorem dX1_init_65 : decode cX1_init 65 = .ok (.putfield 42, 3) := by decide +kernel
theorem dX1_init_68 : decode cX1_init 68 = .ok (.aload_n 0, 1) := by decide +kernel
theorem dX1_init_69 : decode cX1_init 69 = .ok (.iconst (-1), 1) := by decide +kernel
theorem dX1_init_70 : decode cX1_init 70 = .ok (.putfield 45, 3) := by decide +kernel
theorem dX1_init_73 : decode cX1_init 73 = .ok (.return_, 1) := by decide +kernel
theorem dX1_look_0 : decode cX1_look 0 = .ok (.aload_n 0, 1) := by decide +kernel
theorem dX1_look_1 : decode cX1_look 1 = .ok (.getfield 31, 3) := by decide +kernel
theorem dX1_look_4 : decode cX1_look 4 = .ok (.aload_n 2, 1) := by decide +kernel
theorem dX1_look_5 : decode cX1_look 5 = .ok (.getfield 48, 3) := by decide +kernel
theorem dX1_look_8 : decode cX1_look 8 = .ok (.if_icmp .ne 15, 3) := by decide +kernel
theorem dX1_look_11 : decode cX1_look 11 = .ok (.aload_n 0, 1) := by decide +kernel
theorem dX1_look_12 : decode cX1_look 12 = .ok (.getfield 27, 3) := by decide +kernel
theorem dX1_look_15 : decode cX1_look 15 = .ok (.aload_n 1, 1) := by decide +kernel
theorem dX1_look_16 : decode cX1_look 16 = .ok (.invokevirtual 53, 3) := by decide +kernel
theorem dX1_look_19 : decode cX1_look 19 = .ok (.ifCond .eq 4, 3) := by decide +kernel
theorem dX1_look_22 : decode cX1_look 22 = .ok (.return_, 1) := by decide +kernel
theorem dX1_look_23 : decode cX1_look 23 = .ok (.aload_n 0, 1) := by decide +kernel
theorem dX1_look_24 : decode cX1_look 24 = .ok (.aload_n 2, 1) := by decide +kernel
theorem dX1_look_25 : decode cX1_look 25 = .ok (.getfield 48, 3) := by decide +kernel
theorem dX1_look_28 : decode cX1_look 28 = .ok (.putfield 31, 3) := by decide +kernel
theorem dX1_look_31 : decode cX1_look 31 = .ok (.aload_n 0, 1) := by decide +kernel
theorem dX1_look_32 : decode cX1_look 32 = .ok (.getfield 27, 3) := by decide +kernel
theorem dX1_look_35 : decode cX1_look 35 = .ok (.aload_n 1, 1) := by decide +kernel
theorem dX1_look_36 : decode cX1_look 36 = .ok (.invokevirtual 57, 3) := by decide +kernel
theorem dX1_look_39 : decode cX1_look 39 = .ok (.aload_n 0, 1) := by decide +kernel
theorem dX1_look_40 : decode cX1_look 40 = .ok (.iconst 0, 1) := by decide +kernel
theorem dX1_look_41 : decode cX1_look 41 = .ok (.putfield 35, 3) := by decide +kernel
theorem dX1_look_44 : decode cX1_look 44 = .ok (.iconst 0, 1) := by decide +kernel
theorem dX1_look_45 : decode cX1_look 45 = .ok (.istore_n 3, 1) := by decide +kernel
theorem dX1_look_46 : decode cX1_look 46 = .ok (.iload_n 3, 1) := by decide +kernel
theorem dX1_look_47 : decode cX1_look 47 = .ok (.aload_n 1, 1) := by decide +kernel
theorem dX1_look_48 : decode cX1_look 48 = .ok (.getfield 61, 3) := by decide +kernel
theorem dX1_look_51 : decode cX1_look 51 = .ok (.if_icmp .ge 54, 3) := by decide +kernel
theorem dX1_look_54 : decode cX1_look 54 = .ok (.iload_n 3, 1) := by decide +kernel
theorem dX1_look_55 : decode cX1_look 55 = .ok (.bipush 97, 2) := by decide +kernel
theorem dX1_look_57 : decode cX1_look 57 = .ok (.if_icmp .ge 48, 3) := by decide +kernel
theorem dX1_look_60 : decode cX1_look 60 = .ok (.aload_n 0, 1) := by decide +kernel
theorem dX1_look_61 : decode cX1_look 61 = .ok (.getfield 9, 3) := by decide +kernel
theorem dX1_look_64 : decode cX1_look 64 = .ok (.iload_n 3, 1) := by decide +kernel
theorem dX1_look_65 : decode cX1_look 65 = .ok (.aload_n 2, 1) := by decide +kernel
theorem dX1_look_66 : decode cX1_look 66 = .ok (.iconst 0, 1) := by decide +kernel
theorem dX1_look_67 : decode cX1_look 67 = .ok (.iload_n 3, 1) := by decide +kernel
theorem dX1_look_68 : decode cX1_look 68 = .ok (.aload_n 1, 1) := by decide +kernel
theorem dX1_look_69 : decode cX1_look 69 = .ok (.invokevirtual 64, 3) := by decide +kernel
theorem dX1_look_72 : decode cX1_look 72 = .ok (.iastore, 1) := by decide +kernel
theorem dX1_look_73 : decode cX1_look 73 = .ok (.aload_n 0, 1) := by decide +kernel
theorem dX1_look_74 : decode cX1_look 74 = .ok (.getfield 15, 3) := by decide +kernel
theorem dX1_look_77 : decode cX1_look 77 = .ok (.iload_n 3, 1) := by decide +kernel
theorem dX1_look_78 : decode cX1_look 78 = .ok (.aload_n 2, 1) := by decide +kernel
theorem dX1_look_79 : decode cX1_look 79 = .ok (.iconst 1, 1) := by decide +kernel
theorem dX1_look_80 : decode cX1_look 80 = .ok (.iload_n 3, 1) := by decide +kernel
theorem dX1_look_81 : decode cX1_look 81 = .ok (.aload_n 1, 1) := by decide +kernel
theorem dX1_look_82 : decode cX1_look 82 = .ok (.invokevirtual 64, 3) := by decide +kernel
theorem dX1_look_85 : decode cX1_look 85 = .ok (.iastore, 1) := by decide +kernel
theorem dX1_look_86 : decode cX1_look 86 = .ok (.aload_n 0, 1) := by decide +kernel
theorem dX1_look_87 : decode cX1_look 87 = .ok (.getfield 18, 3) := by decide +kernel
theorem dX1_look_90 : decode cX1_look 90 = .ok (.iload_n 3, 1) := by decide +kernel
theorem dX1_look_91 : decode cX1_look 91 = .ok (.aload_n 2, 1) := by decide +kernel
theorem dX1_look_92 : decode cX1_look 92 = .ok (.iconst 2, 1) := by decide +kernel
theorem dX1_look_93 : decode cX1_look 93 = .ok (.iload_n 3, 1) := by decide +kernel
theorem dX1_look_94 : decode cX1_look 94 = .ok (.aload_n 1, 1) := by decide +kernel
theorem dX1_look_95 : decode cX1_look 95 = .ok (.invokevirtual 64, 3) := by decide +kernel
theorem dX1_look_98 : decode cX1_look 98 = .ok (.iastore, 1) := by decide +kernel
theorem dX1_look_99 : decode cX1_look 99 = .ok (.iinc 3 1, 3) := by decide +kernel
theorem dX1_look_102 : decode cX1_look 102 = .ok (.goto (-56), 3) := by decide +kernel
theorem dX1_look_105 : decode cX1_look 105 = .ok (.return_, 1) := by decide +kernel
theorem dX1_askAllPairs_0 : decode cX1_askAllPairs 0 = .ok (.aload_n 0, 1) := by decide +kernel
theorem dX1_askAllPairs_1 : decode cX1_askAllPairs 1 = .ok (.getfield 35, 3) := by decide +kernel
theorem dX1_askAllPairs_4 : decode cX1_askAllPairs 4 = .ok (.ifCond .eq 4, 3) := by decide +kernel
theorem dX1_askAllPairs_7 : decode cX1_askAllPairs 7 = .ok (.return_, 1) := by decide +kernel
theorem dX1_askAllPairs_8 : decode cX1_askAllPairs 8 = .ok (.aload_n 0, 1) := by decide +kernel
theorem dX1_askAllPairs_9 : decode cX1_askAllPairs 9 = .ok (.iconst 1, 1) := by decide +kernel
theorem dX1_askAllPairs_10 : decode cX1_askAllPairs 10 = .ok (.putfield 35, 3) := by decide +kernel
theorem dX1_askAllPairs_13 : decode cX1_askAllPairs 13 = .ok (.aload_n 0, 1) := by decide +kernel
theorem dX1_askAllPairs_14 : decode cX1_askAllPairs 14 = .ok (.iconst 0, 1) := by decide +kernel
theorem dX1_askAllPairs_15 : decode cX1_askAllPairs 15 = .ok (.putfield 39, 3) := by decide +kernel
theorem dX1_askAllPairs_18 : decode cX1_askAllPairs 18 = .ok (.aload_n 0, 1) := by decide +kernel
theorem dX1_askAllPairs_19 : decode cX1_askAllPairs 19 = .ok (.iconst (-1), 1) := by decide +kernel
theorem dX1_askAllPairs_20 : decode cX1_askAllPairs 20 = .ok (.putfield 42, 3) := by decide +kernel
theorem dX1_askAllPairs_23 : decode cX1_askAllPairs 23 = .ok (.aload_n 0, 1) := by decide +kernel
theorem dX1_askAllPairs_24 : decode cX1_askAllPairs 24 = .ok (.iconst (-1), 1) := by decide +kernel
theorem dX1_askAllPairs_25 : decode cX1_askAllPairs 25 = .ok (.putfield 45, 3) := by decide +kernel
theorem dX1_askAllPairs_28 : decode cX1_askAllPairs 28 = .ok (.iconst 0, 1) := by decide +kernel
theorem dX1_askAllPairs_29 : decode cX1_askAllPairs 29 = .ok (.istore_n 1, 1) := by decide +kernel
theorem dX1_askAllPairs_30 : decode cX1_askAllPairs 30 = .ok (.iload_n 1, 1) := by decide +kernel
theorem dX1_askAllPairs_31 : decode cX1_askAllPairs 31 = .ok (.aload_n 0, 1) := by decide +kernel
theorem dX1_askAllPairs_32 : decode cX1_askAllPairs 32 = .ok (.getfield 27, 3) := by decide +kernel
theorem dX1_askAllPairs_35 : decode cX1_askAllPairs 35 = .ok (.getfield 61, 3) := by decide +kernel
theorem dX1_askAllPairs_38 : decode cX1_askAllPairs 38 = .ok (.if_icmp .ge 80, 3) := by decide +kernel
theorem dX1_askAllPairs_41 : decode cX1_askAllPairs 41 = .ok (.iload_n 1, 1) := by decide +kernel
theorem dX1_askAllPairs_42 : decode cX1_askAllPairs 42 = .ok (.bipush 97, 2) := by decide +kernel
theorem dX1_askAllPairs_44 : decode cX1_askAllPairs 44 = .ok (.if_icmp .ge 74, 3) := by decide +kernel
theorem dX1_askAllPairs_47 : decode cX1_askAllPairs 47 = .ok (.iconst 0, 1) := by decide +kernel
theorem dX1_askAllPairs_48 : decode cX1_askAllPairs 48 = .ok (.istore_n 2, 1) := by decide +kernel
theorem dX1_askAllPairs_49 : decode cX1_askAllPairs 49 = .ok (.iload_n 2, 1) := by decide +kernel
theorem dX1_askAllPairs_50 : decode cX1_askAllPairs 50 = .ok (.aload_n 0, 1) := by decide +kernel
theorem dX1_askAllPairs_51 : decode cX1_askAllPairs 51 = .ok (.getfield 27, 3) := by decide +kernel
theorem dX1_askAllPairs_54 : decode cX1_askAllPairs 54 = .ok (.getfield 61, 3) := by decide +kernel
theorem dX1_askAllPairs_57 : decode cX1_askAllPairs 57 = .ok (.if_icmp .ge 55, 3) := by decide +kernel
theorem dX1_askAllPairs_60 : decode cX1_askAllPairs 60 = .ok (.iload_n 2, 1) := by decide +kernel
theorem dX1_askAllPairs_61 : decode cX1_askAllPairs 61 = .ok (.bipush 97, 2) := by decide +kernel
theorem dX1_askAllPairs_63 : decode cX1_askAllPairs 63 = .ok (.if_icmp .ge 49, 3) := by decide +kernel
theorem dX1_askAllPairs_66 : decode cX1_askAllPairs 66 = .ok (.aload_n 0, 1) := by decide +kernel
theorem dX1_askAllPairs_67 : decode cX1_askAllPairs 67 = .ok (.iload_n 1, 1) := by decide +kernel
theorem dX1_askAllPairs_68 : decode cX1_askAllPairs 68 = .ok (.iload_n 2, 1) := by decide +kernel
theorem dX1_askAllPairs_69 : decode cX1_askAllPairs 69 = .ok (.invokevirtual 68, 3) := by decide +kernel
theorem dX1_askAllPairs_72 : decode cX1_askAllPairs 72 = .ok (.ifCond .eq 16, 3) := by decide +kernel
theorem dX1_askAllPairs_75 : decode cX1_askAllPairs 75 = .ok (.aload_n 0, 1) := by decide +kernel
theorem dX1_askAllPairs_76 : decode cX1_askAllPairs 76 = .ok (.dup, 1) := by decide +kernel
theorem dX1_askAllPairs_77 : decode cX1_askAllPairs 77 = .ok (.getfield 39, 3) := by decide +kernel
theorem dX1_askAllPairs_80 : decode cX1_askAllPairs 80 = .ok (.iconst 1, 1) := by decide +kernel
theorem dX1_askAllPairs_81 : decode cX1_askAllPairs 81 = .ok (.iadd, 1) := by decide +kernel
theorem dX1_askAllPairs_82 : decode cX1_askAllPairs 82 = .ok (.putfield 39, 3) := by decide +kernel
theorem dX1_askAllPairs_85 : decode cX1_askAllPairs 85 = .ok (.goto 21, 3) := by decide +kernel
theorem dX1_askAllPairs_88 : decode cX1_askAllPairs 88 = .ok (.aload_n 0, 1) := by decide +kernel
theorem dX1_askAllPairs_89 : decode cX1_askAllPairs 89 = .ok (.getfield 42, 3) := by decide +kernel
theorem dX1_askAllPairs_92 : decode cX1_askAllPairs 92 = .ok (.iconst (-1), 1) := by decide +kernel
theorem dX1_askAllPairs_93 : decode cX1_askAllPairs 93 = .ok (.if_icmp .ne 13, 3) := by decide +kernel
theorem dX1_askAllPairs_96 : decode cX1_askAllPairs 96 = .ok (.aload_n 0, 1) := by decide +kernel
theorem dX1_askAllPairs_97 : decode cX1_askAllPairs 97 = .ok (.iload_n 1, 1) := by decide +kernel
theorem dX1_askAllPairs_98 : decode cX1_askAllPairs 98 = .ok (.putfield 42, 3) := by decide +kernel
theorem dX1_askAllPairs_101 : decode cX1_askAllPairs 101 = .ok (.aload_n 0, 1) := by decide +kernel
theorem dX1_askAllPairs_102 : decode cX1_askAllPairs 102 = .ok (.iload_n 2, 1) := by decide +kernel
theorem dX1_askAllPairs_103 : decode cX1_askAllPairs 103 = .ok (.putfield 45, 3) := by decide +kernel
theorem dX1_askAllPairs_106 : decode cX1_askAllPairs 106 = .ok (.iinc 2 1, 3) := by decide +kernel
theorem dX1_askAllPairs_109 : decode cX1_askAllPairs 109 = .ok (.goto (-60), 3) := by decide +kernel
theorem dX1_askAllPairs_112 : decode cX1_askAllPairs 112 = .ok (.iinc 1 1, 3) := by decide +kernel
theorem dX1_askAllPairs_115 : decode cX1_askAllPairs 115 = .ok (.goto (-85), 3) := by decide +kernel
theorem dX1_askAllPairs_118 : decode cX1_askAllPairs 118 = .ok (.return_, 1) := by decide +kernel
theorem dX1_holds_0 : decode cX1_holds 0 = .ok (.iload_n 1, 1) := by decide +kernel
theorem dX1_holds_1 : decode cX1_holds 1 = .ok (.iload_n 2, 1) := by decide +kernel
theorem dX1_holds_2 : decode cX1_holds 2 = .ok (.if_icmp .lt 9, 3) := by decide +kernel
theorem dX1_holds_5 : decode cX1_holds 5 = .ok (.iload_n 1, 1) := by decide +kernel
theorem dX1_holds_6 : decode cX1_holds 6 = .ok (.iload_n 2, 1) := by decide +kernel
theorem dX1_holds_7 : decode cX1_holds 7 = .ok (.isub, 1) := by decide +kernel
theorem dX1_holds_8 : decode cX1_holds 8 = .ok (.goto 14, 3) := by decide +kernel
theorem dX1_holds_11 : decode cX1_holds 11 = .ok (.iload_n 1, 1) := by decide +kernel
theorem dX1_holds_12 : decode cX1_holds 12 = .ok (.iload_n 2, 1) := by decide +kernel
theorem dX1_holds_13 : decode cX1_holds 13 = .ok (.isub, 1) := by decide +kernel
theorem dX1_holds_14 : decode cX1_holds 14 = .ok (.aload_n 0, 1) := by decide +kernel
theorem dX1_holds_15 : decode cX1_holds 15 = .ok (.getfield 27, 3) := by decide +kernel
theorem dX1_holds_18 : decode cX1_holds 18 = .ok (.getfield 61, 3) := by decide +kernel
theorem dX1_holds_21 : decode cX1_holds 21 = .ok (.iadd, 1) := by decide +kernel
theorem dX1_holds_22 : decode cX1_holds 22 = .ok (.istore_n 3, 1) := by decide +kernel
theorem dX1_holds_23 : decode cX1_holds 23 = .ok (.aload_n 0, 1) := by decide +kernel
theorem dX1_holds_24 : decode cX1_holds 24 = .ok (.getfield 27, 3) := by decide +kernel
theorem dX1_holds_27 : decode cX1_holds 27 = .ok (.getfield 61, 3) := by decide +kernel
theorem dX1_holds_30 : decode cX1_holds 30 = .ok (.istore 4, 2) := by decide +kernel
theorem dX1_holds_32 : decode cX1_holds 32 = .ok (.aload_n 0, 1) := by decide +kernel
theorem dX1_holds_33 : decode cX1_holds 33 = .ok (.getfield 9, 3) := by decide +kernel
theorem dX1_holds_36 : decode cX1_holds 36 = .ok (.iload_n 2, 1) := by decide +kernel
theorem dX1_holds_37 : decode cX1_holds 37 = .ok (.iaload, 1) := by decide +kernel
theorem dX1_holds_38 : decode cX1_holds 38 = .ok (.aload_n 0, 1) := by decide +kernel
theorem dX1_holds_39 : decode cX1_holds 39 = .ok (.getfield 15, 3) := by decide +kernel
theorem dX1_holds_42 : decode cX1_holds 42 = .ok (.iload_n 1, 1) := by decide +kernel
theorem dX1_holds_43 : decode cX1_holds 43 = .ok (.iaload, 1) := by decide +kernel
theorem dX1_holds_44 : decode cX1_holds 44 = .ok (.imul, 1) := by decide +kernel
theorem dX1_holds_45 : decode cX1_holds 45 = .ok (.aload_n 0, 1) := by decide +kernel
theorem dX1_holds_46 : decode cX1_holds 46 = .ok (.getfield 18, 3) := by decide +kernel
theorem dX1_holds_49 : decode cX1_holds 49 = .ok (.iload_n 3, 1) := by decide +kernel
theorem dX1_holds_50 : decode cX1_holds 50 = .ok (.iaload, 1) := by decide +kernel
theorem dX1_holds_51 : decode cX1_holds 51 = .ok (.imul, 1) := by decide +kernel
theorem dX1_holds_52 : decode cX1_holds 52 = .ok (.aload_n 0, 1) := by decide +kernel
theorem dX1_holds_53 : decode cX1_holds 53 = .ok (.getfield 15, 3) := by decide +kernel
theorem dX1_holds_56 : decode cX1_holds 56 = .ok (.iload_n 2, 1) := by decide +kernel
theorem dX1_holds_57 : decode cX1_holds 57 = .ok (.iaload, 1) := by decide +kernel
theorem dX1_holds_58 : decode cX1_holds 58 = .ok (.aload_n 0, 1) := by decide +kernel
theorem dX1_holds_59 : decode cX1_holds 59 = .ok (.getfield 9, 3) := by decide +kernel
theorem dX1_holds_62 : decode cX1_holds 62 = .ok (.iload_n 1, 1) := by decide +kernel
theorem dX1_holds_63 : decode cX1_holds 63 = .ok (.iaload, 1) := by decide +kernel
theorem dX1_holds_64 : decode cX1_holds 64 = .ok (.imul, 1) := by decide +kernel
theorem dX1_holds_65 : decode cX1_holds 65 = .ok (.aload_n 0, 1) := by decide +kernel
theorem dX1_holds_66 : decode cX1_holds 66 = .ok (.getfield 18, 3) := by decide +kernel
theorem dX1_holds_69 : decode cX1_holds 69 = .ok (.iload_n 3, 1) := by decide +kernel
theorem dX1_holds_70 : decode cX1_holds 70 = .ok (.iaload, 1) := by decide +kernel
theorem dX1_holds_71 : decode cX1_holds 71 = .ok (.imul, 1) := by decide +kernel
theorem dX1_holds_72 : decode cX1_holds 72 = .ok (.isub, 1) := by decide +kernel
theorem dX1_holds_73 : decode cX1_holds 73 = .ok (.aload_n 0, 1) := by decide +kernel
theorem dX1_holds_74 : decode cX1_holds 74 = .ok (.getfield 18, 3) := by decide +kernel
theorem dX1_holds_77 : decode cX1_holds 77 = .ok (.iload_n 2, 1) := by decide +kernel
theorem dX1_holds_78 : decode cX1_holds 78 = .ok (.iaload, 1) := by decide +kernel
theorem dX1_holds_79 : decode cX1_holds 79 = .ok (.aload_n 0, 1) := by decide +kernel
theorem dX1_holds_80 : decode cX1_holds 80 = .ok (.getfield 18, 3) := by decide +kernel
theorem dX1_holds_83 : decode cX1_holds 83 = .ok (.iload_n 1, 1) := by decide +kernel
theorem dX1_holds_84 : decode cX1_holds 84 = .ok (.iaload, 1) := by decide +kernel
theorem dX1_holds_85 : decode cX1_holds 85 = .ok (.imul, 1) := by decide +kernel
theorem dX1_holds_86 : decode cX1_holds 86 = .ok (.aload_n 0, 1) := by decide +kernel
theorem dX1_holds_87 : decode cX1_holds 87 = .ok (.getfield 15, 3) := by decide +kernel
theorem dX1_holds_90 : decode cX1_holds 90 = .ok (.iload_n 3, 1) := by decide +kernel
theorem dX1_holds_91 : decode cX1_holds 91 = .ok (.iaload, 1) := by decide +kernel
theorem dX1_holds_92 : decode cX1_holds 92 = .ok (.imul, 1) := by decide +kernel
theorem dX1_holds_93 : decode cX1_holds 93 = .ok (.isub, 1) := by decide +kernel
theorem dX1_holds_94 : decode cX1_holds 94 = .ok (.istore 5, 2) := by decide +kernel
theorem dX1_holds_96 : decode cX1_holds 96 = .ok (.aload_n 0, 1) := by decide +kernel
theorem dX1_holds_97 : decode cX1_holds 97 = .ok (.getfield 9, 3) := by decide +kernel
theorem dX1_holds_100 : decode cX1_holds 100 = .ok (.iload_n 2, 1) := by decide +kernel
theorem dX1_holds_101 : decode cX1_holds 101 = .ok (.iaload, 1) := by decide +kernel
theorem dX1_holds_102 : decode cX1_holds 102 = .ok (.aload_n 0, 1) := by decide +kernel
theorem dX1_holds_103 : decode cX1_holds 103 = .ok (.getfield 18, 3) := by decide +kernel
theorem dX1_holds_106 : decode cX1_holds 106 = .ok (.iload_n 1, 1) := by decide +kernel
theorem dX1_holds_107 : decode cX1_holds 107 = .ok (.iaload, 1) := by decide +kernel
theorem dX1_holds_108 : decode cX1_holds 108 = .ok (.imul, 1) := by decide +kernel
theorem dX1_holds_109 : decode cX1_holds 109 = .ok (.aload_n 0, 1) := by decide +kernel
theorem dX1_holds_110 : decode cX1_holds 110 = .ok (.getfield 9, 3) := by decide +kernel
theorem dX1_holds_113 : decode cX1_holds 113 = .ok (.iload_n 3, 1) := by decide +kernel
theorem dX1_holds_114 : decode cX1_holds 114 = .ok (.iaload, 1) := by decide +kernel
theorem dX1_holds_115 : decode cX1_holds 115 = .ok (.imul, 1) := by decide +kernel
theorem dX1_holds_116 : decode cX1_holds 116 = .ok (.aload_n 0, 1) := by decide +kernel
theorem dX1_holds_117 : decode cX1_holds 117 = .ok (.getfield 18, 3) := by decide +kernel
theorem dX1_holds_120 : decode cX1_holds 120 = .ok (.iload_n 2, 1) := by decide +kernel
theorem dX1_holds_121 : decode cX1_holds 121 = .ok (.iaload, 1) := by decide +kernel
theorem dX1_holds_122 : decode cX1_holds 122 = .ok (.aload_n 0, 1) := by decide +kernel
theorem dX1_holds_123 : decode cX1_holds 123 = .ok (.getfield 9, 3) := by decide +kernel
theorem dX1_holds_126 : decode cX1_holds 126 = .ok (.iload_n 1, 1) := by decide +kernel
theorem dX1_holds_127 : decode cX1_holds 127 = .ok (.iaload, 1) := by decide +kernel
theorem dX1_holds_128 : decode cX1_holds 128 = .ok (.imul, 1) := by decide +kernel
theorem dX1_holds_129 : decode cX1_holds 129 = .ok (.aload_n 0, 1) := by decide +kernel
theorem dX1_holds_130 : decode cX1_holds 130 = .ok (.getfield 18, 3) := by decide +kernel
theorem dX1_holds_133 : decode cX1_holds 133 = .ok (.iload_n 3, 1) := by decide +kernel
theorem dX1_holds_134 : decode cX1_holds 134 = .ok (.iaload, 1) := by decide +kernel
theorem dX1_holds_135 : decode cX1_holds 135 = .ok (.imul, 1) := by decide +kernel
theorem dX1_holds_136 : decode cX1_holds 136 = .ok (.isub, 1) := by decide +kernel
theorem dX1_holds_137 : decode cX1_holds 137 = .ok (.aload_n 0, 1) := by decide +kernel
theorem dX1_holds_138 : decode cX1_holds 138 = .ok (.getfield 15, 3) := by decide +kernel
theorem dX1_holds_141 : decode cX1_holds 141 = .ok (.iload_n 2, 1) := by decide +kernel
theorem dX1_holds_142 : decode cX1_holds 142 = .ok (.iaload, 1) := by decide +kernel
theorem dX1_holds_143 : decode cX1_holds 143 = .ok (.aload_n 0, 1) := by decide +kernel
theorem dX1_holds_144 : decode cX1_holds 144 = .ok (.getfield 18, 3) := by decide +kernel
theorem dX1_holds_147 : decode cX1_holds 147 = .ok (.iload_n 1, 1) := by decide +kernel
theorem dX1_holds_148 : decode cX1_holds 148 = .ok (.iaload, 1) := by decide +kernel
theorem dX1_holds_149 : decode cX1_holds 149 = .ok (.imul, 1) := by decide +kernel
theorem dX1_holds_150 : decode cX1_holds 150 = .ok (.aload_n 0, 1) := by decide +kernel
theorem dX1_holds_151 : decode cX1_holds 151 = .ok (.getfield 15, 3) := by decide +kernel
theorem dX1_holds_154 : decode cX1_holds 154 = .ok (.iload_n 3, 1) := by decide +kernel
theorem dX1_holds_155 : decode cX1_holds 155 = .ok (.iaload, 1) := by decide +kernel
theorem dX1_holds_156 : decode cX1_holds 156 = .ok (.imul, 1) := by decide +kernel
theorem dX1_holds_157 : decode cX1_holds 157 = .ok (.isub, 1) := by decide +kernel
theorem dX1_holds_158 : decode cX1_holds 158 = .ok (.istore 6, 2) := by decide +kernel
theorem dX1_holds_160 : decode cX1_holds 160 = .ok (.aload_n 0, 1) := by decide +kernel
theorem dX1_holds_161 : decode cX1_holds 161 = .ok (.getfield 18, 3) := by decide +kernel
theorem dX1_holds_164 : decode cX1_holds 164 = .ok (.iload_n 2, 1) := by decide +kernel
theorem dX1_holds_165 : decode cX1_holds 165 = .ok (.iaload, 1) := by decide +kernel
theorem dX1_holds_166 : decode cX1_holds 166 = .ok (.aload_n 0, 1) := by decide +kernel
theorem dX1_holds_167 : decode cX1_holds 167 = .ok (.getfield 15, 3) := by decide +kernel
theorem dX1_holds_170 : decode cX1_holds 170 = .ok (.iload_n 1, 1) := by decide +kernel
theorem dX1_holds_171 : decode cX1_holds 171 = .ok (.iaload, 1) := by decide +kernel
theorem dX1_holds_172 : decode cX1_holds 172 = .ok (.imul, 1) := by decide +kernel
theorem dX1_holds_173 : decode cX1_holds 173 = .ok (.aload_n 0, 1) := by decide +kernel
theorem dX1_holds_174 : decode cX1_holds 174 = .ok (.getfield 9, 3) := by decide +kernel
theorem dX1_holds_177 : decode cX1_holds 177 = .ok (.iload_n 3, 1) := by decide +kernel
theorem dX1_holds_178 : decode cX1_holds 178 = .ok (.iaload, 1) := by decide +kernel
theorem dX1_holds_179 : decode cX1_holds 179 = .ok (.imul, 1) := by decide +kernel
theorem dX1_holds_180 : decode cX1_holds 180 = .ok (.aload_n 0, 1) := by decide +kernel
theorem dX1_holds_181 : decode cX1_holds 181 = .ok (.getfield 18, 3) := by decide +kernel
theorem dX1_holds_184 : decode cX1_holds 184 = .ok (.iload_n 2, 1) := by decide +kernel
theorem dX1_holds_185 : decode cX1_holds 185 = .ok (.iaload, 1) := by decide +kernel
theorem dX1_holds_186 : decode cX1_holds 186 = .ok (.aload_n 0, 1) := by decide +kernel
theorem dX1_holds_187 : decode cX1_holds 187 = .ok (.getfield 9, 3) := by decide +kernel
theorem dX1_holds_190 : decode cX1_holds 190 = .ok (.iload_n 1, 1) := by decide +kernel
theorem dX1_holds_191 : decode cX1_holds 191 = .ok (.iaload, 1) := by decide +kernel
theorem dX1_holds_192 : decode cX1_holds 192 = .ok (.imul, 1) := by decide +kernel
theorem dX1_holds_193 : decode cX1_holds 193 = .ok (.aload_n 0, 1) := by decide +kernel
theorem dX1_holds_194 : decode cX1_holds 194 = .ok (.getfield 15, 3) := by decide +kernel
theorem dX1_holds_197 : decode cX1_holds 197 = .ok (.iload_n 3, 1) := by decide +kernel
theorem dX1_holds_198 : decode cX1_holds 198 = .ok (.iaload, 1) := by decide +kernel
theorem dX1_holds_199 : decode cX1_holds 199 = .ok (.imul, 1) := by decide +kernel
theorem dX1_holds_200 : decode cX1_holds 200 = .ok (.isub, 1) := by decide +kernel
theorem dX1_holds_201 : decode cX1_holds 201 = .ok (.aload_n 0, 1) := by decide +kernel
theorem dX1_holds_202 : decode cX1_holds 202 = .ok (.getfield 15, 3) := by decide +kernel
theorem dX1_holds_205 : decode cX1_holds 205 = .ok (.iload_n 2, 1) := by decide +kernel
theorem dX1_holds_206 : decode cX1_holds 206 = .ok (.iaload, 1) := by decide +kernel
theorem dX1_holds_207 : decode cX1_holds 207 = .ok (.aload_n 0, 1) := by decide +kernel
theorem dX1_holds_208 : decode cX1_holds 208 = .ok (.getfield 18, 3) := by decide +kernel
theorem dX1_holds_211 : decode cX1_holds 211 = .ok (.iload_n 1, 1) := by decide +kernel
theorem dX1_holds_212 : decode cX1_holds 212 = .ok (.iaload, 1) := by decide +kernel
theorem dX1_holds_213 : decode cX1_holds 213 = .ok (.imul, 1) := by decide +kernel
theorem dX1_holds_214 : decode cX1_holds 214 = .ok (.aload_n 0, 1) := by decide +kernel
theorem dX1_holds_215 : decode cX1_holds 215 = .ok (.getfield 18, 3) := by decide +kernel
theorem dX1_holds_218 : decode cX1_holds 218 = .ok (.iload_n 3, 1) := by decide +kernel
theorem dX1_holds_219 : decode cX1_holds 219 = .ok (.iaload, 1) := by decide +kernel
theorem dX1_holds_220 : decode cX1_holds 220 = .ok (.imul, 1) := by decide +kernel
theorem dX1_holds_221 : decode cX1_holds 221 = .ok (.isub, 1) := by decide +kernel
theorem dX1_holds_222 : decode cX1_holds 222 = .ok (.istore 7, 2) := by decide +kernel
theorem dX1_holds_224 : decode cX1_holds 224 = .ok (.iload 5, 2) := by decide +kernel
theorem dX1_holds_226 : decode cX1_holds 226 = .ok (.iload 4, 2) := by decide +kernel
theorem dX1_holds_228 : decode cX1_holds 228 = .ok (.invokestatic 72, 3) := by decide +kernel
theorem dX1_holds_231 : decode cX1_holds 231 = .ok (.ifCond .ne 27, 3) := by decide +kernel
theorem dX1_holds_234 : decode cX1_holds 234 = .ok (.iload 6, 2) := by decide +kernel
theorem dX1_holds_236 : decode cX1_holds 236 = .ok (.iload 4, 2) := by decide +kernel
theorem dX1_holds_238 : decode cX1_holds 238 = .ok (.invokestatic 72, 3) := by decide +kernel
theorem dX1_holds_241 : decode cX1_holds 241 = .ok (.ifCond .ne 17, 3) := by decide +kernel
theorem dX1_holds_244 : decode cX1_holds 244 = .ok (.iload 7, 2) := by decide +kernel
theorem dX1_holds_246 : decode cX1_holds 246 = .ok (.iload 4, 2) := by decide +kernel
theorem dX1_holds_248 : decode cX1_holds 248 = .ok (.invokestatic 72, 3) := by decide +kernel
theorem dX1_holds_251 : decode cX1_holds 251 = .ok (.ifCond .ne 7, 3) := by decide +kernel
theorem dX1_holds_254 : decode cX1_holds 254 = .ok (.iconst 1, 1) := by decide +kernel
theorem dX1_holds_255 : decode cX1_holds 255 = .ok (.goto 4, 3) := by decide +kernel
theorem dX1_holds_258 : decode cX1_holds 258 = .ok (.iconst 0, 1) := by decide +kernel
theorem dX1_holds_259 : decode cX1_holds 259 = .ok (.ireturn, 1) := by decide +kernel
theorem dX1_tableBetween_0 : decode cX1_tableBetween 0 = .ok (.iload_n 2, 1) := by decide +kernel
theorem dX1_tableBetween_1 : decode cX1_tableBetween 1 = .ok (.invokestatic 76, 3) := by decide +kernel
theorem dX1_tableBetween_4 : decode cX1_tableBetween 4 = .ok (.iload_n 3, 1) := by decide +kernel
theorem dX1_tableBetween_5 : decode cX1_tableBetween 5 = .ok (.invokestatic 76, 3) := by decide +kernel
theorem dX1_tableBetween_8 : decode cX1_tableBetween 8 = .ok (.if_icmp .eq 5, 3) := by decide +kernel
theorem dX1_tableBetween_11 : decode cX1_tableBetween 11 = .ok (.iconst 0, 1) := by decide +kernel
theorem dX1_tableBetween_12 : decode cX1_tableBetween 12 = .ok (.ireturn, 1) := by decide +kernel
theorem dX1_tableBetween_13 : decode cX1_tableBetween 13 = .ok (.aload_n 0, 1) := by decide +kernel
theorem dX1_tableBetween_14 : decode cX1_tableBetween 14 = .ok (.iconst 0, 1) := by decide +kernel
theorem dX1_tableBetween_15 : decode cX1_tableBetween 15 = .ok (.iload_n 1, 1) := by decide +kernel
theorem dX1_tableBetween_16 : decode cX1_tableBetween 16 = .ok (.iload_n 2, 1) := by decide +kernel
theorem dX1_tableBetween_17 : decode cX1_tableBetween 17 = .ok (.iload_n 3, 1) := by decide +kernel
theorem dX1_tableBetween_18 : decode cX1_tableBetween 18 = .ok (.invokevirtual 82, 3) := by decide +kernel
theorem dX1_tableBetween_21 : decode cX1_tableBetween 21 = .ok (.aload_n 0, 1) := by decide +kernel
theorem dX1_tableBetween_22 : decode cX1_tableBetween 22 = .ok (.iconst 1, 1) := by decide +kernel
theorem dX1_tableBetween_23 : decode cX1_tableBetween 23 = .ok (.iload_n 1, 1) := by decide +kernel
theorem dX1_tableBetween_24 : decode cX1_tableBetween 24 = .ok (.iload_n 2, 1) := by decide +kernel
theorem dX1_tableBetween_25 : decode cX1_tableBetween 25 = .ok (.iload_n 3, 1) := by decide +kernel
theorem dX1_tableBetween_26 : decode cX1_tableBetween 26 = .ok (.invokevirtual 82, 3) := by decide +kernel
theorem dX1_tableBetween_29 : decode cX1_tableBetween 29 = .ok (.iadd, 1) := by decide +kernel
theorem dX1_tableBetween_30 : decode cX1_tableBetween 30 = .ok (.aload_n 0, 1) := by decide +kernel
theorem dX1_tableBetween_31 : decode cX1_tableBetween 31 = .ok (.getfield 27, 3) := by decide +kernel
theorem dX1_tableBetween_34 : decode cX1_tableBetween 34 = .ok (.getfield 61, 3) := by decide +kernel
theorem dX1_tableBetween_37 : decode cX1_tableBetween 37 = .ok (.invokestatic 72, 3) := by decide +kernel
theorem dX1_tableBetween_40 : decode cX1_tableBetween 40 = .ok (.ireturn, 1) := by decide +kernel
theorem dX1_wayBetween_0 : decode cX1_wayBetween 0 = .ok (.iload_n 1, 1) := by decide +kernel
theorem dX1_wayBetween_1 : decode cX1_wayBetween 1 = .ok (.istore 5, 2) := by decide +kernel
theorem dX1_wayBetween_3 : decode cX1_wayBetween 3 = .ok (.iconst 1, 1) := by decide +kernel
theorem dX1_wayBetween_4 : decode cX1_wayBetween 4 = .ok (.istore 6, 2) := by decide +kernel
theorem dX1_wayBetween_6 : decode cX1_wayBetween 6 = .ok (.iconst 0, 1) := by decide +kernel
theorem dX1_wayBetween_7 : decode cX1_wayBetween 7 = .ok (.istore 7, 2) := by decide +kernel
theorem dX1_wayBetween_9 : decode cX1_wayBetween 9 = .ok (.iload 7, 2) := by decide +kernel
theorem dX1_wayBetween_11 : decode cX1_wayBetween 11 = .ok (.aload_n 0, 1) := by decide +kernel
theorem dX1_wayBetween_12 : decode cX1_wayBetween 12 = .ok (.getfield 27, 3) := by decide +kernel
theorem dX1_wayBetween_15 : decode cX1_wayBetween 15 = .ok (.getfield 86, 3) := by decide +kernel
theorem dX1_wayBetween_18 : decode cX1_wayBetween 18 = .ok (.if_icmp .ge 116, 3) := by decide +kernel
theorem dX1_wayBetween_21 : decode cX1_wayBetween 21 = .ok (.iload 6, 2) := by decide +kernel
theorem dX1_wayBetween_23 : decode cX1_wayBetween 23 = .ok (.ifCond .eq 111, 3) := by decide +kernel
theorem dX1_wayBetween_26 : decode cX1_wayBetween 26 = .ok (.iload_n 3, 1) := by decide +kernel
theorem dX1_wayBetween_27 : decode cX1_wayBetween 27 = .ok (.iload 7, 2) := by decide +kernel
theorem dX1_wayBetween_29 : decode cX1_wayBetween 29 = .ok (.ishr, 1) := by decide +kernel
theorem dX1_wayBetween_30 : decode cX1_wayBetween 30 = .ok (.iconst 1, 1) := by decide +kernel
theorem dX1_wayBetween_31 : decode cX1_wayBetween 31 = .ok (.iand, 1) := by decide +kernel
theorem dX1_wayBetween_32 : decode cX1_wayBetween 32 = .ok (.istore 8, 2) := by decide +kernel
theorem dX1_wayBetween_34 : decode cX1_wayBetween 34 = .ok (.iload 4, 2) := by decide +kernel
theorem dX1_wayBetween_36 : decode cX1_wayBetween 36 = .ok (.iload 7, 2) := by decide +kernel
theorem dX1_wayBetween_38 : decode cX1_wayBetween 38 = .ok (.ishr, 1) := by decide +kernel
theorem dX1_wayBetween_39 : decode cX1_wayBetween 39 = .ok (.iconst 1, 1) := by decide +kernel
theorem dX1_wayBetween_40 : decode cX1_wayBetween 40 = .ok (.iand, 1) := by decide +kernel
theorem dX1_wayBetween_41 : decode cX1_wayBetween 41 = .ok (.istore 9, 2) := by decide +kernel
theorem dX1_wayBetween_43 : decode cX1_wayBetween 43 = .ok (.iload 8, 2) := by decide +kernel
theorem dX1_wayBetween_45 : decode cX1_wayBetween 45 = .ok (.iload 9, 2) := by decide +kernel
theorem dX1_wayBetween_47 : decode cX1_wayBetween 47 = .ok (.if_icmp .ne 43, 3) := by decide +kernel
theorem dX1_wayBetween_50 : decode cX1_wayBetween 50 = .ok (.iload 6, 2) := by decide +kernel
theorem dX1_wayBetween_52 : decode cX1_wayBetween 52 = .ok (.iload 8, 2) := by decide +kernel
theorem dX1_wayBetween_54 : decode cX1_wayBetween 54 = .ok (.iload 5, 2) := by decide +kernel
theorem dX1_wayBetween_56 : decode cX1_wayBetween 56 = .ok (.if_icmp .ne 12, 3) := by decide +kernel
theorem dX1_wayBetween_59 : decode cX1_wayBetween 59 = .ok (.aload_n 0, 1) := by decide +kernel
theorem dX1_wayBetween_60 : decode cX1_wayBetween 60 = .ok (.getfield 9, 3) := by decide +kernel
theorem dX1_wayBetween_63 : decode cX1_wayBetween 63 = .ok (.iload_n 2, 1) := by decide +kernel
theorem dX1_wayBetween_64 : decode cX1_wayBetween 64 = .ok (.iaload, 1) := by decide +kernel
theorem dX1_wayBetween_65 : decode cX1_wayBetween 65 = .ok (.goto 9, 3) := by decide +kernel
theorem dX1_wayBetween_68 : decode cX1_wayBetween 68 = .ok (.aload_n 0, 1) := by decide +kernel
theorem dX1_wayBetween_69 : decode cX1_wayBetween 69 = .ok (.getfield 15, 3) := by decide +kernel
theorem dX1_wayBetween_72 : decode cX1_wayBetween 72 = .ok (.iload_n 2, 1) := by decide +kernel
theorem dX1_wayBetween_73 : decode cX1_wayBetween 73 = .ok (.iaload, 1) := by decide +kernel
theorem dX1_wayBetween_74 : decode cX1_wayBetween 74 = .ok (.imul, 1) := by decide +kernel
theorem dX1_wayBetween_75 : decode cX1_wayBetween 75 = .ok (.aload_n 0, 1) := by decide +kernel
theorem dX1_wayBetween_76 : decode cX1_wayBetween 76 = .ok (.getfield 27, 3) := by decide +kernel
theorem dX1_wayBetween_79 : decode cX1_wayBetween 79 = .ok (.getfield 61, 3) := by decide +kernel
theorem dX1_wayBetween_82 : decode cX1_wayBetween 82 = .ok (.invokestatic 72, 3) := by decide +kernel
theorem dX1_wayBetween_85 : decode cX1_wayBetween 85 = .ok (.istore 6, 2) := by decide +kernel
theorem dX1_wayBetween_87 : decode cX1_wayBetween 87 = .ok (.goto 41, 3) := by decide +kernel
theorem dX1_wayBetween_90 : decode cX1_wayBetween 90 = .ok (.iload 8, 2) := by decide +kernel
theorem dX1_wayBetween_92 : decode cX1_wayBetween 92 = .ok (.iload 5, 2) := by decide +kernel
theorem dX1_wayBetween_94 : decode cX1_wayBetween 94 = .ok (.if_icmp .eq 31, 3) := by decide +kernel
theorem dX1_wayBetween_97 : decode cX1_wayBetween 97 = .ok (.iload 6, 2) := by decide +kernel
theorem dX1_wayBetween_99 : decode cX1_wayBetween 99 = .ok (.aload_n 0, 1) := by decide +kernel
theorem dX1_wayBetween_100 : decode cX1_wayBetween 100 = .ok (.getfield 18, 3) := by decide +kernel
theorem dX1_wayBetween_103 : decode cX1_wayBetween 103 = .ok (.iload_n 2, 1) := by decide +kernel
theorem dX1_wayBetween_104 : decode cX1_wayBetween 104 = .ok (.iaload, 1) := by decide +kernel
theorem dX1_wayBetween_105 : decode cX1_wayBetween 105 = .ok (.imul, 1) := by decide +kernel
theorem dX1_wayBetween_106 : decode cX1_wayBetween 106 = .ok (.aload_n 0, 1) := by decide +kernel
theorem dX1_wayBetween_107 : decode cX1_wayBetween 107 = .ok (.getfield 27, 3) := by decide +kernel
theorem dX1_wayBetween_110 : decode cX1_wayBetween 110 = .ok (.getfield 61, 3) := by decide +kernel
theorem dX1_wayBetween_113 : decode cX1_wayBetween 113 = .ok (.invokestatic 72, 3) := by decide +kernel
theorem dX1_wayBetween_116 : decode cX1_wayBetween 116 = .ok (.istore 6, 2) := by decide +kernel
theorem dX1_wayBetween_118 : decode cX1_wayBetween 118 = .ok (.iload 8, 2) := by decide +kernel
theorem dX1_wayBetween_120 : decode cX1_wayBetween 120 = .ok (.istore 5, 2) := by decide +kernel
theorem dX1_wayBetween_122 : decode cX1_wayBetween 122 = .ok (.goto 6, 3) := by decide +kernel
theorem dX1_wayBetween_125 : decode cX1_wayBetween 125 = .ok (.iconst 0, 1) := by decide +kernel
theorem dX1_wayBetween_126 : decode cX1_wayBetween 126 = .ok (.istore 6, 2) := by decide +kernel
theorem dX1_wayBetween_128 : decode cX1_wayBetween 128 = .ok (.iinc 7 1, 3) := by decide +kernel
theorem dX1_wayBetween_131 : decode cX1_wayBetween 131 = .ok (.goto (-122), 3) := by decide +kernel
theorem dX1_wayBetween_134 : decode cX1_wayBetween 134 = .ok (.iload 5, 2) := by decide +kernel
theorem dX1_wayBetween_136 : decode cX1_wayBetween 136 = .ok (.iload_n 1, 1) := by decide +kernel
theorem dX1_wayBetween_137 : decode cX1_wayBetween 137 = .ok (.if_icmp .ne 8, 3) := by decide +kernel
theorem dX1_wayBetween_140 : decode cX1_wayBetween 140 = .ok (.iload 6, 2) := by decide +kernel
theorem dX1_wayBetween_142 : decode cX1_wayBetween 142 = .ok (.goto 4, 3) := by decide +kernel
theorem dX1_wayBetween_145 : decode cX1_wayBetween 145 = .ok (.iconst 0, 1) := by decide +kernel
theorem dX1_wayBetween_146 : decode cX1_wayBetween 146 = .ok (.ireturn, 1) := by decide +kernel
theorem dX1_tableOver_0 : decode cX1_tableOver 0 = .ok (.aload_n 3, 1) := by decide +kernel
theorem dX1_tableOver_1 : decode cX1_tableOver 1 = .ok (.invokestatic 89, 3) := by decide +kernel
theorem dX1_tableOver_4 : decode cX1_tableOver 4 = .ok (.aload_n 0, 1) := by decide +kernel
theorem dX1_tableOver_5 : decode cX1_tableOver 5 = .ok (.getfield 27, 3) := by decide +kernel
theorem dX1_tableOver_8 : decode cX1_tableOver 8 = .ok (.invokevirtual 93, 3) := by decide +kernel
theorem dX1_tableOver_11 : decode cX1_tableOver 11 = .ok (.istore 4, 2) := by decide +kernel
theorem dX1_tableOver_13 : decode cX1_tableOver 13 = .ok (.iconst 0, 1) := by decide +kernel
theorem dX1_tableOver_14 : decode cX1_tableOver 14 = .ok (.istore 5, 2) := by decide +kernel
theorem dX1_tableOver_16 : decode cX1_tableOver 16 = .ok (.iload 5, 2) := by decide +kernel
theorem dX1_tableOver_18 : decode cX1_tableOver 18 = .ok (.iconst 2, 1) := by decide +kernel
theorem dX1_tableOver_19 : decode cX1_tableOver 19 = .ok (.if_icmp .ge 110, 3) := by decide +kernel
theorem dX1_tableOver_22 : decode cX1_tableOver 22 = .ok (.aload_n 0, 1) := by decide +kernel
theorem dX1_tableOver_23 : decode cX1_tableOver 23 = .ok (.getfield 21, 3) := by decide +kernel
theorem dX1_tableOver_26 : decode cX1_tableOver 26 = .ok (.invokestatic 89, 3) := by decide +kernel
theorem dX1_tableOver_29 : decode cX1_tableOver 29 = .ok (.aload_n 2, 1) := by decide +kernel
theorem dX1_tableOver_30 : decode cX1_tableOver 30 = .ok (.iconst 0, 1) := by decide +kernel
theorem dX1_tableOver_31 : decode cX1_tableOver 31 = .ok (.aload_n 0, 1) := by decide +kernel
theorem dX1_tableOver_32 : decode cX1_tableOver 32 = .ok (.getfield 21, 3) := by decide +kernel
theorem dX1_tableOver_35 : decode cX1_tableOver 35 = .ok (.iload 5, 2) := by decide +kernel
theorem dX1_tableOver_37 : decode cX1_tableOver 37 = .ok (.iload 4, 2) := by decide +kernel
theorem dX1_tableOver_39 : decode cX1_tableOver 39 = .ok (.imul, 1) := by decide +kernel
theorem dX1_tableOver_40 : decode cX1_tableOver 40 = .ok (.iload 4, 2) := by decide +kernel
theorem dX1_tableOver_42 : decode cX1_tableOver 42 = .ok (.invokestatic 97, 3) := by decide +kernel
theorem dX1_tableOver_45 : decode cX1_tableOver 45 = .ok (.iconst 0, 1) := by decide +kernel
theorem dX1_tableOver_46 : decode cX1_tableOver 46 = .ok (.istore 6, 2) := by decide +kernel
theorem dX1_tableOver_48 : decode cX1_tableOver 48 = .ok (.iload 6, 2) := by decide +kernel
theorem dX1_tableOver_50 : decode cX1_tableOver 50 = .ok (.aload_n 0, 1) := by decide +kernel
theorem dX1_tableOver_51 : decode cX1_tableOver 51 = .ok (.getfield 27, 3) := by decide +kernel
theorem dX1_tableOver_54 : decode cX1_tableOver 54 = .ok (.getfield 86, 3) := by decide +kernel
theorem dX1_tableOver_57 : decode cX1_tableOver 57 = .ok (.if_icmp .ge 18, 3) := by decide +kernel
theorem dX1_tableOver_60 : decode cX1_tableOver 60 = .ok (.aload_n 0, 1) := by decide +kernel
theorem dX1_tableOver_61 : decode cX1_tableOver 61 = .ok (.iload 6, 2) := by decide +kernel
theorem dX1_tableOver_63 : decode cX1_tableOver 63 = .ok (.iload_n 1, 1) := by decide +kernel
theorem dX1_tableOver_64 : decode cX1_tableOver 64 = .ok (.iload 4, 2) := by decide +kernel
theorem dX1_tableOver_66 : decode cX1_tableOver 66 = .ok (.invokevirtual 103, 3) := by decide +kernel
theorem dX1_tableOver_69 : decode cX1_tableOver 69 = .ok (.iinc 6 1, 3) := by decide +kernel
theorem dX1_tableOver_72 : decode cX1_tableOver 72 = .ok (.goto (-24), 3) := by decide +kernel
theorem dX1_tableOver_75 : decode cX1_tableOver 75 = .ok (.iconst 0, 1) := by decide +kernel
theorem dX1_tableOver_76 : decode cX1_tableOver 76 = .ok (.istore 6, 2) := by decide +kernel
theorem dX1_tableOver_78 : decode cX1_tableOver 78 = .ok (.iload 6, 2) := by decide +kernel
theorem dX1_tableOver_80 : decode cX1_tableOver 80 = .ok (.iload 4, 2) := by decide +kernel
theorem dX1_tableOver_82 : decode cX1_tableOver 82 = .ok (.if_icmp .ge 41, 3) := by decide +kernel
theorem dX1_tableOver_85 : decode cX1_tableOver 85 = .ok (.aload_n 3, 1) := by decide +kernel
theorem dX1_tableOver_86 : decode cX1_tableOver 86 = .ok (.iload 6, 2) := by decide +kernel
theorem dX1_tableOver_88 : decode cX1_tableOver 88 = .ok (.aload_n 3, 1) := by decide +kernel
theorem dX1_tableOver_89 : decode cX1_tableOver 89 = .ok (.iload 6, 2) := by decide +kernel
theorem dX1_tableOver_91 : decode cX1_tableOver 91 = .ok (.iaload, 1) := by decide +kernel
theorem dX1_tableOver_92 : decode cX1_tableOver 92 = .ok (.aload_n 0, 1) := by decide +kernel
theorem dX1_tableOver_93 : decode cX1_tableOver 93 = .ok (.getfield 21, 3) := by decide +kernel
theorem dX1_tableOver_96 : decode cX1_tableOver 96 = .ok (.iload 5, 2) := by decide +kernel
theorem dX1_tableOver_98 : decode cX1_tableOver 98 = .ok (.iload 4, 2) := by decide +kernel
theorem dX1_tableOver_100 : decode cX1_tableOver 100 = .ok (.imul, 1) := by decide +kernel
theorem dX1_tableOver_101 : decode cX1_tableOver 101 = .ok (.iload 6, 2) := by decide +kernel
theorem dX1_tableOver_103 : decode cX1_tableOver 103 = .ok (.iadd, 1) := by decide +kernel
theorem dX1_tableOver_104 : decode cX1_tableOver 104 = .ok (.iaload, 1) := by decide +kernel
theorem dX1_tableOver_105 : decode cX1_tableOver 105 = .ok (.iadd, 1) := by decide +kernel
theorem dX1_tableOver_106 : decode cX1_tableOver 106 = .ok (.aload_n 0, 1) := by decide +kernel
theorem dX1_tableOver_107 : decode cX1_tableOver 107 = .ok (.getfield 27, 3) := by decide +kernel
theorem dX1_tableOver_110 : decode cX1_tableOver 110 = .ok (.getfield 61, 3) := by decide +kernel
theorem dX1_tableOver_113 : decode cX1_tableOver 113 = .ok (.invokestatic 72, 3) := by decide +kernel
theorem dX1_tableOver_116 : decode cX1_tableOver 116 = .ok (.iastore, 1) := by decide +kernel
theorem dX1_tableOver_117 : decode cX1_tableOver 117 = .ok (.iinc 6 1, 3) := by decide +kernel
theorem dX1_tableOver_120 : decode cX1_tableOver 120 = .ok (.goto (-42), 3) := by decide +kernel
theorem dX1_tableOver_123 : decode cX1_tableOver 123 = .ok (.iinc 5 1, 3) := by decide +kernel
theorem dX1_tableOver_126 : decode cX1_tableOver 126 = .ok (.goto (-110), 3) := by decide +kernel
theorem dX1_tableOver_129 : decode cX1_tableOver 129 = .ok (.return_, 1) := by decide +kernel
theorem dX1_passLetter_0 : decode cX1_passLetter 0 = .ok (.iconst 1, 1) := by decide +kernel
theorem dX1_passLetter_1 : decode cX1_passLetter 1 = .ok (.iload_n 1, 1) := by decide +kernel
theorem dX1_passLetter_2 : decode cX1_passLetter 2 = .ok (.ishl, 1) := by decide +kernel
theorem dX1_passLetter_3 : decode cX1_passLetter 3 = .ok (.istore 4, 2) := by decide +kernel
theorem dX1_passLetter_5 : decode cX1_passLetter 5 = .ok (.iconst 0, 1) := by decide +kernel
theorem dX1_passLetter_6 : decode cX1_passLetter 6 = .ok (.istore 5, 2) := by decide +kernel
theorem dX1_passLetter_8 : decode cX1_passLetter 8 = .ok (.iload 5, 2) := by decide +kernel
theorem dX1_passLetter_10 : decode cX1_passLetter 10 = .ok (.iload_n 3, 1) := by decide +kernel
theorem dX1_passLetter_11 : decode cX1_passLetter 11 = .ok (.if_icmp .ge 196, 3) := by decide +kernel
theorem dX1_passLetter_14 : decode cX1_passLetter 14 = .ok (.iload 5, 2) := by decide +kernel
theorem dX1_passLetter_16 : decode cX1_passLetter 16 = .ok (.iload 4, 2) := by decide +kernel
theorem dX1_passLetter_18 : decode cX1_passLetter 18 = .ok (.iand, 1) := by decide +kernel
theorem dX1_passLetter_19 : decode cX1_passLetter 19 = .ok (.ifCond .ne 182, 3) := by decide +kernel
theorem dX1_passLetter_22 : decode cX1_passLetter 22 = .ok (.iload 5, 2) := by decide +kernel
theorem dX1_passLetter_24 : decode cX1_passLetter 24 = .ok (.istore 6, 2) := by decide +kernel
theorem dX1_passLetter_26 : decode cX1_passLetter 26 = .ok (.iload_n 3, 1) := by decide +kernel
theorem dX1_passLetter_27 : decode cX1_passLetter 27 = .ok (.iload 5, 2) := by decide +kernel
theorem dX1_passLetter_29 : decode cX1_passLetter 29 = .ok (.iadd, 1) := by decide +kernel
theorem dX1_passLetter_30 : decode cX1_passLetter 30 = .ok (.iload 4, 2) := by decide +kernel
theorem dX1_passLetter_32 : decode cX1_passLetter 32 = .ok (.iadd, 1) := by decide +kernel
theorem dX1_passLetter_33 : decode cX1_passLetter 33 = .ok (.istore 7, 2) := by decide +kernel
theorem dX1_passLetter_35 : decode cX1_passLetter 35 = .ok (.aload_n 0, 1) := by decide +kernel
theorem dX1_passLetter_36 : decode cX1_passLetter 36 = .ok (.getfield 21, 3) := by decide +kernel
theorem dX1_passLetter_39 : decode cX1_passLetter 39 = .ok (.iload 6, 2) := by decide +kernel
theorem dX1_passLetter_41 : decode cX1_passLetter 41 = .ok (.aload_n 0, 1) := by decide +kernel
theorem dX1_passLetter_42 : decode cX1_passLetter 42 = .ok (.getfield 9, 3) := by decide +kernel
theorem dX1_passLetter_45 : decode cX1_passLetter 45 = .ok (.iload_n 2, 1) := by decide +kernel
theorem dX1_passLetter_46 : decode cX1_passLetter 46 = .ok (.iaload, 1) := by decide +kernel
theorem dX1_passLetter_47 : decode cX1_passLetter 47 = .ok (.aload_n 0, 1) := by decide +kernel
theorem dX1_passLetter_48 : decode cX1_passLetter 48 = .ok (.getfield 21, 3) := by decide +kernel
theorem dX1_passLetter_51 : decode cX1_passLetter 51 = .ok (.iload 6, 2) := by decide +kernel
theorem dX1_passLetter_53 : decode cX1_passLetter 53 = .ok (.iaload, 1) := by decide +kernel
theorem dX1_passLetter_54 : decode cX1_passLetter 54 = .ok (.imul, 1) := by decide +kernel
theorem dX1_passLetter_55 : decode cX1_passLetter 55 = .ok (.aload_n 0, 1) := by decide +kernel
theorem dX1_passLetter_56 : decode cX1_passLetter 56 = .ok (.getfield 27, 3) := by decide +kernel
theorem dX1_passLetter_59 : decode cX1_passLetter 59 = .ok (.getfield 61, 3) := by decide +kernel
theorem dX1_passLetter_62 : decode cX1_passLetter 62 = .ok (.invokestatic 72, 3) := by decide +kernel
theorem dX1_passLetter_65 : decode cX1_passLetter 65 = .ok (.iastore, 1) := by decide +kernel
theorem dX1_passLetter_66 : decode cX1_passLetter 66 = .ok (.aload_n 0, 1) := by decide +kernel
theorem dX1_passLetter_67 : decode cX1_passLetter 67 = .ok (.getfield 21, 3) := by decide +kernel
theorem dX1_passLetter_70 : decode cX1_passLetter 70 = .ok (.iload 7, 2) := by decide +kernel
theorem dX1_passLetter_72 : decode cX1_passLetter 72 = .ok (.aload_n 0, 1) := by decide +kernel
theorem dX1_passLetter_73 : decode cX1_passLetter 73 = .ok (.getfield 9, 3) := by decide +kernel
theorem dX1_passLetter_76 : decode cX1_passLetter 76 = .ok (.iload_n 2, 1) := by decide +kernel
theorem dX1_passLetter_77 : decode cX1_passLetter 77 = .ok (.iaload, 1) := by decide +kernel
theorem dX1_passLetter_78 : decode cX1_passLetter 78 = .ok (.aload_n 0, 1) := by decide +kernel
theorem dX1_passLetter_79 : decode cX1_passLetter 79 = .ok (.getfield 21, 3) := by decide +kernel
theorem dX1_passLetter_82 : decode cX1_passLetter 82 = .ok (.iload 7, 2) := by decide +kernel
theorem dX1_passLetter_84 : decode cX1_passLetter 84 = .ok (.iaload, 1) := by decide +kernel
theorem dX1_passLetter_85 : decode cX1_passLetter 85 = .ok (.imul, 1) := by decide +kernel
theorem dX1_passLetter_86 : decode cX1_passLetter 86 = .ok (.aload_n 0, 1) := by decide +kernel
theorem dX1_passLetter_87 : decode cX1_passLetter 87 = .ok (.getfield 27, 3) := by decide +kernel
theorem dX1_passLetter_90 : decode cX1_passLetter 90 = .ok (.getfield 61, 3) := by decide +kernel
theorem dX1_passLetter_93 : decode cX1_passLetter 93 = .ok (.invokestatic 72, 3) := by decide +kernel
theorem dX1_passLetter_96 : decode cX1_passLetter 96 = .ok (.iastore, 1) := by decide +kernel
theorem dX1_passLetter_97 : decode cX1_passLetter 97 = .ok (.iload 5, 2) := by decide +kernel
theorem dX1_passLetter_99 : decode cX1_passLetter 99 = .ok (.iload 4, 2) := by decide +kernel
theorem dX1_passLetter_101 : decode cX1_passLetter 101 = .ok (.iadd, 1) := by decide +kernel
theorem dX1_passLetter_102 : decode cX1_passLetter 102 = .ok (.istore 8, 2) := by decide +kernel
theorem dX1_passLetter_104 : decode cX1_passLetter 104 = .ok (.iload_n 3, 1) := by decide +kernel
theorem dX1_passLetter_105 : decode cX1_passLetter 105 = .ok (.iload 5, 2) := by decide +kernel
theorem dX1_passLetter_107 : decode cX1_passLetter 107 = .ok (.iadd, 1) := by decide +kernel
theorem dX1_passLetter_108 : decode cX1_passLetter 108 = .ok (.istore 9, 2) := by decide +kernel
theorem dX1_passLetter_110 : decode cX1_passLetter 110 = .ok (.aload_n 0, 1) := by decide +kernel
theorem dX1_passLetter_111 : decode cX1_passLetter 111 = .ok (.getfield 21, 3) := by decide +kernel
theorem dX1_passLetter_114 : decode cX1_passLetter 114 = .ok (.iload 8, 2) := by decide +kernel
theorem dX1_passLetter_116 : decode cX1_passLetter 116 = .ok (.iaload, 1) := by decide +kernel
theorem dX1_passLetter_117 : decode cX1_passLetter 117 = .ok (.istore 10, 2) := by decide +kernel
theorem dX1_passLetter_119 : decode cX1_passLetter 119 = .ok (.aload_n 0, 1) := by decide +kernel
theorem dX1_passLetter_120 : decode cX1_passLetter 120 = .ok (.getfield 21, 3) := by decide +kernel
theorem dX1_passLetter_123 : decode cX1_passLetter 123 = .ok (.iload 8, 2) := by decide +kernel
theorem dX1_passLetter_125 : decode cX1_passLetter 125 = .ok (.aload_n 0, 1) := by decide +kernel
theorem dX1_passLetter_126 : decode cX1_passLetter 126 = .ok (.getfield 15, 3) := by decide +kernel
theorem dX1_passLetter_129 : decode cX1_passLetter 129 = .ok (.iload_n 2, 1) := by decide +kernel
theorem dX1_passLetter_130 : decode cX1_passLetter 130 = .ok (.iaload, 1) := by decide +kernel
theorem dX1_passLetter_131 : decode cX1_passLetter 131 = .ok (.iload 10, 2) := by decide +kernel
theorem dX1_passLetter_133 : decode cX1_passLetter 133 = .ok (.imul, 1) := by decide +kernel
theorem dX1_passLetter_134 : decode cX1_passLetter 134 = .ok (.aload_n 0, 1) := by decide +kernel
theorem dX1_passLetter_135 : decode cX1_passLetter 135 = .ok (.getfield 18, 3) := by decide +kernel
theorem dX1_passLetter_138 : decode cX1_passLetter 138 = .ok (.iload_n 2, 1) := by decide +kernel
theorem dX1_passLetter_139 : decode cX1_passLetter 139 = .ok (.iaload, 1) := by decide +kernel
theorem dX1_passLetter_140 : decode cX1_passLetter 140 = .ok (.aload_n 0, 1) := by decide +kernel
theorem dX1_passLetter_141 : decode cX1_passLetter 141 = .ok (.getfield 21, 3) := by decide +kernel
theorem dX1_passLetter_144 : decode cX1_passLetter 144 = .ok (.iload 9, 2) := by decide +kernel
theorem dX1_passLetter_146 : decode cX1_passLetter 146 = .ok (.iaload, 1) := by decide +kernel
theorem dX1_passLetter_147 : decode cX1_passLetter 147 = .ok (.imul, 1) := by decide +kernel
theorem dX1_passLetter_148 : decode cX1_passLetter 148 = .ok (.iadd, 1) := by decide +kernel
theorem dX1_passLetter_149 : decode cX1_passLetter 149 = .ok (.aload_n 0, 1) := by decide +kernel
theorem dX1_passLetter_150 : decode cX1_passLetter 150 = .ok (.getfield 27, 3) := by decide +kernel
theorem dX1_passLetter_153 : decode cX1_passLetter 153 = .ok (.getfield 61, 3) := by decide +kernel
theorem dX1_passLetter_156 : decode cX1_passLetter 156 = .ok (.invokestatic 72, 3) := by decide +kernel
theorem dX1_passLetter_159 : decode cX1_passLetter 159 = .ok (.iastore, 1) := by decide +kernel
theorem dX1_passLetter_160 : decode cX1_passLetter 160 = .ok (.aload_n 0, 1) := by decide +kernel
theorem dX1_passLetter_161 : decode cX1_passLetter 161 = .ok (.getfield 21, 3) := by decide +kernel
theorem dX1_passLetter_164 : decode cX1_passLetter 164 = .ok (.iload 9, 2) := by decide +kernel
theorem dX1_passLetter_166 : decode cX1_passLetter 166 = .ok (.aload_n 0, 1) := by decide +kernel
theorem dX1_passLetter_167 : decode cX1_passLetter 167 = .ok (.getfield 15, 3) := by decide +kernel
theorem dX1_passLetter_170 : decode cX1_passLetter 170 = .ok (.iload_n 2, 1) := by decide +kernel
theorem dX1_passLetter_171 : decode cX1_passLetter 171 = .ok (.iaload, 1) := by decide +kernel
theorem dX1_passLetter_172 : decode cX1_passLetter 172 = .ok (.aload_n 0, 1) := by decide +kernel
theorem dX1_passLetter_173 : decode cX1_passLetter 173 = .ok (.getfield 21, 3) := by decide +kernel
theorem dX1_passLetter_176 : decode cX1_passLetter 176 = .ok (.iload 9, 2) := by decide +kernel
theorem dX1_passLetter_178 : decode cX1_passLetter 178 = .ok (.iaload, 1) := by decide +kernel
theorem dX1_passLetter_179 : decode cX1_passLetter 179 = .ok (.imul, 1) := by decide +kernel
theorem dX1_passLetter_180 : decode cX1_passLetter 180 = .ok (.aload_n 0, 1) := by decide +kernel
theorem dX1_passLetter_181 : decode cX1_passLetter 181 = .ok (.getfield 18, 3) := by decide +kernel
theorem dX1_passLetter_184 : decode cX1_passLetter 184 = .ok (.iload_n 2, 1) := by decide +kernel
theorem dX1_passLetter_185 : decode cX1_passLetter 185 = .ok (.iaload, 1) := by decide +kernel
theorem dX1_passLetter_186 : decode cX1_passLetter 186 = .ok (.iload 10, 2) := by decide +kernel
theorem dX1_passLetter_188 : decode cX1_passLetter 188 = .ok (.imul, 1) := by decide +kernel
theorem dX1_passLetter_189 : decode cX1_passLetter 189 = .ok (.iadd, 1) := by decide +kernel
theorem dX1_passLetter_190 : decode cX1_passLetter 190 = .ok (.aload_n 0, 1) := by decide +kernel
theorem dX1_passLetter_191 : decode cX1_passLetter 191 = .ok (.getfield 27, 3) := by decide +kernel
theorem dX1_passLetter_194 : decode cX1_passLetter 194 = .ok (.getfield 61, 3) := by decide +kernel
theorem dX1_passLetter_197 : decode cX1_passLetter 197 = .ok (.invokestatic 72, 3) := by decide +kernel
theorem dX1_passLetter_200 : decode cX1_passLetter 200 = .ok (.iastore, 1) := by decide +kernel
theorem dX1_passLetter_201 : decode cX1_passLetter 201 = .ok (.iinc 5 1, 3) := by decide +kernel
theorem dX1_passLetter_204 : decode cX1_passLetter 204 = .ok (.goto (-196), 3) := by decide +kernel
theorem dX1_passLetter_207 : decode cX1_passLetter 207 = .ok (.return_, 1) := by decide +kernel
theorem dX2_init_0 : decode cX2_init 0 = .ok (.aload_n 0, 1) := by decide +kernel
theorem dX2_init_1 : decode cX2_init 1 = .ok (.invokespecial 3, 3) := by decide +kernel
theorem dX2_init_4 : decode cX2_init 4 = .ok (.aload_n 0, 1) := by decide +kernel
theorem dX2_init_5 : decode cX2_init 5 = .ok (.bipush 21, 2) := by decide +kernel
theorem dX2_init_7 : decode cX2_init 7 = .ok (.sipush 128, 3) := by decide +kernel
theorem dX2_init_10 : decode cX2_init 10 = .ok (.multianewarray 11 2, 4) := by decide +kernel
theorem dX2_init_14 : decode cX2_init 14 = .ok (.putfield 13, 3) := by decide +kernel
theorem dX2_init_17 : decode cX2_init 17 = .ok (.aload_n 0, 1) := by decide +kernel
theorem dX2_init_18 : decode cX2_init 18 = .ok (.iconst 0, 1) := by decide +kernel
theorem dX2_init_19 : decode cX2_init 19 = .ok (.putfield 16, 3) := by decide +kernel
theorem dX2_init_22 : decode cX2_init 22 = .ok (.aload_n 0, 1) := by decide +kernel
theorem dX2_init_23 : decode cX2_init 23 = .ok (.iconst 0, 1) := by decide +kernel
theorem dX2_init_24 : decode cX2_init 24 = .ok (.putfield 20, 3) := by decide +kernel
theorem dX2_init_27 : decode cX2_init 27 = .ok (.aload_n 0, 1) := by decide +kernel
theorem dX2_init_28 : decode cX2_init 28 = .ok (.iconst 0, 1) := by decide +kernel
theorem dX2_init_29 : decode cX2_init 29 = .ok (.putfield 23, 3) := by decide +kernel
theorem dX2_init_32 : decode cX2_init 32 = .ok (.return_, 1) := by decide +kernel
theorem dX2_row_0 : decode cX2_row 0 = .ok (.aload_n 0, 1) := by decide +kernel
theorem dX2_row_1 : decode cX2_row 1 = .ok (.getfield 13, 3) := by decide +kernel
theorem dX2_row_4 : decode cX2_row 4 = .ok (.aload_n 0, 1) := by decide +kernel
theorem dX2_row_5 : decode cX2_row 5 = .ok (.getfield 16, 3) := by decide +kernel
theorem dX2_row_8 : decode cX2_row 8 = .ok (.iload_n 1, 1) := by decide +kernel
theorem dX2_row_9 : decode cX2_row 9 = .ok (.iadd, 1) := by decide +kernel
theorem dX2_row_10 : decode cX2_row 10 = .ok (.bipush 21, 2) := by decide +kernel
theorem dX2_row_12 : decode cX2_row 12 = .ok (.invokestatic 26, 3) := by decide +kernel
theorem dX2_row_15 : decode cX2_row 15 = .ok (.aaload, 1) := by decide +kernel
theorem dX2_row_16 : decode cX2_row 16 = .ok (.areturn, 1) := by decide +kernel
theorem dX2_vector_0 : decode cX2_vector 0 = .ok (.aload_n 0, 1) := by decide +kernel
theorem dX2_vector_1 : decode cX2_vector 1 = .ok (.aload_n 0, 1) := by decide +kernel
theorem dX2_vector_2 : decode cX2_vector 2 = .ok (.getfield 20, 3) := by decide +kernel
theorem dX2_vector_5 : decode cX2_vector 5 = .ok (.invokevirtual 32, 3) := by decide +kernel
theorem dX2_vector_8 : decode cX2_vector 8 = .ok (.areturn, 1) := by decide +kernel
theorem dX2_earlier_0 : decode cX2_earlier 0 = .ok (.aload_n 0, 1) := by decide +kernel
theorem dX2_earlier_1 : decode cX2_earlier 1 = .ok (.aload_n 0, 1) := by decide +kernel
theorem dX2_earlier_2 : decode cX2_earlier 2 = .ok (.getfield 20, 3) := by decide +kernel
theorem dX2_earlier_5 : decode cX2_earlier 5 = .ok (.iconst 1, 1) := by decide +kernel
theorem dX2_earlier_6 : decode cX2_earlier 6 = .ok (.isub, 1) := by decide +kernel
theorem dX2_earlier_7 : decode cX2_earlier 7 = .ok (.invokevirtual 32, 3) := by decide +kernel
theorem dX2_earlier_10 : decode cX2_earlier 10 = .ok (.areturn, 1) := by decide +kernel
theorem dX2_open_0 : decode cX2_open 0 = .ok (.aload_n 0, 1) := by decide +kernel
theorem dX2_open_1 : decode cX2_open 1 = .ok (.iconst 0, 1) := by decide +kernel
theorem dX2_open_2 : decode cX2_open 2 = .ok (.putfield 23, 3) := by decide +kernel
theorem dX2_open_5 : decode cX2_open 5 = .ok (.aload_n 0, 1) := by decide +kernel
theorem dX2_open_6 : decode cX2_open 6 = .ok (.getfield 20, 3) := by decide +kernel
theorem dX2_open_9 : decode cX2_open 9 = .ok (.bipush 20, 2) := by decide +kernel
theorem dX2_open_11 : decode cX2_open 11 = .ok (.if_icmp .ge 16, 3) := by decide +kernel
theorem dX2_open_14 : decode cX2_open 14 = .ok (.aload_n 0, 1) := by decide +kernel
theorem dX2_open_15 : decode cX2_open 15 = .ok (.dup, 1) := by decide +kernel
theorem dX2_open_16 : decode cX2_open 16 = .ok (.getfield 20, 3) := by decide +kernel
theorem dX2_open_19 : decode cX2_open 19 = .ok (.iconst 1, 1) := by decide +kernel
theorem dX2_open_20 : decode cX2_open 20 = .ok (.iadd, 1) := by decide +kernel
theorem dX2_open_21 : decode cX2_open 21 = .ok (.putfield 20, 3) := by decide +kernel
theorem dX2_open_24 : decode cX2_open 24 = .ok (.goto 26, 3) := by decide +kernel
theorem dX2_open_27 : decode cX2_open 27 = .ok (.aload_n 0, 1) := by decide +kernel
theorem dX2_open_28 : decode cX2_open 28 = .ok (.aload_n 0, 1) := by decide +kernel
theorem dX2_open_29 : decode cX2_open 29 = .ok (.getfield 16, 3) := by decide +kernel
theorem dX2_open_32 : decode cX2_open 32 = .ok (.bipush 20, 2) := by decide +kernel
theorem dX2_open_34 : decode cX2_open 34 = .ok (.if_icmp .ge 12, 3) := by decide +kernel
theorem dX2_open_37 : decode cX2_open 37 = .ok (.aload_n 0, 1) := by decide +kernel
theorem dX2_open_38 : decode cX2_open 38 = .ok (.getfield 16, 3) := by decide +kernel
theorem dX2_open_41 : decode cX2_open 41 = .ok (.iconst 1, 1) := by decide +kernel
theorem dX2_open_42 : decode cX2_open 42 = .ok (.iadd, 1) := by decide +kernel
theorem dX2_open_43 : decode cX2_open 43 = .ok (.goto 4, 3) := by decide +kernel
theorem dX2_open_46 : decode cX2_open 46 = .ok (.iconst 0, 1) := by decide +kernel
theorem dX2_open_47 : decode cX2_open 47 = .ok (.putfield 16, 3) := by decide +kernel
theorem dX2_open_50 : decode cX2_open 50 = .ok (.return_, 1) := by decide +kernel
theorem dX2_restart_0 : decode cX2_restart 0 = .ok (.aload_n 0, 1) := by decide +kernel
theorem dX2_restart_1 : decode cX2_restart 1 = .ok (.iconst 0, 1) := by decide +kernel
theorem dX2_restart_2 : decode cX2_restart 2 = .ok (.putfield 16, 3) := by decide +kernel
theorem dX2_restart_5 : decode cX2_restart 5 = .ok (.aload_n 0, 1) := by decide +kernel
theorem dX2_restart_6 : decode cX2_restart 6 = .ok (.iconst 0, 1) := by decide +kernel
theorem dX2_restart_7 : decode cX2_restart 7 = .ok (.putfield 20, 3) := by decide +kernel
theorem dX2_restart_10 : decode cX2_restart 10 = .ok (.aload_n 0, 1) := by decide +kernel
theorem dX2_restart_11 : decode cX2_restart 11 = .ok (.iconst 0, 1) := by decide +kernel
theorem dX2_restart_12 : decode cX2_restart 12 = .ok (.putfield 23, 3) := by decide +kernel
theorem dX2_restart_15 : decode cX2_restart 15 = .ok (.aload_n 0, 1) := by decide +kernel
theorem dX2_restart_16 : decode cX2_restart 16 = .ok (.getfield 13, 3) := by decide +kernel
theorem dX2_restart_19 : decode cX2_restart 19 = .ok (.iconst 0, 1) := by decide +kernel
theorem dX2_restart_20 : decode cX2_restart 20 = .ok (.aaload, 1) := by decide +kernel
theorem dX2_restart_21 : decode cX2_restart 21 = .ok (.invokestatic 36, 3) := by decide +kernel
theorem dX2_restart_24 : decode cX2_restart 24 = .ok (.return_, 1) := by decide +kernel
theorem dX2_takeBy_0 : decode cX2_takeBy 0 = .ok (.iconst 0, 1) := by decide +kernel
theorem dX2_takeBy_1 : decode cX2_takeBy 1 = .ok (.istore_n 2, 1) := by decide +kernel
theorem dX2_takeBy_2 : decode cX2_takeBy 2 = .ok (.iload_n 2, 1) := by decide +kernel
theorem dX2_takeBy_3 : decode cX2_takeBy 3 = .ok (.aload_n 0, 1) := by decide +kernel
theorem dX2_takeBy_4 : decode cX2_takeBy 4 = .ok (.getfield 20, 3) := by decide +kernel
theorem dX2_takeBy_7 : decode cX2_takeBy 7 = .ok (.aload_n 0, 1) := by decide +kernel
theorem dX2_takeBy_8 : decode cX2_takeBy 8 = .ok (.getfield 23, 3) := by decide +kernel
theorem dX2_takeBy_11 : decode cX2_takeBy 11 = .ok (.iadd, 1) := by decide +kernel
theorem dX2_takeBy_12 : decode cX2_takeBy 12 = .ok (.if_icmp .gt 43, 3) := by decide +kernel
theorem dX2_takeBy_15 : decode cX2_takeBy 15 = .ok (.aload_n 0, 1) := by decide +kernel
theorem dX2_takeBy_16 : decode cX2_takeBy 16 = .ok (.iload_n 2, 1) := by decide +kernel
theorem dX2_takeBy_17 : decode cX2_takeBy 17 = .ok (.invokevirtual 32, 3) := by decide +kernel
theorem dX2_takeBy_20 : decode cX2_takeBy 20 = .ok (.astore_n 3, 1) := by decide +kernel
theorem dX2_takeBy_21 : decode cX2_takeBy 21 = .ok (.iconst 0, 1) := by decide +kernel
theorem dX2_takeBy_22 : decode cX2_takeBy 22 = .ok (.istore 4, 2) := by decide +kernel
theorem dX2_takeBy_24 : decode cX2_takeBy 24 = .ok (.iload 4, 2) := by decide +kernel
theorem dX2_takeBy_26 : decode cX2_takeBy 26 = .ok (.aload_n 3, 1) := by decide +kernel
theorem dX2_takeBy_27 : decode cX2_takeBy 27 = .ok (.arraylength, 1) := by decide +kernel
theorem dX2_takeBy_28 : decode cX2_takeBy 28 = .ok (.if_icmp .ge 21, 3) := by decide +kernel
theorem dX2_takeBy_31 : decode cX2_takeBy 31 = .ok (.aload_n 3, 1) := by decide +kernel
theorem dX2_takeBy_32 : decode cX2_takeBy 32 = .ok (.iload 4, 2) := by decide +kernel
theorem dX2_takeBy_34 : decode cX2_takeBy 34 = .ok (.aload_n 3, 1) := by decide +kernel
theorem dX2_takeBy_35 : decode cX2_takeBy 35 = .ok (.iload 4, 2) := by decide +kernel
theorem dX2_takeBy_37 : decode cX2_takeBy 37 = .ok (.iaload, 1) := by decide +kernel
theorem dX2_takeBy_38 : decode cX2_takeBy 38 = .ok (.iload_n 1, 1) := by decide +kernel
theorem dX2_takeBy_39 : decode cX2_takeBy 39 = .ok (.invokestatic 40, 3) := by decide +kernel
theorem dX2_takeBy_42 : decode cX2_takeBy 42 = .ok (.iastore, 1) := by decide +kernel
theorem dX2_takeBy_43 : decode cX2_takeBy 43 = .ok (.iinc 4 1, 3) := by decide +kernel
theorem dX2_takeBy_46 : decode cX2_takeBy 46 = .ok (.goto (-22), 3) := by decide +kernel
theorem dX2_takeBy_49 : decode cX2_takeBy 49 = .ok (.iinc 2 1, 3) := by decide +kernel
theorem dX2_takeBy_52 : decode cX2_takeBy 52 = .ok (.goto (-50), 3) := by decide +kernel
theorem dX2_takeBy_55 : decode cX2_takeBy 55 = .ok (.return_, 1) := by decide +kernel
theorem dX2_copyFrom_0 : decode cX2_copyFrom 0 = .ok (.aload_n 0, 1) := by decide +kernel
theorem dX2_copyFrom_1 : decode cX2_copyFrom 1 = .ok (.iconst 0, 1) := by decide +kernel
theorem dX2_copyFrom_2 : decode cX2_copyFrom 2 = .ok (.putfield 16, 3) := by decide +kernel
theorem dX2_copyFrom_5 : decode cX2_copyFrom 5 = .ok (.aload_n 0, 1) := by decide +kernel
theorem dX2_copyFrom_6 : decode cX2_copyFrom 6 = .ok (.aload_n 1, 1) := by decide +kernel
theorem dX2_copyFrom_7 : decode cX2_copyFrom 7 = .ok (.getfield 20, 3) := by decide +kernel
theorem dX2_copyFrom_10 : decode cX2_copyFrom 10 = .ok (.putfield 20, 3) := by decide +kernel
theorem dX2_copyFrom_13 : decode cX2_copyFrom 13 = .ok (.aload_n 0, 1) := by decide +kernel
theorem dX2_copyFrom_14 : decode cX2_copyFrom 14 = .ok (.aload_n 1, 1) := by decide +kernel
theorem dX2_copyFrom_15 : decode cX2_copyFrom 15 = .ok (.getfield 23, 3) := by decide +kernel
theorem dX2_copyFrom_18 : decode cX2_copyFrom 18 = .ok (.putfield 23, 3) := by decide +kernel
theorem dX2_copyFrom_21 : decode cX2_copyFrom 21 = .ok (.iconst 0, 1) := by decide +kernel
theorem dX2_copyFrom_22 : decode cX2_copyFrom 22 = .ok (.istore_n 2, 1) := by decide +kernel
theorem dX2_copyFrom_23 : decode cX2_copyFrom 23 = .ok (.iload_n 2, 1) := by decide +kernel
theorem dX2_copyFrom_24 : decode cX2_copyFrom 24 = .ok (.aload_n 0, 1) := by decide +kernel
theorem dX2_copyFrom_25 : decode cX2_copyFrom 25 = .ok (.getfield 20, 3) := by decide +kernel
theorem dX2_copyFrom_28 : decode cX2_copyFrom 28 = .ok (.aload_n 0, 1) := by decide +kernel
theorem dX2_copyFrom_29 : decode cX2_copyFrom 29 = .ok (.getfield 23, 3) := by decide +kernel
theorem dX2_copyFrom_32 : decode cX2_copyFrom 32 = .ok (.iadd, 1) := by decide +kernel
theorem dX2_copyFrom_33 : decode cX2_copyFrom 33 = .ok (.if_icmp .gt 27, 3) := by decide +kernel
theorem dX2_copyFrom_36 : decode cX2_copyFrom 36 = .ok (.aload_n 1, 1) := by decide +kernel
theorem dX2_copyFrom_37 : decode cX2_copyFrom 37 = .ok (.iload_n 2, 1) := by decide +kernel
theorem dX2_copyFrom_38 : decode cX2_copyFrom 38 = .ok (.invokevirtual 32, 3) := by decide +kernel
theorem dX2_copyFrom_41 : decode cX2_copyFrom 41 = .ok (.iconst 0, 1) := by decide +kernel
theorem dX2_copyFrom_42 : decode cX2_copyFrom 42 = .ok (.aload_n 0, 1) := by decide +kernel
theorem dX2_copyFrom_43 : decode cX2_copyFrom 43 = .ok (.iload_n 2, 1) := by decide +kernel
theorem dX2_copyFrom_44 : decode cX2_copyFrom 44 = .ok (.invokevirtual 32, 3) := by decide +kernel
theorem dX2_copyFrom_47 : decode cX2_copyFrom 47 = .ok (.iconst 0, 1) := by decide +kernel
theorem dX2_copyFrom_48 : decode cX2_copyFrom 48 = .ok (.sipush 128, 3) := by decide +kernel
theorem dX2_copyFrom_51 : decode cX2_copyFrom 51 = .ok (.invokestatic 43, 3) := by decide +kernel
theorem dX2_copyFrom_54 : decode cX2_copyFrom 54 = .ok (.iinc 2 1, 3) := by decide +kernel
theorem dX2_copyFrom_57 : decode cX2_copyFrom 57 = .ok (.goto (-34), 3) := by decide +kernel
theorem dX2_copyFrom_60 : decode cX2_copyFrom 60 = .ok (.return_, 1) := by decide +kernel
theorem dX3_init_0 : decode cX3_init 0 = .ok (.aload_n 0, 1) := by decide +kernel
theorem dX3_init_1 : decode cX3_init 1 = .ok (.invokespecial 3, 3) := by decide +kernel
theorem dX3_init_4 : decode cX3_init 4 = .ok (.aload_n 0, 1) := by decide +kernel
theorem dX3_init_5 : decode cX3_init 5 = .ok (.new 9, 3) := by decide +kernel
theorem dX3_init_8 : decode cX3_init 8 = .ok (.dup, 1) := by decide +kernel
theorem dX3_init_9 : decode cX3_init 9 = .ok (.invokespecial 11, 3) := by decide +kernel
theorem dX3_init_12 : decode cX3_init 12 = .ok (.putfield 12, 3) := by decide +kernel
theorem dX3_init_15 : decode cX3_init 15 = .ok (.aload_n 0, 1) := by decide +kernel
theorem dX3_init_16 : decode cX3_init 16 = .ok (.iconst 0, 1) := by decide +kernel
theorem dX3_init_17 : decode cX3_init 17 = .ok (.putfield 18, 3) := by decide +kernel
theorem dX3_init_20 : decode cX3_init 20 = .ok (.aload_n 0, 1) := by decide +kernel
theorem dX3_init_21 : decode cX3_init 21 = .ok (.bipush 97, 2) := by decide +kernel
theorem dX3_init_23 : decode cX3_init 23 = .ok (.newarray .int, 2) := by decide +kernel
theorem dX3_init_25 : decode cX3_init 25 = .ok (.putfield 22, 3) := by decide +kernel
theorem dX3_init_28 : decode cX3_init 28 = .ok (.aload_n 0, 1) := by decide +kernel
theorem dX3_init_29 : decode cX3_init 29 = .ok (.bipush 8, 2) := by decide +kernel
theorem dX3_init_31 : decode cX3_init 31 = .ok (.newarray .int, 2) := by decide +kernel
theorem dX3_init_33 : decode cX3_init 33 = .ok (.putfield 26, 3) := by decide +kernel
theorem dX3_init_36 : decode cX3_init 36 = .ok (.aload_n 0, 1) := by decide +kernel
theorem dX3_init_37 : decode cX3_init 37 = .ok (.bipush 11, 2) := by decide +kernel
theorem dX3_init_39 : decode cX3_init 39 = .ok (.newarray .int, 2) := by decide +kernel
theorem dX3_init_41 : decode cX3_init 41 = .ok (.putfield 29, 3) := by decide +kernel
theorem dX3_init_44 : decode cX3_init 44 = .ok (.aload_n 0, 1) := by decide +kernel
theorem dX3_init_45 : decode cX3_init 45 = .ok (.bipush 11, 2) := by decide +kernel
theorem dX3_init_47 : decode cX3_init 47 = .ok (.newarray .int, 2) := by decide +kernel
theorem dX3_init_49 : decode cX3_init 49 = .ok (.putfield 32, 3) := by decide +kernel
theorem dX3_init_52 : decode cX3_init 52 = .ok (.aload_n 0, 1) := by decide +kernel
theorem dX3_init_53 : decode cX3_init 53 = .ok (.iconst 3, 1) := by decide +kernel
theorem dX3_init_54 : decode cX3_init 54 = .ok (.newarray .int, 2) := by decide +kernel
theorem dX3_init_56 : decode cX3_init 56 = .ok (.putfield 35, 3) := by decide +kernel
theorem dX3_init_59 : decode cX3_init 59 = .ok (.aload_n 0, 1) := by decide +kernel
theorem dX3_init_60 : decode cX3_init 60 = .ok (.bipush 8, 2) := by decide +kernel
theorem dX3_init_62 : decode cX3_init 62 = .ok (.newarray .int, 2) := by decide +kernel
theorem dX3_init_64 : decode cX3_init 64 = .ok (.putfield 38, 3) := by decide +kernel
theorem dX3_init_67 : decode cX3_init 67 = .ok (.return_, 1) := by decide +kernel
theorem dX3_howMany_0 : decode cX3_howMany 0 = .ok (.aload_n 0, 1) := by decide +kernel
theorem dX3_howMany_1 : decode cX3_howMany 1 = .ok (.aload_n 1, 1) := by decide +kernel
theorem dX3_howMany_2 : decode cX3_howMany 2 = .ok (.iload_n 2, 1) := by decide +kernel
theorem dX3_howMany_3 : decode cX3_howMany 3 = .ok (.invokevirtual 41, 3) := by decide +kernel
theorem dX3_howMany_6 : decode cX3_howMany 6 = .ok (.iconst 0, 1) := by decide +kernel
theorem dX3_howMany_7 : decode cX3_howMany 7 = .ok (.istore_n 3, 1) := by decide +kernel
theorem dX3_howMany_8 : decode cX3_howMany 8 = .ok (.iconst 0, 1) := by decide +kernel
theorem dX3_howMany_9 : decode cX3_howMany 9 = .ok (.istore 4, 2) := by decide +kernel
theorem dX3_howMany_11 : decode cX3_howMany 11 = .ok (.iload 4, 2) := by decide +kernel
theorem dX3_howMany_13 : decode cX3_howMany 13 = .ok (.aload_n 0, 1) := by decide +kernel
theorem dX3_howMany_14 : decode cX3_howMany 14 = .ok (.iload_n 2, 1) := by decide +kernel
theorem dX3_howMany_15 : decode cX3_howMany 15 = .ok (.invokevirtual 45, 3) := by decide +kernel
theorem dX3_howMany_18 : decode cX3_howMany 18 = .ok (.if_icmp .ge 19, 3) := by decide +kernel
theorem dX3_howMany_21 : decode cX3_howMany 21 = .ok (.iload_n 3, 1) := by decide +kernel
theorem dX3_howMany_22 : decode cX3_howMany 22 = .ok (.aload_n 0, 1) := by decide +kernel
theorem dX3_howMany_23 : decode cX3_howMany 23 = .ok (.iload 4, 2) := by decide +kernel
theorem dX3_howMany_25 : decode cX3_howMany 25 = .ok (.iload_n 2, 1) := by decide +kernel
theorem dX3_howMany_26 : decode cX3_howMany 26 = .ok (.invokevirtual 49, 3) := by decide +kernel
theorem dX3_howMany_29 : decode cX3_howMany 29 = .ok (.iadd, 1) := by decide +kernel
theorem dX3_howMany_30 : decode cX3_howMany 30 = .ok (.istore_n 3, 1) := by decide +kernel
theorem dX3_howMany_31 : decode cX3_howMany 31 = .ok (.iinc 4 1, 3) := by decide +kernel
theorem dX3_howMany_34 : decode cX3_howMany 34 = .ok (.goto (-23), 3) := by decide +kernel
theorem dX3_howMany_37 : decode cX3_howMany 37 = .ok (.iload_n 3, 1) := by decide +kernel
theorem dX3_howMany_38 : decode cX3_howMany 38 = .ok (.ireturn, 1) := by decide +kernel
theorem dX3_find_0 : decode cX3_find 0 = .ok (.aload_n 0, 1) := by decide +kernel
theorem dX3_find_1 : decode cX3_find 1 = .ok (.aload_n 1, 1) := by decide +kernel
theorem dX3_find_2 : decode cX3_find 2 = .ok (.iload_n 2, 1) := by decide +kernel
theorem dX3_find_3 : decode cX3_find 3 = .ok (.invokevirtual 41, 3) := by decide +kernel
theorem dX3_find_6 : decode cX3_find 6 = .ok (.iload_n 3, 1) := by decide +kernel
theorem dX3_find_7 : decode cX3_find 7 = .ok (.istore 4, 2) := by decide +kernel
theorem dX3_find_9 : decode cX3_find 9 = .ok (.iconst 0, 1) := by decide +kernel
theorem dX3_find_10 : decode cX3_find 10 = .ok (.istore 5, 2) := by decide +kernel
theorem dX3_find_12 : decode cX3_find 12 = .ok (.iload 5, 2) := by decide +kernel
theorem dX3_find_14 : decode cX3_find 14 = .ok (.aload_n 0, 1) := by decide +kernel
theorem dX3_find_15 : decode cX3_find 15 = .ok (.iload_n 2, 1) := by decide +kernel
theorem dX3_find_16 : decode cX3_find 16 = .ok (.invokevirtual 45, 3) := by decide +kernel
theorem dX3_find_19 : decode cX3_find 19 = .ok (.if_icmp .ge 42, 3) := by decide +kernel
theorem dX3_find_22 : decode cX3_find 22 = .ok (.aload_n 0, 1) := by decide +kernel
theorem dX3_find_23 : decode cX3_find 23 = .ok (.iload 5, 2) := by decide +kernel
theorem dX3_find_25 : decode cX3_find 25 = .ok (.iload_n 2, 1) := by decide +kernel
theorem dX3_find_26 : decode cX3_find 26 = .ok (.invokevirtual 49, 3) := by decide +kernel
theorem dX3_find_29 : decode cX3_find 29 = .ok (.istore 6, 2) := by decide +kernel
theorem dX3_find_31 : decode cX3_find 31 = .ok (.iload 4, 2) := by decide +kernel
theorem dX3_find_33 : decode cX3_find 33 = .ok (.iload 6, 2) := by decide +kernel
theorem dX3_find_35 : decode cX3_find 35 = .ok (.if_icmp .ge 13, 3) := by decide +kernel
theorem dX3_find_38 : decode cX3_find 38 = .ok (.aload_n 0, 1) := by decide +kernel
theorem dX3_find_39 : decode cX3_find 39 = .ok (.iload 5, 2) := by decide +kernel
theorem dX3_find_41 : decode cX3_find 41 = .ok (.iload_n 2, 1) := by decide +kernel
theorem dX3_find_42 : decode cX3_find 42 = .ok (.iload 4, 2) := by decide +kernel
theorem dX3_find_44 : decode cX3_find 44 = .ok (.invokevirtual 53, 3) := by decide +kernel
theorem dX3_find_47 : decode cX3_find 47 = .ok (.ireturn, 1) := by decide +kernel
theorem dX3_find_48 : decode cX3_find 48 = .ok (.iload 4, 2) := by decide +kernel
theorem dX3_find_50 : decode cX3_find 50 = .ok (.iload 6, 2) := by decide +kernel
theorem dX3_find_52 : decode cX3_find 52 = .ok (.isub, 1) := by decide +kernel
theorem dX3_find_53 : decode cX3_find 53 = .ok (.istore 4, 2) := by decide +kernel
theorem dX3_find_55 : decode cX3_find 55 = .ok (.iinc 5 1, 3) := by decide +kernel
theorem dX3_find_58 : decode cX3_find 58 = .ok (.goto (-46), 3) := by decide +kernel
theorem dX3_find_61 : decode cX3_find 61 = .ok (.iconst 0, 1) := by decide +kernel
theorem dX3_find_62 : decode cX3_find 62 = .ok (.ireturn, 1) := by decide +kernel
theorem dX3_energy_0 : decode cX3_energy 0 = .ok (.aload_n 0, 1) := by decide +kernel
theorem dX3_energy_1 : decode cX3_energy 1 = .ok (.getfield 38, 3) := by decide +kernel
theorem dX3_energy_4 : decode cX3_energy 4 = .ok (.iconst 0, 1) := by decide +kernel
theorem dX3_energy_5 : decode cX3_energy 5 = .ok (.iaload, 1) := by decide +kernel
theorem dX3_energy_6 : decode cX3_energy 6 = .ok (.ifCond .ne 7, 3) := by decide +kernel
theorem dX3_energy_9 : decode cX3_energy 9 = .ok (.iconst (-1), 1) := by decide +kernel
theorem dX3_energy_10 : decode cX3_energy 10 = .ok (.goto 27, 3) := by decide +kernel
theorem dX3_energy_13 : decode cX3_energy 13 = .ok (.aload_n 1, 1) := by decide +kernel
theorem dX3_energy_14 : decode cX3_energy 14 = .ok (.getfield 57, 3) := by decide +kernel
theorem dX3_energy_17 : decode cX3_energy 17 = .ok (.aload_n 0, 1) := by decide +kernel
theorem dX3_energy_18 : decode cX3_energy 18 = .ok (.getfield 38, 3) := by decide +kernel
theorem dX3_energy_21 : decode cX3_energy 21 = .ok (.iconst 1, 1) := by decide +kernel
theorem dX3_energy_22 : decode cX3_energy 22 = .ok (.iaload, 1) := by decide +kernel
theorem dX3_energy_23 : decode cX3_energy 23 = .ok (.imul, 1) := by decide +kernel
theorem dX3_energy_24 : decode cX3_energy 24 = .ok (.aload_n 0, 1) := by decide +kernel
theorem dX3_energy_25 : decode cX3_energy 25 = .ok (.getfield 38, 3) := by decide +kernel
theorem dX3_energy_28 : decode cX3_energy 28 = .ok (.iconst 0, 1) := by decide +kernel
theorem dX3_energy_29 : decode cX3_energy 29 = .ok (.iaload, 1) := by decide +kernel
theorem dX3_energy_30 : decode cX3_energy 30 = .ok (.aload_n 1, 1) := by decide +kernel
theorem dX3_energy_31 : decode cX3_energy 31 = .ok (.getfield 61, 3) := by decide +kernel
theorem dX3_energy_34 : decode cX3_energy 34 = .ok (.invokestatic 64, 3) := by decide +kernel
theorem dX3_energy_37 : decode cX3_energy 37 = .ok (.ireturn, 1) := by decide +kernel
theorem dX3_move_0 : decode cX3_move 0 = .ok (.aload_n 0, 1) := by decide +kernel
theorem dX3_move_1 : decode cX3_move 1 = .ok (.getfield 38, 3) := by decide +kernel
theorem dX3_move_4 : decode cX3_move 4 = .ok (.iconst 0, 1) := by decide +kernel
theorem dX3_move_5 : decode cX3_move 5 = .ok (.iaload, 1) := by decide +kernel
theorem dX3_move_6 : decode cX3_move 6 = .ok (.ifCond .ne 7, 3) := by decide +kernel
theorem dX3_move_9 : decode cX3_move 9 = .ok (.iconst (-1), 1) := by decide +kernel
theorem dX3_move_10 : decode cX3_move 10 = .ok (.goto 31, 3) := by decide +kernel
theorem dX3_move_13 : decode cX3_move 13 = .ok (.aload_n 0, 1) := by decide +kernel
theorem dX3_move_14 : decode cX3_move 14 = .ok (.getfield 38, 3) := by decide +kernel
theorem dX3_move_17 : decode cX3_move 17 = .ok (.iconst 0, 1) := by decide +kernel
theorem dX3_move_18 : decode cX3_move 18 = .ok (.iaload, 1) := by decide +kernel
theorem dX3_move_19 : decode cX3_move 19 = .ok (.aload_n 1, 1) := by decide +kernel
theorem dX3_move_20 : decode cX3_move 20 = .ok (.getfield 57, 3) := by decide +kernel
theorem dX3_move_23 : decode cX3_move 23 = .ok (.aload_n 1, 1) := by decide +kernel
theorem dX3_move_24 : decode cX3_move 24 = .ok (.getfield 68, 3) := by decide +kernel
theorem dX3_move_27 : decode cX3_move 27 = .ok (.aload_n 1, 1) := by decide +kernel
theorem dX3_move_28 : decode cX3_move 28 = .ok (.getfield 61, 3) := by decide +kernel
theorem dX3_move_31 : decode cX3_move 31 = .ok (.invokestatic 71, 3) := by decide +kernel
theorem dX3_move_34 : decode cX3_move 34 = .ok (.aload_n 1, 1) := by decide +kernel
theorem dX3_move_35 : decode cX3_move 35 = .ok (.getfield 61, 3) := by decide +kernel
theorem dX3_move_38 : decode cX3_move 38 = .ok (.invokestatic 64, 3) := by decide +kernel
theorem dX3_move_41 : decode cX3_move 41 = .ok (.ireturn, 1) := by decide +kernel
theorem dX3_rowsFor_0 : decode cX3_rowsFor 0 = .ok (.iload_n 1, 1) := by decide +kernel
theorem dX3_rowsFor_1 : decode cX3_rowsFor 1 = .ok (.iconst 2, 1) := by decide +kernel
theorem dX3_rowsFor_2 : decode cX3_rowsFor 2 = .ok (.if_icmp .ne 18, 3) := by decide +kernel
theorem dX3_rowsFor_5 : decode cX3_rowsFor 5 = .ok (.aload_n 0, 1) := by decide +kernel
theorem dX3_rowsFor_6 : decode cX3_rowsFor 6 = .ok (.getfield 12, 3) := by decide +kernel
theorem dX3_rowsFor_9 : decode cX3_rowsFor 9 = .ok (.getfield 61, 3) := by decide +kernel
theorem dX3_rowsFor_12 : decode cX3_rowsFor 12 = .ok (.bipush 97, 2) := by decide +kernel
theorem dX3_rowsFor_14 : decode cX3_rowsFor 14 = .ok (.invokestatic 74, 3) := by decide +kernel
theorem dX3_rowsFor_17 : decode cX3_rowsFor 17 = .ok (.goto 4, 3) := by decide +kernel
theorem dX3_rowsFor_20 : decode cX3_rowsFor 20 = .ok (.iconst 1, 1) := by decide +kernel
theorem dX3_rowsFor_21 : decode cX3_rowsFor 21 = .ok (.ireturn, 1) := by decide +kernel
theorem dX3_lastsFor_0 : decode cX3_lastsFor 0 = .ok (.iload_n 1, 1) := by decide +kernel
theorem dX3_lastsFor_1 : decode cX3_lastsFor 1 = .ok (.ifCond .ne 7, 3) := by decide +kernel
theorem dX3_lastsFor_4 : decode cX3_lastsFor 4 = .ok (.iconst 1, 1) := by decide +kernel
theorem dX3_lastsFor_5 : decode cX3_lastsFor 5 = .ok (.goto 10, 3) := by decide +kernel
theorem dX3_lastsFor_8 : decode cX3_lastsFor 8 = .ok (.aload_n 0, 1) := by decide +kernel
theorem dX3_lastsFor_9 : decode cX3_lastsFor 9 = .ok (.getfield 12, 3) := by decide +kernel
theorem dX3_lastsFor_12 : decode cX3_lastsFor 12 = .ok (.getfield 61, 3) := by decide +kernel
theorem dX3_lastsFor_15 : decode cX3_lastsFor 15 = .ok (.ireturn, 1) := by decide +kernel
theorem dX3_countRows_0 : decode cX3_countRows 0 = .ok (.aload_n 0, 1) := by decide +kernel
theorem dX3_countRows_1 : decode cX3_countRows 1 = .ok (.getfield 12, 3) := by decide +kernel
theorem dX3_countRows_4 : decode cX3_countRows 4 = .ok (.aload_n 1, 1) := by decide +kernel
theorem dX3_countRows_5 : decode cX3_countRows 5 = .ok (.invokevirtual 79, 3) := by decide +kernel
theorem dX3_countRows_8 : decode cX3_countRows 8 = .ok (.ifCond .ne 16, 3) := by decide +kernel
theorem dX3_countRows_11 : decode cX3_countRows 11 = .ok (.aload_n 0, 1) := by decide +kernel
theorem dX3_countRows_12 : decode cX3_countRows 12 = .ok (.iconst 0, 1) := by decide +kernel
theorem dX3_countRows_13 : decode cX3_countRows 13 = .ok (.putfield 18, 3) := by decide +kernel
theorem dX3_countRows_16 : decode cX3_countRows 16 = .ok (.aload_n 0, 1) := by decide +kernel
theorem dX3_countRows_17 : decode cX3_countRows 17 = .ok (.getfield 12, 3) := by decide +kernel
theorem dX3_countRows_20 : decode cX3_countRows 20 = .ok (.aload_n 1, 1) := by decide +kernel
theorem dX3_countRows_21 : decode cX3_countRows 21 = .ok (.invokevirtual 83, 3) := by decide +kernel
theorem dX3_countRows_24 : decode cX3_countRows 24 = .ok (.aload_n 0, 1) := by decide +kernel
theorem dX3_countRows_25 : decode cX3_countRows 25 = .ok (.invokevirtual 87, 3) := by decide +kernel
theorem dX3_countRows_28 : decode cX3_countRows 28 = .ok (.iload_n 2, 1) := by decide +kernel
theorem dX3_countRows_29 : decode cX3_countRows 29 = .ok (.iconst 2, 1) := by decide +kernel
theorem dX3_countRows_30 : decode cX3_countRows 30 = .ok (.if_icmp .ne 44, 3) := by decide +kernel
theorem dX3_countRows_33 : decode cX3_countRows 33 = .ok (.aload_n 0, 1) := by decide +kernel
theorem dX3_countRows_34 : decode cX3_countRows 34 = .ok (.getfield 18, 3) := by decide +kernel
theorem dX3_countRows_37 : decode cX3_countRows 37 = .ok (.ifCond .ne 37, 3) := by decide +kernel
theorem dX3_countRows_40 : decode cX3_countRows 40 = .ok (.iconst 0, 1) := by decide +kernel
theorem dX3_countRows_41 : decode cX3_countRows 41 = .ok (.istore_n 3, 1) := by decide +kernel
theorem dX3_countRows_42 : decode cX3_countRows 42 = .ok (.iload_n 3, 1) := by decide +kernel
theorem dX3_countRows_43 : decode cX3_countRows 43 = .ok (.aload_n 0, 1) := by decide +kernel
theorem dX3_countRows_44 : decode cX3_countRows 44 = .ok (.iload_n 2, 1) := by decide +kernel
theorem dX3_countRows_45 : decode cX3_countRows 45 = .ok (.invokevirtual 45, 3) := by decide +kernel
theorem dX3_countRows_48 : decode cX3_countRows 48 = .ok (.if_icmp .ge 21, 3) := by decide +kernel
theorem dX3_countRows_51 : decode cX3_countRows 51 = .ok (.aload_n 0, 1) := by decide +kernel
theorem dX3_countRows_52 : decode cX3_countRows 52 = .ok (.getfield 22, 3) := by decide +kernel
theorem dX3_countRows_55 : decode cX3_countRows 55 = .ok (.iload_n 3, 1) := by decide +kernel
theorem dX3_countRows_56 : decode cX3_countRows 56 = .ok (.aload_n 0, 1) := by decide +kernel
theorem dX3_countRows_57 : decode cX3_countRows 57 = .ok (.iload_n 3, 1) := by decide +kernel
theorem dX3_countRows_58 : decode cX3_countRows 58 = .ok (.iload_n 2, 1) := by decide +kernel
theorem dX3_countRows_59 : decode cX3_countRows 59 = .ok (.invokevirtual 90, 3) := by decide +kernel
theorem dX3_countRows_62 : decode cX3_countRows 62 = .ok (.iastore, 1) := by decide +kernel
theorem dX3_countRows_63 : decode cX3_countRows 63 = .ok (.iinc 3 1, 3) := by decide +kernel
theorem dX3_countRows_66 : decode cX3_countRows 66 = .ok (.goto (-24), 3) := by decide +kernel
theorem dX3_countRows_69 : decode cX3_countRows 69 = .ok (.aload_n 0, 1) := by decide +kernel
theorem dX3_countRows_70 : decode cX3_countRows 70 = .ok (.iconst 1, 1) := by decide +kernel
theorem dX3_countRows_71 : decode cX3_countRows 71 = .ok (.putfield 18, 3) := by decide +kernel
theorem dX3_countRows_74 : decode cX3_countRows 74 = .ok (.return_, 1) := by decide +kernel
theorem dX3_countAt_0 : decode cX3_countAt 0 = .ok (.iload_n 2, 1) := by decide +kernel
theorem dX3_countAt_1 : decode cX3_countAt 1 = .ok (.iconst 2, 1) := by decide +kernel
theorem dX3_countAt_2 : decode cX3_countAt 2 = .ok (.if_icmp .ne 21, 3) := by decide +kernel
theorem dX3_countAt_5 : decode cX3_countAt 5 = .ok (.iload_n 1, 1) := by decide +kernel
theorem dX3_countAt_6 : decode cX3_countAt 6 = .ok (.aload_n 0, 1) := by decide +kernel
theorem dX3_countAt_7 : decode cX3_countAt 7 = .ok (.getfield 22, 3) := by decide +kernel
theorem dX3_countAt_10 : decode cX3_countAt 10 = .ok (.arraylength, 1) := by decide +kernel
theorem dX3_countAt_11 : decode cX3_countAt 11 = .ok (.if_icmp .ge 12, 3) := by decide +kernel
theorem dX3_countAt_14 : decode cX3_countAt 14 = .ok (.aload_n 0, 1) := by decide +kernel
theorem dX3_countAt_15 : decode cX3_countAt 15 = .ok (.getfield 22, 3) := by decide +kernel
theorem dX3_countAt_18 : decode cX3_countAt 18 = .ok (.iload_n 1, 1) := by decide +kernel
theorem dX3_countAt_19 : decode cX3_countAt 19 = .ok (.iaload, 1) := by decide +kernel
theorem dX3_countAt_20 : decode cX3_countAt 20 = .ok (.goto 9, 3) := by decide +kernel
theorem dX3_countAt_23 : decode cX3_countAt 23 = .ok (.aload_n 0, 1) := by decide +kernel
theorem dX3_countAt_24 : decode cX3_countAt 24 = .ok (.iload_n 1, 1) := by decide +kernel
theorem dX3_countAt_25 : decode cX3_countAt 25 = .ok (.iload_n 2, 1) := by decide +kernel
theorem dX3_countAt_26 : decode cX3_countAt 26 = .ok (.invokevirtual 90, 3) := by decide +kernel
theorem dX3_countAt_29 : decode cX3_countAt 29 = .ok (.ireturn, 1) := by decide +kernel
theorem dX3_countRow_0 : decode cX3_countRow 0 = .ok (.aload_n 0, 1) := by decide +kernel
theorem dX3_countRow_1 : decode cX3_countRow 1 = .ok (.iload_n 1, 1) := by decide +kernel
theorem dX3_countRow_2 : decode cX3_countRow 2 = .ok (.iload_n 2, 1) := by decide +kernel
theorem dX3_countRow_3 : decode cX3_countRow 3 = .ok (.invokevirtual 93, 3) := by decide +kernel
theorem dX3_countRow_6 : decode cX3_countRow 6 = .ok (.iconst 0, 1) := by decide +kernel
theorem dX3_countRow_7 : decode cX3_countRow 7 = .ok (.istore_n 3, 1) := by decide +kernel
theorem dX3_countRow_8 : decode cX3_countRow 8 = .ok (.iconst 0, 1) := by decide +kernel
theorem dX3_countRow_9 : decode cX3_countRow 9 = .ok (.istore 4, 2) := by decide +kernel
theorem dX3_countRow_11 : decode cX3_countRow 11 = .ok (.iload 4, 2) := by decide +kernel
theorem dX3_countRow_13 : decode cX3_countRow 13 = .ok (.aload_n 0, 1) := by decide +kernel
theorem dX3_countRow_14 : decode cX3_countRow 14 = .ok (.iload_n 2, 1) := by decide +kernel
theorem dX3_countRow_15 : decode cX3_countRow 15 = .ok (.invokevirtual 97, 3) := by decide +kernel
theorem dX3_countRow_18 : decode cX3_countRow 18 = .ok (.if_icmp .ge 23, 3) := by decide +kernel
theorem dX3_countRow_21 : decode cX3_countRow 21 = .ok (.aload_n 0, 1) := by decide +kernel
theorem dX3_countRow_22 : decode cX3_countRow 22 = .ok (.iload_n 1, 1) := by decide +kernel
theorem dX3_countRow_23 : decode cX3_countRow 23 = .ok (.iload 4, 2) := by decide +kernel
theorem dX3_countRow_25 : decode cX3_countRow 25 = .ok (.iload_n 2, 1) := by decide +kernel
theorem dX3_countRow_26 : decode cX3_countRow 26 = .ok (.invokevirtual 100, 3) := by decide +kernel
theorem dX3_countRow_29 : decode cX3_countRow 29 = .ok (.ifCond .eq 6, 3) := by decide +kernel
theorem dX3_countRow_32 : decode cX3_countRow 32 = .ok (.iinc 3 1, 3) := by decide +kernel
theorem dX3_countRow_35 : decode cX3_countRow 35 = .ok (.iinc 4 1, 3) := by decide +kernel
theorem dX3_countRow_38 : decode cX3_countRow 38 = .ok (.goto (-27), 3) := by decide +kernel
theorem dX3_countRow_41 : decode cX3_countRow 41 = .ok (.iload_n 3, 1) := by decide +kernel
theorem dX3_countRow_42 : decode cX3_countRow 42 = .ok (.ireturn, 1) := by decide +kernel
theorem dX3_pick_0 : decode cX3_pick 0 = .ok (.aload_n 0, 1) := by decide +kernel
theorem dX3_pick_1 : decode cX3_pick 1 = .ok (.iload_n 1, 1) := by decide +kernel
theorem dX3_pick_2 : decode cX3_pick 2 = .ok (.iload_n 2, 1) := by decide +kernel
theorem dX3_pick_3 : decode cX3_pick 3 = .ok (.invokevirtual 93, 3) := by decide +kernel
theorem dX3_pick_6 : decode cX3_pick 6 = .ok (.iload_n 3, 1) := by decide +kernel
theorem dX3_pick_7 : decode cX3_pick 7 = .ok (.istore 4, 2) := by decide +kernel
theorem dX3_pick_9 : decode cX3_pick 9 = .ok (.iconst 0, 1) := by decide +kernel
theorem dX3_pick_10 : decode cX3_pick 10 = .ok (.istore 5, 2) := by decide +kernel
theorem dX3_pick_12 : decode cX3_pick 12 = .ok (.iload 5, 2) := by decide +kernel
theorem dX3_pick_14 : decode cX3_pick 14 = .ok (.aload_n 0, 1) := by decide +kernel
theorem dX3_pick_15 : decode cX3_pick 15 = .ok (.iload_n 2, 1) := by decide +kernel
theorem dX3_pick_16 : decode cX3_pick 16 = .ok (.invokevirtual 97, 3) := by decide +kernel
theorem dX3_pick_19 : decode cX3_pick 19 = .ok (.if_icmp .ge 38, 3) := by decide +kernel
theorem dX3_pick_22 : decode cX3_pick 22 = .ok (.aload_n 0, 1) := by decide +kernel
theorem dX3_pick_23 : decode cX3_pick 23 = .ok (.iload_n 1, 1) := by decide +kernel
theorem dX3_pick_24 : decode cX3_pick 24 = .ok (.iload 5, 2) := by decide +kernel
theorem dX3_pick_26 : decode cX3_pick 26 = .ok (.iload_n 2, 1) := by decide +kernel
theorem dX3_pick_27 : decode cX3_pick 27 = .ok (.invokevirtual 100, 3) := by decide +kernel
theorem dX3_pick_30 : decode cX3_pick 30 = .ok (.ifCond .eq 21, 3) := by decide +kernel
theorem dX3_pick_33 : decode cX3_pick 33 = .ok (.iload 4, 2) := by decide +kernel
theorem dX3_pick_35 : decode cX3_pick 35 = .ok (.ifCond .ne 13, 3) := by decide +kernel
theorem dX3_pick_38 : decode cX3_pick 38 = .ok (.aload_n 0, 1) := by decide +kernel
theorem dX3_pick_39 : decode cX3_pick 39 = .ok (.iload_n 1, 1) := by decide +kernel
theorem dX3_pick_40 : decode cX3_pick 40 = .ok (.iload 5, 2) := by decide +kernel
theorem dX3_pick_42 : decode cX3_pick 42 = .ok (.iload_n 2, 1) := by decide +kernel
theorem dX3_pick_43 : decode cX3_pick 43 = .ok (.invokevirtual 103, 3) := by decide +kernel
theorem dX3_pick_46 : decode cX3_pick 46 = .ok (.iconst 1, 1) := by decide +kernel
theorem dX3_pick_47 : decode cX3_pick 47 = .ok (.ireturn, 1) := by decide +kernel
theorem dX3_pick_48 : decode cX3_pick 48 = .ok (.iinc 4 (-1), 3) := by decide +kernel
theorem dX3_pick_51 : decode cX3_pick 51 = .ok (.iinc 5 1, 3) := by decide +kernel
theorem dX3_pick_54 : decode cX3_pick 54 = .ok (.goto (-42), 3) := by decide +kernel
theorem dX3_pick_57 : decode cX3_pick 57 = .ok (.iconst 0, 1) := by decide +kernel
theorem dX3_pick_58 : decode cX3_pick 58 = .ok (.ireturn, 1) := by decide +kernel
theorem dX3_tell_0 : decode cX3_tell 0 = .ok (.aload_n 0, 1) := by decide +kernel
theorem dX3_tell_1 : decode cX3_tell 1 = .ok (.getfield 35, 3) := by decide +kernel
theorem dX3_tell_4 : decode cX3_tell 4 = .ok (.iconst 1, 1) := by decide +kernel
theorem dX3_tell_5 : decode cX3_tell 5 = .ok (.iload_n 1, 1) := by decide +kernel
theorem dX3_tell_6 : decode cX3_tell 6 = .ok (.iastore, 1) := by decide +kernel
theorem dX3_tell_7 : decode cX3_tell 7 = .ok (.aload_n 0, 1) := by decide +kernel
theorem dX3_tell_8 : decode cX3_tell 8 = .ok (.getfield 35, 3) := by decide +kernel
theorem dX3_tell_11 : decode cX3_tell 11 = .ok (.iconst 0, 1) := by decide +kernel
theorem dX3_tell_12 : decode cX3_tell 12 = .ok (.iload_n 2, 1) := by decide +kernel
theorem dX3_tell_13 : decode cX3_tell 13 = .ok (.iastore, 1) := by decide +kernel
theorem dX3_tell_14 : decode cX3_tell 14 = .ok (.aload_n 0, 1) := by decide +kernel
theorem dX3_tell_15 : decode cX3_tell 15 = .ok (.getfield 35, 3) := by decide +kernel
theorem dX3_tell_18 : decode cX3_tell 18 = .ok (.iload_n 3, 1) := by decide +kernel
theorem dX3_tell_19 : decode cX3_tell 19 = .ok (.iconst 1, 1) := by decide +kernel
theorem dX3_tell_20 : decode cX3_tell 20 = .ok (.iastore, 1) := by decide +kernel
theorem dX3_tell_21 : decode cX3_tell 21 = .ok (.iconst 0, 1) := by decide +kernel
theorem dX3_tell_22 : decode cX3_tell 22 = .ok (.istore 4, 2) := by decide +kernel
theorem dX3_tell_24 : decode cX3_tell 24 = .ok (.iload 4, 2) := by decide +kernel
theorem dX3_tell_26 : decode cX3_tell 26 = .ok (.aload_n 0, 1) := by decide +kernel
theorem dX3_tell_27 : decode cX3_tell 27 = .ok (.getfield 12, 3) := by decide +kernel
theorem dX3_tell_30 : decode cX3_tell 30 = .ok (.getfield 68, 3) := by decide +kernel
theorem dX3_tell_33 : decode cX3_tell 33 = .ok (.if_icmp .gt 61, 3) := by decide +kernel
theorem dX3_tell_36 : decode cX3_tell 36 = .ok (.aload_n 0, 1) := by decide +kernel
theorem dX3_tell_37 : decode cX3_tell 37 = .ok (.getfield 38, 3) := by decide +kernel
theorem dX3_tell_40 : decode cX3_tell 40 = .ok (.iload 4, 2) := by decide +kernel
theorem dX3_tell_42 : decode cX3_tell 42 = .ok (.aload_n 0, 1) := by decide +kernel
theorem dX3_tell_43 : decode cX3_tell 43 = .ok (.getfield 26, 3) := by decide +kernel
theorem dX3_tell_46 : decode cX3_tell 46 = .ok (.iload 4, 2) := by decide +kernel
theorem dX3_tell_48 : decode cX3_tell 48 = .ok (.iaload, 1) := by decide +kernel
theorem dX3_tell_49 : decode cX3_tell 49 = .ok (.iload 4, 2) := by decide +kernel
theorem dX3_tell_51 : decode cX3_tell 51 = .ok (.aload_n 0, 1) := by decide +kernel
theorem dX3_tell_52 : decode cX3_tell 52 = .ok (.getfield 12, 3) := by decide +kernel
theorem dX3_tell_55 : decode cX3_tell 55 = .ok (.getfield 68, 3) := by decide +kernel
theorem dX3_tell_58 : decode cX3_tell 58 = .ok (.if_icmp .ne 7, 3) := by decide +kernel
theorem dX3_tell_61 : decode cX3_tell 61 = .ok (.iconst 1, 1) := by decide +kernel
theorem dX3_tell_62 : decode cX3_tell 62 = .ok (.goto 4, 3) := by decide +kernel
theorem dX3_tell_65 : decode cX3_tell 65 = .ok (.iconst 0, 1) := by decide +kernel
theorem dX3_tell_66 : decode cX3_tell 66 = .ok (.iadd, 1) := by decide +kernel
theorem dX3_tell_67 : decode cX3_tell 67 = .ok (.aload_n 0, 1) := by decide +kernel
theorem dX3_tell_68 : decode cX3_tell 68 = .ok (.getfield 32, 3) := by decide +kernel
theorem dX3_tell_71 : decode cX3_tell 71 = .ok (.iload 4, 2) := by decide +kernel
theorem dX3_tell_73 : decode cX3_tell 73 = .ok (.iload_n 3, 1) := by decide +kernel
theorem dX3_tell_74 : decode cX3_tell 74 = .ok (.iadd, 1) := by decide +kernel
theorem dX3_tell_75 : decode cX3_tell 75 = .ok (.iaload, 1) := by decide +kernel
theorem dX3_tell_76 : decode cX3_tell 76 = .ok (.iadd, 1) := by decide +kernel
theorem dX3_tell_77 : decode cX3_tell 77 = .ok (.aload_n 0, 1) := by decide +kernel
theorem dX3_tell_78 : decode cX3_tell 78 = .ok (.getfield 12, 3) := by decide +kernel
theorem dX3_tell_81 : decode cX3_tell 81 = .ok (.getfield 61, 3) := by decide +kernel
theorem dX3_tell_84 : decode cX3_tell 84 = .ok (.invokestatic 107, 3) := by decide +kernel
theorem dX3_tell_87 : decode cX3_tell 87 = .ok (.iastore, 1) := by decide +kernel
theorem dX3_tell_88 : decode cX3_tell 88 = .ok (.iinc 4 1, 3) := by decide +kernel
theorem dX3_tell_91 : decode cX3_tell 91 = .ok (.goto (-67), 3) := by decide +kernel
theorem dX3_tell_94 : decode cX3_tell 94 = .ok (.return_, 1) := by decide +kernel
theorem dX3_fillBase_0 : decode cX3_fillBase 0 = .ok (.aload_n 0, 1) := by decide +kernel
theorem dX3_fillBase_1 : decode cX3_fillBase 1 = .ok (.getfield 26, 3) := by decide +kernel
theorem dX3_fillBase_4 : decode cX3_fillBase 4 = .ok (.invokestatic 110, 3) := by decide +kernel
theorem dX3_fillBase_7 : decode cX3_fillBase 7 = .ok (.aload_n 0, 1) := by decide +kernel
theorem dX3_fillBase_8 : decode cX3_fillBase 8 = .ok (.getfield 26, 3) := by decide +kernel
theorem dX3_fillBase_11 : decode cX3_fillBase 11 = .ok (.iconst 0, 1) := by decide +kernel
theorem dX3_fillBase_12 : decode cX3_fillBase 12 = .ok (.iconst 1, 1) := by decide +kernel
theorem dX3_fillBase_13 : decode cX3_fillBase 13 = .ok (.iastore, 1) := by decide +kernel
theorem dX3_fillBase_14 : decode cX3_fillBase 14 = .ok (.iconst 0, 1) := by decide +kernel
theorem dX3_fillBase_15 : decode cX3_fillBase 15 = .ok (.istore_n 1, 1) := by decide +kernel
theorem dX3_fillBase_16 : decode cX3_fillBase 16 = .ok (.iload_n 1, 1) := by decide +kernel
theorem dX3_fillBase_17 : decode cX3_fillBase 17 = .ok (.aload_n 0, 1) := by decide +kernel
theorem dX3_fillBase_18 : decode cX3_fillBase 18 = .ok (.getfield 12, 3) := by decide +kernel
theorem dX3_fillBase_21 : decode cX3_fillBase 21 = .ok (.getfield 68, 3) := by decide +kernel
theorem dX3_fillBase_24 : decode cX3_fillBase 24 = .ok (.if_icmp .ge 92, 3) := by decide +kernel
theorem dX3_fillBase_27 : decode cX3_fillBase 27 = .ok (.iload_n 1, 1) := by decide +kernel
theorem dX3_fillBase_28 : decode cX3_fillBase 28 = .ok (.iconst 1, 1) := by decide +kernel
theorem dX3_fillBase_29 : decode cX3_fillBase 29 = .ok (.iadd, 1) := by decide +kernel
theorem dX3_fillBase_30 : decode cX3_fillBase 30 = .ok (.istore_n 2, 1) := by decide +kernel
theorem dX3_fillBase_31 : decode cX3_fillBase 31 = .ok (.iload_n 2, 1) := by decide +kernel
theorem dX3_fillBase_32 : decode cX3_fillBase 32 = .ok (.ifCond .le 48, 3) := by decide +kernel
theorem dX3_fillBase_35 : decode cX3_fillBase 35 = .ok (.aload_n 0, 1) := by decide +kernel
theorem dX3_fillBase_36 : decode cX3_fillBase 36 = .ok (.getfield 26, 3) := by decide +kernel
theorem dX3_fillBase_39 : decode cX3_fillBase 39 = .ok (.iload_n 2, 1) := by decide +kernel
theorem dX3_fillBase_40 : decode cX3_fillBase 40 = .ok (.aload_n 0, 1) := by decide +kernel
theorem dX3_fillBase_41 : decode cX3_fillBase 41 = .ok (.getfield 26, 3) := by decide +kernel
theorem dX3_fillBase_44 : decode cX3_fillBase 44 = .ok (.iload_n 2, 1) := by decide +kernel
theorem dX3_fillBase_45 : decode cX3_fillBase 45 = .ok (.iaload, 1) := by decide +kernel
theorem dX3_fillBase_46 : decode cX3_fillBase 46 = .ok (.aload_n 0, 1) := by decide +kernel
theorem dX3_fillBase_47 : decode cX3_fillBase 47 = .ok (.getfield 12, 3) := by decide +kernel
theorem dX3_fillBase_50 : decode cX3_fillBase 50 = .ok (.getfield 57, 3) := by decide +kernel
theorem dX3_fillBase_53 : decode cX3_fillBase 53 = .ok (.imul, 1) := by decide +kernel
theorem dX3_fillBase_54 : decode cX3_fillBase 54 = .ok (.aload_n 0, 1) := by decide +kernel
theorem dX3_fillBase_55 : decode cX3_fillBase 55 = .ok (.getfield 26, 3) := by decide +kernel
theorem dX3_fillBase_58 : decode cX3_fillBase 58 = .ok (.iload_n 2, 1) := by decide +kernel
theorem dX3_fillBase_59 : decode cX3_fillBase 59 = .ok (.iconst 1, 1) := by decide +kernel
theorem dX3_fillBase_60 : decode cX3_fillBase 60 = .ok (.isub, 1) := by decide +kernel
theorem dX3_fillBase_61 : decode cX3_fillBase 61 = .ok (.iaload, 1) := by decide +kernel
theorem dX3_fillBase_62 : decode cX3_fillBase 62 = .ok (.iadd, 1) := by decide +kernel
theorem dX3_fillBase_63 : decode cX3_fillBase 63 = .ok (.aload_n 0, 1) := by decide +kernel
theorem dX3_fillBase_64 : decode cX3_fillBase 64 = .ok (.getfield 12, 3) := by decide +kernel
theorem dX3_fillBase_67 : decode cX3_fillBase 67 = .ok (.getfield 61, 3) := by decide +kernel
theorem dX3_fillBase_70 : decode cX3_fillBase 70 = .ok (.invokestatic 107, 3) := by decide +kernel
theorem dX3_fillBase_73 : decode cX3_fillBase 73 = .ok (.iastore, 1) := by decide +kernel
theorem dX3_fillBase_74 : decode cX3_fillBase 74 = .ok (.iinc 2 (-1), 3) := by decide +kernel
theorem dX3_fillBase_77 : decode cX3_fillBase 77 = .ok (.goto (-46), 3) := by decide +kernel
theorem dX3_fillBase_80 : decode cX3_fillBase 80 = .ok (.aload_n 0, 1) := by decide +kernel
theorem dX3_fillBase_81 : decode cX3_fillBase 81 = .ok (.getfield 26, 3) := by decide +kernel
theorem dX3_fillBase_84 : decode cX3_fillBase 84 = .ok (.iconst 0, 1) := by decide +kernel
theorem dX3_fillBase_85 : decode cX3_fillBase 85 = .ok (.aload_n 0, 1) := by decide +kernel
theorem dX3_fillBase_86 : decode cX3_fillBase 86 = .ok (.getfield 26, 3) := by decide +kernel
theorem dX3_fillBase_89 : decode cX3_fillBase 89 = .ok (.iconst 0, 1) := by decide +kernel
theorem dX3_fillBase_90 : decode cX3_fillBase 90 = .ok (.iaload, 1) := by decide +kernel
theorem dX3_fillBase_91 : decode cX3_fillBase 91 = .ok (.aload_n 0, 1) := by decide +kernel
theorem dX3_fillBase_92 : decode cX3_fillBase 92 = .ok (.getfield 12, 3) := by decide +kernel
theorem dX3_fillBase_95 : decode cX3_fillBase 95 = .ok (.getfield 57, 3) := by decide +kernel
theorem dX3_fillBase_98 : decode cX3_fillBase 98 = .ok (.imul, 1) := by decide +kernel
theorem dX3_fillBase_99 : decode cX3_fillBase 99 = .ok (.aload_n 0, 1) := by decide +kernel
theorem dX3_fillBase_100 : decode cX3_fillBase 100 = .ok (.getfield 12, 3) := by decide +kernel
theorem dX3_fillBase_103 : decode cX3_fillBase 103 = .ok (.getfield 61, 3) := by decide +kernel
theorem dX3_fillBase_106 : decode cX3_fillBase 106 = .ok (.invokestatic 107, 3) := by decide +kernel
theorem dX3_fillBase_109 : decode cX3_fillBase 109 = .ok (.iastore, 1) := by decide +kernel
theorem dX3_fillBase_110 : decode cX3_fillBase 110 = .ok (.iinc 1 1, 3) := by decide +kernel
theorem dX3_fillBase_113 : decode cX3_fillBase 113 = .ok (.goto (-97), 3) := by decide +kernel
theorem dX3_fillBase_116 : decode cX3_fillBase 116 = .ok (.return_, 1) := by decide +kernel
theorem dX3_openRow_0 : decode cX3_openRow 0 = .ok (.aload_n 0, 1) := by decide +kernel
theorem dX3_openRow_1 : decode cX3_openRow 1 = .ok (.getfield 12, 3) := by decide +kernel
theorem dX3_openRow_4 : decode cX3_openRow 4 = .ok (.getfield 57, 3) := by decide +kernel
theorem dX3_openRow_7 : decode cX3_openRow 7 = .ok (.iload_n 2, 1) := by decide +kernel
theorem dX3_openRow_8 : decode cX3_openRow 8 = .ok (.iconst 2, 1) := by decide +kernel
theorem dX3_openRow_9 : decode cX3_openRow 9 = .ok (.if_icmp .ne 7, 3) := by decide +kernel
theorem dX3_openRow_12 : decode cX3_openRow 12 = .ok (.iload_n 1, 1) := by decide +kernel
theorem dX3_openRow_13 : decode cX3_openRow 13 = .ok (.goto 4, 3) := by decide +kernel
theorem dX3_openRow_16 : decode cX3_openRow 16 = .ok (.iload_n 2, 1) := by decide +kernel
theorem dX3_openRow_17 : decode cX3_openRow 17 = .ok (.imul, 1) := by decide +kernel
theorem dX3_openRow_18 : decode cX3_openRow 18 = .ok (.aload_n 0, 1) := by decide +kernel
theorem dX3_openRow_19 : decode cX3_openRow 19 = .ok (.getfield 12, 3) := by decide +kernel
theorem dX3_openRow_22 : decode cX3_openRow 22 = .ok (.getfield 61, 3) := by decide +kernel
theorem dX3_openRow_25 : decode cX3_openRow 25 = .ok (.invokestatic 107, 3) := by decide +kernel
theorem dX3_openRow_28 : decode cX3_openRow 28 = .ok (.istore_n 3, 1) := by decide +kernel
theorem dX3_openRow_29 : decode cX3_openRow 29 = .ok (.iload_n 2, 1) := by decide +kernel
theorem dX3_openRow_30 : decode cX3_openRow 30 = .ok (.iconst 2, 1) := by decide +kernel
theorem dX3_openRow_31 : decode cX3_openRow 31 = .ok (.if_icmp .ne 25, 3) := by decide +kernel
theorem dX3_openRow_34 : decode cX3_openRow 34 = .ok (.iconst 2, 1) := by decide +kernel
theorem dX3_openRow_35 : decode cX3_openRow 35 = .ok (.aload_n 0, 1) := by decide +kernel
theorem dX3_openRow_36 : decode cX3_openRow 36 = .ok (.getfield 12, 3) := by decide +kernel
theorem dX3_openRow_39 : decode cX3_openRow 39 = .ok (.getfield 57, 3) := by decide +kernel
theorem dX3_openRow_42 : decode cX3_openRow 42 = .ok (.imul, 1) := by decide +kernel
theorem dX3_openRow_43 : decode cX3_openRow 43 = .ok (.aload_n 0, 1) := by decide +kernel
theorem dX3_openRow_44 : decode cX3_openRow 44 = .ok (.getfield 12, 3) := by decide +kernel
theorem dX3_openRow_47 : decode cX3_openRow 47 = .ok (.getfield 61, 3) := by decide +kernel
theorem dX3_openRow_50 : decode cX3_openRow 50 = .ok (.invokestatic 107, 3) := by decide +kernel
theorem dX3_openRow_53 : decode cX3_openRow 53 = .ok (.goto 4, 3) := by decide +kernel
theorem dX3_openRow_56 : decode cX3_openRow 56 = .ok (.iconst 0, 1) := by decide +kernel
theorem dX3_openRow_57 : decode cX3_openRow 57 = .ok (.istore 4, 2) := by decide +kernel
theorem dX3_openRow_59 : decode cX3_openRow 59 = .ok (.iload_n 2, 1) := by decide +kernel
theorem dX3_openRow_60 : decode cX3_openRow 60 = .ok (.iconst 2, 1) := by decide +kernel
theorem dX3_openRow_61 : decode cX3_openRow 61 = .ok (.if_icmp .ne 31, 3) := by decide +kernel
theorem dX3_openRow_64 : decode cX3_openRow 64 = .ok (.aload_n 0, 1) := by decide +kernel
theorem dX3_openRow_65 : decode cX3_openRow 65 = .ok (.getfield 12, 3) := by decide +kernel
theorem dX3_openRow_68 : decode cX3_openRow 68 = .ok (.getfield 57, 3) := by decide +kernel
theorem dX3_openRow_71 : decode cX3_openRow 71 = .ok (.aload_n 0, 1) := by decide +kernel
theorem dX3_openRow_72 : decode cX3_openRow 72 = .ok (.getfield 12, 3) := by decide +kernel
theorem dX3_openRow_75 : decode cX3_openRow 75 = .ok (.getfield 57, 3) := by decide +kernel
theorem dX3_openRow_78 : decode cX3_openRow 78 = .ok (.imul, 1) := by decide +kernel
theorem dX3_openRow_79 : decode cX3_openRow 79 = .ok (.aload_n 0, 1) := by decide +kernel
theorem dX3_openRow_80 : decode cX3_openRow 80 = .ok (.getfield 12, 3) := by decide +kernel
theorem dX3_openRow_83 : decode cX3_openRow 83 = .ok (.getfield 61, 3) := by decide +kernel
theorem dX3_openRow_86 : decode cX3_openRow 86 = .ok (.invokestatic 107, 3) := by decide +kernel
theorem dX3_openRow_89 : decode cX3_openRow 89 = .ok (.goto 4, 3) := by decide +kernel
theorem dX3_openRow_92 : decode cX3_openRow 92 = .ok (.iconst 0, 1) := by decide +kernel
theorem dX3_openRow_93 : decode cX3_openRow 93 = .ok (.istore 5, 2) := by decide +kernel
theorem dX3_openRow_95 : decode cX3_openRow 95 = .ok (.aload_n 0, 1) := by decide +kernel
theorem dX3_openRow_96 : decode cX3_openRow 96 = .ok (.getfield 29, 3) := by decide +kernel
theorem dX3_openRow_99 : decode cX3_openRow 99 = .ok (.invokestatic 110, 3) := by decide +kernel
theorem dX3_openRow_102 : decode cX3_openRow 102 = .ok (.aload_n 0, 1) := by decide +kernel
theorem dX3_openRow_103 : decode cX3_openRow 103 = .ok (.getfield 32, 3) := by decide +kernel
theorem dX3_openRow_106 : decode cX3_openRow 106 = .ok (.invokestatic 110, 3) := by decide +kernel
theorem dX3_openRow_109 : decode cX3_openRow 109 = .ok (.iconst 0, 1) := by decide +kernel
theorem dX3_openRow_110 : decode cX3_openRow 110 = .ok (.istore 6, 2) := by decide +kernel
theorem dX3_openRow_112 : decode cX3_openRow 112 = .ok (.iload 6, 2) := by decide +kernel
theorem dX3_openRow_114 : decode cX3_openRow 114 = .ok (.aload_n 0, 1) := by decide +kernel
theorem dX3_openRow_115 : decode cX3_openRow 115 = .ok (.getfield 12, 3) := by decide +kernel
theorem dX3_openRow_118 : decode cX3_openRow 118 = .ok (.getfield 68, 3) := by decide +kernel
theorem dX3_openRow_121 : decode cX3_openRow 121 = .ok (.if_icmp .gt 53, 3) := by decide +kernel
theorem dX3_openRow_124 : decode cX3_openRow 124 = .ok (.aload_n 0, 1) := by decide +kernel
theorem dX3_openRow_125 : decode cX3_openRow 125 = .ok (.getfield 29, 3) := by decide +kernel
theorem dX3_openRow_128 : decode cX3_openRow 128 = .ok (.iload 6, 2) := by decide +kernel
theorem dX3_openRow_130 : decode cX3_openRow 130 = .ok (.dup2, 1) := by decide +kernel
theorem dX3_openRow_131 : decode cX3_openRow 131 = .ok (.iaload, 1) := by decide +kernel
theorem dX3_openRow_132 : decode cX3_openRow 132 = .ok (.aload_n 0, 1) := by decide +kernel
theorem dX3_openRow_133 : decode cX3_openRow 133 = .ok (.getfield 26, 3) := by decide +kernel
theorem dX3_openRow_136 : decode cX3_openRow 136 = .ok (.iload 6, 2) := by decide +kernel
theorem dX3_openRow_138 : decode cX3_openRow 138 = .ok (.iaload, 1) := by decide +kernel
theorem dX3_openRow_139 : decode cX3_openRow 139 = .ok (.iload 5, 2) := by decide +kernel
theorem dX3_openRow_141 : decode cX3_openRow 141 = .ok (.iload_n 3, 1) := by decide +kernel
theorem dX3_openRow_142 : decode cX3_openRow 142 = .ok (.isub, 1) := by decide +kernel
theorem dX3_openRow_143 : decode cX3_openRow 143 = .ok (.imul, 1) := by decide +kernel
theorem dX3_openRow_144 : decode cX3_openRow 144 = .ok (.iadd, 1) := by decide +kernel
theorem dX3_openRow_145 : decode cX3_openRow 145 = .ok (.iastore, 1) := by decide +kernel
theorem dX3_openRow_146 : decode cX3_openRow 146 = .ok (.aload_n 0, 1) := by decide +kernel
theorem dX3_openRow_147 : decode cX3_openRow 147 = .ok (.getfield 29, 3) := by decide +kernel
theorem dX3_openRow_150 : decode cX3_openRow 150 = .ok (.iload 6, 2) := by decide +kernel
theorem dX3_openRow_152 : decode cX3_openRow 152 = .ok (.iconst 1, 1) := by decide +kernel
theorem dX3_openRow_153 : decode cX3_openRow 153 = .ok (.iadd, 1) := by decide +kernel
theorem dX3_openRow_154 : decode cX3_openRow 154 = .ok (.dup2, 1) := by decide +kernel
theorem dX3_openRow_155 : decode cX3_openRow 155 = .ok (.iaload, 1) := by decide +kernel
theorem dX3_openRow_156 : decode cX3_openRow 156 = .ok (.aload_n 0, 1) := by decide +kernel
theorem dX3_openRow_157 : decode cX3_openRow 157 = .ok (.getfield 26, 3) := by decide +kernel
theorem dX3_openRow_160 : decode cX3_openRow 160 = .ok (.iload 6, 2) := by decide +kernel
theorem dX3_openRow_162 : decode cX3_openRow 162 = .ok (.iaload, 1) := by decide +kernel
theorem dX3_openRow_163 : decode cX3_openRow 163 = .ok (.iload 4, 2) := by decide +kernel
theorem dX3_openRow_165 : decode cX3_openRow 165 = .ok (.imul, 1) := by decide +kernel
theorem dX3_openRow_166 : decode cX3_openRow 166 = .ok (.isub, 1) := by decide +kernel
theorem dX3_openRow_167 : decode cX3_openRow 167 = .ok (.iastore, 1) := by decide +kernel
theorem dX3_openRow_168 : decode cX3_openRow 168 = .ok (.iinc 6 1, 3) := by decide +kernel
theorem dX3_openRow_171 : decode cX3_openRow 171 = .ok (.goto (-59), 3) := by decide +kernel
theorem dX3_openRow_174 : decode cX3_openRow 174 = .ok (.aload_n 0, 1) := by decide +kernel
theorem dX3_openRow_175 : decode cX3_openRow 175 = .ok (.getfield 29, 3) := by decide +kernel
theorem dX3_openRow_178 : decode cX3_openRow 178 = .ok (.aload_n 0, 1) := by decide +kernel
theorem dX3_openRow_179 : decode cX3_openRow 179 = .ok (.getfield 12, 3) := by decide +kernel
theorem dX3_openRow_182 : decode cX3_openRow 182 = .ok (.getfield 68, 3) := by decide +kernel
theorem dX3_openRow_185 : decode cX3_openRow 185 = .ok (.dup2, 1) := by decide +kernel
theorem dX3_openRow_186 : decode cX3_openRow 186 = .ok (.iaload, 1) := by decide +kernel
theorem dX3_openRow_187 : decode cX3_openRow 187 = .ok (.iload 5, 2) := by decide +kernel
theorem dX3_openRow_189 : decode cX3_openRow 189 = .ok (.iload_n 3, 1) := by decide +kernel
theorem dX3_openRow_190 : decode cX3_openRow 190 = .ok (.iadd, 1) := by decide +kernel
theorem dX3_openRow_191 : decode cX3_openRow 191 = .ok (.iadd, 1) := by decide +kernel
theorem dX3_openRow_192 : decode cX3_openRow 192 = .ok (.iastore, 1) := by decide +kernel
theorem dX3_openRow_193 : decode cX3_openRow 193 = .ok (.aload_n 0, 1) := by decide +kernel
theorem dX3_openRow_194 : decode cX3_openRow 194 = .ok (.getfield 29, 3) := by decide +kernel
theorem dX3_openRow_197 : decode cX3_openRow 197 = .ok (.aload_n 0, 1) := by decide +kernel
theorem dX3_openRow_198 : decode cX3_openRow 198 = .ok (.getfield 12, 3) := by decide +kernel
theorem dX3_openRow_201 : decode cX3_openRow 201 = .ok (.getfield 68, 3) := by decide +kernel
theorem dX3_openRow_204 : decode cX3_openRow 204 = .ok (.iconst 1, 1) := by decide +kernel
theorem dX3_openRow_205 : decode cX3_openRow 205 = .ok (.iadd, 1) := by decide +kernel
theorem dX3_openRow_206 : decode cX3_openRow 206 = .ok (.dup2, 1) := by decide +kernel
theorem dX3_openRow_207 : decode cX3_openRow 207 = .ok (.iaload, 1) := by decide +kernel
theorem dX3_openRow_208 : decode cX3_openRow 208 = .ok (.iload 4, 2) := by decide +kernel
theorem dX3_openRow_210 : decode cX3_openRow 210 = .ok (.iadd, 1) := by decide +kernel
theorem dX3_openRow_211 : decode cX3_openRow 211 = .ok (.iastore, 1) := by decide +kernel
theorem dX3_openRow_212 : decode cX3_openRow 212 = .ok (.iconst 0, 1) := by decide +kernel
theorem dX3_openRow_213 : decode cX3_openRow 213 = .ok (.istore 6, 2) := by decide +kernel
theorem dX3_openRow_215 : decode cX3_openRow 215 = .ok (.iload 6, 2) := by decide +kernel
theorem dX3_openRow_217 : decode cX3_openRow 217 = .ok (.aload_n 0, 1) := by decide +kernel
theorem dX3_openRow_218 : decode cX3_openRow 218 = .ok (.getfield 12, 3) := by decide +kernel
theorem dX3_openRow_221 : decode cX3_openRow 221 = .ok (.getfield 68, 3) := by decide +kernel
theorem dX3_openRow_224 : decode cX3_openRow 224 = .ok (.iconst 1, 1) := by decide +kernel
theorem dX3_openRow_225 : decode cX3_openRow 225 = .ok (.iadd, 1) := by decide +kernel
theorem dX3_openRow_226 : decode cX3_openRow 226 = .ok (.if_icmp .gt 33, 3) := by decide +kernel
theorem dX3_openRow_229 : decode cX3_openRow 229 = .ok (.aload_n 0, 1) := by decide +kernel
theorem dX3_openRow_230 : decode cX3_openRow 230 = .ok (.getfield 29, 3) := by decide +kernel
theorem dX3_openRow_233 : decode cX3_openRow 233 = .ok (.iload 6, 2) := by decide +kernel
theorem dX3_openRow_235 : decode cX3_openRow 235 = .ok (.aload_n 0, 1) := by decide +kernel
theorem dX3_openRow_236 : decode cX3_openRow 236 = .ok (.getfield 29, 3) := by decide +kernel
theorem dX3_openRow_239 : decode cX3_openRow 239 = .ok (.iload 6, 2) := by decide +kernel
theorem dX3_openRow_241 : decode cX3_openRow 241 = .ok (.iaload, 1) := by decide +kernel
theorem dX3_openRow_242 : decode cX3_openRow 242 = .ok (.aload_n 0, 1) := by decide +kernel
theorem dX3_openRow_243 : decode cX3_openRow 243 = .ok (.getfield 12, 3) := by decide +kernel
theorem dX3_openRow_246 : decode cX3_openRow 246 = .ok (.getfield 61, 3) := by decide +kernel
theorem dX3_openRow_249 : decode cX3_openRow 249 = .ok (.invokestatic 107, 3) := by decide +kernel
theorem dX3_openRow_252 : decode cX3_openRow 252 = .ok (.iastore, 1) := by decide +kernel
theorem dX3_openRow_253 : decode cX3_openRow 253 = .ok (.iinc 6 1, 3) := by decide +kernel
theorem dX3_openRow_256 : decode cX3_openRow 256 = .ok (.goto (-41), 3) := by decide +kernel
theorem dX3_openRow_259 : decode cX3_openRow 259 = .ok (.return_, 1) := by decide +kernel
theorem dX3_divides_0 : decode cX3_divides 0 = .ok (.iload_n 3, 1) := by decide +kernel
theorem dX3_divides_1 : decode cX3_divides 1 = .ok (.iconst 2, 1) := by decide +kernel
theorem dX3_divides_2 : decode cX3_divides 2 = .ok (.if_icmp .ne 7, 3) := by decide +kernel
theorem dX3_divides_5 : decode cX3_divides 5 = .ok (.iload_n 1, 1) := by decide +kernel
theorem dX3_divides_6 : decode cX3_divides 6 = .ok (.goto 13, 3) := by decide +kernel
theorem dX3_divides_9 : decode cX3_divides 9 = .ok (.iload_n 3, 1) := by decide +kernel
theorem dX3_divides_10 : decode cX3_divides 10 = .ok (.iconst 1, 1) := by decide +kernel
theorem dX3_divides_11 : decode cX3_divides 11 = .ok (.if_icmp .ne 7, 3) := by decide +kernel
theorem dX3_divides_14 : decode cX3_divides 14 = .ok (.iload_n 2, 1) := by decide +kernel
theorem dX3_divides_15 : decode cX3_divides 15 = .ok (.goto 4, 3) := by decide +kernel
theorem dX3_divides_18 : decode cX3_divides 18 = .ok (.iconst 0, 1) := by decide +kernel
theorem dX3_divides_19 : decode cX3_divides 19 = .ok (.istore 4, 2) := by decide +kernel
theorem dX3_divides_21 : decode cX3_divides 21 = .ok (.iload_n 3, 1) := by decide +kernel
theorem dX3_divides_22 : decode cX3_divides 22 = .ok (.iconst 2, 1) := by decide +kernel
theorem dX3_divides_23 : decode cX3_divides 23 = .ok (.if_icmp .ne 7, 3) := by decide +kernel
theorem dX3_divides_26 : decode cX3_divides 26 = .ok (.iload_n 2, 1) := by decide +kernel
theorem dX3_divides_27 : decode cX3_divides 27 = .ok (.goto 4, 3) := by decide +kernel
theorem dX3_divides_30 : decode cX3_divides 30 = .ok (.iconst 0, 1) := by decide +kernel
theorem dX3_divides_31 : decode cX3_divides 31 = .ok (.istore 5, 2) := by decide +kernel
