theorem dX12_keeps_31 : decode cX12_keeps 31 = .ok (.aload_n 0, 1) := by decide +kernel
theorem dX12_keeps_32 : decode cX12_keeps 32 = .ok (.iload_n 1, 1) := by decide +kernel
theorem dX12_keeps_33 : decode cX12_keeps 33 = .ok (.invokevirtual 323, 3) := by decide +kernel
theorem dX12_keeps_36 : decode cX12_keeps 36 = .ok (.aload_n 0, 1) := by decide +kernel
theorem dX12_keeps_37 : decode cX12_keeps 37 = .ok (.invokevirtual 320, 3) := by decide +kernel
theorem dX12_keeps_40 : decode cX12_keeps 40 = .ok (.aload_n 0, 1) := by decide +kernel
theorem dX12_keeps_41 : decode cX12_keeps 41 = .ok (.invokevirtual 326, 3) := by decide +kernel
theorem dX12_keeps_44 : decode cX12_keeps 44 = .ok (.aload_n 0, 1) := by decide +kernel
theorem dX12_keeps_45 : decode cX12_keeps 45 = .ok (.iload_n 3, 1) := by decide +kernel
theorem dX12_keeps_46 : decode cX12_keeps 46 = .ok (.invokevirtual 317, 3) := by decide +kernel
theorem dX12_keeps_49 : decode cX12_keeps 49 = .ok (.aload_n 0, 1) := by decide +kernel
theorem dX12_keeps_50 : decode cX12_keeps 50 = .ok (.invokevirtual 320, 3) := by decide +kernel
theorem dX12_keeps_53 : decode cX12_keeps 53 = .ok (.aload_n 0, 1) := by decide +kernel
theorem dX12_keeps_54 : decode cX12_keeps 54 = .ok (.iload_n 1, 1) := by decide +kernel
theorem dX12_keeps_55 : decode cX12_keeps 55 = .ok (.invokevirtual 323, 3) := by decide +kernel
theorem dX12_keeps_58 : decode cX12_keeps 58 = .ok (.aload_n 0, 1) := by decide +kernel
theorem dX12_keeps_59 : decode cX12_keeps 59 = .ok (.invokevirtual 329, 3) := by decide +kernel
theorem dX12_keeps_62 : decode cX12_keeps 62 = .ok (.istore_n 2, 1) := by decide +kernel
theorem dX12_keeps_63 : decode cX12_keeps 63 = .ok (.iinc 3 1, 3) := by decide +kernel
theorem dX12_keeps_66 : decode cX12_keeps 66 = .ok (.goto (-52), 3) := by decide +kernel
theorem dX12_keeps_69 : decode cX12_keeps 69 = .ok (.iload_n 2, 1) := by decide +kernel
theorem dX12_keeps_70 : decode cX12_keeps 70 = .ok (.ireturn, 1) := by decide +kernel
theorem dX12_isSector_0 : decode cX12_isSector 0 = .ok (.iload_n 1, 1) := by decide +kernel
theorem dX12_isSector_1 : decode cX12_isSector 1 = .ok (.iconst 0, 1) := by decide +kernel
theorem dX12_isSector_2 : decode cX12_isSector 2 = .ok (.aload_n 0, 1) := by decide +kernel
theorem dX12_isSector_3 : decode cX12_isSector 3 = .ok (.getfield 7, 3) := by decide +kernel
theorem dX12_isSector_6 : decode cX12_isSector 6 = .ok (.iconst 0, 1) := by decide +kernel
theorem dX12_isSector_7 : decode cX12_isSector 7 = .ok (.iaload, 1) := by decide +kernel
theorem dX12_isSector_8 : decode cX12_isSector 8 = .ok (.invokestatic 124, 3) := by decide +kernel
theorem dX12_isSector_11 : decode cX12_isSector 11 = .ok (.ireturn, 1) := by decide +kernel
theorem dX12_laysSector_0 : decode cX12_laysSector 0 = .ok (.aload_n 0, 1) := by decide +kernel
theorem dX12_laysSector_1 : decode cX12_laysSector 1 = .ok (.iconst 0, 1) := by decide +kernel
theorem dX12_laysSector_2 : decode cX12_laysSector 2 = .ok (.putfield 333, 3) := by decide +kernel
theorem dX12_laysSector_5 : decode cX12_laysSector 5 = .ok (.iconst 0, 1) := by decide +kernel
theorem dX12_laysSector_6 : decode cX12_laysSector 6 = .ok (.istore_n 2, 1) := by decide +kernel
theorem dX12_laysSector_7 : decode cX12_laysSector 7 = .ok (.iload_n 2, 1) := by decide +kernel
theorem dX12_laysSector_8 : decode cX12_laysSector 8 = .ok (.aload_n 0, 1) := by decide +kernel
theorem dX12_laysSector_9 : decode cX12_laysSector 9 = .ok (.invokevirtual 128, 3) := by decide +kernel
theorem dX12_laysSector_12 : decode cX12_laysSector 12 = .ok (.if_icmp .ge 54, 3) := by decide +kernel
theorem dX12_laysSector_15 : decode cX12_laysSector 15 = .ok (.aload_n 0, 1) := by decide +kernel
theorem dX12_laysSector_16 : decode cX12_laysSector 16 = .ok (.getfield 93, 3) := by decide +kernel
theorem dX12_laysSector_19 : decode cX12_laysSector 19 = .ok (.iload_n 2, 1) := by decide +kernel
theorem dX12_laysSector_20 : decode cX12_laysSector 20 = .ok (.iconst (-1), 1) := by decide +kernel
theorem dX12_laysSector_21 : decode cX12_laysSector 21 = .ok (.iastore, 1) := by decide +kernel
theorem dX12_laysSector_22 : decode cX12_laysSector 22 = .ok (.iload_n 2, 1) := by decide +kernel
theorem dX12_laysSector_23 : decode cX12_laysSector 23 = .ok (.invokestatic 336, 3) := by decide +kernel
theorem dX12_laysSector_26 : decode cX12_laysSector 26 = .ok (.iload_n 1, 1) := by decide +kernel
theorem dX12_laysSector_27 : decode cX12_laysSector 27 = .ok (.if_icmp .ne 33, 3) := by decide +kernel
theorem dX12_laysSector_30 : decode cX12_laysSector 30 = .ok (.aload_n 0, 1) := by decide +kernel
theorem dX12_laysSector_31 : decode cX12_laysSector 31 = .ok (.getfield 90, 3) := by decide +kernel
theorem dX12_laysSector_34 : decode cX12_laysSector 34 = .ok (.aload_n 0, 1) := by decide +kernel
theorem dX12_laysSector_35 : decode cX12_laysSector 35 = .ok (.getfield 333, 3) := by decide +kernel
theorem dX12_laysSector_38 : decode cX12_laysSector 38 = .ok (.iload_n 2, 1) := by decide +kernel
theorem dX12_laysSector_39 : decode cX12_laysSector 39 = .ok (.iastore, 1) := by decide +kernel
theorem dX12_laysSector_40 : decode cX12_laysSector 40 = .ok (.aload_n 0, 1) := by decide +kernel
theorem dX12_laysSector_41 : decode cX12_laysSector 41 = .ok (.getfield 93, 3) := by decide +kernel
theorem dX12_laysSector_44 : decode cX12_laysSector 44 = .ok (.iload_n 2, 1) := by decide +kernel
theorem dX12_laysSector_45 : decode cX12_laysSector 45 = .ok (.aload_n 0, 1) := by decide +kernel
theorem dX12_laysSector_46 : decode cX12_laysSector 46 = .ok (.getfield 333, 3) := by decide +kernel
theorem dX12_laysSector_49 : decode cX12_laysSector 49 = .ok (.iastore, 1) := by decide +kernel
theorem dX12_laysSector_50 : decode cX12_laysSector 50 = .ok (.aload_n 0, 1) := by decide +kernel
theorem dX12_laysSector_51 : decode cX12_laysSector 51 = .ok (.dup, 1) := by decide +kernel
theorem dX12_laysSector_52 : decode cX12_laysSector 52 = .ok (.getfield 333, 3) := by decide +kernel
theorem dX12_laysSector_55 : decode cX12_laysSector 55 = .ok (.iconst 1, 1) := by decide +kernel
theorem dX12_laysSector_56 : decode cX12_laysSector 56 = .ok (.iadd, 1) := by decide +kernel
theorem dX12_laysSector_57 : decode cX12_laysSector 57 = .ok (.putfield 333, 3) := by decide +kernel
theorem dX12_laysSector_60 : decode cX12_laysSector 60 = .ok (.iinc 2 1, 3) := by decide +kernel
theorem dX12_laysSector_63 : decode cX12_laysSector 63 = .ok (.goto (-56), 3) := by decide +kernel
theorem dX12_laysSector_66 : decode cX12_laysSector 66 = .ok (.return_, 1) := by decide +kernel
theorem dX12_laysSquare_0 : decode cX12_laysSquare 0 = .ok (.aload_n 0, 1) := by decide +kernel
theorem dX12_laysSquare_1 : decode cX12_laysSquare 1 = .ok (.iload_n 1, 1) := by decide +kernel
theorem dX12_laysSquare_2 : decode cX12_laysSquare 2 = .ok (.invokevirtual 339, 3) := by decide +kernel
theorem dX12_laysSquare_5 : decode cX12_laysSquare 5 = .ok (.iconst 0, 1) := by decide +kernel
theorem dX12_laysSquare_6 : decode cX12_laysSquare 6 = .ok (.istore 4, 2) := by decide +kernel
theorem dX12_laysSquare_8 : decode cX12_laysSquare 8 = .ok (.iload 4, 2) := by decide +kernel
theorem dX12_laysSquare_10 : decode cX12_laysSquare 10 = .ok (.aload_n 0, 1) := by decide +kernel
theorem dX12_laysSquare_11 : decode cX12_laysSquare 11 = .ok (.getfield 333, 3) := by decide +kernel
theorem dX12_laysSquare_14 : decode cX12_laysSquare 14 = .ok (.if_icmp .ge 69, 3) := by decide +kernel
theorem dX12_laysSquare_17 : decode cX12_laysSquare 17 = .ok (.aload_n 0, 1) := by decide +kernel
theorem dX12_laysSquare_18 : decode cX12_laysSquare 18 = .ok (.aload_n 0, 1) := by decide +kernel
theorem dX12_laysSquare_19 : decode cX12_laysSquare 19 = .ok (.getfield 90, 3) := by decide +kernel
theorem dX12_laysSquare_22 : decode cX12_laysSquare 22 = .ok (.iload 4, 2) := by decide +kernel
theorem dX12_laysSquare_24 : decode cX12_laysSquare 24 = .ok (.iaload, 1) := by decide +kernel
theorem dX12_laysSquare_25 : decode cX12_laysSquare 25 = .ok (.invokevirtual 317, 3) := by decide +kernel
theorem dX12_laysSquare_28 : decode cX12_laysSquare 28 = .ok (.aload_n 0, 1) := by decide +kernel
theorem dX12_laysSquare_29 : decode cX12_laysSquare 29 = .ok (.iload_n 2, 1) := by decide +kernel
theorem dX12_laysSquare_30 : decode cX12_laysSquare 30 = .ok (.iload_n 3, 1) := by decide +kernel
theorem dX12_laysSquare_31 : decode cX12_laysSquare 31 = .ok (.invokevirtual 310, 3) := by decide +kernel
theorem dX12_laysSquare_34 : decode cX12_laysSquare 34 = .ok (.iconst 0, 1) := by decide +kernel
theorem dX12_laysSquare_35 : decode cX12_laysSquare 35 = .ok (.istore 5, 2) := by decide +kernel
theorem dX12_laysSquare_37 : decode cX12_laysSquare 37 = .ok (.iload 5, 2) := by decide +kernel
theorem dX12_laysSquare_39 : decode cX12_laysSquare 39 = .ok (.aload_n 0, 1) := by decide +kernel
theorem dX12_laysSquare_40 : decode cX12_laysSquare 40 = .ok (.getfield 333, 3) := by decide +kernel
theorem dX12_laysSquare_43 : decode cX12_laysSquare 43 = .ok (.if_icmp .ge 34, 3) := by decide +kernel
theorem dX12_laysSquare_46 : decode cX12_laysSquare 46 = .ok (.aload_n 0, 1) := by decide +kernel
theorem dX12_laysSquare_47 : decode cX12_laysSquare 47 = .ok (.getfield 96, 3) := by decide +kernel
theorem dX12_laysSquare_50 : decode cX12_laysSquare 50 = .ok (.bipush 35, 2) := by decide +kernel
theorem dX12_laysSquare_52 : decode cX12_laysSquare 52 = .ok (.iload 5, 2) := by decide +kernel
theorem dX12_laysSquare_54 : decode cX12_laysSquare 54 = .ok (.imul, 1) := by decide +kernel
theorem dX12_laysSquare_55 : decode cX12_laysSquare 55 = .ok (.iload 4, 2) := by decide +kernel
theorem dX12_laysSquare_57 : decode cX12_laysSquare 57 = .ok (.iadd, 1) := by decide +kernel
theorem dX12_laysSquare_58 : decode cX12_laysSquare 58 = .ok (.aload_n 0, 1) := by decide +kernel
theorem dX12_laysSquare_59 : decode cX12_laysSquare 59 = .ok (.getfield 81, 3) := by decide +kernel
theorem dX12_laysSquare_62 : decode cX12_laysSquare 62 = .ok (.aload_n 0, 1) := by decide +kernel
theorem dX12_laysSquare_63 : decode cX12_laysSquare 63 = .ok (.getfield 90, 3) := by decide +kernel
theorem dX12_laysSquare_66 : decode cX12_laysSquare 66 = .ok (.iload 5, 2) := by decide +kernel
theorem dX12_laysSquare_68 : decode cX12_laysSquare 68 = .ok (.iaload, 1) := by decide +kernel
theorem dX12_laysSquare_69 : decode cX12_laysSquare 69 = .ok (.iaload, 1) := by decide +kernel
theorem dX12_laysSquare_70 : decode cX12_laysSquare 70 = .ok (.iastore, 1) := by decide +kernel
theorem dX12_laysSquare_71 : decode cX12_laysSquare 71 = .ok (.iinc 5 1, 3) := by decide +kernel
theorem dX12_laysSquare_74 : decode cX12_laysSquare 74 = .ok (.goto (-37), 3) := by decide +kernel
theorem dX12_laysSquare_77 : decode cX12_laysSquare 77 = .ok (.iinc 4 1, 3) := by decide +kernel
theorem dX12_laysSquare_80 : decode cX12_laysSquare 80 = .ok (.goto (-72), 3) := by decide +kernel
theorem dX12_laysSquare_83 : decode cX12_laysSquare 83 = .ok (.return_, 1) := by decide +kernel
theorem dX12_rootOf_0 : decode cX12_rootOf 0 = .ok (.iconst 1, 1) := by decide +kernel
theorem dX12_rootOf_1 : decode cX12_rootOf 1 = .ok (.istore_n 1, 1) := by decide +kernel
theorem dX12_rootOf_2 : decode cX12_rootOf 2 = .ok (.iload_n 1, 1) := by decide +kernel
theorem dX12_rootOf_3 : decode cX12_rootOf 3 = .ok (.aload_n 0, 1) := by decide +kernel
theorem dX12_rootOf_4 : decode cX12_rootOf 4 = .ok (.getfield 7, 3) := by decide +kernel
theorem dX12_rootOf_7 : decode cX12_rootOf 7 = .ok (.iconst 2, 1) := by decide +kernel
theorem dX12_rootOf_8 : decode cX12_rootOf 8 = .ok (.iaload, 1) := by decide +kernel
theorem dX12_rootOf_9 : decode cX12_rootOf 9 = .ok (.if_icmp .ge 62, 3) := by decide +kernel
theorem dX12_rootOf_12 : decode cX12_rootOf 12 = .ok (.iload_n 1, 1) := by decide +kernel
theorem dX12_rootOf_13 : decode cX12_rootOf 13 = .ok (.istore_n 2, 1) := by decide +kernel
theorem dX12_rootOf_14 : decode cX12_rootOf 14 = .ok (.iconst 1, 1) := by decide +kernel
theorem dX12_rootOf_15 : decode cX12_rootOf 15 = .ok (.istore_n 3, 1) := by decide +kernel
theorem dX12_rootOf_16 : decode cX12_rootOf 16 = .ok (.iload_n 2, 1) := by decide +kernel
theorem dX12_rootOf_17 : decode cX12_rootOf 17 = .ok (.iconst 1, 1) := by decide +kernel
theorem dX12_rootOf_18 : decode cX12_rootOf 18 = .ok (.if_icmp .eq 30, 3) := by decide +kernel
theorem dX12_rootOf_21 : decode cX12_rootOf 21 = .ok (.iload_n 3, 1) := by decide +kernel
theorem dX12_rootOf_22 : decode cX12_rootOf 22 = .ok (.aload_n 0, 1) := by decide +kernel
theorem dX12_rootOf_23 : decode cX12_rootOf 23 = .ok (.getfield 7, 3) := by decide +kernel
theorem dX12_rootOf_26 : decode cX12_rootOf 26 = .ok (.iconst 0, 1) := by decide +kernel
theorem dX12_rootOf_27 : decode cX12_rootOf 27 = .ok (.iaload, 1) := by decide +kernel
theorem dX12_rootOf_28 : decode cX12_rootOf 28 = .ok (.if_icmp .ge 20, 3) := by decide +kernel
theorem dX12_rootOf_31 : decode cX12_rootOf 31 = .ok (.iload_n 2, 1) := by decide +kernel
theorem dX12_rootOf_32 : decode cX12_rootOf 32 = .ok (.iload_n 1, 1) := by decide +kernel
theorem dX12_rootOf_33 : decode cX12_rootOf 33 = .ok (.imul, 1) := by decide +kernel
theorem dX12_rootOf_34 : decode cX12_rootOf 34 = .ok (.aload_n 0, 1) := by decide +kernel
theorem dX12_rootOf_35 : decode cX12_rootOf 35 = .ok (.getfield 7, 3) := by decide +kernel
theorem dX12_rootOf_38 : decode cX12_rootOf 38 = .ok (.iconst 2, 1) := by decide +kernel
theorem dX12_rootOf_39 : decode cX12_rootOf 39 = .ok (.iaload, 1) := by decide +kernel
theorem dX12_rootOf_40 : decode cX12_rootOf 40 = .ok (.irem, 1) := by decide +kernel
theorem dX12_rootOf_41 : decode cX12_rootOf 41 = .ok (.istore_n 2, 1) := by decide +kernel
theorem dX12_rootOf_42 : decode cX12_rootOf 42 = .ok (.iinc 3 1, 3) := by decide +kernel
theorem dX12_rootOf_45 : decode cX12_rootOf 45 = .ok (.goto (-29), 3) := by decide +kernel
theorem dX12_rootOf_48 : decode cX12_rootOf 48 = .ok (.iload_n 2, 1) := by decide +kernel
theorem dX12_rootOf_49 : decode cX12_rootOf 49 = .ok (.iconst 1, 1) := by decide +kernel
theorem dX12_rootOf_50 : decode cX12_rootOf 50 = .ok (.if_icmp .ne 15, 3) := by decide +kernel
theorem dX12_rootOf_53 : decode cX12_rootOf 53 = .ok (.iload_n 3, 1) := by decide +kernel
theorem dX12_rootOf_54 : decode cX12_rootOf 54 = .ok (.aload_n 0, 1) := by decide +kernel
theorem dX12_rootOf_55 : decode cX12_rootOf 55 = .ok (.getfield 7, 3) := by decide +kernel
theorem dX12_rootOf_58 : decode cX12_rootOf 58 = .ok (.iconst 0, 1) := by decide +kernel
theorem dX12_rootOf_59 : decode cX12_rootOf 59 = .ok (.iaload, 1) := by decide +kernel
theorem dX12_rootOf_60 : decode cX12_rootOf 60 = .ok (.if_icmp .ne 5, 3) := by decide +kernel
theorem dX12_rootOf_63 : decode cX12_rootOf 63 = .ok (.iload_n 1, 1) := by decide +kernel
theorem dX12_rootOf_64 : decode cX12_rootOf 64 = .ok (.ireturn, 1) := by decide +kernel
theorem dX12_rootOf_65 : decode cX12_rootOf 65 = .ok (.iinc 1 1, 3) := by decide +kernel
theorem dX12_rootOf_68 : decode cX12_rootOf 68 = .ok (.goto (-66), 3) := by decide +kernel
theorem dX12_rootOf_71 : decode cX12_rootOf 71 = .ok (.iconst (-1), 1) := by decide +kernel
theorem dX12_rootOf_72 : decode cX12_rootOf 72 = .ok (.ireturn, 1) := by decide +kernel
theorem dX12_root_0 : decode cX12_root 0 = .ok (.aload_n 0, 1) := by decide +kernel
theorem dX12_root_1 : decode cX12_root 1 = .ok (.invokevirtual 342, 3) := by decide +kernel
theorem dX12_root_4 : decode cX12_root 4 = .ok (.ireturn, 1) := by decide +kernel
theorem dX12_roundOf_0 : decode cX12_roundOf 0 = .ok (.iconst 1, 1) := by decide +kernel
theorem dX12_roundOf_1 : decode cX12_roundOf 1 = .ok (.istore_n 2, 1) := by decide +kernel
theorem dX12_roundOf_2 : decode cX12_roundOf 2 = .ok (.aload_n 0, 1) := by decide +kernel
theorem dX12_roundOf_3 : decode cX12_roundOf 3 = .ok (.iload_n 1, 1) := by decide +kernel
theorem dX12_roundOf_4 : decode cX12_roundOf 4 = .ok (.invokevirtual 345, 3) := by decide +kernel
theorem dX12_roundOf_7 : decode cX12_roundOf 7 = .ok (.istore_n 3, 1) := by decide +kernel
theorem dX12_roundOf_8 : decode cX12_roundOf 8 = .ok (.iload_n 3, 1) := by decide +kernel
theorem dX12_roundOf_9 : decode cX12_roundOf 9 = .ok (.iload_n 1, 1) := by decide +kernel
theorem dX12_roundOf_10 : decode cX12_roundOf 10 = .ok (.if_icmp .eq 15, 3) := by decide +kernel
theorem dX12_roundOf_13 : decode cX12_roundOf 13 = .ok (.iinc 2 1, 3) := by decide +kernel
theorem dX12_roundOf_16 : decode cX12_roundOf 16 = .ok (.aload_n 0, 1) := by decide +kernel
theorem dX12_roundOf_17 : decode cX12_roundOf 17 = .ok (.iload_n 3, 1) := by decide +kernel
theorem dX12_roundOf_18 : decode cX12_roundOf 18 = .ok (.invokevirtual 345, 3) := by decide +kernel
theorem dX12_roundOf_21 : decode cX12_roundOf 21 = .ok (.istore_n 3, 1) := by decide +kernel
theorem dX12_roundOf_22 : decode cX12_roundOf 22 = .ok (.goto (-14), 3) := by decide +kernel
theorem dX12_roundOf_25 : decode cX12_roundOf 25 = .ok (.iload_n 2, 1) := by decide +kernel
theorem dX12_roundOf_26 : decode cX12_roundOf 26 = .ok (.ireturn, 1) := by decide +kernel
theorem dX12_leastOf_0 : decode cX12_leastOf 0 = .ok (.iload_n 1, 1) := by decide +kernel
theorem dX12_leastOf_1 : decode cX12_leastOf 1 = .ok (.istore_n 2, 1) := by decide +kernel
theorem dX12_leastOf_2 : decode cX12_leastOf 2 = .ok (.aload_n 0, 1) := by decide +kernel
theorem dX12_leastOf_3 : decode cX12_leastOf 3 = .ok (.iload_n 1, 1) := by decide +kernel
theorem dX12_leastOf_4 : decode cX12_leastOf 4 = .ok (.invokevirtual 345, 3) := by decide +kernel
theorem dX12_leastOf_7 : decode cX12_leastOf 7 = .ok (.istore_n 3, 1) := by decide +kernel
theorem dX12_leastOf_8 : decode cX12_leastOf 8 = .ok (.iload_n 3, 1) := by decide +kernel
theorem dX12_leastOf_9 : decode cX12_leastOf 9 = .ok (.iload_n 1, 1) := by decide +kernel
theorem dX12_leastOf_10 : decode cX12_leastOf 10 = .ok (.if_icmp .eq 23, 3) := by decide +kernel
theorem dX12_leastOf_13 : decode cX12_leastOf 13 = .ok (.iload_n 3, 1) := by decide +kernel
theorem dX12_leastOf_14 : decode cX12_leastOf 14 = .ok (.iload_n 2, 1) := by decide +kernel
theorem dX12_leastOf_15 : decode cX12_leastOf 15 = .ok (.if_icmp .ge 7, 3) := by decide +kernel
theorem dX12_leastOf_18 : decode cX12_leastOf 18 = .ok (.iload_n 3, 1) := by decide +kernel
theorem dX12_leastOf_19 : decode cX12_leastOf 19 = .ok (.goto 4, 3) := by decide +kernel
theorem dX12_leastOf_22 : decode cX12_leastOf 22 = .ok (.iload_n 2, 1) := by decide +kernel
theorem dX12_leastOf_23 : decode cX12_leastOf 23 = .ok (.istore_n 2, 1) := by decide +kernel
theorem dX12_leastOf_24 : decode cX12_leastOf 24 = .ok (.aload_n 0, 1) := by decide +kernel
theorem dX12_leastOf_25 : decode cX12_leastOf 25 = .ok (.iload_n 3, 1) := by decide +kernel
theorem dX12_leastOf_26 : decode cX12_leastOf 26 = .ok (.invokevirtual 345, 3) := by decide +kernel
theorem dX12_leastOf_29 : decode cX12_leastOf 29 = .ok (.istore_n 3, 1) := by decide +kernel
theorem dX12_leastOf_30 : decode cX12_leastOf 30 = .ok (.goto (-22), 3) := by decide +kernel
theorem dX12_leastOf_33 : decode cX12_leastOf 33 = .ok (.iload_n 2, 1) := by decide +kernel
theorem dX12_leastOf_34 : decode cX12_leastOf 34 = .ok (.ireturn, 1) := by decide +kernel
theorem dX12_isTurn_0 : decode cX12_isTurn 0 = .ok (.iload_n 1, 1) := by decide +kernel
theorem dX12_isTurn_1 : decode cX12_isTurn 1 = .ok (.iconst 0, 1) := by decide +kernel
theorem dX12_isTurn_2 : decode cX12_isTurn 2 = .ok (.aload_n 0, 1) := by decide +kernel
theorem dX12_isTurn_3 : decode cX12_isTurn 3 = .ok (.getfield 7, 3) := by decide +kernel
theorem dX12_isTurn_6 : decode cX12_isTurn 6 = .ok (.iconst 0, 1) := by decide +kernel
theorem dX12_isTurn_7 : decode cX12_isTurn 7 = .ok (.iaload, 1) := by decide +kernel
theorem dX12_isTurn_8 : decode cX12_isTurn 8 = .ok (.iconst 1, 1) := by decide +kernel
theorem dX12_isTurn_9 : decode cX12_isTurn 9 = .ok (.isub, 1) := by decide +kernel
theorem dX12_isTurn_10 : decode cX12_isTurn 10 = .ok (.invokestatic 124, 3) := by decide +kernel
theorem dX12_isTurn_13 : decode cX12_isTurn 13 = .ok (.ifCond .eq 15, 3) := by decide +kernel
theorem dX12_isTurn_16 : decode cX12_isTurn 16 = .ok (.aload_n 0, 1) := by decide +kernel
theorem dX12_isTurn_17 : decode cX12_isTurn 17 = .ok (.invokevirtual 342, 3) := by decide +kernel
theorem dX12_isTurn_20 : decode cX12_isTurn 20 = .ok (.iconst (-1), 1) := by decide +kernel
theorem dX12_isTurn_21 : decode cX12_isTurn 21 = .ok (.if_icmp .eq 7, 3) := by decide +kernel
theorem dX12_isTurn_24 : decode cX12_isTurn 24 = .ok (.iconst 1, 1) := by decide +kernel
theorem dX12_isTurn_25 : decode cX12_isTurn 25 = .ok (.goto 4, 3) := by decide +kernel
theorem dX12_isTurn_28 : decode cX12_isTurn 28 = .ok (.iconst 0, 1) := by decide +kernel
theorem dX12_isTurn_29 : decode cX12_isTurn 29 = .ok (.ireturn, 1) := by decide +kernel
theorem dX12_laysRounds_0 : decode cX12_laysRounds 0 = .ok (.aload_n 0, 1) := by decide +kernel
theorem dX12_laysRounds_1 : decode cX12_laysRounds 1 = .ok (.iconst 0, 1) := by decide +kernel
theorem dX12_laysRounds_2 : decode cX12_laysRounds 2 = .ok (.putfield 333, 3) := by decide +kernel
theorem dX12_laysRounds_5 : decode cX12_laysRounds 5 = .ok (.iconst 0, 1) := by decide +kernel
theorem dX12_laysRounds_6 : decode cX12_laysRounds 6 = .ok (.istore_n 3, 1) := by decide +kernel
theorem dX12_laysRounds_7 : decode cX12_laysRounds 7 = .ok (.iload_n 3, 1) := by decide +kernel
theorem dX12_laysRounds_8 : decode cX12_laysRounds 8 = .ok (.aload_n 0, 1) := by decide +kernel
theorem dX12_laysRounds_9 : decode cX12_laysRounds 9 = .ok (.invokevirtual 128, 3) := by decide +kernel
theorem dX12_laysRounds_12 : decode cX12_laysRounds 12 = .ok (.if_icmp .ge 80, 3) := by decide +kernel
theorem dX12_laysRounds_15 : decode cX12_laysRounds 15 = .ok (.aload_n 0, 1) := by decide +kernel
theorem dX12_laysRounds_16 : decode cX12_laysRounds 16 = .ok (.getfield 93, 3) := by decide +kernel
theorem dX12_laysRounds_19 : decode cX12_laysRounds 19 = .ok (.iload_n 3, 1) := by decide +kernel
theorem dX12_laysRounds_20 : decode cX12_laysRounds 20 = .ok (.iconst (-1), 1) := by decide +kernel
theorem dX12_laysRounds_21 : decode cX12_laysRounds 21 = .ok (.iastore, 1) := by decide +kernel
theorem dX12_laysRounds_22 : decode cX12_laysRounds 22 = .ok (.iload_n 3, 1) := by decide +kernel
theorem dX12_laysRounds_23 : decode cX12_laysRounds 23 = .ok (.invokestatic 336, 3) := by decide +kernel
theorem dX12_laysRounds_26 : decode cX12_laysRounds 26 = .ok (.iload_n 1, 1) := by decide +kernel
theorem dX12_laysRounds_27 : decode cX12_laysRounds 27 = .ok (.if_icmp .ne 59, 3) := by decide +kernel
theorem dX12_laysRounds_30 : decode cX12_laysRounds 30 = .ok (.aload_n 0, 1) := by decide +kernel
theorem dX12_laysRounds_31 : decode cX12_laysRounds 31 = .ok (.iload_n 3, 1) := by decide +kernel
theorem dX12_laysRounds_32 : decode cX12_laysRounds 32 = .ok (.invokevirtual 348, 3) := by decide +kernel
theorem dX12_laysRounds_35 : decode cX12_laysRounds 35 = .ok (.iload_n 3, 1) := by decide +kernel
theorem dX12_laysRounds_36 : decode cX12_laysRounds 36 = .ok (.if_icmp .ne 50, 3) := by decide +kernel
theorem dX12_laysRounds_39 : decode cX12_laysRounds 39 = .ok (.iload_n 2, 1) := by decide +kernel
theorem dX12_laysRounds_40 : decode cX12_laysRounds 40 = .ok (.aload_n 0, 1) := by decide +kernel
theorem dX12_laysRounds_41 : decode cX12_laysRounds 41 = .ok (.iload_n 3, 1) := by decide +kernel
theorem dX12_laysRounds_42 : decode cX12_laysRounds 42 = .ok (.invokevirtual 351, 3) := by decide +kernel
theorem dX12_laysRounds_45 : decode cX12_laysRounds 45 = .ok (.imul, 1) := by decide +kernel
theorem dX12_laysRounds_46 : decode cX12_laysRounds 46 = .ok (.aload_n 0, 1) := by decide +kernel
theorem dX12_laysRounds_47 : decode cX12_laysRounds 47 = .ok (.getfield 7, 3) := by decide +kernel
theorem dX12_laysRounds_50 : decode cX12_laysRounds 50 = .ok (.iconst 0, 1) := by decide +kernel
theorem dX12_laysRounds_51 : decode cX12_laysRounds 51 = .ok (.iaload, 1) := by decide +kernel
theorem dX12_laysRounds_52 : decode cX12_laysRounds 52 = .ok (.irem, 1) := by decide +kernel
theorem dX12_laysRounds_53 : decode cX12_laysRounds 53 = .ok (.ifCond .ne 33, 3) := by decide +kernel
theorem dX12_laysRounds_56 : decode cX12_laysRounds 56 = .ok (.aload_n 0, 1) := by decide +kernel
theorem dX12_laysRounds_57 : decode cX12_laysRounds 57 = .ok (.getfield 90, 3) := by decide +kernel
theorem dX12_laysRounds_60 : decode cX12_laysRounds 60 = .ok (.aload_n 0, 1) := by decide +kernel
theorem dX12_laysRounds_61 : decode cX12_laysRounds 61 = .ok (.getfield 333, 3) := by decide +kernel
theorem dX12_laysRounds_64 : decode cX12_laysRounds 64 = .ok (.iload_n 3, 1) := by decide +kernel
theorem dX12_laysRounds_65 : decode cX12_laysRounds 65 = .ok (.iastore, 1) := by decide +kernel
theorem dX12_laysRounds_66 : decode cX12_laysRounds 66 = .ok (.aload_n 0, 1) := by decide +kernel
theorem dX12_laysRounds_67 : decode cX12_laysRounds 67 = .ok (.getfield 93, 3) := by decide +kernel
theorem dX12_laysRounds_70 : decode cX12_laysRounds 70 = .ok (.iload_n 3, 1) := by decide +kernel
theorem dX12_laysRounds_71 : decode cX12_laysRounds 71 = .ok (.aload_n 0, 1) := by decide +kernel
theorem dX12_laysRounds_72 : decode cX12_laysRounds 72 = .ok (.getfield 333, 3) := by decide +kernel
theorem dX12_laysRounds_75 : decode cX12_laysRounds 75 = .ok (.iastore, 1) := by decide +kernel
theorem dX12_laysRounds_76 : decode cX12_laysRounds 76 = .ok (.aload_n 0, 1) := by decide +kernel
theorem dX12_laysRounds_77 : decode cX12_laysRounds 77 = .ok (.dup, 1) := by decide +kernel
theorem dX12_laysRounds_78 : decode cX12_laysRounds 78 = .ok (.getfield 333, 3) := by decide +kernel
theorem dX12_laysRounds_81 : decode cX12_laysRounds 81 = .ok (.iconst 1, 1) := by decide +kernel
theorem dX12_laysRounds_82 : decode cX12_laysRounds 82 = .ok (.iadd, 1) := by decide +kernel
theorem dX12_laysRounds_83 : decode cX12_laysRounds 83 = .ok (.putfield 333, 3) := by decide +kernel
theorem dX12_laysRounds_86 : decode cX12_laysRounds 86 = .ok (.iinc 3 1, 3) := by decide +kernel
theorem dX12_laysRounds_89 : decode cX12_laysRounds 89 = .ok (.goto (-82), 3) := by decide +kernel
theorem dX12_laysRounds_92 : decode cX12_laysRounds 92 = .ok (.return_, 1) := by decide +kernel
theorem dX12_laysTurn_0 : decode cX12_laysTurn 0 = .ok (.aload_n 0, 1) := by decide +kernel
theorem dX12_laysTurn_1 : decode cX12_laysTurn 1 = .ok (.iload_n 1, 1) := by decide +kernel
theorem dX12_laysTurn_2 : decode cX12_laysTurn 2 = .ok (.iload_n 2, 1) := by decide +kernel
theorem dX12_laysTurn_3 : decode cX12_laysTurn 3 = .ok (.invokevirtual 354, 3) := by decide +kernel
theorem dX12_laysTurn_6 : decode cX12_laysTurn 6 = .ok (.aload_n 0, 1) := by decide +kernel
theorem dX12_laysTurn_7 : decode cX12_laysTurn 7 = .ok (.aload_n 0, 1) := by decide +kernel
theorem dX12_laysTurn_8 : decode cX12_laysTurn 8 = .ok (.invokevirtual 342, 3) := by decide +kernel
theorem dX12_laysTurn_11 : decode cX12_laysTurn 11 = .ok (.iload_n 2, 1) := by decide +kernel
theorem dX12_laysTurn_12 : decode cX12_laysTurn 12 = .ok (.invokevirtual 357, 3) := by decide +kernel
theorem dX12_laysTurn_15 : decode cX12_laysTurn 15 = .ok (.istore_n 3, 1) := by decide +kernel
theorem dX12_laysTurn_16 : decode cX12_laysTurn 16 = .ok (.iconst 0, 1) := by decide +kernel
theorem dX12_laysTurn_17 : decode cX12_laysTurn 17 = .ok (.istore 4, 2) := by decide +kernel
theorem dX12_laysTurn_19 : decode cX12_laysTurn 19 = .ok (.iload 4, 2) := by decide +kernel
theorem dX12_laysTurn_21 : decode cX12_laysTurn 21 = .ok (.sipush 1225, 3) := by decide +kernel
theorem dX12_laysTurn_24 : decode cX12_laysTurn 24 = .ok (.if_icmp .ge 17, 3) := by decide +kernel
theorem dX12_laysTurn_27 : decode cX12_laysTurn 27 = .ok (.aload_n 0, 1) := by decide +kernel
theorem dX12_laysTurn_28 : decode cX12_laysTurn 28 = .ok (.getfield 96, 3) := by decide +kernel
theorem dX12_laysTurn_31 : decode cX12_laysTurn 31 = .ok (.iload 4, 2) := by decide +kernel
theorem dX12_laysTurn_33 : decode cX12_laysTurn 33 = .ok (.iconst 0, 1) := by decide +kernel
theorem dX12_laysTurn_34 : decode cX12_laysTurn 34 = .ok (.iastore, 1) := by decide +kernel
theorem dX12_laysTurn_35 : decode cX12_laysTurn 35 = .ok (.iinc 4 1, 3) := by decide +kernel
theorem dX12_laysTurn_38 : decode cX12_laysTurn 38 = .ok (.goto (-19), 3) := by decide +kernel
theorem dX12_laysTurn_41 : decode cX12_laysTurn 41 = .ok (.iconst 0, 1) := by decide +kernel
theorem dX12_laysTurn_42 : decode cX12_laysTurn 42 = .ok (.istore 4, 2) := by decide +kernel
theorem dX12_laysTurn_44 : decode cX12_laysTurn 44 = .ok (.iload 4, 2) := by decide +kernel
theorem dX12_laysTurn_46 : decode cX12_laysTurn 46 = .ok (.aload_n 0, 1) := by decide +kernel
theorem dX12_laysTurn_47 : decode cX12_laysTurn 47 = .ok (.getfield 333, 3) := by decide +kernel
theorem dX12_laysTurn_50 : decode cX12_laysTurn 50 = .ok (.if_icmp .ge 192, 3) := by decide +kernel
theorem dX12_laysTurn_53 : decode cX12_laysTurn 53 = .ok (.aload_n 0, 1) := by decide +kernel
theorem dX12_laysTurn_54 : decode cX12_laysTurn 54 = .ok (.aload_n 0, 1) := by decide +kernel
theorem dX12_laysTurn_55 : decode cX12_laysTurn 55 = .ok (.getfield 90, 3) := by decide +kernel
theorem dX12_laysTurn_58 : decode cX12_laysTurn 58 = .ok (.iload 4, 2) := by decide +kernel
theorem dX12_laysTurn_60 : decode cX12_laysTurn 60 = .ok (.iaload, 1) := by decide +kernel
theorem dX12_laysTurn_61 : decode cX12_laysTurn 61 = .ok (.invokevirtual 317, 3) := by decide +kernel
theorem dX12_laysTurn_64 : decode cX12_laysTurn 64 = .ok (.aload_n 0, 1) := by decide +kernel
theorem dX12_laysTurn_65 : decode cX12_laysTurn 65 = .ok (.invokevirtual 320, 3) := by decide +kernel
theorem dX12_laysTurn_68 : decode cX12_laysTurn 68 = .ok (.iconst 0, 1) := by decide +kernel
theorem dX12_laysTurn_69 : decode cX12_laysTurn 69 = .ok (.istore 5, 2) := by decide +kernel
theorem dX12_laysTurn_71 : decode cX12_laysTurn 71 = .ok (.iload 5, 2) := by decide +kernel
theorem dX12_laysTurn_73 : decode cX12_laysTurn 73 = .ok (.aload_n 0, 1) := by decide +kernel
theorem dX12_laysTurn_74 : decode cX12_laysTurn 74 = .ok (.invokevirtual 128, 3) := by decide +kernel
theorem dX12_laysTurn_77 : decode cX12_laysTurn 77 = .ok (.if_icmp .ge 159, 3) := by decide +kernel
theorem dX12_laysTurn_80 : decode cX12_laysTurn 80 = .ok (.aload_n 0, 1) := by decide +kernel
theorem dX12_laysTurn_81 : decode cX12_laysTurn 81 = .ok (.iload 5, 2) := by decide +kernel
theorem dX12_laysTurn_83 : decode cX12_laysTurn 83 = .ok (.invokevirtual 348, 3) := by decide +kernel
theorem dX12_laysTurn_86 : decode cX12_laysTurn 86 = .ok (.istore 6, 2) := by decide +kernel
theorem dX12_laysTurn_88 : decode cX12_laysTurn 88 = .ok (.aload_n 0, 1) := by decide +kernel
theorem dX12_laysTurn_89 : decode cX12_laysTurn 89 = .ok (.getfield 81, 3) := by decide +kernel
theorem dX12_laysTurn_92 : decode cX12_laysTurn 92 = .ok (.iload 5, 2) := by decide +kernel
theorem dX12_laysTurn_94 : decode cX12_laysTurn 94 = .ok (.iaload, 1) := by decide +kernel
theorem dX12_laysTurn_95 : decode cX12_laysTurn 95 = .ok (.ifCond .eq 135, 3) := by decide +kernel
theorem dX12_laysTurn_98 : decode cX12_laysTurn 98 = .ok (.aload_n 0, 1) := by decide +kernel
theorem dX12_laysTurn_99 : decode cX12_laysTurn 99 = .ok (.getfield 93, 3) := by decide +kernel
theorem dX12_laysTurn_102 : decode cX12_laysTurn 102 = .ok (.iload 6, 2) := by decide +kernel
theorem dX12_laysTurn_104 : decode cX12_laysTurn 104 = .ok (.iaload, 1) := by decide +kernel
theorem dX12_laysTurn_105 : decode cX12_laysTurn 105 = .ok (.iconst (-1), 1) := by decide +kernel
theorem dX12_laysTurn_106 : decode cX12_laysTurn 106 = .ok (.if_icmp .eq 124, 3) := by decide +kernel
theorem dX12_laysTurn_109 : decode cX12_laysTurn 109 = .ok (.iconst 0, 1) := by decide +kernel
theorem dX12_laysTurn_110 : decode cX12_laysTurn 110 = .ok (.istore 7, 2) := by decide +kernel
theorem dX12_laysTurn_112 : decode cX12_laysTurn 112 = .ok (.iload 6, 2) := by decide +kernel
theorem dX12_laysTurn_114 : decode cX12_laysTurn 114 = .ok (.istore 8, 2) := by decide +kernel
theorem dX12_laysTurn_116 : decode cX12_laysTurn 116 = .ok (.iload 8, 2) := by decide +kernel
theorem dX12_laysTurn_118 : decode cX12_laysTurn 118 = .ok (.iload 5, 2) := by decide +kernel
theorem dX12_laysTurn_120 : decode cX12_laysTurn 120 = .ok (.if_icmp .eq 17, 3) := by decide +kernel
theorem dX12_laysTurn_123 : decode cX12_laysTurn 123 = .ok (.iinc 7 1, 3) := by decide +kernel
theorem dX12_laysTurn_126 : decode cX12_laysTurn 126 = .ok (.aload_n 0, 1) := by decide +kernel
theorem dX12_laysTurn_127 : decode cX12_laysTurn 127 = .ok (.iload 8, 2) := by decide +kernel
theorem dX12_laysTurn_129 : decode cX12_laysTurn 129 = .ok (.invokevirtual 345, 3) := by decide +kernel
theorem dX12_laysTurn_132 : decode cX12_laysTurn 132 = .ok (.istore 8, 2) := by decide +kernel
theorem dX12_laysTurn_134 : decode cX12_laysTurn 134 = .ok (.goto (-18), 3) := by decide +kernel
theorem dX12_laysTurn_137 : decode cX12_laysTurn 137 = .ok (.aload_n 0, 1) := by decide +kernel
theorem dX12_laysTurn_138 : decode cX12_laysTurn 138 = .ok (.aload_n 0, 1) := by decide +kernel
theorem dX12_laysTurn_139 : decode cX12_laysTurn 139 = .ok (.aload_n 0, 1) := by decide +kernel
theorem dX12_laysTurn_140 : decode cX12_laysTurn 140 = .ok (.getfield 90, 3) := by decide +kernel
theorem dX12_laysTurn_143 : decode cX12_laysTurn 143 = .ok (.iload 4, 2) := by decide +kernel
theorem dX12_laysTurn_145 : decode cX12_laysTurn 145 = .ok (.iaload, 1) := by decide +kernel
theorem dX12_laysTurn_146 : decode cX12_laysTurn 146 = .ok (.invokevirtual 351, 3) := by decide +kernel
theorem dX12_laysTurn_149 : decode cX12_laysTurn 149 = .ok (.aload_n 0, 1) := by decide +kernel
theorem dX12_laysTurn_150 : decode cX12_laysTurn 150 = .ok (.getfield 7, 3) := by decide +kernel
theorem dX12_laysTurn_153 : decode cX12_laysTurn 153 = .ok (.iconst 2, 1) := by decide +kernel
theorem dX12_laysTurn_154 : decode cX12_laysTurn 154 = .ok (.iaload, 1) := by decide +kernel
theorem dX12_laysTurn_155 : decode cX12_laysTurn 155 = .ok (.irem, 1) := by decide +kernel
theorem dX12_laysTurn_156 : decode cX12_laysTurn 156 = .ok (.aload_n 0, 1) := by decide +kernel
theorem dX12_laysTurn_157 : decode cX12_laysTurn 157 = .ok (.iload 6, 2) := by decide +kernel
theorem dX12_laysTurn_159 : decode cX12_laysTurn 159 = .ok (.invokevirtual 351, 3) := by decide +kernel
theorem dX12_laysTurn_162 : decode cX12_laysTurn 162 = .ok (.aload_n 0, 1) := by decide +kernel
theorem dX12_laysTurn_163 : decode cX12_laysTurn 163 = .ok (.getfield 7, 3) := by decide +kernel
theorem dX12_laysTurn_166 : decode cX12_laysTurn 166 = .ok (.iconst 2, 1) := by decide +kernel
theorem dX12_laysTurn_167 : decode cX12_laysTurn 167 = .ok (.iaload, 1) := by decide +kernel
theorem dX12_laysTurn_168 : decode cX12_laysTurn 168 = .ok (.irem, 1) := by decide +kernel
theorem dX12_laysTurn_169 : decode cX12_laysTurn 169 = .ok (.invokevirtual 271, 3) := by decide +kernel
theorem dX12_laysTurn_172 : decode cX12_laysTurn 172 = .ok (.istore 8, 2) := by decide +kernel
theorem dX12_laysTurn_174 : decode cX12_laysTurn 174 = .ok (.bipush 35, 2) := by decide +kernel
theorem dX12_laysTurn_176 : decode cX12_laysTurn 176 = .ok (.aload_n 0, 1) := by decide +kernel
theorem dX12_laysTurn_177 : decode cX12_laysTurn 177 = .ok (.getfield 93, 3) := by decide +kernel
theorem dX12_laysTurn_180 : decode cX12_laysTurn 180 = .ok (.iload 6, 2) := by decide +kernel
theorem dX12_laysTurn_182 : decode cX12_laysTurn 182 = .ok (.iaload, 1) := by decide +kernel
theorem dX12_laysTurn_183 : decode cX12_laysTurn 183 = .ok (.imul, 1) := by decide +kernel
theorem dX12_laysTurn_184 : decode cX12_laysTurn 184 = .ok (.iload 4, 2) := by decide +kernel
theorem dX12_laysTurn_186 : decode cX12_laysTurn 186 = .ok (.iadd, 1) := by decide +kernel
theorem dX12_laysTurn_187 : decode cX12_laysTurn 187 = .ok (.istore 9, 2) := by decide +kernel
theorem dX12_laysTurn_189 : decode cX12_laysTurn 189 = .ok (.aload_n 0, 1) := by decide +kernel
theorem dX12_laysTurn_190 : decode cX12_laysTurn 190 = .ok (.getfield 96, 3) := by decide +kernel
theorem dX12_laysTurn_193 : decode cX12_laysTurn 193 = .ok (.iload 9, 2) := by decide +kernel
theorem dX12_laysTurn_195 : decode cX12_laysTurn 195 = .ok (.aload_n 0, 1) := by decide +kernel
theorem dX12_laysTurn_196 : decode cX12_laysTurn 196 = .ok (.aload_n 0, 1) := by decide +kernel
theorem dX12_laysTurn_197 : decode cX12_laysTurn 197 = .ok (.getfield 96, 3) := by decide +kernel
theorem dX12_laysTurn_200 : decode cX12_laysTurn 200 = .ok (.iload 9, 2) := by decide +kernel
theorem dX12_laysTurn_202 : decode cX12_laysTurn 202 = .ok (.iaload, 1) := by decide +kernel
theorem dX12_laysTurn_203 : decode cX12_laysTurn 203 = .ok (.i2l, 1) := by decide +kernel
theorem dX12_laysTurn_204 : decode cX12_laysTurn 204 = .ok (.aload_n 0, 1) := by decide +kernel
theorem dX12_laysTurn_205 : decode cX12_laysTurn 205 = .ok (.getfield 81, 3) := by decide +kernel
theorem dX12_laysTurn_208 : decode cX12_laysTurn 208 = .ok (.iload 5, 2) := by decide +kernel
theorem dX12_laysTurn_210 : decode cX12_laysTurn 210 = .ok (.iaload, 1) := by decide +kernel
theorem dX12_laysTurn_211 : decode cX12_laysTurn 211 = .ok (.i2l, 1) := by decide +kernel
theorem dX12_laysTurn_212 : decode cX12_laysTurn 212 = .ok (.aload_n 0, 1) := by decide +kernel
theorem dX12_laysTurn_213 : decode cX12_laysTurn 213 = .ok (.iload_n 3, 1) := by decide +kernel
theorem dX12_laysTurn_214 : decode cX12_laysTurn 214 = .ok (.iload 7, 2) := by decide +kernel
theorem dX12_laysTurn_216 : decode cX12_laysTurn 216 = .ok (.invokevirtual 357, 3) := by decide +kernel
theorem dX12_laysTurn_219 : decode cX12_laysTurn 219 = .ok (.i2l, 1) := by decide +kernel
theorem dX12_laysTurn_220 : decode cX12_laysTurn 220 = .ok (.lmul, 1) := by decide +kernel
theorem dX12_laysTurn_221 : decode cX12_laysTurn 221 = .ok (.iload 8, 2) := by decide +kernel
theorem dX12_laysTurn_223 : decode cX12_laysTurn 223 = .ok (.i2l, 1) := by decide +kernel
theorem dX12_laysTurn_224 : decode cX12_laysTurn 224 = .ok (.lmul, 1) := by decide +kernel
theorem dX12_laysTurn_225 : decode cX12_laysTurn 225 = .ok (.ladd, 1) := by decide +kernel
theorem dX12_laysTurn_226 : decode cX12_laysTurn 226 = .ok (.invokevirtual 360, 3) := by decide +kernel
theorem dX12_laysTurn_229 : decode cX12_laysTurn 229 = .ok (.iastore, 1) := by decide +kernel
theorem dX12_laysTurn_230 : decode cX12_laysTurn 230 = .ok (.iinc 5 1, 3) := by decide +kernel
theorem dX12_laysTurn_233 : decode cX12_laysTurn 233 = .ok (.goto (-162), 3) := by decide +kernel
theorem dX12_laysTurn_236 : decode cX12_laysTurn 236 = .ok (.iinc 4 1, 3) := by decide +kernel
theorem dX12_laysTurn_239 : decode cX12_laysTurn 239 = .ok (.goto (-195), 3) := by decide +kernel
theorem dX12_laysTurn_242 : decode cX12_laysTurn 242 = .ok (.return_, 1) := by decide +kernel
theorem dX12_swaps_0 : decode cX12_swaps 0 = .ok (.iconst 0, 1) := by decide +kernel
theorem dX12_swaps_1 : decode cX12_swaps 1 = .ok (.istore_n 3, 1) := by decide +kernel
theorem dX12_swaps_2 : decode cX12_swaps 2 = .ok (.iload_n 3, 1) := by decide +kernel
theorem dX12_swaps_3 : decode cX12_swaps 3 = .ok (.aload_n 0, 1) := by decide +kernel
theorem dX12_swaps_4 : decode cX12_swaps 4 = .ok (.getfield 333, 3) := by decide +kernel
theorem dX12_swaps_7 : decode cX12_swaps 7 = .ok (.if_icmp .ge 57, 3) := by decide +kernel
theorem dX12_swaps_10 : decode cX12_swaps 10 = .ok (.aload_n 0, 1) := by decide +kernel
theorem dX12_swaps_11 : decode cX12_swaps 11 = .ok (.getfield 96, 3) := by decide +kernel
theorem dX12_swaps_14 : decode cX12_swaps 14 = .ok (.bipush 35, 2) := by decide +kernel
theorem dX12_swaps_16 : decode cX12_swaps 16 = .ok (.iload_n 1, 1) := by decide +kernel
theorem dX12_swaps_17 : decode cX12_swaps 17 = .ok (.imul, 1) := by decide +kernel
theorem dX12_swaps_18 : decode cX12_swaps 18 = .ok (.iload_n 3, 1) := by decide +kernel
theorem dX12_swaps_19 : decode cX12_swaps 19 = .ok (.iadd, 1) := by decide +kernel
theorem dX12_swaps_20 : decode cX12_swaps 20 = .ok (.iaload, 1) := by decide +kernel
theorem dX12_swaps_21 : decode cX12_swaps 21 = .ok (.istore 4, 2) := by decide +kernel
theorem dX12_swaps_23 : decode cX12_swaps 23 = .ok (.aload_n 0, 1) := by decide +kernel
theorem dX12_swaps_24 : decode cX12_swaps 24 = .ok (.getfield 96, 3) := by decide +kernel
theorem dX12_swaps_27 : decode cX12_swaps 27 = .ok (.bipush 35, 2) := by decide +kernel
theorem dX12_swaps_29 : decode cX12_swaps 29 = .ok (.iload_n 1, 1) := by decide +kernel
theorem dX12_swaps_30 : decode cX12_swaps 30 = .ok (.imul, 1) := by decide +kernel
theorem dX12_swaps_31 : decode cX12_swaps 31 = .ok (.iload_n 3, 1) := by decide +kernel
theorem dX12_swaps_32 : decode cX12_swaps 32 = .ok (.iadd, 1) := by decide +kernel
theorem dX12_swaps_33 : decode cX12_swaps 33 = .ok (.aload_n 0, 1) := by decide +kernel
theorem dX12_swaps_34 : decode cX12_swaps 34 = .ok (.getfield 96, 3) := by decide +kernel
theorem dX12_swaps_37 : decode cX12_swaps 37 = .ok (.bipush 35, 2) := by decide +kernel
theorem dX12_swaps_39 : decode cX12_swaps 39 = .ok (.iload_n 2, 1) := by decide +kernel
theorem dX12_swaps_40 : decode cX12_swaps 40 = .ok (.imul, 1) := by decide +kernel
theorem dX12_swaps_41 : decode cX12_swaps 41 = .ok (.iload_n 3, 1) := by decide +kernel
theorem dX12_swaps_42 : decode cX12_swaps 42 = .ok (.iadd, 1) := by decide +kernel
theorem dX12_swaps_43 : decode cX12_swaps 43 = .ok (.iaload, 1) := by decide +kernel
theorem dX12_swaps_44 : decode cX12_swaps 44 = .ok (.iastore, 1) := by decide +kernel
theorem dX12_swaps_45 : decode cX12_swaps 45 = .ok (.aload_n 0, 1) := by decide +kernel
theorem dX12_swaps_46 : decode cX12_swaps 46 = .ok (.getfield 96, 3) := by decide +kernel
theorem dX12_swaps_49 : decode cX12_swaps 49 = .ok (.bipush 35, 2) := by decide +kernel
theorem dX12_swaps_51 : decode cX12_swaps 51 = .ok (.iload_n 2, 1) := by decide +kernel
theorem dX12_swaps_52 : decode cX12_swaps 52 = .ok (.imul, 1) := by decide +kernel
theorem dX12_swaps_53 : decode cX12_swaps 53 = .ok (.iload_n 3, 1) := by decide +kernel
theorem dX12_swaps_54 : decode cX12_swaps 54 = .ok (.iadd, 1) := by decide +kernel
theorem dX12_swaps_55 : decode cX12_swaps 55 = .ok (.iload 4, 2) := by decide +kernel
theorem dX12_swaps_57 : decode cX12_swaps 57 = .ok (.iastore, 1) := by decide +kernel
theorem dX12_swaps_58 : decode cX12_swaps 58 = .ok (.iinc 3 1, 3) := by decide +kernel
theorem dX12_swaps_61 : decode cX12_swaps 61 = .ok (.goto (-59), 3) := by decide +kernel
theorem dX12_swaps_64 : decode cX12_swaps 64 = .ok (.iconst 0, 1) := by decide +kernel
theorem dX12_swaps_65 : decode cX12_swaps 65 = .ok (.istore_n 3, 1) := by decide +kernel
theorem dX12_swaps_66 : decode cX12_swaps 66 = .ok (.iload_n 3, 1) := by decide +kernel
theorem dX12_swaps_67 : decode cX12_swaps 67 = .ok (.aload_n 0, 1) := by decide +kernel
theorem dX12_swaps_68 : decode cX12_swaps 68 = .ok (.getfield 333, 3) := by decide +kernel
theorem dX12_swaps_71 : decode cX12_swaps 71 = .ok (.if_icmp .ge 57, 3) := by decide +kernel
theorem dX12_swaps_74 : decode cX12_swaps 74 = .ok (.aload_n 0, 1) := by decide +kernel
theorem dX12_swaps_75 : decode cX12_swaps 75 = .ok (.getfield 96, 3) := by decide +kernel
theorem dX12_swaps_78 : decode cX12_swaps 78 = .ok (.bipush 35, 2) := by decide +kernel
theorem dX12_swaps_80 : decode cX12_swaps 80 = .ok (.iload_n 3, 1) := by decide +kernel
theorem dX12_swaps_81 : decode cX12_swaps 81 = .ok (.imul, 1) := by decide +kernel
theorem dX12_swaps_82 : decode cX12_swaps 82 = .ok (.iload_n 1, 1) := by decide +kernel
theorem dX12_swaps_83 : decode cX12_swaps 83 = .ok (.iadd, 1) := by decide +kernel
theorem dX12_swaps_84 : decode cX12_swaps 84 = .ok (.iaload, 1) := by decide +kernel
theorem dX12_swaps_85 : decode cX12_swaps 85 = .ok (.istore 4, 2) := by decide +kernel
theorem dX12_swaps_87 : decode cX12_swaps 87 = .ok (.aload_n 0, 1) := by decide +kernel
theorem dX12_swaps_88 : decode cX12_swaps 88 = .ok (.getfield 96, 3) := by decide +kernel
theorem dX12_swaps_91 : decode cX12_swaps 91 = .ok (.bipush 35, 2) := by decide +kernel
theorem dX12_swaps_93 : decode cX12_swaps 93 = .ok (.iload_n 3, 1) := by decide +kernel
theorem dX12_swaps_94 : decode cX12_swaps 94 = .ok (.imul, 1) := by decide +kernel
theorem dX12_swaps_95 : decode cX12_swaps 95 = .ok (.iload_n 1, 1) := by decide +kernel
theorem dX12_swaps_96 : decode cX12_swaps 96 = .ok (.iadd, 1) := by decide +kernel
theorem dX12_swaps_97 : decode cX12_swaps 97 = .ok (.aload_n 0, 1) := by decide +kernel
theorem dX12_swaps_98 : decode cX12_swaps 98 = .ok (.getfield 96, 3) := by decide +kernel
theorem dX12_swaps_101 : decode cX12_swaps 101 = .ok (.bipush 35, 2) := by decide +kernel
theorem dX12_swaps_103 : decode cX12_swaps 103 = .ok (.iload_n 3, 1) := by decide +kernel
theorem dX12_swaps_104 : decode cX12_swaps 104 = .ok (.imul, 1) := by decide +kernel
theorem dX12_swaps_105 : decode cX12_swaps 105 = .ok (.iload_n 2, 1) := by decide +kernel
theorem dX12_swaps_106 : decode cX12_swaps 106 = .ok (.iadd, 1) := by decide +kernel
theorem dX12_swaps_107 : decode cX12_swaps 107 = .ok (.iaload, 1) := by decide +kernel
theorem dX12_swaps_108 : decode cX12_swaps 108 = .ok (.iastore, 1) := by decide +kernel
theorem dX12_swaps_109 : decode cX12_swaps 109 = .ok (.aload_n 0, 1) := by decide +kernel
theorem dX12_swaps_110 : decode cX12_swaps 110 = .ok (.getfield 96, 3) := by decide +kernel
theorem dX12_swaps_113 : decode cX12_swaps 113 = .ok (.bipush 35, 2) := by decide +kernel
theorem dX12_swaps_115 : decode cX12_swaps 115 = .ok (.iload_n 3, 1) := by decide +kernel
theorem dX12_swaps_116 : decode cX12_swaps 116 = .ok (.imul, 1) := by decide +kernel
theorem dX12_swaps_117 : decode cX12_swaps 117 = .ok (.iload_n 2, 1) := by decide +kernel
theorem dX12_swaps_118 : decode cX12_swaps 118 = .ok (.iadd, 1) := by decide +kernel
theorem dX12_swaps_119 : decode cX12_swaps 119 = .ok (.iload 4, 2) := by decide +kernel
theorem dX12_swaps_121 : decode cX12_swaps 121 = .ok (.iastore, 1) := by decide +kernel
theorem dX12_swaps_122 : decode cX12_swaps 122 = .ok (.iinc 3 1, 3) := by decide +kernel
theorem dX12_swaps_125 : decode cX12_swaps 125 = .ok (.goto (-59), 3) := by decide +kernel
theorem dX12_swaps_128 : decode cX12_swaps 128 = .ok (.return_, 1) := by decide +kernel
theorem dX12_bends_0 : decode cX12_bends 0 = .ok (.iconst 1, 1) := by decide +kernel
theorem dX12_bends_1 : decode cX12_bends 1 = .ok (.istore_n 1, 1) := by decide +kernel
theorem dX12_bends_2 : decode cX12_bends 2 = .ok (.iload_n 1, 1) := by decide +kernel
theorem dX12_bends_3 : decode cX12_bends 3 = .ok (.aload_n 0, 1) := by decide +kernel
theorem dX12_bends_4 : decode cX12_bends 4 = .ok (.getfield 333, 3) := by decide +kernel
theorem dX12_bends_7 : decode cX12_bends 7 = .ok (.iconst 1, 1) := by decide +kernel
theorem dX12_bends_8 : decode cX12_bends 8 = .ok (.isub, 1) := by decide +kernel
theorem dX12_bends_9 : decode cX12_bends 9 = .ok (.if_icmp .ge 250, 3) := by decide +kernel
theorem dX12_bends_12 : decode cX12_bends 12 = .ok (.iload_n 1, 1) := by decide +kernel
theorem dX12_bends_13 : decode cX12_bends 13 = .ok (.istore_n 2, 1) := by decide +kernel
theorem dX12_bends_14 : decode cX12_bends 14 = .ok (.iload_n 2, 1) := by decide +kernel
theorem dX12_bends_15 : decode cX12_bends 15 = .ok (.aload_n 0, 1) := by decide +kernel
theorem dX12_bends_16 : decode cX12_bends 16 = .ok (.getfield 333, 3) := by decide +kernel
theorem dX12_bends_19 : decode cX12_bends 19 = .ok (.if_icmp .ge 25, 3) := by decide +kernel
theorem dX12_bends_22 : decode cX12_bends 22 = .ok (.aload_n 0, 1) := by decide +kernel
theorem dX12_bends_23 : decode cX12_bends 23 = .ok (.getfield 96, 3) := by decide +kernel
theorem dX12_bends_26 : decode cX12_bends 26 = .ok (.bipush 35, 2) := by decide +kernel
theorem dX12_bends_28 : decode cX12_bends 28 = .ok (.iload_n 2, 1) := by decide +kernel
theorem dX12_bends_29 : decode cX12_bends 29 = .ok (.imul, 1) := by decide +kernel
theorem dX12_bends_30 : decode cX12_bends 30 = .ok (.iload_n 1, 1) := by decide +kernel
theorem dX12_bends_31 : decode cX12_bends 31 = .ok (.iadd, 1) := by decide +kernel
theorem dX12_bends_32 : decode cX12_bends 32 = .ok (.iconst 1, 1) := by decide +kernel
theorem dX12_bends_33 : decode cX12_bends 33 = .ok (.isub, 1) := by decide +kernel
theorem dX12_bends_34 : decode cX12_bends 34 = .ok (.iaload, 1) := by decide +kernel
theorem dX12_bends_35 : decode cX12_bends 35 = .ok (.ifCond .ne 9, 3) := by decide +kernel
theorem dX12_bends_38 : decode cX12_bends 38 = .ok (.iinc 2 1, 3) := by decide +kernel
theorem dX12_bends_41 : decode cX12_bends 41 = .ok (.goto (-27), 3) := by decide +kernel
theorem dX12_bends_44 : decode cX12_bends 44 = .ok (.iload_n 2, 1) := by decide +kernel
theorem dX12_bends_45 : decode cX12_bends 45 = .ok (.aload_n 0, 1) := by decide +kernel
theorem dX12_bends_46 : decode cX12_bends 46 = .ok (.getfield 333, 3) := by decide +kernel
theorem dX12_bends_49 : decode cX12_bends 49 = .ok (.if_icmp .ge 204, 3) := by decide +kernel
theorem dX12_bends_52 : decode cX12_bends 52 = .ok (.iload_n 2, 1) := by decide +kernel
theorem dX12_bends_53 : decode cX12_bends 53 = .ok (.iload_n 1, 1) := by decide +kernel
theorem dX12_bends_54 : decode cX12_bends 54 = .ok (.if_icmp .le 9, 3) := by decide +kernel
theorem dX12_bends_57 : decode cX12_bends 57 = .ok (.aload_n 0, 1) := by decide +kernel
theorem dX12_bends_58 : decode cX12_bends 58 = .ok (.iload_n 2, 1) := by decide +kernel
theorem dX12_bends_59 : decode cX12_bends 59 = .ok (.iload_n 1, 1) := by decide +kernel
theorem dX12_bends_60 : decode cX12_bends 60 = .ok (.invokevirtual 362, 3) := by decide +kernel
theorem dX12_bends_63 : decode cX12_bends 63 = .ok (.iload_n 1, 1) := by decide +kernel
theorem dX12_bends_64 : decode cX12_bends 64 = .ok (.iconst 1, 1) := by decide +kernel
theorem dX12_bends_65 : decode cX12_bends 65 = .ok (.iadd, 1) := by decide +kernel
theorem dX12_bends_66 : decode cX12_bends 66 = .ok (.istore_n 3, 1) := by decide +kernel
theorem dX12_bends_67 : decode cX12_bends 67 = .ok (.iload_n 3, 1) := by decide +kernel
theorem dX12_bends_68 : decode cX12_bends 68 = .ok (.aload_n 0, 1) := by decide +kernel
theorem dX12_bends_69 : decode cX12_bends 69 = .ok (.getfield 333, 3) := by decide +kernel
theorem dX12_bends_72 : decode cX12_bends 72 = .ok (.if_icmp .ge 181, 3) := by decide +kernel
theorem dX12_bends_75 : decode cX12_bends 75 = .ok (.aload_n 0, 1) := by decide +kernel
theorem dX12_bends_76 : decode cX12_bends 76 = .ok (.aload_n 0, 1) := by decide +kernel
theorem dX12_bends_77 : decode cX12_bends 77 = .ok (.getfield 96, 3) := by decide +kernel
theorem dX12_bends_80 : decode cX12_bends 80 = .ok (.bipush 35, 2) := by decide +kernel
theorem dX12_bends_82 : decode cX12_bends 82 = .ok (.iload_n 3, 1) := by decide +kernel
theorem dX12_bends_83 : decode cX12_bends 83 = .ok (.imul, 1) := by decide +kernel
theorem dX12_bends_84 : decode cX12_bends 84 = .ok (.iload_n 1, 1) := by decide +kernel
theorem dX12_bends_85 : decode cX12_bends 85 = .ok (.iadd, 1) := by decide +kernel
theorem dX12_bends_86 : decode cX12_bends 86 = .ok (.iconst 1, 1) := by decide +kernel
theorem dX12_bends_87 : decode cX12_bends 87 = .ok (.isub, 1) := by decide +kernel
theorem dX12_bends_88 : decode cX12_bends 88 = .ok (.iaload, 1) := by decide +kernel
theorem dX12_bends_89 : decode cX12_bends 89 = .ok (.aload_n 0, 1) := by decide +kernel
theorem dX12_bends_90 : decode cX12_bends 90 = .ok (.getfield 96, 3) := by decide +kernel
theorem dX12_bends_93 : decode cX12_bends 93 = .ok (.bipush 35, 2) := by decide +kernel
theorem dX12_bends_95 : decode cX12_bends 95 = .ok (.iload_n 1, 1) := by decide +kernel
theorem dX12_bends_96 : decode cX12_bends 96 = .ok (.imul, 1) := by decide +kernel
theorem dX12_bends_97 : decode cX12_bends 97 = .ok (.iload_n 1, 1) := by decide +kernel
theorem dX12_bends_98 : decode cX12_bends 98 = .ok (.iadd, 1) := by decide +kernel
theorem dX12_bends_99 : decode cX12_bends 99 = .ok (.iconst 1, 1) := by decide +kernel
theorem dX12_bends_100 : decode cX12_bends 100 = .ok (.isub, 1) := by decide +kernel
theorem dX12_bends_101 : decode cX12_bends 101 = .ok (.iaload, 1) := by decide +kernel
theorem dX12_bends_102 : decode cX12_bends 102 = .ok (.invokevirtual 271, 3) := by decide +kernel
theorem dX12_bends_105 : decode cX12_bends 105 = .ok (.istore 4, 2) := by decide +kernel
theorem dX12_bends_107 : decode cX12_bends 107 = .ok (.iconst 0, 1) := by decide +kernel
theorem dX12_bends_108 : decode cX12_bends 108 = .ok (.istore 5, 2) := by decide +kernel
theorem dX12_bends_110 : decode cX12_bends 110 = .ok (.iload 5, 2) := by decide +kernel
theorem dX12_bends_112 : decode cX12_bends 112 = .ok (.aload_n 0, 1) := by decide +kernel
theorem dX12_bends_113 : decode cX12_bends 113 = .ok (.getfield 333, 3) := by decide +kernel
theorem dX12_bends_116 : decode cX12_bends 116 = .ok (.if_icmp .ge 61, 3) := by decide +kernel
theorem dX12_bends_119 : decode cX12_bends 119 = .ok (.iload 4, 2) := by decide +kernel
theorem dX12_bends_121 : decode cX12_bends 121 = .ok (.ifCond .le 56, 3) := by decide +kernel
theorem dX12_bends_124 : decode cX12_bends 124 = .ok (.aload_n 0, 1) := by decide +kernel
theorem dX12_bends_125 : decode cX12_bends 125 = .ok (.getfield 96, 3) := by decide +kernel
theorem dX12_bends_128 : decode cX12_bends 128 = .ok (.bipush 35, 2) := by decide +kernel
theorem dX12_bends_130 : decode cX12_bends 130 = .ok (.iload_n 3, 1) := by decide +kernel
theorem dX12_bends_131 : decode cX12_bends 131 = .ok (.imul, 1) := by decide +kernel
theorem dX12_bends_132 : decode cX12_bends 132 = .ok (.iload 5, 2) := by decide +kernel
theorem dX12_bends_134 : decode cX12_bends 134 = .ok (.iadd, 1) := by decide +kernel
theorem dX12_bends_135 : decode cX12_bends 135 = .ok (.aload_n 0, 1) := by decide +kernel
theorem dX12_bends_136 : decode cX12_bends 136 = .ok (.aload_n 0, 1) := by decide +kernel
theorem dX12_bends_137 : decode cX12_bends 137 = .ok (.getfield 96, 3) := by decide +kernel
theorem dX12_bends_140 : decode cX12_bends 140 = .ok (.bipush 35, 2) := by decide +kernel
theorem dX12_bends_142 : decode cX12_bends 142 = .ok (.iload_n 3, 1) := by decide +kernel
theorem dX12_bends_143 : decode cX12_bends 143 = .ok (.imul, 1) := by decide +kernel
theorem dX12_bends_144 : decode cX12_bends 144 = .ok (.iload 5, 2) := by decide +kernel
theorem dX12_bends_146 : decode cX12_bends 146 = .ok (.iadd, 1) := by decide +kernel
theorem dX12_bends_147 : decode cX12_bends 147 = .ok (.iaload, 1) := by decide +kernel
theorem dX12_bends_148 : decode cX12_bends 148 = .ok (.i2l, 1) := by decide +kernel
theorem dX12_bends_149 : decode cX12_bends 149 = .ok (.iload 4, 2) := by decide +kernel
theorem dX12_bends_151 : decode cX12_bends 151 = .ok (.i2l, 1) := by decide +kernel
theorem dX12_bends_152 : decode cX12_bends 152 = .ok (.aload_n 0, 1) := by decide +kernel
theorem dX12_bends_153 : decode cX12_bends 153 = .ok (.getfield 96, 3) := by decide +kernel
theorem dX12_bends_156 : decode cX12_bends 156 = .ok (.bipush 35, 2) := by decide +kernel
theorem dX12_bends_158 : decode cX12_bends 158 = .ok (.iload_n 1, 1) := by decide +kernel
theorem dX12_bends_159 : decode cX12_bends 159 = .ok (.imul, 1) := by decide +kernel
theorem dX12_bends_160 : decode cX12_bends 160 = .ok (.iload 5, 2) := by decide +kernel
theorem dX12_bends_162 : decode cX12_bends 162 = .ok (.iadd, 1) := by decide +kernel
theorem dX12_bends_163 : decode cX12_bends 163 = .ok (.iaload, 1) := by decide +kernel
theorem dX12_bends_164 : decode cX12_bends 164 = .ok (.i2l, 1) := by decide +kernel
theorem dX12_bends_165 : decode cX12_bends 165 = .ok (.lmul, 1) := by decide +kernel
theorem dX12_bends_166 : decode cX12_bends 166 = .ok (.lsub, 1) := by decide +kernel
theorem dX12_bends_167 : decode cX12_bends 167 = .ok (.invokevirtual 360, 3) := by decide +kernel
theorem dX12_bends_170 : decode cX12_bends 170 = .ok (.iastore, 1) := by decide +kernel
theorem dX12_bends_171 : decode cX12_bends 171 = .ok (.iinc 5 1, 3) := by decide +kernel
theorem dX12_bends_174 : decode cX12_bends 174 = .ok (.goto (-64), 3) := by decide +kernel
theorem dX12_bends_177 : decode cX12_bends 177 = .ok (.iconst 0, 1) := by decide +kernel
theorem dX12_bends_178 : decode cX12_bends 178 = .ok (.istore 5, 2) := by decide +kernel
theorem dX12_bends_180 : decode cX12_bends 180 = .ok (.iload 5, 2) := by decide +kernel
theorem dX12_bends_182 : decode cX12_bends 182 = .ok (.aload_n 0, 1) := by decide +kernel
theorem dX12_bends_183 : decode cX12_bends 183 = .ok (.getfield 333, 3) := by decide +kernel
theorem dX12_bends_186 : decode cX12_bends 186 = .ok (.if_icmp .ge 61, 3) := by decide +kernel
theorem dX12_bends_189 : decode cX12_bends 189 = .ok (.iload 4, 2) := by decide +kernel
theorem dX12_bends_191 : decode cX12_bends 191 = .ok (.ifCond .le 56, 3) := by decide +kernel
theorem dX12_bends_194 : decode cX12_bends 194 = .ok (.aload_n 0, 1) := by decide +kernel
theorem dX12_bends_195 : decode cX12_bends 195 = .ok (.getfield 96, 3) := by decide +kernel
theorem dX12_bends_198 : decode cX12_bends 198 = .ok (.bipush 35, 2) := by decide +kernel
theorem dX12_bends_200 : decode cX12_bends 200 = .ok (.iload 5, 2) := by decide +kernel
theorem dX12_bends_202 : decode cX12_bends 202 = .ok (.imul, 1) := by decide +kernel
theorem dX12_bends_203 : decode cX12_bends 203 = .ok (.iload_n 1, 1) := by decide +kernel
theorem dX12_bends_204 : decode cX12_bends 204 = .ok (.iadd, 1) := by decide +kernel
theorem dX12_bends_205 : decode cX12_bends 205 = .ok (.aload_n 0, 1) := by decide +kernel
theorem dX12_bends_206 : decode cX12_bends 206 = .ok (.aload_n 0, 1) := by decide +kernel
theorem dX12_bends_207 : decode cX12_bends 207 = .ok (.getfield 96, 3) := by decide +kernel
theorem dX12_bends_210 : decode cX12_bends 210 = .ok (.bipush 35, 2) := by decide +kernel
theorem dX12_bends_212 : decode cX12_bends 212 = .ok (.iload 5, 2) := by decide +kernel
theorem dX12_bends_214 : decode cX12_bends 214 = .ok (.imul, 1) := by decide +kernel
theorem dX12_bends_215 : decode cX12_bends 215 = .ok (.iload_n 1, 1) := by decide +kernel
theorem dX12_bends_216 : decode cX12_bends 216 = .ok (.iadd, 1) := by decide +kernel
theorem dX12_bends_217 : decode cX12_bends 217 = .ok (.iaload, 1) := by decide +kernel
theorem dX12_bends_218 : decode cX12_bends 218 = .ok (.i2l, 1) := by decide +kernel
theorem dX12_bends_219 : decode cX12_bends 219 = .ok (.iload 4, 2) := by decide +kernel
theorem dX12_bends_221 : decode cX12_bends 221 = .ok (.i2l, 1) := by decide +kernel
theorem dX12_bends_222 : decode cX12_bends 222 = .ok (.aload_n 0, 1) := by decide +kernel
theorem dX12_bends_223 : decode cX12_bends 223 = .ok (.getfield 96, 3) := by decide +kernel
theorem dX12_bends_226 : decode cX12_bends 226 = .ok (.bipush 35, 2) := by decide +kernel
theorem dX12_bends_228 : decode cX12_bends 228 = .ok (.iload 5, 2) := by decide +kernel
theorem dX12_bends_230 : decode cX12_bends 230 = .ok (.imul, 1) := by decide +kernel
theorem dX12_bends_231 : decode cX12_bends 231 = .ok (.iload_n 3, 1) := by decide +kernel
theorem dX12_bends_232 : decode cX12_bends 232 = .ok (.iadd, 1) := by decide +kernel
theorem dX12_bends_233 : decode cX12_bends 233 = .ok (.iaload, 1) := by decide +kernel
theorem dX12_bends_234 : decode cX12_bends 234 = .ok (.i2l, 1) := by decide +kernel
theorem dX12_bends_235 : decode cX12_bends 235 = .ok (.lmul, 1) := by decide +kernel
theorem dX12_bends_236 : decode cX12_bends 236 = .ok (.ladd, 1) := by decide +kernel
theorem dX12_bends_237 : decode cX12_bends 237 = .ok (.invokevirtual 360, 3) := by decide +kernel
theorem dX12_bends_240 : decode cX12_bends 240 = .ok (.iastore, 1) := by decide +kernel
theorem dX12_bends_241 : decode cX12_bends 241 = .ok (.iinc 5 1, 3) := by decide +kernel
theorem dX12_bends_244 : decode cX12_bends 244 = .ok (.goto (-64), 3) := by decide +kernel
theorem dX12_bends_247 : decode cX12_bends 247 = .ok (.iinc 3 1, 3) := by decide +kernel
theorem dX12_bends_250 : decode cX12_bends 250 = .ok (.goto (-183), 3) := by decide +kernel
theorem dX12_bends_253 : decode cX12_bends 253 = .ok (.iinc 1 1, 3) := by decide +kernel
theorem dX12_bends_256 : decode cX12_bends 256 = .ok (.goto (-254), 3) := by decide +kernel
theorem dX12_bends_259 : decode cX12_bends 259 = .ok (.return_, 1) := by decide +kernel
theorem dX12_laysPoly_0 : decode cX12_laysPoly 0 = .ok (.aload_n 0, 1) := by decide +kernel
theorem dX12_laysPoly_1 : decode cX12_laysPoly 1 = .ok (.invokevirtual 365, 3) := by decide +kernel
theorem dX12_laysPoly_4 : decode cX12_laysPoly 4 = .ok (.iconst 0, 1) := by decide +kernel
theorem dX12_laysPoly_5 : decode cX12_laysPoly 5 = .ok (.istore_n 1, 1) := by decide +kernel
theorem dX12_laysPoly_6 : decode cX12_laysPoly 6 = .ok (.iload_n 1, 1) := by decide +kernel
theorem dX12_laysPoly_7 : decode cX12_laysPoly 7 = .ok (.sipush 1296, 3) := by decide +kernel
theorem dX12_laysPoly_10 : decode cX12_laysPoly 10 = .ok (.if_icmp .ge 16, 3) := by decide +kernel
theorem dX12_laysPoly_13 : decode cX12_laysPoly 13 = .ok (.aload_n 0, 1) := by decide +kernel
theorem dX12_laysPoly_14 : decode cX12_laysPoly 14 = .ok (.getfield 99, 3) := by decide +kernel
theorem dX12_laysPoly_17 : decode cX12_laysPoly 17 = .ok (.iload_n 1, 1) := by decide +kernel
theorem dX12_laysPoly_18 : decode cX12_laysPoly 18 = .ok (.iconst 0, 1) := by decide +kernel
theorem dX12_laysPoly_19 : decode cX12_laysPoly 19 = .ok (.iastore, 1) := by decide +kernel
theorem dX12_laysPoly_20 : decode cX12_laysPoly 20 = .ok (.iinc 1 1, 3) := by decide +kernel
theorem dX12_laysPoly_23 : decode cX12_laysPoly 23 = .ok (.goto (-17), 3) := by decide +kernel
theorem dX12_laysPoly_26 : decode cX12_laysPoly 26 = .ok (.aload_n 0, 1) := by decide +kernel
theorem dX12_laysPoly_27 : decode cX12_laysPoly 27 = .ok (.getfield 99, 3) := by decide +kernel
theorem dX12_laysPoly_30 : decode cX12_laysPoly 30 = .ok (.iconst 0, 1) := by decide +kernel
theorem dX12_laysPoly_31 : decode cX12_laysPoly 31 = .ok (.iconst 1, 1) := by decide +kernel
theorem dX12_laysPoly_32 : decode cX12_laysPoly 32 = .ok (.iastore, 1) := by decide +kernel
theorem dX12_laysPoly_33 : decode cX12_laysPoly 33 = .ok (.iconst 1, 1) := by decide +kernel
theorem dX12_laysPoly_34 : decode cX12_laysPoly 34 = .ok (.istore_n 1, 1) := by decide +kernel
theorem dX12_laysPoly_35 : decode cX12_laysPoly 35 = .ok (.iload_n 1, 1) := by decide +kernel
theorem dX12_laysPoly_36 : decode cX12_laysPoly 36 = .ok (.aload_n 0, 1) := by decide +kernel
theorem dX12_laysPoly_37 : decode cX12_laysPoly 37 = .ok (.getfield 333, 3) := by decide +kernel
theorem dX12_laysPoly_40 : decode cX12_laysPoly 40 = .ok (.if_icmp .gt 184, 3) := by decide +kernel
theorem dX12_laysPoly_43 : decode cX12_laysPoly 43 = .ok (.bipush 36, 2) := by decide +kernel
theorem dX12_laysPoly_45 : decode cX12_laysPoly 45 = .ok (.iload_n 1, 1) := by decide +kernel
theorem dX12_laysPoly_46 : decode cX12_laysPoly 46 = .ok (.imul, 1) := by decide +kernel
theorem dX12_laysPoly_47 : decode cX12_laysPoly 47 = .ok (.istore_n 2, 1) := by decide +kernel
theorem dX12_laysPoly_48 : decode cX12_laysPoly 48 = .ok (.iload_n 2, 1) := by decide +kernel
theorem dX12_laysPoly_49 : decode cX12_laysPoly 49 = .ok (.bipush 36, 2) := by decide +kernel
theorem dX12_laysPoly_51 : decode cX12_laysPoly 51 = .ok (.isub, 1) := by decide +kernel
theorem dX12_laysPoly_52 : decode cX12_laysPoly 52 = .ok (.istore_n 3, 1) := by decide +kernel
theorem dX12_laysPoly_53 : decode cX12_laysPoly 53 = .ok (.iconst 0, 1) := by decide +kernel
theorem dX12_laysPoly_54 : decode cX12_laysPoly 54 = .ok (.istore 4, 2) := by decide +kernel
theorem dX12_laysPoly_56 : decode cX12_laysPoly 56 = .ok (.iload 4, 2) := by decide +kernel
theorem dX12_laysPoly_58 : decode cX12_laysPoly 58 = .ok (.iload_n 1, 1) := by decide +kernel
theorem dX12_laysPoly_59 : decode cX12_laysPoly 59 = .ok (.if_icmp .ge 29, 3) := by decide +kernel
theorem dX12_laysPoly_62 : decode cX12_laysPoly 62 = .ok (.aload_n 0, 1) := by decide +kernel
theorem dX12_laysPoly_63 : decode cX12_laysPoly 63 = .ok (.getfield 99, 3) := by decide +kernel
theorem dX12_laysPoly_66 : decode cX12_laysPoly 66 = .ok (.iload_n 2, 1) := by decide +kernel
theorem dX12_laysPoly_67 : decode cX12_laysPoly 67 = .ok (.iload 4, 2) := by decide +kernel
theorem dX12_laysPoly_69 : decode cX12_laysPoly 69 = .ok (.iadd, 1) := by decide +kernel
theorem dX12_laysPoly_70 : decode cX12_laysPoly 70 = .ok (.iconst 1, 1) := by decide +kernel
theorem dX12_laysPoly_71 : decode cX12_laysPoly 71 = .ok (.iadd, 1) := by decide +kernel
theorem dX12_laysPoly_72 : decode cX12_laysPoly 72 = .ok (.aload_n 0, 1) := by decide +kernel
theorem dX12_laysPoly_73 : decode cX12_laysPoly 73 = .ok (.getfield 99, 3) := by decide +kernel
theorem dX12_laysPoly_76 : decode cX12_laysPoly 76 = .ok (.iload_n 3, 1) := by decide +kernel
theorem dX12_laysPoly_77 : decode cX12_laysPoly 77 = .ok (.iload 4, 2) := by decide +kernel
theorem dX12_laysPoly_79 : decode cX12_laysPoly 79 = .ok (.iadd, 1) := by decide +kernel
theorem dX12_laysPoly_80 : decode cX12_laysPoly 80 = .ok (.iaload, 1) := by decide +kernel
theorem dX12_laysPoly_81 : decode cX12_laysPoly 81 = .ok (.iastore, 1) := by decide +kernel
theorem dX12_laysPoly_82 : decode cX12_laysPoly 82 = .ok (.iinc 4 1, 3) := by decide +kernel
theorem dX12_laysPoly_85 : decode cX12_laysPoly 85 = .ok (.goto (-29), 3) := by decide +kernel
theorem dX12_laysPoly_88 : decode cX12_laysPoly 88 = .ok (.aload_n 0, 1) := by decide +kernel
theorem dX12_laysPoly_89 : decode cX12_laysPoly 89 = .ok (.iload_n 2, 1) := by decide +kernel
theorem dX12_laysPoly_90 : decode cX12_laysPoly 90 = .ok (.iload_n 3, 1) := by decide +kernel
theorem dX12_laysPoly_91 : decode cX12_laysPoly 91 = .ok (.aload_n 0, 1) := by decide +kernel
theorem dX12_laysPoly_92 : decode cX12_laysPoly 92 = .ok (.getfield 7, 3) := by decide +kernel
theorem dX12_laysPoly_95 : decode cX12_laysPoly 95 = .ok (.iconst 2, 1) := by decide +kernel
theorem dX12_laysPoly_96 : decode cX12_laysPoly 96 = .ok (.iaload, 1) := by decide +kernel
theorem dX12_laysPoly_97 : decode cX12_laysPoly 97 = .ok (.aload_n 0, 1) := by decide +kernel
theorem dX12_laysPoly_98 : decode cX12_laysPoly 98 = .ok (.getfield 96, 3) := by decide +kernel
theorem dX12_laysPoly_101 : decode cX12_laysPoly 101 = .ok (.bipush 35, 2) := by decide +kernel
theorem dX12_laysPoly_103 : decode cX12_laysPoly 103 = .ok (.iload_n 1, 1) := by decide +kernel
theorem dX12_laysPoly_104 : decode cX12_laysPoly 104 = .ok (.iconst 1, 1) := by decide +kernel
theorem dX12_laysPoly_105 : decode cX12_laysPoly 105 = .ok (.isub, 1) := by decide +kernel
theorem dX12_laysPoly_106 : decode cX12_laysPoly 106 = .ok (.imul, 1) := by decide +kernel
theorem dX12_laysPoly_107 : decode cX12_laysPoly 107 = .ok (.iload_n 1, 1) := by decide +kernel
theorem dX12_laysPoly_108 : decode cX12_laysPoly 108 = .ok (.iadd, 1) := by decide +kernel
theorem dX12_laysPoly_109 : decode cX12_laysPoly 109 = .ok (.iconst 1, 1) := by decide +kernel
theorem dX12_laysPoly_110 : decode cX12_laysPoly 110 = .ok (.isub, 1) := by decide +kernel
theorem dX12_laysPoly_111 : decode cX12_laysPoly 111 = .ok (.iaload, 1) := by decide +kernel
theorem dX12_laysPoly_112 : decode cX12_laysPoly 112 = .ok (.isub, 1) := by decide +kernel
theorem dX12_laysPoly_113 : decode cX12_laysPoly 113 = .ok (.invokevirtual 368, 3) := by decide +kernel
theorem dX12_laysPoly_116 : decode cX12_laysPoly 116 = .ok (.iconst 1, 1) := by decide +kernel
theorem dX12_laysPoly_117 : decode cX12_laysPoly 117 = .ok (.istore 4, 2) := by decide +kernel
theorem dX12_laysPoly_119 : decode cX12_laysPoly 119 = .ok (.iconst 1, 1) := by decide +kernel
theorem dX12_laysPoly_120 : decode cX12_laysPoly 120 = .ok (.istore 5, 2) := by decide +kernel
theorem dX12_laysPoly_122 : decode cX12_laysPoly 122 = .ok (.iload 5, 2) := by decide +kernel
theorem dX12_laysPoly_124 : decode cX12_laysPoly 124 = .ok (.iload_n 1, 1) := by decide +kernel
theorem dX12_laysPoly_125 : decode cX12_laysPoly 125 = .ok (.if_icmp .ge 93, 3) := by decide +kernel
theorem dX12_laysPoly_128 : decode cX12_laysPoly 128 = .ok (.iload 4, 2) := by decide +kernel
theorem dX12_laysPoly_130 : decode cX12_laysPoly 130 = .ok (.aload_n 0, 1) := by decide +kernel
theorem dX12_laysPoly_131 : decode cX12_laysPoly 131 = .ok (.getfield 96, 3) := by decide +kernel
theorem dX12_laysPoly_134 : decode cX12_laysPoly 134 = .ok (.bipush 35, 2) := by decide +kernel
theorem dX12_laysPoly_136 : decode cX12_laysPoly 136 = .ok (.iload_n 1, 1) := by decide +kernel
theorem dX12_laysPoly_137 : decode cX12_laysPoly 137 = .ok (.iload 5, 2) := by decide +kernel
theorem dX12_laysPoly_139 : decode cX12_laysPoly 139 = .ok (.isub, 1) := by decide +kernel
theorem dX12_laysPoly_140 : decode cX12_laysPoly 140 = .ok (.imul, 1) := by decide +kernel
theorem dX12_laysPoly_141 : decode cX12_laysPoly 141 = .ok (.iload_n 1, 1) := by decide +kernel
theorem dX12_laysPoly_142 : decode cX12_laysPoly 142 = .ok (.iadd, 1) := by decide +kernel
theorem dX12_laysPoly_143 : decode cX12_laysPoly 143 = .ok (.iload 5, 2) := by decide +kernel
theorem dX12_laysPoly_145 : decode cX12_laysPoly 145 = .ok (.isub, 1) := by decide +kernel
theorem dX12_laysPoly_146 : decode cX12_laysPoly 146 = .ok (.iconst 1, 1) := by decide +kernel
theorem dX12_laysPoly_147 : decode cX12_laysPoly 147 = .ok (.isub, 1) := by decide +kernel
theorem dX12_laysPoly_148 : decode cX12_laysPoly 148 = .ok (.iaload, 1) := by decide +kernel
theorem dX12_laysPoly_149 : decode cX12_laysPoly 149 = .ok (.imul, 1) := by decide +kernel
theorem dX12_laysPoly_150 : decode cX12_laysPoly 150 = .ok (.aload_n 0, 1) := by decide +kernel
theorem dX12_laysPoly_151 : decode cX12_laysPoly 151 = .ok (.getfield 7, 3) := by decide +kernel
theorem dX12_laysPoly_154 : decode cX12_laysPoly 154 = .ok (.iconst 2, 1) := by decide +kernel
theorem dX12_laysPoly_155 : decode cX12_laysPoly 155 = .ok (.iaload, 1) := by decide +kernel
theorem dX12_laysPoly_156 : decode cX12_laysPoly 156 = .ok (.irem, 1) := by decide +kernel
theorem dX12_laysPoly_157 : decode cX12_laysPoly 157 = .ok (.istore 4, 2) := by decide +kernel
theorem dX12_laysPoly_159 : decode cX12_laysPoly 159 = .ok (.iload 4, 2) := by decide +kernel
theorem dX12_laysPoly_161 : decode cX12_laysPoly 161 = .ok (.aload_n 0, 1) := by decide +kernel
theorem dX12_laysPoly_162 : decode cX12_laysPoly 162 = .ok (.getfield 96, 3) := by decide +kernel
theorem dX12_laysPoly_165 : decode cX12_laysPoly 165 = .ok (.bipush 35, 2) := by decide +kernel
theorem dX12_laysPoly_167 : decode cX12_laysPoly 167 = .ok (.iload_n 1, 1) := by decide +kernel
theorem dX12_laysPoly_168 : decode cX12_laysPoly 168 = .ok (.iload 5, 2) := by decide +kernel
theorem dX12_laysPoly_170 : decode cX12_laysPoly 170 = .ok (.isub, 1) := by decide +kernel
theorem dX12_laysPoly_171 : decode cX12_laysPoly 171 = .ok (.iconst 1, 1) := by decide +kernel
theorem dX12_laysPoly_172 : decode cX12_laysPoly 172 = .ok (.isub, 1) := by decide +kernel
theorem dX12_laysPoly_173 : decode cX12_laysPoly 173 = .ok (.imul, 1) := by decide +kernel
theorem dX12_laysPoly_174 : decode cX12_laysPoly 174 = .ok (.iload_n 1, 1) := by decide +kernel
theorem dX12_laysPoly_175 : decode cX12_laysPoly 175 = .ok (.iadd, 1) := by decide +kernel
theorem dX12_laysPoly_176 : decode cX12_laysPoly 176 = .ok (.iconst 1, 1) := by decide +kernel
theorem dX12_laysPoly_177 : decode cX12_laysPoly 177 = .ok (.isub, 1) := by decide +kernel
theorem dX12_laysPoly_178 : decode cX12_laysPoly 178 = .ok (.iaload, 1) := by decide +kernel
theorem dX12_laysPoly_179 : decode cX12_laysPoly 179 = .ok (.imul, 1) := by decide +kernel
theorem dX12_laysPoly_180 : decode cX12_laysPoly 180 = .ok (.aload_n 0, 1) := by decide +kernel
theorem dX12_laysPoly_181 : decode cX12_laysPoly 181 = .ok (.getfield 7, 3) := by decide +kernel
theorem dX12_laysPoly_184 : decode cX12_laysPoly 184 = .ok (.iconst 2, 1) := by decide +kernel
theorem dX12_laysPoly_185 : decode cX12_laysPoly 185 = .ok (.iaload, 1) := by decide +kernel
theorem dX12_laysPoly_186 : decode cX12_laysPoly 186 = .ok (.irem, 1) := by decide +kernel
theorem dX12_laysPoly_187 : decode cX12_laysPoly 187 = .ok (.istore 6, 2) := by decide +kernel
theorem dX12_laysPoly_189 : decode cX12_laysPoly 189 = .ok (.aload_n 0, 1) := by decide +kernel
theorem dX12_laysPoly_190 : decode cX12_laysPoly 190 = .ok (.iload_n 2, 1) := by decide +kernel
theorem dX12_laysPoly_191 : decode cX12_laysPoly 191 = .ok (.bipush 36, 2) := by decide +kernel
theorem dX12_laysPoly_193 : decode cX12_laysPoly 193 = .ok (.iload_n 1, 1) := by decide +kernel
theorem dX12_laysPoly_194 : decode cX12_laysPoly 194 = .ok (.iload 5, 2) := by decide +kernel
theorem dX12_laysPoly_196 : decode cX12_laysPoly 196 = .ok (.isub, 1) := by decide +kernel
theorem dX12_laysPoly_197 : decode cX12_laysPoly 197 = .ok (.iconst 1, 1) := by decide +kernel
theorem dX12_laysPoly_198 : decode cX12_laysPoly 198 = .ok (.isub, 1) := by decide +kernel
theorem dX12_laysPoly_199 : decode cX12_laysPoly 199 = .ok (.imul, 1) := by decide +kernel
theorem dX12_laysPoly_200 : decode cX12_laysPoly 200 = .ok (.aload_n 0, 1) := by decide +kernel
theorem dX12_laysPoly_201 : decode cX12_laysPoly 201 = .ok (.getfield 7, 3) := by decide +kernel
theorem dX12_laysPoly_204 : decode cX12_laysPoly 204 = .ok (.iconst 2, 1) := by decide +kernel
theorem dX12_laysPoly_205 : decode cX12_laysPoly 205 = .ok (.iaload, 1) := by decide +kernel
theorem dX12_laysPoly_206 : decode cX12_laysPoly 206 = .ok (.iload 6, 2) := by decide +kernel
theorem dX12_laysPoly_208 : decode cX12_laysPoly 208 = .ok (.isub, 1) := by decide +kernel
theorem dX12_laysPoly_209 : decode cX12_laysPoly 209 = .ok (.invokevirtual 368, 3) := by decide +kernel
theorem dX12_laysPoly_212 : decode cX12_laysPoly 212 = .ok (.iinc 5 1, 3) := by decide +kernel
theorem dX12_laysPoly_215 : decode cX12_laysPoly 215 = .ok (.goto (-93), 3) := by decide +kernel
theorem dX12_laysPoly_218 : decode cX12_laysPoly 218 = .ok (.iinc 1 1, 3) := by decide +kernel
theorem dX12_laysPoly_221 : decode cX12_laysPoly 221 = .ok (.goto (-186), 3) := by decide +kernel
theorem dX12_laysPoly_224 : decode cX12_laysPoly 224 = .ok (.return_, 1) := by decide +kernel
theorem dX12_adds_0 : decode cX12_adds 0 = .ok (.iconst 0, 1) := by decide +kernel
theorem dX12_adds_1 : decode cX12_adds 1 = .ok (.istore 4, 2) := by decide +kernel
theorem dX12_adds_3 : decode cX12_adds 3 = .ok (.iload 4, 2) := by decide +kernel
theorem dX12_adds_5 : decode cX12_adds 5 = .ok (.bipush 36, 2) := by decide +kernel
theorem dX12_adds_7 : decode cX12_adds 7 = .ok (.if_icmp .ge 46, 3) := by decide +kernel
theorem dX12_adds_10 : decode cX12_adds 10 = .ok (.aload_n 0, 1) := by decide +kernel
theorem dX12_adds_11 : decode cX12_adds 11 = .ok (.getfield 99, 3) := by decide +kernel
theorem dX12_adds_14 : decode cX12_adds 14 = .ok (.iload_n 1, 1) := by decide +kernel
theorem dX12_adds_15 : decode cX12_adds 15 = .ok (.iload 4, 2) := by decide +kernel
theorem dX12_adds_17 : decode cX12_adds 17 = .ok (.iadd, 1) := by decide +kernel
theorem dX12_adds_18 : decode cX12_adds 18 = .ok (.aload_n 0, 1) := by decide +kernel
theorem dX12_adds_19 : decode cX12_adds 19 = .ok (.getfield 99, 3) := by decide +kernel
theorem dX12_adds_22 : decode cX12_adds 22 = .ok (.iload_n 1, 1) := by decide +kernel
theorem dX12_adds_23 : decode cX12_adds 23 = .ok (.iload 4, 2) := by decide +kernel
theorem dX12_adds_25 : decode cX12_adds 25 = .ok (.iadd, 1) := by decide +kernel
theorem dX12_adds_26 : decode cX12_adds 26 = .ok (.iaload, 1) := by decide +kernel
theorem dX12_adds_27 : decode cX12_adds 27 = .ok (.iload_n 3, 1) := by decide +kernel
theorem dX12_adds_28 : decode cX12_adds 28 = .ok (.aload_n 0, 1) := by decide +kernel
theorem dX12_adds_29 : decode cX12_adds 29 = .ok (.getfield 99, 3) := by decide +kernel
theorem dX12_adds_32 : decode cX12_adds 32 = .ok (.iload_n 2, 1) := by decide +kernel
theorem dX12_adds_33 : decode cX12_adds 33 = .ok (.iload 4, 2) := by decide +kernel
theorem dX12_adds_35 : decode cX12_adds 35 = .ok (.iadd, 1) := by decide +kernel
theorem dX12_adds_36 : decode cX12_adds 36 = .ok (.iaload, 1) := by decide +kernel
theorem dX12_adds_37 : decode cX12_adds 37 = .ok (.imul, 1) := by decide +kernel
theorem dX12_adds_38 : decode cX12_adds 38 = .ok (.iadd, 1) := by decide +kernel
theorem dX12_adds_39 : decode cX12_adds 39 = .ok (.aload_n 0, 1) := by decide +kernel
theorem dX12_adds_40 : decode cX12_adds 40 = .ok (.getfield 7, 3) := by decide +kernel
theorem dX12_adds_43 : decode cX12_adds 43 = .ok (.iconst 2, 1) := by decide +kernel
theorem dX12_adds_44 : decode cX12_adds 44 = .ok (.iaload, 1) := by decide +kernel
theorem dX12_adds_45 : decode cX12_adds 45 = .ok (.irem, 1) := by decide +kernel
theorem dX12_adds_46 : decode cX12_adds 46 = .ok (.iastore, 1) := by decide +kernel
theorem dX12_adds_47 : decode cX12_adds 47 = .ok (.iinc 4 1, 3) := by decide +kernel
theorem dX12_adds_50 : decode cX12_adds 50 = .ok (.goto (-47), 3) := by decide +kernel
theorem dX12_adds_53 : decode cX12_adds 53 = .ok (.return_, 1) := by decide +kernel
theorem dX12_size_0 : decode cX12_size 0 = .ok (.aload_n 0, 1) := by decide +kernel
theorem dX12_size_1 : decode cX12_size 1 = .ok (.iload_n 1, 1) := by decide +kernel
theorem dX12_size_2 : decode cX12_size 2 = .ok (.invokevirtual 371, 3) := by decide +kernel
theorem dX12_size_5 : decode cX12_size 5 = .ok (.ifCond .eq 16, 3) := by decide +kernel
theorem dX12_size_8 : decode cX12_size 8 = .ok (.iload_n 2, 1) := by decide +kernel
theorem dX12_size_9 : decode cX12_size 9 = .ok (.iconst (-1), 1) := by decide +kernel
theorem dX12_size_10 : decode cX12_size 10 = .ok (.if_icmp .eq 13, 3) := by decide +kernel
theorem dX12_size_13 : decode cX12_size 13 = .ok (.aload_n 0, 1) := by decide +kernel
theorem dX12_size_14 : decode cX12_size 14 = .ok (.iload_n 2, 1) := by decide +kernel
theorem dX12_size_15 : decode cX12_size 15 = .ok (.invokevirtual 374, 3) := by decide +kernel
theorem dX12_size_18 : decode cX12_size 18 = .ok (.ifCond .ne 5, 3) := by decide +kernel
theorem dX12_size_21 : decode cX12_size 21 = .ok (.iconst (-1), 1) := by decide +kernel
theorem dX12_size_22 : decode cX12_size 22 = .ok (.ireturn, 1) := by decide +kernel
theorem dX12_size_23 : decode cX12_size 23 = .ok (.iload_n 2, 1) := by decide +kernel
theorem dX12_size_24 : decode cX12_size 24 = .ok (.iconst (-1), 1) := by decide +kernel
theorem dX12_size_25 : decode cX12_size 25 = .ok (.if_icmp .ne 11, 3) := by decide +kernel
theorem dX12_size_28 : decode cX12_size 28 = .ok (.aload_n 0, 1) := by decide +kernel
theorem dX12_size_29 : decode cX12_size 29 = .ok (.iload_n 1, 1) := by decide +kernel
theorem dX12_size_30 : decode cX12_size 30 = .ok (.invokevirtual 339, 3) := by decide +kernel
theorem dX12_size_33 : decode cX12_size 33 = .ok (.goto 9, 3) := by decide +kernel
theorem dX12_size_36 : decode cX12_size 36 = .ok (.aload_n 0, 1) := by decide +kernel
theorem dX12_size_37 : decode cX12_size 37 = .ok (.iload_n 1, 1) := by decide +kernel
theorem dX12_size_38 : decode cX12_size 38 = .ok (.iload_n 2, 1) := by decide +kernel
theorem dX12_size_39 : decode cX12_size 39 = .ok (.invokevirtual 354, 3) := by decide +kernel
theorem dX12_size_42 : decode cX12_size 42 = .ok (.aload_n 0, 1) := by decide +kernel
theorem dX12_size_43 : decode cX12_size 43 = .ok (.getfield 333, 3) := by decide +kernel
theorem dX12_size_46 : decode cX12_size 46 = .ok (.ireturn, 1) := by decide +kernel
theorem dX12_trace_0 : decode cX12_trace 0 = .ok (.aload_n 0, 1) := by decide +kernel
theorem dX12_trace_1 : decode cX12_trace 1 = .ok (.iload_n 1, 1) := by decide +kernel
theorem dX12_trace_2 : decode cX12_trace 2 = .ok (.invokevirtual 371, 3) := by decide +kernel
theorem dX12_trace_5 : decode cX12_trace 5 = .ok (.ifCond .eq 13, 3) := by decide +kernel
theorem dX12_trace_8 : decode cX12_trace 8 = .ok (.iload_n 2, 1) := by decide +kernel
theorem dX12_trace_9 : decode cX12_trace 9 = .ok (.iconst 0, 1) := by decide +kernel
theorem dX12_trace_10 : decode cX12_trace 10 = .ok (.bipush 99, 2) := by decide +kernel
theorem dX12_trace_12 : decode cX12_trace 12 = .ok (.invokestatic 124, 3) := by decide +kernel
theorem dX12_trace_15 : decode cX12_trace 15 = .ok (.ifCond .ne 5, 3) := by decide +kernel
theorem dX12_trace_18 : decode cX12_trace 18 = .ok (.iconst (-1), 1) := by decide +kernel
theorem dX12_trace_19 : decode cX12_trace 19 = .ok (.ireturn, 1) := by decide +kernel
theorem dX12_trace_20 : decode cX12_trace 20 = .ok (.aload_n 0, 1) := by decide +kernel
theorem dX12_trace_21 : decode cX12_trace 21 = .ok (.iload_n 1, 1) := by decide +kernel
theorem dX12_trace_22 : decode cX12_trace 22 = .ok (.invokevirtual 339, 3) := by decide +kernel
theorem dX12_trace_25 : decode cX12_trace 25 = .ok (.iconst 0, 1) := by decide +kernel
theorem dX12_trace_26 : decode cX12_trace 26 = .ok (.istore_n 3, 1) := by decide +kernel
theorem dX12_trace_27 : decode cX12_trace 27 = .ok (.iconst 0, 1) := by decide +kernel
theorem dX12_trace_28 : decode cX12_trace 28 = .ok (.istore 4, 2) := by decide +kernel
theorem dX12_trace_30 : decode cX12_trace 30 = .ok (.iload 4, 2) := by decide +kernel
theorem dX12_trace_32 : decode cX12_trace 32 = .ok (.aload_n 0, 1) := by decide +kernel
theorem dX12_trace_33 : decode cX12_trace 33 = .ok (.getfield 333, 3) := by decide +kernel
theorem dX12_trace_36 : decode cX12_trace 36 = .ok (.if_icmp .ge 61, 3) := by decide +kernel
theorem dX12_trace_39 : decode cX12_trace 39 = .ok (.aload_n 0, 1) := by decide +kernel
theorem dX12_trace_40 : decode cX12_trace 40 = .ok (.aload_n 0, 1) := by decide +kernel
theorem dX12_trace_41 : decode cX12_trace 41 = .ok (.getfield 90, 3) := by decide +kernel
theorem dX12_trace_44 : decode cX12_trace 44 = .ok (.iload 4, 2) := by decide +kernel
theorem dX12_trace_46 : decode cX12_trace 46 = .ok (.iaload, 1) := by decide +kernel
theorem dX12_trace_47 : decode cX12_trace 47 = .ok (.invokevirtual 317, 3) := by decide +kernel
theorem dX12_trace_50 : decode cX12_trace 50 = .ok (.iconst 0, 1) := by decide +kernel
theorem dX12_trace_51 : decode cX12_trace 51 = .ok (.istore 5, 2) := by decide +kernel
theorem dX12_trace_53 : decode cX12_trace 53 = .ok (.iload 5, 2) := by decide +kernel
theorem dX12_trace_55 : decode cX12_trace 55 = .ok (.iload_n 2, 1) := by decide +kernel
theorem dX12_trace_56 : decode cX12_trace 56 = .ok (.if_icmp .ge 13, 3) := by decide +kernel
theorem dX12_trace_59 : decode cX12_trace 59 = .ok (.aload_n 0, 1) := by decide +kernel
theorem dX12_trace_60 : decode cX12_trace 60 = .ok (.invokevirtual 320, 3) := by decide +kernel
theorem dX12_trace_63 : decode cX12_trace 63 = .ok (.iinc 5 1, 3) := by decide +kernel
theorem dX12_trace_66 : decode cX12_trace 66 = .ok (.goto (-13), 3) := by decide +kernel
theorem dX12_trace_69 : decode cX12_trace 69 = .ok (.iload_n 3, 1) := by decide +kernel
theorem dX12_trace_70 : decode cX12_trace 70 = .ok (.aload_n 0, 1) := by decide +kernel
theorem dX12_trace_71 : decode cX12_trace 71 = .ok (.getfield 81, 3) := by decide +kernel
theorem dX12_trace_74 : decode cX12_trace 74 = .ok (.aload_n 0, 1) := by decide +kernel
theorem dX12_trace_75 : decode cX12_trace 75 = .ok (.getfield 90, 3) := by decide +kernel
theorem dX12_trace_78 : decode cX12_trace 78 = .ok (.iload 4, 2) := by decide +kernel
theorem dX12_trace_80 : decode cX12_trace 80 = .ok (.iaload, 1) := by decide +kernel
theorem dX12_trace_81 : decode cX12_trace 81 = .ok (.iaload, 1) := by decide +kernel
theorem dX12_trace_82 : decode cX12_trace 82 = .ok (.iadd, 1) := by decide +kernel
theorem dX12_trace_83 : decode cX12_trace 83 = .ok (.aload_n 0, 1) := by decide +kernel
theorem dX12_trace_84 : decode cX12_trace 84 = .ok (.getfield 7, 3) := by decide +kernel
theorem dX12_trace_87 : decode cX12_trace 87 = .ok (.iconst 2, 1) := by decide +kernel
theorem dX12_trace_88 : decode cX12_trace 88 = .ok (.iaload, 1) := by decide +kernel
theorem dX12_trace_89 : decode cX12_trace 89 = .ok (.irem, 1) := by decide +kernel
theorem dX12_trace_90 : decode cX12_trace 90 = .ok (.istore_n 3, 1) := by decide +kernel
theorem dX12_trace_91 : decode cX12_trace 91 = .ok (.iinc 4 1, 3) := by decide +kernel
theorem dX12_trace_94 : decode cX12_trace 94 = .ok (.goto (-64), 3) := by decide +kernel
theorem dX12_trace_97 : decode cX12_trace 97 = .ok (.iload_n 3, 1) := by decide +kernel
theorem dX12_trace_98 : decode cX12_trace 98 = .ok (.ireturn, 1) := by decide +kernel
theorem dX12_poly_0 : decode cX12_poly 0 = .ok (.aload_n 0, 1) := by decide +kernel
theorem dX12_poly_1 : decode cX12_poly 1 = .ok (.iload_n 1, 1) := by decide +kernel
theorem dX12_poly_2 : decode cX12_poly 2 = .ok (.invokevirtual 371, 3) := by decide +kernel
theorem dX12_poly_5 : decode cX12_poly 5 = .ok (.ifCond .eq 25, 3) := by decide +kernel
theorem dX12_poly_8 : decode cX12_poly 8 = .ok (.iload_n 2, 1) := by decide +kernel
theorem dX12_poly_9 : decode cX12_poly 9 = .ok (.iconst (-1), 1) := by decide +kernel
theorem dX12_poly_10 : decode cX12_poly 10 = .ok (.if_icmp .eq 22, 3) := by decide +kernel
theorem dX12_poly_13 : decode cX12_poly 13 = .ok (.aload_n 0, 1) := by decide +kernel
theorem dX12_poly_14 : decode cX12_poly 14 = .ok (.iload_n 2, 1) := by decide +kernel
theorem dX12_poly_15 : decode cX12_poly 15 = .ok (.invokevirtual 374, 3) := by decide +kernel
theorem dX12_poly_18 : decode cX12_poly 18 = .ok (.ifCond .eq 12, 3) := by decide +kernel
theorem dX12_poly_21 : decode cX12_poly 21 = .ok (.aload_n 0, 1) := by decide +kernel
theorem dX12_poly_22 : decode cX12_poly 22 = .ok (.getfield 7, 3) := by decide +kernel
theorem dX12_poly_25 : decode cX12_poly 25 = .ok (.iconst 1, 1) := by decide +kernel
theorem dX12_poly_26 : decode cX12_poly 26 = .ok (.iaload, 1) := by decide +kernel
theorem dX12_poly_27 : decode cX12_poly 27 = .ok (.ifCond .ne 5, 3) := by decide +kernel
theorem dX12_poly_30 : decode cX12_poly 30 = .ok (.iconst (-1), 1) := by decide +kernel
theorem dX12_poly_31 : decode cX12_poly 31 = .ok (.ireturn, 1) := by decide +kernel
theorem dX12_poly_32 : decode cX12_poly 32 = .ok (.iload_n 2, 1) := by decide +kernel
theorem dX12_poly_33 : decode cX12_poly 33 = .ok (.iconst (-1), 1) := by decide +kernel
theorem dX12_poly_34 : decode cX12_poly 34 = .ok (.if_icmp .ne 32, 3) := by decide +kernel
theorem dX12_poly_37 : decode cX12_poly 37 = .ok (.aload_n 0, 1) := by decide +kernel
theorem dX12_poly_38 : decode cX12_poly 38 = .ok (.iload_n 1, 1) := by decide +kernel
theorem dX12_poly_39 : decode cX12_poly 39 = .ok (.aload_n 0, 1) := by decide +kernel
theorem dX12_poly_40 : decode cX12_poly 40 = .ok (.getfield 7, 3) := by decide +kernel
theorem dX12_poly_43 : decode cX12_poly 43 = .ok (.iconst 4, 1) := by decide +kernel
theorem dX12_poly_44 : decode cX12_poly 44 = .ok (.iaload, 1) := by decide +kernel
theorem dX12_poly_45 : decode cX12_poly 45 = .ok (.aload_n 0, 1) := by decide +kernel
theorem dX12_poly_46 : decode cX12_poly 46 = .ok (.getfield 7, 3) := by decide +kernel
theorem dX12_poly_49 : decode cX12_poly 49 = .ok (.iconst 1, 1) := by decide +kernel
theorem dX12_poly_50 : decode cX12_poly 50 = .ok (.iaload, 1) := by decide +kernel
theorem dX12_poly_51 : decode cX12_poly 51 = .ok (.iconst 1, 1) := by decide +kernel
theorem dX12_poly_52 : decode cX12_poly 52 = .ok (.if_icmp .ne 7, 3) := by decide +kernel
theorem dX12_poly_55 : decode cX12_poly 55 = .ok (.iconst 1, 1) := by decide +kernel
theorem dX12_poly_56 : decode cX12_poly 56 = .ok (.goto 4, 3) := by decide +kernel
theorem dX12_poly_59 : decode cX12_poly 59 = .ok (.iconst 0, 1) := by decide +kernel
theorem dX12_poly_60 : decode cX12_poly 60 = .ok (.invokevirtual 377, 3) := by decide +kernel
theorem dX12_poly_63 : decode cX12_poly 63 = .ok (.goto 9, 3) := by decide +kernel
theorem dX12_poly_66 : decode cX12_poly 66 = .ok (.aload_n 0, 1) := by decide +kernel
theorem dX12_poly_67 : decode cX12_poly 67 = .ok (.iload_n 1, 1) := by decide +kernel
theorem dX12_poly_68 : decode cX12_poly 68 = .ok (.iload_n 2, 1) := by decide +kernel
theorem dX12_poly_69 : decode cX12_poly 69 = .ok (.invokevirtual 381, 3) := by decide +kernel
theorem dX12_poly_72 : decode cX12_poly 72 = .ok (.iload_n 3, 1) := by decide +kernel
theorem dX12_poly_73 : decode cX12_poly 73 = .ok (.iconst 0, 1) := by decide +kernel
theorem dX12_poly_74 : decode cX12_poly 74 = .ok (.aload_n 0, 1) := by decide +kernel
theorem dX12_poly_75 : decode cX12_poly 75 = .ok (.getfield 333, 3) := by decide +kernel
theorem dX12_poly_78 : decode cX12_poly 78 = .ok (.invokestatic 124, 3) := by decide +kernel
theorem dX12_poly_81 : decode cX12_poly 81 = .ok (.ifCond .ne 5, 3) := by decide +kernel
theorem dX12_poly_84 : decode cX12_poly 84 = .ok (.iconst (-1), 1) := by decide +kernel
theorem dX12_poly_85 : decode cX12_poly 85 = .ok (.ireturn, 1) := by decide +kernel
theorem dX12_poly_86 : decode cX12_poly 86 = .ok (.aload_n 0, 1) := by decide +kernel
theorem dX12_poly_87 : decode cX12_poly 87 = .ok (.invokevirtual 384, 3) := by decide +kernel
theorem dX12_poly_90 : decode cX12_poly 90 = .ok (.aload_n 0, 1) := by decide +kernel
theorem dX12_poly_91 : decode cX12_poly 91 = .ok (.getfield 99, 3) := by decide +kernel
theorem dX12_poly_94 : decode cX12_poly 94 = .ok (.bipush 36, 2) := by decide +kernel
theorem dX12_poly_96 : decode cX12_poly 96 = .ok (.aload_n 0, 1) := by decide +kernel
theorem dX12_poly_97 : decode cX12_poly 97 = .ok (.getfield 333, 3) := by decide +kernel
theorem dX12_poly_100 : decode cX12_poly 100 = .ok (.imul, 1) := by decide +kernel
theorem dX12_poly_101 : decode cX12_poly 101 = .ok (.iload_n 3, 1) := by decide +kernel
theorem dX12_poly_102 : decode cX12_poly 102 = .ok (.iadd, 1) := by decide +kernel
theorem dX12_poly_103 : decode cX12_poly 103 = .ok (.iaload, 1) := by decide +kernel
theorem dX12_poly_104 : decode cX12_poly 104 = .ok (.ireturn, 1) := by decide +kernel
theorem dX12_oftenOf_0 : decode cX12_oftenOf 0 = .ok (.iconst 0, 1) := by decide +kernel
theorem dX12_oftenOf_1 : decode cX12_oftenOf 1 = .ok (.istore_n 2, 1) := by decide +kernel
theorem dX12_oftenOf_2 : decode cX12_oftenOf 2 = .ok (.iload_n 2, 1) := by decide +kernel
theorem dX12_oftenOf_3 : decode cX12_oftenOf 3 = .ok (.bipush 36, 2) := by decide +kernel
theorem dX12_oftenOf_5 : decode cX12_oftenOf 5 = .ok (.if_icmp .ge 29, 3) := by decide +kernel
theorem dX12_oftenOf_8 : decode cX12_oftenOf 8 = .ok (.aload_n 0, 1) := by decide +kernel
theorem dX12_oftenOf_9 : decode cX12_oftenOf 9 = .ok (.getfield 102, 3) := by decide +kernel
theorem dX12_oftenOf_12 : decode cX12_oftenOf 12 = .ok (.iload_n 2, 1) := by decide +kernel
theorem dX12_oftenOf_13 : decode cX12_oftenOf 13 = .ok (.aload_n 0, 1) := by decide +kernel
theorem dX12_oftenOf_14 : decode cX12_oftenOf 14 = .ok (.getfield 99, 3) := by decide +kernel
theorem dX12_oftenOf_17 : decode cX12_oftenOf 17 = .ok (.bipush 36, 2) := by decide +kernel
theorem dX12_oftenOf_19 : decode cX12_oftenOf 19 = .ok (.aload_n 0, 1) := by decide +kernel
theorem dX12_oftenOf_20 : decode cX12_oftenOf 20 = .ok (.getfield 333, 3) := by decide +kernel
theorem dX12_oftenOf_23 : decode cX12_oftenOf 23 = .ok (.imul, 1) := by decide +kernel
theorem dX12_oftenOf_24 : decode cX12_oftenOf 24 = .ok (.iload_n 2, 1) := by decide +kernel
theorem dX12_oftenOf_25 : decode cX12_oftenOf 25 = .ok (.iadd, 1) := by decide +kernel
theorem dX12_oftenOf_26 : decode cX12_oftenOf 26 = .ok (.iaload, 1) := by decide +kernel
theorem dX12_oftenOf_27 : decode cX12_oftenOf 27 = .ok (.iastore, 1) := by decide +kernel
theorem dX12_oftenOf_28 : decode cX12_oftenOf 28 = .ok (.iinc 2 1, 3) := by decide +kernel
theorem dX12_oftenOf_31 : decode cX12_oftenOf 31 = .ok (.goto (-29), 3) := by decide +kernel
theorem dX12_oftenOf_34 : decode cX12_oftenOf 34 = .ok (.aload_n 0, 1) := by decide +kernel
theorem dX12_oftenOf_35 : decode cX12_oftenOf 35 = .ok (.getfield 333, 3) := by decide +kernel
theorem dX12_oftenOf_38 : decode cX12_oftenOf 38 = .ok (.istore_n 2, 1) := by decide +kernel
theorem dX12_oftenOf_39 : decode cX12_oftenOf 39 = .ok (.iconst 0, 1) := by decide +kernel
theorem dX12_oftenOf_40 : decode cX12_oftenOf 40 = .ok (.istore_n 3, 1) := by decide +kernel
theorem dX12_oftenOf_41 : decode cX12_oftenOf 41 = .ok (.iload_n 2, 1) := by decide +kernel
theorem dX12_oftenOf_42 : decode cX12_oftenOf 42 = .ok (.ifCond .le 70, 3) := by decide +kernel
theorem dX12_oftenOf_45 : decode cX12_oftenOf 45 = .ok (.iconst 0, 1) := by decide +kernel
theorem dX12_oftenOf_46 : decode cX12_oftenOf 46 = .ok (.istore 4, 2) := by decide +kernel
theorem dX12_oftenOf_48 : decode cX12_oftenOf 48 = .ok (.iload_n 2, 1) := by decide +kernel
theorem dX12_oftenOf_49 : decode cX12_oftenOf 49 = .ok (.istore 5, 2) := by decide +kernel
theorem dX12_oftenOf_51 : decode cX12_oftenOf 51 = .ok (.iload 5, 2) := by decide +kernel
theorem dX12_oftenOf_53 : decode cX12_oftenOf 53 = .ok (.ifCond .lt 43, 3) := by decide +kernel
theorem dX12_oftenOf_56 : decode cX12_oftenOf 56 = .ok (.aload_n 0, 1) := by decide +kernel
theorem dX12_oftenOf_57 : decode cX12_oftenOf 57 = .ok (.getfield 102, 3) := by decide +kernel
theorem dX12_oftenOf_60 : decode cX12_oftenOf 60 = .ok (.iload 5, 2) := by decide +kernel
theorem dX12_oftenOf_62 : decode cX12_oftenOf 62 = .ok (.iaload, 1) := by decide +kernel
theorem dX12_oftenOf_63 : decode cX12_oftenOf 63 = .ok (.istore 6, 2) := by decide +kernel
theorem dX12_oftenOf_65 : decode cX12_oftenOf 65 = .ok (.aload_n 0, 1) := by decide +kernel
theorem dX12_oftenOf_66 : decode cX12_oftenOf 66 = .ok (.getfield 102, 3) := by decide +kernel
theorem dX12_oftenOf_69 : decode cX12_oftenOf 69 = .ok (.iload 5, 2) := by decide +kernel
theorem dX12_oftenOf_71 : decode cX12_oftenOf 71 = .ok (.iload 4, 2) := by decide +kernel
theorem dX12_oftenOf_73 : decode cX12_oftenOf 73 = .ok (.iastore, 1) := by decide +kernel
theorem dX12_oftenOf_74 : decode cX12_oftenOf 74 = .ok (.iload 4, 2) := by decide +kernel
theorem dX12_oftenOf_76 : decode cX12_oftenOf 76 = .ok (.iload_n 1, 1) := by decide +kernel
theorem dX12_oftenOf_77 : decode cX12_oftenOf 77 = .ok (.imul, 1) := by decide +kernel
theorem dX12_oftenOf_78 : decode cX12_oftenOf 78 = .ok (.iload 6, 2) := by decide +kernel
theorem dX12_oftenOf_80 : decode cX12_oftenOf 80 = .ok (.iadd, 1) := by decide +kernel
theorem dX12_oftenOf_81 : decode cX12_oftenOf 81 = .ok (.aload_n 0, 1) := by decide +kernel
theorem dX12_oftenOf_82 : decode cX12_oftenOf 82 = .ok (.getfield 7, 3) := by decide +kernel
theorem dX12_oftenOf_85 : decode cX12_oftenOf 85 = .ok (.iconst 2, 1) := by decide +kernel
theorem dX12_oftenOf_86 : decode cX12_oftenOf 86 = .ok (.iaload, 1) := by decide +kernel
theorem dX12_oftenOf_87 : decode cX12_oftenOf 87 = .ok (.irem, 1) := by decide +kernel
theorem dX12_oftenOf_88 : decode cX12_oftenOf 88 = .ok (.istore 4, 2) := by decide +kernel
theorem dX12_oftenOf_90 : decode cX12_oftenOf 90 = .ok (.iinc 5 (-1), 3) := by decide +kernel
theorem dX12_oftenOf_93 : decode cX12_oftenOf 93 = .ok (.goto (-42), 3) := by decide +kernel
theorem dX12_oftenOf_96 : decode cX12_oftenOf 96 = .ok (.iload 4, 2) := by decide +kernel
theorem dX12_oftenOf_98 : decode cX12_oftenOf 98 = .ok (.ifCond .eq 5, 3) := by decide +kernel
theorem dX12_oftenOf_101 : decode cX12_oftenOf 101 = .ok (.iload_n 3, 1) := by decide +kernel
theorem dX12_oftenOf_102 : decode cX12_oftenOf 102 = .ok (.ireturn, 1) := by decide +kernel
theorem dX12_oftenOf_103 : decode cX12_oftenOf 103 = .ok (.iinc 3 1, 3) := by decide +kernel
theorem dX12_oftenOf_106 : decode cX12_oftenOf 106 = .ok (.iinc 2 (-1), 3) := by decide +kernel
theorem dX12_oftenOf_109 : decode cX12_oftenOf 109 = .ok (.goto (-68), 3) := by decide +kernel
theorem dX12_oftenOf_112 : decode cX12_oftenOf 112 = .ok (.iload_n 3, 1) := by decide +kernel
theorem dX12_oftenOf_113 : decode cX12_oftenOf 113 = .ok (.ireturn, 1) := by decide +kernel
theorem dX12_laysOwn_0 : decode cX12_laysOwn 0 = .ok (.aload_n 0, 1) := by decide +kernel
theorem dX12_laysOwn_1 : decode cX12_laysOwn 1 = .ok (.iload_n 1, 1) := by decide +kernel
theorem dX12_laysOwn_2 : decode cX12_laysOwn 2 = .ok (.iload_n 2, 1) := by decide +kernel
theorem dX12_laysOwn_3 : decode cX12_laysOwn 3 = .ok (.iload_n 3, 1) := by decide +kernel
theorem dX12_laysOwn_4 : decode cX12_laysOwn 4 = .ok (.invokevirtual 377, 3) := by decide +kernel
theorem dX12_laysOwn_7 : decode cX12_laysOwn 7 = .ok (.aload_n 0, 1) := by decide +kernel
theorem dX12_laysOwn_8 : decode cX12_laysOwn 8 = .ok (.invokevirtual 384, 3) := by decide +kernel
theorem dX12_laysOwn_11 : decode cX12_laysOwn 11 = .ok (.return_, 1) := by decide +kernel
theorem dX12_own_0 : decode cX12_own 0 = .ok (.aload_n 0, 1) := by decide +kernel
theorem dX12_own_1 : decode cX12_own 1 = .ok (.iload_n 1, 1) := by decide +kernel
theorem dX12_own_2 : decode cX12_own 2 = .ok (.invokevirtual 371, 3) := by decide +kernel
theorem dX12_own_5 : decode cX12_own 5 = .ok (.ifCond .eq 8, 3) := by decide +kernel
theorem dX12_own_8 : decode cX12_own 8 = .ok (.iload_n 2, 1) := by decide +kernel
theorem dX12_own_9 : decode cX12_own 9 = .ok (.iconst (-1), 1) := by decide +kernel
theorem dX12_own_10 : decode cX12_own 10 = .ok (.if_icmp .ge 5, 3) := by decide +kernel
theorem dX12_own_13 : decode cX12_own 13 = .ok (.iconst (-1), 1) := by decide +kernel
theorem dX12_own_14 : decode cX12_own 14 = .ok (.ireturn, 1) := by decide +kernel
theorem dX12_own_15 : decode cX12_own 15 = .ok (.aload_n 0, 1) := by decide +kernel
theorem dX12_own_16 : decode cX12_own 16 = .ok (.iload_n 1, 1) := by decide +kernel
theorem dX12_own_17 : decode cX12_own 17 = .ok (.aload_n 0, 1) := by decide +kernel
theorem dX12_own_18 : decode cX12_own 18 = .ok (.getfield 7, 3) := by decide +kernel
theorem dX12_own_21 : decode cX12_own 21 = .ok (.iconst 4, 1) := by decide +kernel
theorem dX12_own_22 : decode cX12_own 22 = .ok (.iaload, 1) := by decide +kernel
theorem dX12_own_23 : decode cX12_own 23 = .ok (.aload_n 0, 1) := by decide +kernel
theorem dX12_own_24 : decode cX12_own 24 = .ok (.getfield 7, 3) := by decide +kernel
theorem dX12_own_27 : decode cX12_own 27 = .ok (.iconst 1, 1) := by decide +kernel
theorem dX12_own_28 : decode cX12_own 28 = .ok (.iaload, 1) := by decide +kernel
theorem dX12_own_29 : decode cX12_own 29 = .ok (.iconst 1, 1) := by decide +kernel
theorem dX12_own_30 : decode cX12_own 30 = .ok (.if_icmp .ne 7, 3) := by decide +kernel
theorem dX12_own_33 : decode cX12_own 33 = .ok (.iconst 1, 1) := by decide +kernel
theorem dX12_own_34 : decode cX12_own 34 = .ok (.goto 4, 3) := by decide +kernel
theorem dX12_own_37 : decode cX12_own 37 = .ok (.iconst 0, 1) := by decide +kernel
theorem dX12_own_38 : decode cX12_own 38 = .ok (.invokevirtual 387, 3) := by decide +kernel
theorem dX12_own_41 : decode cX12_own 41 = .ok (.iconst 0, 1) := by decide +kernel
theorem dX12_own_42 : decode cX12_own 42 = .ok (.istore_n 3, 1) := by decide +kernel
theorem dX12_own_43 : decode cX12_own 43 = .ok (.iconst 0, 1) := by decide +kernel
theorem dX12_own_44 : decode cX12_own 44 = .ok (.istore 4, 2) := by decide +kernel
theorem dX12_own_46 : decode cX12_own 46 = .ok (.iload 4, 2) := by decide +kernel
theorem dX12_own_48 : decode cX12_own 48 = .ok (.aload_n 0, 1) := by decide +kernel
theorem dX12_own_49 : decode cX12_own 49 = .ok (.getfield 7, 3) := by decide +kernel
theorem dX12_own_52 : decode cX12_own 52 = .ok (.iconst 2, 1) := by decide +kernel
theorem dX12_own_53 : decode cX12_own 53 = .ok (.iaload, 1) := by decide +kernel
theorem dX12_own_54 : decode cX12_own 54 = .ok (.if_icmp .ge 29, 3) := by decide +kernel
theorem dX12_own_57 : decode cX12_own 57 = .ok (.aload_n 0, 1) := by decide +kernel
theorem dX12_own_58 : decode cX12_own 58 = .ok (.iload 4, 2) := by decide +kernel
theorem dX12_own_60 : decode cX12_own 60 = .ok (.invokevirtual 390, 3) := by decide +kernel
theorem dX12_own_63 : decode cX12_own 63 = .ok (.ifCond .le 14, 3) := by decide +kernel
theorem dX12_own_66 : decode cX12_own 66 = .ok (.iload_n 3, 1) := by decide +kernel
theorem dX12_own_67 : decode cX12_own 67 = .ok (.iload_n 2, 1) := by decide +kernel
theorem dX12_own_68 : decode cX12_own 68 = .ok (.if_icmp .ne 6, 3) := by decide +kernel
theorem dX12_own_71 : decode cX12_own 71 = .ok (.iload 4, 2) := by decide +kernel
theorem dX12_own_73 : decode cX12_own 73 = .ok (.ireturn, 1) := by decide +kernel
theorem dX12_own_74 : decode cX12_own 74 = .ok (.iinc 3 1, 3) := by decide +kernel
theorem dX12_own_77 : decode cX12_own 77 = .ok (.iinc 4 1, 3) := by decide +kernel
theorem dX12_own_80 : decode cX12_own 80 = .ok (.goto (-34), 3) := by decide +kernel
theorem dX12_own_83 : decode cX12_own 83 = .ok (.iload_n 2, 1) := by decide +kernel
theorem dX12_own_84 : decode cX12_own 84 = .ok (.iconst (-1), 1) := by decide +kernel
theorem dX12_own_85 : decode cX12_own 85 = .ok (.if_icmp .ne 7, 3) := by decide +kernel
theorem dX12_own_88 : decode cX12_own 88 = .ok (.iload_n 3, 1) := by decide +kernel
theorem dX12_own_89 : decode cX12_own 89 = .ok (.goto 4, 3) := by decide +kernel
theorem dX12_own_92 : decode cX12_own 92 = .ok (.iconst (-1), 1) := by decide +kernel
theorem dX12_own_93 : decode cX12_own 93 = .ok (.ireturn, 1) := by decide +kernel
theorem dX12_often_0 : decode cX12_often 0 = .ok (.aload_n 0, 1) := by decide +kernel
theorem dX12_often_1 : decode cX12_often 1 = .ok (.iload_n 1, 1) := by decide +kernel
theorem dX12_often_2 : decode cX12_often 2 = .ok (.invokevirtual 371, 3) := by decide +kernel
theorem dX12_often_5 : decode cX12_often 5 = .ok (.ifCond .eq 11, 3) := by decide +kernel
theorem dX12_often_8 : decode cX12_often 8 = .ok (.aload_n 0, 1) := by decide +kernel
theorem dX12_often_9 : decode cX12_often 9 = .ok (.iload_n 2, 1) := by decide +kernel
theorem dX12_often_10 : decode cX12_often 10 = .ok (.invokevirtual 135, 3) := by decide +kernel
theorem dX12_often_13 : decode cX12_often 13 = .ok (.ifCond .ne 5, 3) := by decide +kernel
theorem dX12_often_16 : decode cX12_often 16 = .ok (.iconst (-1), 1) := by decide +kernel
theorem dX12_often_17 : decode cX12_often 17 = .ok (.ireturn, 1) := by decide +kernel
theorem dX12_often_18 : decode cX12_often 18 = .ok (.aload_n 0, 1) := by decide +kernel
theorem dX12_often_19 : decode cX12_often 19 = .ok (.iload_n 1, 1) := by decide +kernel
theorem dX12_often_20 : decode cX12_often 20 = .ok (.aload_n 0, 1) := by decide +kernel
theorem dX12_often_21 : decode cX12_often 21 = .ok (.getfield 7, 3) := by decide +kernel
theorem dX12_often_24 : decode cX12_often 24 = .ok (.iconst 4, 1) := by decide +kernel
theorem dX12_often_25 : decode cX12_often 25 = .ok (.iaload, 1) := by decide +kernel
theorem dX12_often_26 : decode cX12_often 26 = .ok (.aload_n 0, 1) := by decide +kernel
theorem dX12_often_27 : decode cX12_often 27 = .ok (.getfield 7, 3) := by decide +kernel
theorem dX12_often_30 : decode cX12_often 30 = .ok (.iconst 1, 1) := by decide +kernel
theorem dX12_often_31 : decode cX12_often 31 = .ok (.iaload, 1) := by decide +kernel
theorem dX12_often_32 : decode cX12_often 32 = .ok (.iconst 1, 1) := by decide +kernel
theorem dX12_often_33 : decode cX12_often 33 = .ok (.if_icmp .ne 7, 3) := by decide +kernel
theorem dX12_often_36 : decode cX12_often 36 = .ok (.iconst 1, 1) := by decide +kernel
theorem dX12_often_37 : decode cX12_often 37 = .ok (.goto 4, 3) := by decide +kernel
theorem dX12_often_40 : decode cX12_often 40 = .ok (.iconst 0, 1) := by decide +kernel
theorem dX12_often_41 : decode cX12_often 41 = .ok (.invokevirtual 387, 3) := by decide +kernel
theorem dX12_often_44 : decode cX12_often 44 = .ok (.aload_n 0, 1) := by decide +kernel
theorem dX12_often_45 : decode cX12_often 45 = .ok (.iload_n 2, 1) := by decide +kernel
theorem dX12_often_46 : decode cX12_often 46 = .ok (.invokevirtual 390, 3) := by decide +kernel
theorem dX12_often_49 : decode cX12_often 49 = .ok (.ireturn, 1) := by decide +kernel
theorem dX12_mean_0 : decode cX12_mean 0 = .ok (.aload_n 0, 1) := by decide +kernel
theorem dX12_mean_1 : decode cX12_mean 1 = .ok (.iload_n 1, 1) := by decide +kernel
theorem dX12_mean_2 : decode cX12_mean 2 = .ok (.invokevirtual 371, 3) := by decide +kernel
theorem dX12_mean_5 : decode cX12_mean 5 = .ok (.ifCond .eq 19, 3) := by decide +kernel
theorem dX12_mean_8 : decode cX12_mean 8 = .ok (.iload_n 2, 1) := by decide +kernel
theorem dX12_mean_9 : decode cX12_mean 9 = .ok (.iconst 1, 1) := by decide +kernel
theorem dX12_mean_10 : decode cX12_mean 10 = .ok (.aload_n 0, 1) := by decide +kernel
theorem dX12_mean_11 : decode cX12_mean 11 = .ok (.getfield 7, 3) := by decide +kernel
theorem dX12_mean_14 : decode cX12_mean 14 = .ok (.iconst 0, 1) := by decide +kernel
theorem dX12_mean_15 : decode cX12_mean 15 = .ok (.iaload, 1) := by decide +kernel
theorem dX12_mean_16 : decode cX12_mean 16 = .ok (.iconst 1, 1) := by decide +kernel
theorem dX12_mean_17 : decode cX12_mean 17 = .ok (.isub, 1) := by decide +kernel
theorem dX12_mean_18 : decode cX12_mean 18 = .ok (.invokestatic 124, 3) := by decide +kernel
theorem dX12_mean_21 : decode cX12_mean 21 = .ok (.ifCond .ne 5, 3) := by decide +kernel
theorem dX12_mean_24 : decode cX12_mean 24 = .ok (.iconst (-1), 1) := by decide +kernel
theorem dX12_mean_25 : decode cX12_mean 25 = .ok (.ireturn, 1) := by decide +kernel
theorem dX12_mean_26 : decode cX12_mean 26 = .ok (.iconst 0, 1) := by decide +kernel
theorem dX12_mean_27 : decode cX12_mean 27 = .ok (.istore_n 3, 1) := by decide +kernel
theorem dX12_mean_28 : decode cX12_mean 28 = .ok (.iconst 0, 1) := by decide +kernel
theorem dX12_mean_29 : decode cX12_mean 29 = .ok (.istore 4, 2) := by decide +kernel
theorem dX12_mean_31 : decode cX12_mean 31 = .ok (.iload 4, 2) := by decide +kernel
theorem dX12_mean_33 : decode cX12_mean 33 = .ok (.aload_n 0, 1) := by decide +kernel
theorem dX12_mean_34 : decode cX12_mean 34 = .ok (.invokevirtual 128, 3) := by decide +kernel
theorem dX12_mean_37 : decode cX12_mean 37 = .ok (.if_icmp .ge 72, 3) := by decide +kernel
theorem dX12_mean_40 : decode cX12_mean 40 = .ok (.iconst 0, 1) := by decide +kernel
theorem dX12_mean_41 : decode cX12_mean 41 = .ok (.istore 5, 2) := by decide +kernel
theorem dX12_mean_43 : decode cX12_mean 43 = .ok (.iload 5, 2) := by decide +kernel
theorem dX12_mean_45 : decode cX12_mean 45 = .ok (.aload_n 0, 1) := by decide +kernel
theorem dX12_mean_46 : decode cX12_mean 46 = .ok (.getfield 7, 3) := by decide +kernel
theorem dX12_mean_49 : decode cX12_mean 49 = .ok (.iconst 0, 1) := by decide +kernel
theorem dX12_mean_50 : decode cX12_mean 50 = .ok (.iaload, 1) := by decide +kernel
theorem dX12_mean_51 : decode cX12_mean 51 = .ok (.if_icmp .ge 52, 3) := by decide +kernel
theorem dX12_mean_54 : decode cX12_mean 54 = .ok (.iload 4, 2) := by decide +kernel
theorem dX12_mean_56 : decode cX12_mean 56 = .ok (.invokestatic 336, 3) := by decide +kernel
theorem dX12_mean_59 : decode cX12_mean 59 = .ok (.iload_n 1, 1) := by decide +kernel
theorem dX12_mean_60 : decode cX12_mean 60 = .ok (.if_icmp .ne 43, 3) := by decide +kernel
theorem dX12_mean_63 : decode cX12_mean 63 = .ok (.iload_n 3, 1) := by decide +kernel
theorem dX12_mean_64 : decode cX12_mean 64 = .ok (.iload 4, 2) := by decide +kernel
theorem dX12_mean_66 : decode cX12_mean 66 = .ok (.iload 5, 2) := by decide +kernel
theorem dX12_mean_68 : decode cX12_mean 68 = .ok (.ishr, 1) := by decide +kernel
theorem dX12_mean_69 : decode cX12_mean 69 = .ok (.iconst 1, 1) := by decide +kernel
theorem dX12_mean_70 : decode cX12_mean 70 = .ok (.iand, 1) := by decide +kernel
theorem dX12_mean_71 : decode cX12_mean 71 = .ok (.iload 4, 2) := by decide +kernel
theorem dX12_mean_73 : decode cX12_mean 73 = .ok (.iload 5, 2) := by decide +kernel
theorem dX12_mean_75 : decode cX12_mean 75 = .ok (.iload_n 2, 1) := by decide +kernel
theorem dX12_mean_76 : decode cX12_mean 76 = .ok (.iadd, 1) := by decide +kernel
theorem dX12_mean_77 : decode cX12_mean 77 = .ok (.aload_n 0, 1) := by decide +kernel
theorem dX12_mean_78 : decode cX12_mean 78 = .ok (.getfield 7, 3) := by decide +kernel
theorem dX12_mean_81 : decode cX12_mean 81 = .ok (.iconst 0, 1) := by decide +kernel
theorem dX12_mean_82 : decode cX12_mean 82 = .ok (.iaload, 1) := by decide +kernel
theorem dX12_mean_83 : decode cX12_mean 83 = .ok (.irem, 1) := by decide +kernel
theorem dX12_mean_84 : decode cX12_mean 84 = .ok (.ishr, 1) := by decide +kernel
theorem dX12_mean_85 : decode cX12_mean 85 = .ok (.iconst 1, 1) := by decide +kernel
theorem dX12_mean_86 : decode cX12_mean 86 = .ok (.iand, 1) := by decide +kernel
theorem dX12_mean_87 : decode cX12_mean 87 = .ok (.if_icmp .ne 7, 3) := by decide +kernel
theorem dX12_mean_90 : decode cX12_mean 90 = .ok (.iconst 1, 1) := by decide +kernel
theorem dX12_mean_91 : decode cX12_mean 91 = .ok (.goto 4, 3) := by decide +kernel
theorem dX12_mean_94 : decode cX12_mean 94 = .ok (.iconst 0, 1) := by decide +kernel
theorem dX12_mean_95 : decode cX12_mean 95 = .ok (.iadd, 1) := by decide +kernel
theorem dX12_mean_96 : decode cX12_mean 96 = .ok (.istore_n 3, 1) := by decide +kernel
theorem dX12_mean_97 : decode cX12_mean 97 = .ok (.iinc 5 1, 3) := by decide +kernel
theorem dX12_mean_100 : decode cX12_mean 100 = .ok (.goto (-57), 3) := by decide +kernel
theorem dX12_mean_103 : decode cX12_mean 103 = .ok (.iinc 4 1, 3) := by decide +kernel
theorem dX12_mean_106 : decode cX12_mean 106 = .ok (.goto (-75), 3) := by decide +kernel
theorem dX12_mean_109 : decode cX12_mean 109 = .ok (.iload_n 3, 1) := by decide +kernel
theorem dX12_mean_110 : decode cX12_mean 110 = .ok (.ireturn, 1) := by decide +kernel
theorem dX12_moves_0 : decode cX12_moves 0 = .ok (.iconst 0, 1) := by decide +kernel
theorem dX12_moves_1 : decode cX12_moves 1 = .ok (.istore_n 3, 1) := by decide +kernel
theorem dX12_moves_2 : decode cX12_moves 2 = .ok (.iload_n 3, 1) := by decide +kernel
theorem dX12_moves_3 : decode cX12_moves 3 = .ok (.iconst 3, 1) := by decide +kernel
theorem dX12_moves_4 : decode cX12_moves 4 = .ok (.if_icmp .ge 16, 3) := by decide +kernel
theorem dX12_moves_7 : decode cX12_moves 7 = .ok (.aload_n 0, 1) := by decide +kernel
theorem dX12_moves_8 : decode cX12_moves 8 = .ok (.getfield 114, 3) := by decide +kernel
theorem dX12_moves_11 : decode cX12_moves 11 = .ok (.iload_n 3, 1) := by decide +kernel
theorem dX12_moves_12 : decode cX12_moves 12 = .ok (.iconst 0, 1) := by decide +kernel
theorem dX12_moves_13 : decode cX12_moves 13 = .ok (.iastore, 1) := by decide +kernel
theorem dX12_moves_14 : decode cX12_moves 14 = .ok (.iinc 3 1, 3) := by decide +kernel
theorem dX12_moves_17 : decode cX12_moves 17 = .ok (.goto (-15), 3) := by decide +kernel
theorem dX12_moves_20 : decode cX12_moves 20 = .ok (.iload_n 1, 1) := by decide +kernel
theorem dX12_moves_21 : decode cX12_moves 21 = .ok (.istore_n 3, 1) := by decide +kernel
theorem dX12_moves_22 : decode cX12_moves 22 = .ok (.iload_n 3, 1) := by decide +kernel
theorem dX12_moves_23 : decode cX12_moves 23 = .ok (.ifCond .lt 91, 3) := by decide +kernel
theorem dX12_moves_26 : decode cX12_moves 26 = .ok (.iconst 2, 1) := by decide +kernel
theorem dX12_moves_27 : decode cX12_moves 27 = .ok (.istore 4, 2) := by decide +kernel
theorem dX12_moves_29 : decode cX12_moves 29 = .ok (.iload 4, 2) := by decide +kernel
theorem dX12_moves_31 : decode cX12_moves 31 = .ok (.ifCond .lt 51, 3) := by decide +kernel
theorem dX12_moves_34 : decode cX12_moves 34 = .ok (.aload_n 0, 1) := by decide +kernel
theorem dX12_moves_35 : decode cX12_moves 35 = .ok (.getfield 114, 3) := by decide +kernel
theorem dX12_moves_38 : decode cX12_moves 38 = .ok (.iload 4, 2) := by decide +kernel
theorem dX12_moves_40 : decode cX12_moves 40 = .ok (.aload_n 0, 1) := by decide +kernel
theorem dX12_moves_41 : decode cX12_moves 41 = .ok (.getfield 114, 3) := by decide +kernel
theorem dX12_moves_44 : decode cX12_moves 44 = .ok (.iload 4, 2) := by decide +kernel
theorem dX12_moves_46 : decode cX12_moves 46 = .ok (.iaload, 1) := by decide +kernel
theorem dX12_moves_47 : decode cX12_moves 47 = .ok (.iload_n 2, 1) := by decide +kernel
theorem dX12_moves_48 : decode cX12_moves 48 = .ok (.imul, 1) := by decide +kernel
theorem dX12_moves_49 : decode cX12_moves 49 = .ok (.iload 4, 2) := by decide +kernel
theorem dX12_moves_51 : decode cX12_moves 51 = .ok (.ifCond .le 15, 3) := by decide +kernel
theorem dX12_moves_54 : decode cX12_moves 54 = .ok (.aload_n 0, 1) := by decide +kernel
theorem dX12_moves_55 : decode cX12_moves 55 = .ok (.getfield 114, 3) := by decide +kernel
theorem dX12_moves_58 : decode cX12_moves 58 = .ok (.iload 4, 2) := by decide +kernel
theorem dX12_moves_60 : decode cX12_moves 60 = .ok (.iconst 1, 1) := by decide +kernel
theorem dX12_moves_61 : decode cX12_moves 61 = .ok (.isub, 1) := by decide +kernel
theorem dX12_moves_62 : decode cX12_moves 62 = .ok (.iaload, 1) := by decide +kernel
theorem dX12_moves_63 : decode cX12_moves 63 = .ok (.goto 4, 3) := by decide +kernel
theorem dX12_moves_66 : decode cX12_moves 66 = .ok (.iconst 0, 1) := by decide +kernel
theorem dX12_moves_67 : decode cX12_moves 67 = .ok (.iadd, 1) := by decide +kernel
theorem dX12_moves_68 : decode cX12_moves 68 = .ok (.aload_n 0, 1) := by decide +kernel
theorem dX12_moves_69 : decode cX12_moves 69 = .ok (.getfield 7, 3) := by decide +kernel
theorem dX12_moves_72 : decode cX12_moves 72 = .ok (.iconst 2, 1) := by decide +kernel
theorem dX12_moves_73 : decode cX12_moves 73 = .ok (.iaload, 1) := by decide +kernel
theorem dX12_moves_74 : decode cX12_moves 74 = .ok (.irem, 1) := by decide +kernel
theorem dX12_moves_75 : decode cX12_moves 75 = .ok (.iastore, 1) := by decide +kernel
theorem dX12_moves_76 : decode cX12_moves 76 = .ok (.iinc 4 (-1), 3) := by decide +kernel
theorem dX12_moves_79 : decode cX12_moves 79 = .ok (.goto (-50), 3) := by decide +kernel
theorem dX12_moves_82 : decode cX12_moves 82 = .ok (.aload_n 0, 1) := by decide +kernel
theorem dX12_moves_83 : decode cX12_moves 83 = .ok (.getfield 114, 3) := by decide +kernel
theorem dX12_moves_86 : decode cX12_moves 86 = .ok (.iconst 0, 1) := by decide +kernel
theorem dX12_moves_87 : decode cX12_moves 87 = .ok (.aload_n 0, 1) := by decide +kernel
theorem dX12_moves_88 : decode cX12_moves 88 = .ok (.getfield 114, 3) := by decide +kernel
theorem dX12_moves_91 : decode cX12_moves 91 = .ok (.iconst 0, 1) := by decide +kernel
theorem dX12_moves_92 : decode cX12_moves 92 = .ok (.iaload, 1) := by decide +kernel
theorem dX12_moves_93 : decode cX12_moves 93 = .ok (.aload_n 0, 1) := by decide +kernel
theorem dX12_moves_94 : decode cX12_moves 94 = .ok (.getfield 105, 3) := by decide +kernel
theorem dX12_moves_97 : decode cX12_moves 97 = .ok (.iload_n 3, 1) := by decide +kernel
theorem dX12_moves_98 : decode cX12_moves 98 = .ok (.iaload, 1) := by decide +kernel
theorem dX12_moves_99 : decode cX12_moves 99 = .ok (.iadd, 1) := by decide +kernel
theorem dX12_moves_100 : decode cX12_moves 100 = .ok (.aload_n 0, 1) := by decide +kernel
theorem dX12_moves_101 : decode cX12_moves 101 = .ok (.getfield 7, 3) := by decide +kernel
theorem dX12_moves_104 : decode cX12_moves 104 = .ok (.iconst 2, 1) := by decide +kernel
theorem dX12_moves_105 : decode cX12_moves 105 = .ok (.iaload, 1) := by decide +kernel
theorem dX12_moves_106 : decode cX12_moves 106 = .ok (.irem, 1) := by decide +kernel
theorem dX12_moves_107 : decode cX12_moves 107 = .ok (.iastore, 1) := by decide +kernel
theorem dX12_moves_108 : decode cX12_moves 108 = .ok (.iinc 3 (-1), 3) := by decide +kernel
theorem dX12_moves_111 : decode cX12_moves 111 = .ok (.goto (-89), 3) := by decide +kernel
theorem dX12_moves_114 : decode cX12_moves 114 = .ok (.return_, 1) := by decide +kernel
theorem dX12_laysPower_0 : decode cX12_laysPower 0 = .ok (.iconst 0, 1) := by decide +kernel
theorem dX12_laysPower_1 : decode cX12_laysPower 1 = .ok (.istore_n 2, 1) := by decide +kernel
theorem dX12_laysPower_2 : decode cX12_laysPower 2 = .ok (.iload_n 2, 1) := by decide +kernel
theorem dX12_laysPower_3 : decode cX12_laysPower 3 = .ok (.bipush 8, 2) := by decide +kernel
theorem dX12_laysPower_5 : decode cX12_laysPower 5 = .ok (.if_icmp .ge 24, 3) := by decide +kernel
theorem dX12_laysPower_8 : decode cX12_laysPower 8 = .ok (.aload_n 0, 1) := by decide +kernel
theorem dX12_laysPower_9 : decode cX12_laysPower 9 = .ok (.getfield 117, 3) := by decide +kernel
theorem dX12_laysPower_12 : decode cX12_laysPower 12 = .ok (.iload_n 2, 1) := by decide +kernel
theorem dX12_laysPower_13 : decode cX12_laysPower 13 = .ok (.iload_n 2, 1) := by decide +kernel
theorem dX12_laysPower_14 : decode cX12_laysPower 14 = .ok (.ifCond .ne 7, 3) := by decide +kernel
theorem dX12_laysPower_17 : decode cX12_laysPower 17 = .ok (.iconst 1, 1) := by decide +kernel
theorem dX12_laysPower_18 : decode cX12_laysPower 18 = .ok (.goto 4, 3) := by decide +kernel
theorem dX12_laysPower_21 : decode cX12_laysPower 21 = .ok (.iconst 0, 1) := by decide +kernel
theorem dX12_laysPower_22 : decode cX12_laysPower 22 = .ok (.iastore, 1) := by decide +kernel
theorem dX12_laysPower_23 : decode cX12_laysPower 23 = .ok (.iinc 2 1, 3) := by decide +kernel
theorem dX12_laysPower_26 : decode cX12_laysPower 26 = .ok (.goto (-24), 3) := by decide +kernel
theorem dX12_laysPower_29 : decode cX12_laysPower 29 = .ok (.iconst 0, 1) := by decide +kernel
theorem dX12_laysPower_30 : decode cX12_laysPower 30 = .ok (.istore_n 2, 1) := by decide +kernel
theorem dX12_laysPower_31 : decode cX12_laysPower 31 = .ok (.iload_n 2, 1) := by decide +kernel
theorem dX12_laysPower_32 : decode cX12_laysPower 32 = .ok (.aload_n 0, 1) := by decide +kernel
theorem dX12_laysPower_33 : decode cX12_laysPower 33 = .ok (.getfield 7, 3) := by decide +kernel
theorem dX12_laysPower_36 : decode cX12_laysPower 36 = .ok (.iconst 0, 1) := by decide +kernel
theorem dX12_laysPower_37 : decode cX12_laysPower 37 = .ok (.iaload, 1) := by decide +kernel
theorem dX12_laysPower_38 : decode cX12_laysPower 38 = .ok (.if_icmp .ge 60, 3) := by decide +kernel
theorem dX12_laysPower_41 : decode cX12_laysPower 41 = .ok (.bipush 7, 2) := by decide +kernel
theorem dX12_laysPower_43 : decode cX12_laysPower 43 = .ok (.istore_n 3, 1) := by decide +kernel
theorem dX12_laysPower_44 : decode cX12_laysPower 44 = .ok (.iload_n 3, 1) := by decide +kernel
theorem dX12_laysPower_45 : decode cX12_laysPower 45 = .ok (.ifCond .lt 47, 3) := by decide +kernel
theorem dX12_laysPower_48 : decode cX12_laysPower 48 = .ok (.aload_n 0, 1) := by decide +kernel
theorem dX12_laysPower_49 : decode cX12_laysPower 49 = .ok (.getfield 117, 3) := by decide +kernel
theorem dX12_laysPower_52 : decode cX12_laysPower 52 = .ok (.iload_n 3, 1) := by decide +kernel
theorem dX12_laysPower_53 : decode cX12_laysPower 53 = .ok (.aload_n 0, 1) := by decide +kernel
theorem dX12_laysPower_54 : decode cX12_laysPower 54 = .ok (.getfield 117, 3) := by decide +kernel
theorem dX12_laysPower_57 : decode cX12_laysPower 57 = .ok (.iload_n 3, 1) := by decide +kernel
theorem dX12_laysPower_58 : decode cX12_laysPower 58 = .ok (.iaload, 1) := by decide +kernel
theorem dX12_laysPower_59 : decode cX12_laysPower 59 = .ok (.iload_n 1, 1) := by decide +kernel
theorem dX12_laysPower_60 : decode cX12_laysPower 60 = .ok (.imul, 1) := by decide +kernel
theorem dX12_laysPower_61 : decode cX12_laysPower 61 = .ok (.iload_n 3, 1) := by decide +kernel
theorem dX12_laysPower_62 : decode cX12_laysPower 62 = .ok (.ifCond .le 14, 3) := by decide +kernel
theorem dX12_laysPower_65 : decode cX12_laysPower 65 = .ok (.aload_n 0, 1) := by decide +kernel
theorem dX12_laysPower_66 : decode cX12_laysPower 66 = .ok (.getfield 117, 3) := by decide +kernel
theorem dX12_laysPower_69 : decode cX12_laysPower 69 = .ok (.iload_n 3, 1) := by decide +kernel
theorem dX12_laysPower_70 : decode cX12_laysPower 70 = .ok (.iconst 1, 1) := by decide +kernel
theorem dX12_laysPower_71 : decode cX12_laysPower 71 = .ok (.isub, 1) := by decide +kernel
theorem dX12_laysPower_72 : decode cX12_laysPower 72 = .ok (.iaload, 1) := by decide +kernel
theorem dX12_laysPower_73 : decode cX12_laysPower 73 = .ok (.goto 4, 3) := by decide +kernel
theorem dX12_laysPower_76 : decode cX12_laysPower 76 = .ok (.iconst 0, 1) := by decide +kernel
theorem dX12_laysPower_77 : decode cX12_laysPower 77 = .ok (.iadd, 1) := by decide +kernel
theorem dX12_laysPower_78 : decode cX12_laysPower 78 = .ok (.aload_n 0, 1) := by decide +kernel
theorem dX12_laysPower_79 : decode cX12_laysPower 79 = .ok (.getfield 7, 3) := by decide +kernel
theorem dX12_laysPower_82 : decode cX12_laysPower 82 = .ok (.iconst 2, 1) := by decide +kernel
theorem dX12_laysPower_83 : decode cX12_laysPower 83 = .ok (.iaload, 1) := by decide +kernel
theorem dX12_laysPower_84 : decode cX12_laysPower 84 = .ok (.irem, 1) := by decide +kernel
theorem dX12_laysPower_85 : decode cX12_laysPower 85 = .ok (.iastore, 1) := by decide +kernel
theorem dX12_laysPower_86 : decode cX12_laysPower 86 = .ok (.iinc 3 (-1), 3) := by decide +kernel
theorem dX12_laysPower_89 : decode cX12_laysPower 89 = .ok (.goto (-45), 3) := by decide +kernel
theorem dX12_laysPower_92 : decode cX12_laysPower 92 = .ok (.iinc 2 1, 3) := by decide +kernel
theorem dX12_laysPower_95 : decode cX12_laysPower 95 = .ok (.goto (-64), 3) := by decide +kernel
theorem dX12_laysPower_98 : decode cX12_laysPower 98 = .ok (.return_, 1) := by decide +kernel
theorem dX12_addsPower_0 : decode cX12_addsPower 0 = .ok (.iconst 0, 1) := by decide +kernel
theorem dX12_addsPower_1 : decode cX12_addsPower 1 = .ok (.istore_n 1, 1) := by decide +kernel
theorem dX12_addsPower_2 : decode cX12_addsPower 2 = .ok (.iload_n 1, 1) := by decide +kernel
theorem dX12_addsPower_3 : decode cX12_addsPower 3 = .ok (.bipush 8, 2) := by decide +kernel
theorem dX12_addsPower_5 : decode cX12_addsPower 5 = .ok (.if_icmp .ge 59, 3) := by decide +kernel
theorem dX12_addsPower_8 : decode cX12_addsPower 8 = .ok (.iconst 0, 1) := by decide +kernel
theorem dX12_addsPower_9 : decode cX12_addsPower 9 = .ok (.istore_n 2, 1) := by decide +kernel
theorem dX12_addsPower_10 : decode cX12_addsPower 10 = .ok (.iload_n 2, 1) := by decide +kernel
theorem dX12_addsPower_11 : decode cX12_addsPower 11 = .ok (.iconst 3, 1) := by decide +kernel
theorem dX12_addsPower_12 : decode cX12_addsPower 12 = .ok (.if_icmp .ge 46, 3) := by decide +kernel
theorem dX12_addsPower_15 : decode cX12_addsPower 15 = .ok (.aload_n 0, 1) := by decide +kernel
theorem dX12_addsPower_16 : decode cX12_addsPower 16 = .ok (.getfield 108, 3) := by decide +kernel
theorem dX12_addsPower_19 : decode cX12_addsPower 19 = .ok (.iload_n 1, 1) := by decide +kernel
theorem dX12_addsPower_20 : decode cX12_addsPower 20 = .ok (.iload_n 2, 1) := by decide +kernel
theorem dX12_addsPower_21 : decode cX12_addsPower 21 = .ok (.iadd, 1) := by decide +kernel
theorem dX12_addsPower_22 : decode cX12_addsPower 22 = .ok (.aload_n 0, 1) := by decide +kernel
theorem dX12_addsPower_23 : decode cX12_addsPower 23 = .ok (.getfield 108, 3) := by decide +kernel
theorem dX12_addsPower_26 : decode cX12_addsPower 26 = .ok (.iload_n 1, 1) := by decide +kernel
theorem dX12_addsPower_27 : decode cX12_addsPower 27 = .ok (.iload_n 2, 1) := by decide +kernel
theorem dX12_addsPower_28 : decode cX12_addsPower 28 = .ok (.iadd, 1) := by decide +kernel
theorem dX12_addsPower_29 : decode cX12_addsPower 29 = .ok (.iaload, 1) := by decide +kernel
theorem dX12_addsPower_30 : decode cX12_addsPower 30 = .ok (.aload_n 0, 1) := by decide +kernel
theorem dX12_addsPower_31 : decode cX12_addsPower 31 = .ok (.getfield 117, 3) := by decide +kernel
theorem dX12_addsPower_34 : decode cX12_addsPower 34 = .ok (.iload_n 1, 1) := by decide +kernel
theorem dX12_addsPower_35 : decode cX12_addsPower 35 = .ok (.iaload, 1) := by decide +kernel
theorem dX12_addsPower_36 : decode cX12_addsPower 36 = .ok (.aload_n 0, 1) := by decide +kernel
theorem dX12_addsPower_37 : decode cX12_addsPower 37 = .ok (.getfield 114, 3) := by decide +kernel
theorem dX12_addsPower_40 : decode cX12_addsPower 40 = .ok (.iload_n 2, 1) := by decide +kernel
theorem dX12_addsPower_41 : decode cX12_addsPower 41 = .ok (.iaload, 1) := by decide +kernel
theorem dX12_addsPower_42 : decode cX12_addsPower 42 = .ok (.imul, 1) := by decide +kernel
theorem dX12_addsPower_43 : decode cX12_addsPower 43 = .ok (.iadd, 1) := by decide +kernel
theorem dX12_addsPower_44 : decode cX12_addsPower 44 = .ok (.aload_n 0, 1) := by decide +kernel
theorem dX12_addsPower_45 : decode cX12_addsPower 45 = .ok (.getfield 7, 3) := by decide +kernel
theorem dX12_addsPower_48 : decode cX12_addsPower 48 = .ok (.iconst 2, 1) := by decide +kernel
theorem dX12_addsPower_49 : decode cX12_addsPower 49 = .ok (.iaload, 1) := by decide +kernel
theorem dX12_addsPower_50 : decode cX12_addsPower 50 = .ok (.irem, 1) := by decide +kernel
theorem dX12_addsPower_51 : decode cX12_addsPower 51 = .ok (.iastore, 1) := by decide +kernel
theorem dX12_addsPower_52 : decode cX12_addsPower 52 = .ok (.iinc 2 1, 3) := by decide +kernel
theorem dX12_addsPower_55 : decode cX12_addsPower 55 = .ok (.goto (-45), 3) := by decide +kernel
theorem dX12_addsPower_58 : decode cX12_addsPower 58 = .ok (.iinc 1 1, 3) := by decide +kernel
theorem dX12_addsPower_61 : decode cX12_addsPower 61 = .ok (.goto (-59), 3) := by decide +kernel
theorem dX12_addsPower_64 : decode cX12_addsPower 64 = .ok (.return_, 1) := by decide +kernel
theorem dX12_isPair_0 : decode cX12_isPair 0 = .ok (.iconst 0, 1) := by decide +kernel
theorem dX12_isPair_1 : decode cX12_isPair 1 = .ok (.istore_n 2, 1) := by decide +kernel
theorem dX12_isPair_2 : decode cX12_isPair 2 = .ok (.iload_n 2, 1) := by decide +kernel
theorem dX12_isPair_3 : decode cX12_isPair 3 = .ok (.bipush 12, 2) := by decide +kernel
theorem dX12_isPair_5 : decode cX12_isPair 5 = .ok (.if_icmp .ge 16, 3) := by decide +kernel
theorem dX12_isPair_8 : decode cX12_isPair 8 = .ok (.aload_n 0, 1) := by decide +kernel
theorem dX12_isPair_9 : decode cX12_isPair 9 = .ok (.getfield 108, 3) := by decide +kernel
theorem dX12_isPair_12 : decode cX12_isPair 12 = .ok (.iload_n 2, 1) := by decide +kernel
theorem dX12_isPair_13 : decode cX12_isPair 13 = .ok (.iconst 0, 1) := by decide +kernel
theorem dX12_isPair_14 : decode cX12_isPair 14 = .ok (.iastore, 1) := by decide +kernel
theorem dX12_isPair_15 : decode cX12_isPair 15 = .ok (.iinc 2 1, 3) := by decide +kernel
theorem dX12_isPair_18 : decode cX12_isPair 18 = .ok (.goto (-16), 3) := by decide +kernel
theorem dX12_isPair_21 : decode cX12_isPair 21 = .ok (.aload_n 0, 1) := by decide +kernel
theorem dX12_isPair_22 : decode cX12_isPair 22 = .ok (.iload_n 1, 1) := by decide +kernel
theorem dX12_isPair_23 : decode cX12_isPair 23 = .ok (.aload_n 0, 1) := by decide +kernel
theorem dX12_isPair_24 : decode cX12_isPair 24 = .ok (.getfield 7, 3) := by decide +kernel
theorem dX12_isPair_27 : decode cX12_isPair 27 = .ok (.iconst 2, 1) := by decide +kernel
theorem dX12_isPair_28 : decode cX12_isPair 28 = .ok (.iaload, 1) := by decide +kernel
theorem dX12_isPair_29 : decode cX12_isPair 29 = .ok (.aload_n 0, 1) := by decide +kernel
theorem dX12_isPair_30 : decode cX12_isPair 30 = .ok (.getfield 7, 3) := by decide +kernel
theorem dX12_isPair_33 : decode cX12_isPair 33 = .ok (.iconst 3, 1) := by decide +kernel
theorem dX12_isPair_34 : decode cX12_isPair 34 = .ok (.iaload, 1) := by decide +kernel
theorem dX12_isPair_35 : decode cX12_isPair 35 = .ok (.isub, 1) := by decide +kernel
theorem dX12_isPair_36 : decode cX12_isPair 36 = .ok (.aload_n 0, 1) := by decide +kernel
theorem dX12_isPair_37 : decode cX12_isPair 37 = .ok (.getfield 7, 3) := by decide +kernel
theorem dX12_isPair_40 : decode cX12_isPair 40 = .ok (.iconst 2, 1) := by decide +kernel
theorem dX12_isPair_41 : decode cX12_isPair 41 = .ok (.iaload, 1) := by decide +kernel
theorem dX12_isPair_42 : decode cX12_isPair 42 = .ok (.irem, 1) := by decide +kernel
theorem dX12_isPair_43 : decode cX12_isPair 43 = .ok (.invokevirtual 393, 3) := by decide +kernel
theorem dX12_isPair_46 : decode cX12_isPair 46 = .ok (.aload_n 0, 1) := by decide +kernel
theorem dX12_isPair_47 : decode cX12_isPair 47 = .ok (.aload_n 0, 1) := by decide +kernel
theorem dX12_isPair_48 : decode cX12_isPair 48 = .ok (.getfield 7, 3) := by decide +kernel
theorem dX12_isPair_51 : decode cX12_isPair 51 = .ok (.iconst 3, 1) := by decide +kernel
theorem dX12_isPair_52 : decode cX12_isPair 52 = .ok (.iaload, 1) := by decide +kernel
theorem dX12_isPair_53 : decode cX12_isPair 53 = .ok (.invokevirtual 396, 3) := by decide +kernel
theorem dX12_isPair_56 : decode cX12_isPair 56 = .ok (.aload_n 0, 1) := by decide +kernel
theorem dX12_isPair_57 : decode cX12_isPair 57 = .ok (.invokevirtual 399, 3) := by decide +kernel
theorem dX12_isPair_60 : decode cX12_isPair 60 = .ok (.aload_n 0, 1) := by decide +kernel
theorem dX12_isPair_61 : decode cX12_isPair 61 = .ok (.iload_n 1, 1) := by decide +kernel
theorem dX12_isPair_62 : decode cX12_isPair 62 = .ok (.aload_n 0, 1) := by decide +kernel
theorem dX12_isPair_63 : decode cX12_isPair 63 = .ok (.getfield 7, 3) := by decide +kernel
theorem dX12_isPair_66 : decode cX12_isPair 66 = .ok (.iconst 3, 1) := by decide +kernel
theorem dX12_isPair_67 : decode cX12_isPair 67 = .ok (.iaload, 1) := by decide +kernel
theorem dX12_isPair_68 : decode cX12_isPair 68 = .ok (.invokevirtual 393, 3) := by decide +kernel
theorem dX12_isPair_71 : decode cX12_isPair 71 = .ok (.aload_n 0, 1) := by decide +kernel
theorem dX12_isPair_72 : decode cX12_isPair 72 = .ok (.iconst 0, 1) := by decide +kernel
theorem dX12_isPair_73 : decode cX12_isPair 73 = .ok (.invokevirtual 396, 3) := by decide +kernel
theorem dX12_isPair_76 : decode cX12_isPair 76 = .ok (.aload_n 0, 1) := by decide +kernel
theorem dX12_isPair_77 : decode cX12_isPair 77 = .ok (.invokevirtual 399, 3) := by decide +kernel
theorem dX12_isPair_80 : decode cX12_isPair 80 = .ok (.iconst 0, 1) := by decide +kernel
theorem dX12_isPair_81 : decode cX12_isPair 81 = .ok (.istore_n 2, 1) := by decide +kernel
theorem dX12_isPair_82 : decode cX12_isPair 82 = .ok (.iload_n 2, 1) := by decide +kernel
theorem dX12_isPair_83 : decode cX12_isPair 83 = .ok (.bipush 8, 2) := by decide +kernel
theorem dX12_isPair_85 : decode cX12_isPair 85 = .ok (.if_icmp .ge 16, 3) := by decide +kernel
theorem dX12_isPair_88 : decode cX12_isPair 88 = .ok (.aload_n 0, 1) := by decide +kernel
theorem dX12_isPair_89 : decode cX12_isPair 89 = .ok (.getfield 111, 3) := by decide +kernel
theorem dX12_isPair_92 : decode cX12_isPair 92 = .ok (.iload_n 2, 1) := by decide +kernel
theorem dX12_isPair_93 : decode cX12_isPair 93 = .ok (.iconst 0, 1) := by decide +kernel
theorem dX12_isPair_94 : decode cX12_isPair 94 = .ok (.iastore, 1) := by decide +kernel
theorem dX12_isPair_95 : decode cX12_isPair 95 = .ok (.iinc 2 1, 3) := by decide +kernel
theorem dX12_isPair_98 : decode cX12_isPair 98 = .ok (.goto (-16), 3) := by decide +kernel
theorem dX12_isPair_101 : decode cX12_isPair 101 = .ok (.aload_n 0, 1) := by decide +kernel
theorem dX12_isPair_102 : decode cX12_isPair 102 = .ok (.getfield 7, 3) := by decide +kernel
theorem dX12_isPair_105 : decode cX12_isPair 105 = .ok (.iconst 0, 1) := by decide +kernel
theorem dX12_isPair_106 : decode cX12_isPair 106 = .ok (.iaload, 1) := by decide +kernel
theorem dX12_isPair_107 : decode cX12_isPair 107 = .ok (.istore_n 2, 1) := by decide +kernel
theorem dX12_isPair_108 : decode cX12_isPair 108 = .ok (.iload_n 2, 1) := by decide +kernel
theorem dX12_isPair_109 : decode cX12_isPair 109 = .ok (.ifCond .lt 75, 3) := by decide +kernel
theorem dX12_isPair_112 : decode cX12_isPair 112 = .ok (.aload_n 0, 1) := by decide +kernel
theorem dX12_isPair_113 : decode cX12_isPair 113 = .ok (.getfield 108, 3) := by decide +kernel
theorem dX12_isPair_116 : decode cX12_isPair 116 = .ok (.iload_n 2, 1) := by decide +kernel
theorem dX12_isPair_117 : decode cX12_isPair 117 = .ok (.iload_n 1, 1) := by decide +kernel
theorem dX12_isPair_118 : decode cX12_isPair 118 = .ok (.iadd, 1) := by decide +kernel
theorem dX12_isPair_119 : decode cX12_isPair 119 = .ok (.iaload, 1) := by decide +kernel
theorem dX12_isPair_120 : decode cX12_isPair 120 = .ok (.istore_n 3, 1) := by decide +kernel
theorem dX12_isPair_121 : decode cX12_isPair 121 = .ok (.aload_n 0, 1) := by decide +kernel
theorem dX12_isPair_122 : decode cX12_isPair 122 = .ok (.getfield 111, 3) := by decide +kernel
theorem dX12_isPair_125 : decode cX12_isPair 125 = .ok (.iload_n 2, 1) := by decide +kernel
theorem dX12_isPair_126 : decode cX12_isPair 126 = .ok (.iload_n 3, 1) := by decide +kernel
theorem dX12_isPair_127 : decode cX12_isPair 127 = .ok (.iastore, 1) := by decide +kernel
theorem dX12_isPair_128 : decode cX12_isPair 128 = .ok (.iconst 0, 1) := by decide +kernel
theorem dX12_isPair_129 : decode cX12_isPair 129 = .ok (.istore 4, 2) := by decide +kernel
theorem dX12_isPair_131 : decode cX12_isPair 131 = .ok (.iload 4, 2) := by decide +kernel
theorem dX12_isPair_133 : decode cX12_isPair 133 = .ok (.iload_n 1, 1) := by decide +kernel
theorem dX12_isPair_134 : decode cX12_isPair 134 = .ok (.if_icmp .gt 44, 3) := by decide +kernel
theorem dX12_isPair_137 : decode cX12_isPair 137 = .ok (.aload_n 0, 1) := by decide +kernel
theorem dX12_isPair_138 : decode cX12_isPair 138 = .ok (.getfield 108, 3) := by decide +kernel
theorem dX12_isPair_141 : decode cX12_isPair 141 = .ok (.iload_n 2, 1) := by decide +kernel
theorem dX12_isPair_142 : decode cX12_isPair 142 = .ok (.iload 4, 2) := by decide +kernel
theorem dX12_isPair_144 : decode cX12_isPair 144 = .ok (.iadd, 1) := by decide +kernel
theorem dX12_isPair_145 : decode cX12_isPair 145 = .ok (.aload_n 0, 1) := by decide +kernel
theorem dX12_isPair_146 : decode cX12_isPair 146 = .ok (.aload_n 0, 1) := by decide +kernel
theorem dX12_isPair_147 : decode cX12_isPair 147 = .ok (.getfield 108, 3) := by decide +kernel
theorem dX12_isPair_150 : decode cX12_isPair 150 = .ok (.iload_n 2, 1) := by decide +kernel
theorem dX12_isPair_151 : decode cX12_isPair 151 = .ok (.iload 4, 2) := by decide +kernel
theorem dX12_isPair_153 : decode cX12_isPair 153 = .ok (.iadd, 1) := by decide +kernel
theorem dX12_isPair_154 : decode cX12_isPair 154 = .ok (.iaload, 1) := by decide +kernel
theorem dX12_isPair_155 : decode cX12_isPair 155 = .ok (.i2l, 1) := by decide +kernel
theorem dX12_isPair_156 : decode cX12_isPair 156 = .ok (.iload_n 3, 1) := by decide +kernel
theorem dX12_isPair_157 : decode cX12_isPair 157 = .ok (.i2l, 1) := by decide +kernel
theorem dX12_isPair_158 : decode cX12_isPair 158 = .ok (.aload_n 0, 1) := by decide +kernel
theorem dX12_isPair_159 : decode cX12_isPair 159 = .ok (.getfield 105, 3) := by decide +kernel
theorem dX12_isPair_162 : decode cX12_isPair 162 = .ok (.iload 4, 2) := by decide +kernel
theorem dX12_isPair_164 : decode cX12_isPair 164 = .ok (.iaload, 1) := by decide +kernel
theorem dX12_isPair_165 : decode cX12_isPair 165 = .ok (.i2l, 1) := by decide +kernel
theorem dX12_isPair_166 : decode cX12_isPair 166 = .ok (.lmul, 1) := by decide +kernel
theorem dX12_isPair_167 : decode cX12_isPair 167 = .ok (.lsub, 1) := by decide +kernel
theorem dX12_isPair_168 : decode cX12_isPair 168 = .ok (.invokevirtual 360, 3) := by decide +kernel
theorem dX12_isPair_171 : decode cX12_isPair 171 = .ok (.iastore, 1) := by decide +kernel
theorem dX12_isPair_172 : decode cX12_isPair 172 = .ok (.iinc 4 1, 3) := by decide +kernel
theorem dX12_isPair_175 : decode cX12_isPair 175 = .ok (.goto (-44), 3) := by decide +kernel
theorem dX12_isPair_178 : decode cX12_isPair 178 = .ok (.iinc 2 (-1), 3) := by decide +kernel
theorem dX12_isPair_181 : decode cX12_isPair 181 = .ok (.goto (-73), 3) := by decide +kernel
theorem dX12_isPair_184 : decode cX12_isPair 184 = .ok (.iconst 1, 1) := by decide +kernel
theorem dX12_isPair_185 : decode cX12_isPair 185 = .ok (.istore_n 2, 1) := by decide +kernel
theorem dX12_isPair_186 : decode cX12_isPair 186 = .ok (.iconst 0, 1) := by decide +kernel
theorem dX12_isPair_187 : decode cX12_isPair 187 = .ok (.istore_n 3, 1) := by decide +kernel
theorem dX12_isPair_188 : decode cX12_isPair 188 = .ok (.iload_n 3, 1) := by decide +kernel
theorem dX12_isPair_189 : decode cX12_isPair 189 = .ok (.iload_n 1, 1) := by decide +kernel
theorem dX12_isPair_190 : decode cX12_isPair 190 = .ok (.if_icmp .ge 28, 3) := by decide +kernel
theorem dX12_isPair_193 : decode cX12_isPair 193 = .ok (.iload_n 2, 1) := by decide +kernel
theorem dX12_isPair_194 : decode cX12_isPair 194 = .ok (.ifCond .eq 16, 3) := by decide +kernel
theorem dX12_isPair_197 : decode cX12_isPair 197 = .ok (.aload_n 0, 1) := by decide +kernel
theorem dX12_isPair_198 : decode cX12_isPair 198 = .ok (.getfield 108, 3) := by decide +kernel
theorem dX12_isPair_201 : decode cX12_isPair 201 = .ok (.iload_n 3, 1) := by decide +kernel
theorem dX12_isPair_202 : decode cX12_isPair 202 = .ok (.iaload, 1) := by decide +kernel
theorem dX12_isPair_203 : decode cX12_isPair 203 = .ok (.ifCond .ne 7, 3) := by decide +kernel
theorem dX12_isPair_206 : decode cX12_isPair 206 = .ok (.iconst 1, 1) := by decide +kernel
theorem dX12_isPair_207 : decode cX12_isPair 207 = .ok (.goto 4, 3) := by decide +kernel
theorem dX12_isPair_210 : decode cX12_isPair 210 = .ok (.iconst 0, 1) := by decide +kernel
theorem dX12_isPair_211 : decode cX12_isPair 211 = .ok (.istore_n 2, 1) := by decide +kernel
theorem dX12_isPair_212 : decode cX12_isPair 212 = .ok (.iinc 3 1, 3) := by decide +kernel
theorem dX12_isPair_215 : decode cX12_isPair 215 = .ok (.goto (-27), 3) := by decide +kernel
theorem dX12_isPair_218 : decode cX12_isPair 218 = .ok (.iload_n 2, 1) := by decide +kernel
theorem dX12_isPair_219 : decode cX12_isPair 219 = .ok (.ireturn, 1) := by decide +kernel
theorem dX12_laysPair_0 : decode cX12_laysPair 0 = .ok (.aload_n 0, 1) := by decide +kernel
theorem dX12_laysPair_1 : decode cX12_laysPair 1 = .ok (.iconst 0, 1) := by decide +kernel
theorem dX12_laysPair_2 : decode cX12_laysPair 2 = .ok (.putfield 402, 3) := by decide +kernel
theorem dX12_laysPair_5 : decode cX12_laysPair 5 = .ok (.iload_n 1, 1) := by decide +kernel
theorem dX12_laysPair_6 : decode cX12_laysPair 6 = .ok (.ifCond .ne 7, 3) := by decide +kernel
theorem dX12_laysPair_9 : decode cX12_laysPair 9 = .ok (.iconst 1, 1) := by decide +kernel
theorem dX12_laysPair_10 : decode cX12_laysPair 10 = .ok (.goto 30, 3) := by decide +kernel
theorem dX12_laysPair_13 : decode cX12_laysPair 13 = .ok (.iload_n 1, 1) := by decide +kernel
theorem dX12_laysPair_14 : decode cX12_laysPair 14 = .ok (.iconst 1, 1) := by decide +kernel
theorem dX12_laysPair_15 : decode cX12_laysPair 15 = .ok (.if_icmp .ne 12, 3) := by decide +kernel
theorem dX12_laysPair_18 : decode cX12_laysPair 18 = .ok (.aload_n 0, 1) := by decide +kernel
theorem dX12_laysPair_19 : decode cX12_laysPair 19 = .ok (.getfield 7, 3) := by decide +kernel
theorem dX12_laysPair_22 : decode cX12_laysPair 22 = .ok (.iconst 2, 1) := by decide +kernel
theorem dX12_laysPair_23 : decode cX12_laysPair 23 = .ok (.iaload, 1) := by decide +kernel
theorem dX12_laysPair_24 : decode cX12_laysPair 24 = .ok (.goto 16, 3) := by decide +kernel
theorem dX12_laysPair_27 : decode cX12_laysPair 27 = .ok (.aload_n 0, 1) := by decide +kernel
theorem dX12_laysPair_28 : decode cX12_laysPair 28 = .ok (.getfield 7, 3) := by decide +kernel
theorem dX12_laysPair_31 : decode cX12_laysPair 31 = .ok (.iconst 2, 1) := by decide +kernel
theorem dX12_laysPair_32 : decode cX12_laysPair 32 = .ok (.iaload, 1) := by decide +kernel
theorem dX12_laysPair_33 : decode cX12_laysPair 33 = .ok (.aload_n 0, 1) := by decide +kernel
theorem dX12_laysPair_34 : decode cX12_laysPair 34 = .ok (.getfield 7, 3) := by decide +kernel
theorem dX12_laysPair_37 : decode cX12_laysPair 37 = .ok (.iconst 2, 1) := by decide +kernel
theorem dX12_laysPair_38 : decode cX12_laysPair 38 = .ok (.iaload, 1) := by decide +kernel
theorem dX12_laysPair_39 : decode cX12_laysPair 39 = .ok (.imul, 1) := by decide +kernel
theorem dX12_laysPair_40 : decode cX12_laysPair 40 = .ok (.istore_n 3, 1) := by decide +kernel
theorem dX12_laysPair_41 : decode cX12_laysPair 41 = .ok (.iconst 0, 1) := by decide +kernel
theorem dX12_laysPair_42 : decode cX12_laysPair 42 = .ok (.istore 4, 2) := by decide +kernel
theorem dX12_laysPair_44 : decode cX12_laysPair 44 = .ok (.iload 4, 2) := by decide +kernel
theorem dX12_laysPair_46 : decode cX12_laysPair 46 = .ok (.iload_n 3, 1) := by decide +kernel
theorem dX12_laysPair_47 : decode cX12_laysPair 47 = .ok (.if_icmp .ge 120, 3) := by decide +kernel
theorem dX12_laysPair_50 : decode cX12_laysPair 50 = .ok (.aload_n 0, 1) := by decide +kernel
theorem dX12_laysPair_51 : decode cX12_laysPair 51 = .ok (.getfield 105, 3) := by decide +kernel
theorem dX12_laysPair_54 : decode cX12_laysPair 54 = .ok (.iconst 0, 1) := by decide +kernel
theorem dX12_laysPair_55 : decode cX12_laysPair 55 = .ok (.iload_n 1, 1) := by decide +kernel
theorem dX12_laysPair_56 : decode cX12_laysPair 56 = .ok (.iconst 1, 1) := by decide +kernel
theorem dX12_laysPair_57 : decode cX12_laysPair 57 = .ok (.if_icmp .ne 8, 3) := by decide +kernel
theorem dX12_laysPair_60 : decode cX12_laysPair 60 = .ok (.iload 4, 2) := by decide +kernel
theorem dX12_laysPair_62 : decode cX12_laysPair 62 = .ok (.goto 21, 3) := by decide +kernel
theorem dX12_laysPair_65 : decode cX12_laysPair 65 = .ok (.iload_n 1, 1) := by decide +kernel
theorem dX12_laysPair_66 : decode cX12_laysPair 66 = .ok (.iconst 2, 1) := by decide +kernel
theorem dX12_laysPair_67 : decode cX12_laysPair 67 = .ok (.if_icmp .ne 15, 3) := by decide +kernel
theorem dX12_laysPair_70 : decode cX12_laysPair 70 = .ok (.iload 4, 2) := by decide +kernel
theorem dX12_laysPair_72 : decode cX12_laysPair 72 = .ok (.aload_n 0, 1) := by decide +kernel
theorem dX12_laysPair_73 : decode cX12_laysPair 73 = .ok (.getfield 7, 3) := by decide +kernel
theorem dX12_laysPair_76 : decode cX12_laysPair 76 = .ok (.iconst 2, 1) := by decide +kernel
theorem dX12_laysPair_77 : decode cX12_laysPair 77 = .ok (.iaload, 1) := by decide +kernel
theorem dX12_laysPair_78 : decode cX12_laysPair 78 = .ok (.irem, 1) := by decide +kernel
theorem dX12_laysPair_79 : decode cX12_laysPair 79 = .ok (.goto 4, 3) := by decide +kernel
theorem dX12_laysPair_82 : decode cX12_laysPair 82 = .ok (.iconst 1, 1) := by decide +kernel
theorem dX12_laysPair_83 : decode cX12_laysPair 83 = .ok (.iastore, 1) := by decide +kernel
theorem dX12_laysPair_84 : decode cX12_laysPair 84 = .ok (.aload_n 0, 1) := by decide +kernel
theorem dX12_laysPair_85 : decode cX12_laysPair 85 = .ok (.getfield 105, 3) := by decide +kernel
theorem dX12_laysPair_88 : decode cX12_laysPair 88 = .ok (.iconst 1, 1) := by decide +kernel
theorem dX12_laysPair_89 : decode cX12_laysPair 89 = .ok (.iload_n 1, 1) := by decide +kernel
theorem dX12_laysPair_90 : decode cX12_laysPair 90 = .ok (.iconst 2, 1) := by decide +kernel
theorem dX12_laysPair_91 : decode cX12_laysPair 91 = .ok (.if_icmp .ne 15, 3) := by decide +kernel
theorem dX12_laysPair_94 : decode cX12_laysPair 94 = .ok (.iload 4, 2) := by decide +kernel
theorem dX12_laysPair_96 : decode cX12_laysPair 96 = .ok (.aload_n 0, 1) := by decide +kernel
theorem dX12_laysPair_97 : decode cX12_laysPair 97 = .ok (.getfield 7, 3) := by decide +kernel
theorem dX12_laysPair_100 : decode cX12_laysPair 100 = .ok (.iconst 2, 1) := by decide +kernel
theorem dX12_laysPair_101 : decode cX12_laysPair 101 = .ok (.iaload, 1) := by decide +kernel
theorem dX12_laysPair_102 : decode cX12_laysPair 102 = .ok (.idiv, 1) := by decide +kernel
theorem dX12_laysPair_103 : decode cX12_laysPair 103 = .ok (.goto 13, 3) := by decide +kernel
theorem dX12_laysPair_106 : decode cX12_laysPair 106 = .ok (.iload_n 1, 1) := by decide +kernel
theorem dX12_laysPair_107 : decode cX12_laysPair 107 = .ok (.iconst 1, 1) := by decide +kernel
theorem dX12_laysPair_108 : decode cX12_laysPair 108 = .ok (.if_icmp .ne 7, 3) := by decide +kernel
theorem dX12_laysPair_111 : decode cX12_laysPair 111 = .ok (.iconst 1, 1) := by decide +kernel
theorem dX12_laysPair_112 : decode cX12_laysPair 112 = .ok (.goto 4, 3) := by decide +kernel
theorem dX12_laysPair_115 : decode cX12_laysPair 115 = .ok (.iconst 0, 1) := by decide +kernel
theorem dX12_laysPair_116 : decode cX12_laysPair 116 = .ok (.iastore, 1) := by decide +kernel
theorem dX12_laysPair_117 : decode cX12_laysPair 117 = .ok (.aload_n 0, 1) := by decide +kernel
theorem dX12_laysPair_118 : decode cX12_laysPair 118 = .ok (.getfield 105, 3) := by decide +kernel
theorem dX12_laysPair_121 : decode cX12_laysPair 121 = .ok (.iconst 2, 1) := by decide +kernel
theorem dX12_laysPair_122 : decode cX12_laysPair 122 = .ok (.iload_n 1, 1) := by decide +kernel
theorem dX12_laysPair_123 : decode cX12_laysPair 123 = .ok (.iconst 2, 1) := by decide +kernel
theorem dX12_laysPair_124 : decode cX12_laysPair 124 = .ok (.if_icmp .ne 7, 3) := by decide +kernel
theorem dX12_laysPair_127 : decode cX12_laysPair 127 = .ok (.iconst 1, 1) := by decide +kernel
theorem dX12_laysPair_128 : decode cX12_laysPair 128 = .ok (.goto 4, 3) := by decide +kernel
theorem dX12_laysPair_131 : decode cX12_laysPair 131 = .ok (.iconst 0, 1) := by decide +kernel
theorem dX12_laysPair_132 : decode cX12_laysPair 132 = .ok (.iastore, 1) := by decide +kernel
theorem dX12_laysPair_133 : decode cX12_laysPair 133 = .ok (.aload_n 0, 1) := by decide +kernel
theorem dX12_laysPair_134 : decode cX12_laysPair 134 = .ok (.iload_n 1, 1) := by decide +kernel
theorem dX12_laysPair_135 : decode cX12_laysPair 135 = .ok (.invokevirtual 405, 3) := by decide +kernel
theorem dX12_laysPair_138 : decode cX12_laysPair 138 = .ok (.ifCond .eq 23, 3) := by decide +kernel
theorem dX12_laysPair_141 : decode cX12_laysPair 141 = .ok (.aload_n 0, 1) := by decide +kernel
theorem dX12_laysPair_142 : decode cX12_laysPair 142 = .ok (.getfield 402, 3) := by decide +kernel
theorem dX12_laysPair_145 : decode cX12_laysPair 145 = .ok (.iload_n 2, 1) := by decide +kernel
theorem dX12_laysPair_146 : decode cX12_laysPair 146 = .ok (.if_icmp .ne 5, 3) := by decide +kernel
theorem dX12_laysPair_149 : decode cX12_laysPair 149 = .ok (.iconst 1, 1) := by decide +kernel
theorem dX12_laysPair_150 : decode cX12_laysPair 150 = .ok (.ireturn, 1) := by decide +kernel
theorem dX12_laysPair_151 : decode cX12_laysPair 151 = .ok (.aload_n 0, 1) := by decide +kernel
theorem dX12_laysPair_152 : decode cX12_laysPair 152 = .ok (.dup, 1) := by decide +kernel
theorem dX12_laysPair_153 : decode cX12_laysPair 153 = .ok (.getfield 402, 3) := by decide +kernel
theorem dX12_laysPair_156 : decode cX12_laysPair 156 = .ok (.iconst 1, 1) := by decide +kernel
