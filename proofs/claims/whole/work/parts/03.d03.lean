theorem dX11_played_35 : decode cX11_played 35 = .ok (.istore 4, 2) := by decide +kernel
theorem dX11_played_37 : decode cX11_played 37 = .ok (.iload 4, 2) := by decide +kernel
theorem dX11_played_39 : decode cX11_played 39 = .ok (.ifCond .lt 26, 3) := by decide +kernel
theorem dX11_played_42 : decode cX11_played 42 = .ok (.aload_n 0, 1) := by decide +kernel
theorem dX11_played_43 : decode cX11_played 43 = .ok (.iload 4, 2) := by decide +kernel
theorem dX11_played_45 : decode cX11_played 45 = .ok (.aload_n 2, 1) := by decide +kernel
theorem dX11_played_46 : decode cX11_played 46 = .ok (.iload_n 3, 1) := by decide +kernel
theorem dX11_played_47 : decode cX11_played 47 = .ok (.aload_n 0, 1) := by decide +kernel
theorem dX11_played_48 : decode cX11_played 48 = .ok (.getfield 101, 3) := by decide +kernel
theorem dX11_played_51 : decode cX11_played 51 = .ok (.getfield 108, 3) := by decide +kernel
theorem dX11_played_54 : decode cX11_played 54 = .ok (.invokevirtual 303, 3) := by decide +kernel
theorem dX11_played_57 : decode cX11_played 57 = .ok (.invokevirtual 294, 3) := by decide +kernel
theorem dX11_played_60 : decode cX11_played 60 = .ok (.ifCond .ne 5, 3) := by decide +kernel
theorem dX11_played_63 : decode cX11_played 63 = .ok (.iload_n 3, 1) := by decide +kernel
theorem dX11_played_64 : decode cX11_played 64 = .ok (.ireturn, 1) := by decide +kernel
theorem dX11_played_65 : decode cX11_played 65 = .ok (.iinc 3 1, 3) := by decide +kernel
theorem dX11_played_68 : decode cX11_played 68 = .ok (.goto (-48), 3) := by decide +kernel
theorem dX11_played_71 : decode cX11_played 71 = .ok (.iconst (-1), 1) := by decide +kernel
theorem dX11_played_72 : decode cX11_played 72 = .ok (.ireturn, 1) := by decide +kernel
theorem dX11_undo_0 : decode cX11_undo 0 = .ok (.aload_n 0, 1) := by decide +kernel
theorem dX11_undo_1 : decode cX11_undo 1 = .ok (.getfield 101, 3) := by decide +kernel
theorem dX11_undo_4 : decode cX11_undo 4 = .ok (.getfield 119, 3) := by decide +kernel
theorem dX11_undo_7 : decode cX11_undo 7 = .ok (.astore_n 1, 1) := by decide +kernel
theorem dX11_undo_8 : decode cX11_undo 8 = .ok (.aload_n 1, 1) := by decide +kernel
theorem dX11_undo_9 : decode cX11_undo 9 = .ok (.getfield 307, 3) := by decide +kernel
theorem dX11_undo_12 : decode cX11_undo 12 = .ok (.ifCond .ne 5, 3) := by decide +kernel
theorem dX11_undo_15 : decode cX11_undo 15 = .ok (.iconst (-1), 1) := by decide +kernel
theorem dX11_undo_16 : decode cX11_undo 16 = .ok (.ireturn, 1) := by decide +kernel
theorem dX11_undo_17 : decode cX11_undo 17 = .ok (.aload_n 1, 1) := by decide +kernel
theorem dX11_undo_18 : decode cX11_undo 18 = .ok (.dup, 1) := by decide +kernel
theorem dX11_undo_19 : decode cX11_undo 19 = .ok (.getfield 307, 3) := by decide +kernel
theorem dX11_undo_22 : decode cX11_undo 22 = .ok (.iconst 1, 1) := by decide +kernel
theorem dX11_undo_23 : decode cX11_undo 23 = .ok (.isub, 1) := by decide +kernel
theorem dX11_undo_24 : decode cX11_undo 24 = .ok (.putfield 307, 3) := by decide +kernel
theorem dX11_undo_27 : decode cX11_undo 27 = .ok (.aload_n 1, 1) := by decide +kernel
theorem dX11_undo_28 : decode cX11_undo 28 = .ok (.dup, 1) := by decide +kernel
theorem dX11_undo_29 : decode cX11_undo 29 = .ok (.getfield 310, 3) := by decide +kernel
theorem dX11_undo_32 : decode cX11_undo 32 = .ok (.iconst 1, 1) := by decide +kernel
theorem dX11_undo_33 : decode cX11_undo 33 = .ok (.iadd, 1) := by decide +kernel
theorem dX11_undo_34 : decode cX11_undo 34 = .ok (.putfield 310, 3) := by decide +kernel
theorem dX11_undo_37 : decode cX11_undo 37 = .ok (.aload_n 1, 1) := by decide +kernel
theorem dX11_undo_38 : decode cX11_undo 38 = .ok (.getfield 307, 3) := by decide +kernel
theorem dX11_undo_41 : decode cX11_undo 41 = .ok (.ireturn, 1) := by decide +kernel
theorem dX11_redo_0 : decode cX11_redo 0 = .ok (.aload_n 0, 1) := by decide +kernel
theorem dX11_redo_1 : decode cX11_redo 1 = .ok (.getfield 101, 3) := by decide +kernel
theorem dX11_redo_4 : decode cX11_redo 4 = .ok (.getfield 119, 3) := by decide +kernel
theorem dX11_redo_7 : decode cX11_redo 7 = .ok (.astore_n 1, 1) := by decide +kernel
theorem dX11_redo_8 : decode cX11_redo 8 = .ok (.aload_n 1, 1) := by decide +kernel
theorem dX11_redo_9 : decode cX11_redo 9 = .ok (.getfield 310, 3) := by decide +kernel
theorem dX11_redo_12 : decode cX11_redo 12 = .ok (.ifCond .ne 5, 3) := by decide +kernel
theorem dX11_redo_15 : decode cX11_redo 15 = .ok (.iconst (-1), 1) := by decide +kernel
theorem dX11_redo_16 : decode cX11_redo 16 = .ok (.ireturn, 1) := by decide +kernel
theorem dX11_redo_17 : decode cX11_redo 17 = .ok (.aload_n 1, 1) := by decide +kernel
theorem dX11_redo_18 : decode cX11_redo 18 = .ok (.dup, 1) := by decide +kernel
theorem dX11_redo_19 : decode cX11_redo 19 = .ok (.getfield 310, 3) := by decide +kernel
theorem dX11_redo_22 : decode cX11_redo 22 = .ok (.iconst 1, 1) := by decide +kernel
theorem dX11_redo_23 : decode cX11_redo 23 = .ok (.isub, 1) := by decide +kernel
theorem dX11_redo_24 : decode cX11_redo 24 = .ok (.putfield 310, 3) := by decide +kernel
theorem dX11_redo_27 : decode cX11_redo 27 = .ok (.aload_n 1, 1) := by decide +kernel
theorem dX11_redo_28 : decode cX11_redo 28 = .ok (.dup, 1) := by decide +kernel
theorem dX11_redo_29 : decode cX11_redo 29 = .ok (.getfield 307, 3) := by decide +kernel
theorem dX11_redo_32 : decode cX11_redo 32 = .ok (.iconst 1, 1) := by decide +kernel
theorem dX11_redo_33 : decode cX11_redo 33 = .ok (.iadd, 1) := by decide +kernel
theorem dX11_redo_34 : decode cX11_redo 34 = .ok (.putfield 307, 3) := by decide +kernel
theorem dX11_redo_37 : decode cX11_redo 37 = .ok (.aload_n 1, 1) := by decide +kernel
theorem dX11_redo_38 : decode cX11_redo 38 = .ok (.getfield 310, 3) := by decide +kernel
theorem dX11_redo_41 : decode cX11_redo 41 = .ok (.ireturn, 1) := by decide +kernel
theorem dX11_at_0 : decode cX11_at 0 = .ok (.aload_n 0, 1) := by decide +kernel
theorem dX11_at_1 : decode cX11_at 1 = .ok (.getfield 101, 3) := by decide +kernel
theorem dX11_at_4 : decode cX11_at 4 = .ok (.getfield 108, 3) := by decide +kernel
theorem dX11_at_7 : decode cX11_at 7 = .ok (.iload_n 1, 1) := by decide +kernel
theorem dX11_at_8 : decode cX11_at 8 = .ok (.invokevirtual 203, 3) := by decide +kernel
theorem dX11_at_11 : decode cX11_at 11 = .ok (.ifCond .eq 18, 3) := by decide +kernel
theorem dX11_at_14 : decode cX11_at 14 = .ok (.aload_n 0, 1) := by decide +kernel
theorem dX11_at_15 : decode cX11_at 15 = .ok (.getfield 101, 3) := by decide +kernel
theorem dX11_at_18 : decode cX11_at 18 = .ok (.getfield 119, 3) := by decide +kernel
theorem dX11_at_21 : decode cX11_at 21 = .ok (.invokevirtual 290, 3) := by decide +kernel
theorem dX11_at_24 : decode cX11_at 24 = .ok (.iload_n 1, 1) := by decide +kernel
theorem dX11_at_25 : decode cX11_at 25 = .ok (.iaload, 1) := by decide +kernel
theorem dX11_at_26 : decode cX11_at 26 = .ok (.goto 4, 3) := by decide +kernel
theorem dX11_at_29 : decode cX11_at 29 = .ok (.iconst (-1), 1) := by decide +kernel
theorem dX11_at_30 : decode cX11_at 30 = .ok (.ireturn, 1) := by decide +kernel
theorem dX11_norm_0 : decode cX11_norm 0 = .ok (.aload_n 0, 1) := by decide +kernel
theorem dX11_norm_1 : decode cX11_norm 1 = .ok (.getfield 101, 3) := by decide +kernel
theorem dX11_norm_4 : decode cX11_norm 4 = .ok (.getfield 119, 3) := by decide +kernel
theorem dX11_norm_7 : decode cX11_norm 7 = .ok (.invokevirtual 290, 3) := by decide +kernel
theorem dX11_norm_10 : decode cX11_norm 10 = .ok (.astore_n 1, 1) := by decide +kernel
theorem dX11_norm_11 : decode cX11_norm 11 = .ok (.iconst 0, 1) := by decide +kernel
theorem dX11_norm_12 : decode cX11_norm 12 = .ok (.istore_n 2, 1) := by decide +kernel
theorem dX11_norm_13 : decode cX11_norm 13 = .ok (.iconst 0, 1) := by decide +kernel
theorem dX11_norm_14 : decode cX11_norm 14 = .ok (.istore_n 3, 1) := by decide +kernel
theorem dX11_norm_15 : decode cX11_norm 15 = .ok (.iload_n 3, 1) := by decide +kernel
theorem dX11_norm_16 : decode cX11_norm 16 = .ok (.aload_n 0, 1) := by decide +kernel
theorem dX11_norm_17 : decode cX11_norm 17 = .ok (.getfield 101, 3) := by decide +kernel
theorem dX11_norm_20 : decode cX11_norm 20 = .ok (.getfield 108, 3) := by decide +kernel
theorem dX11_norm_23 : decode cX11_norm 23 = .ok (.invokevirtual 255, 3) := by decide +kernel
theorem dX11_norm_26 : decode cX11_norm 26 = .ok (.if_icmp .ge 19, 3) := by decide +kernel
theorem dX11_norm_29 : decode cX11_norm 29 = .ok (.iload_n 2, 1) := by decide +kernel
theorem dX11_norm_30 : decode cX11_norm 30 = .ok (.aload_n 1, 1) := by decide +kernel
theorem dX11_norm_31 : decode cX11_norm 31 = .ok (.iload_n 3, 1) := by decide +kernel
theorem dX11_norm_32 : decode cX11_norm 32 = .ok (.iaload, 1) := by decide +kernel
theorem dX11_norm_33 : decode cX11_norm 33 = .ok (.aload_n 1, 1) := by decide +kernel
theorem dX11_norm_34 : decode cX11_norm 34 = .ok (.iload_n 3, 1) := by decide +kernel
theorem dX11_norm_35 : decode cX11_norm 35 = .ok (.iaload, 1) := by decide +kernel
theorem dX11_norm_36 : decode cX11_norm 36 = .ok (.imul, 1) := by decide +kernel
theorem dX11_norm_37 : decode cX11_norm 37 = .ok (.iadd, 1) := by decide +kernel
theorem dX11_norm_38 : decode cX11_norm 38 = .ok (.istore_n 2, 1) := by decide +kernel
theorem dX11_norm_39 : decode cX11_norm 39 = .ok (.iinc 3 1, 3) := by decide +kernel
theorem dX11_norm_42 : decode cX11_norm 42 = .ok (.goto (-27), 3) := by decide +kernel
theorem dX11_norm_45 : decode cX11_norm 45 = .ok (.iload_n 2, 1) := by decide +kernel
theorem dX11_norm_46 : decode cX11_norm 46 = .ok (.aload_n 0, 1) := by decide +kernel
theorem dX11_norm_47 : decode cX11_norm 47 = .ok (.getfield 101, 3) := by decide +kernel
theorem dX11_norm_50 : decode cX11_norm 50 = .ok (.getfield 108, 3) := by decide +kernel
theorem dX11_norm_53 : decode cX11_norm 53 = .ok (.getfield 132, 3) := by decide +kernel
theorem dX11_norm_56 : decode cX11_norm 56 = .ok (.invokestatic 138, 3) := by decide +kernel
theorem dX11_norm_59 : decode cX11_norm 59 = .ok (.ireturn, 1) := by decide +kernel
theorem dX11_power_0 : decode cX11_power 0 = .ok (.aload_n 0, 1) := by decide +kernel
theorem dX11_power_1 : decode cX11_power 1 = .ok (.getfield 101, 3) := by decide +kernel
theorem dX11_power_4 : decode cX11_power 4 = .ok (.getfield 108, 3) := by decide +kernel
theorem dX11_power_7 : decode cX11_power 7 = .ok (.astore 4, 2) := by decide +kernel
theorem dX11_power_9 : decode cX11_power 9 = .ok (.aload 4, 2) := by decide +kernel
theorem dX11_power_11 : decode cX11_power 11 = .ok (.iload_n 1, 1) := by decide +kernel
theorem dX11_power_12 : decode cX11_power 12 = .ok (.invokevirtual 203, 3) := by decide +kernel
theorem dX11_power_15 : decode cX11_power 15 = .ok (.ifCond .eq 22, 3) := by decide +kernel
theorem dX11_power_18 : decode cX11_power 18 = .ok (.aload 4, 2) := by decide +kernel
theorem dX11_power_20 : decode cX11_power 20 = .ok (.iload_n 3, 1) := by decide +kernel
theorem dX11_power_21 : decode cX11_power 21 = .ok (.invokevirtual 203, 3) := by decide +kernel
theorem dX11_power_24 : decode cX11_power 24 = .ok (.ifCond .eq 13, 3) := by decide +kernel
theorem dX11_power_27 : decode cX11_power 27 = .ok (.iload_n 2, 1) := by decide +kernel
theorem dX11_power_28 : decode cX11_power 28 = .ok (.ifCond .lt 9, 3) := by decide +kernel
theorem dX11_power_31 : decode cX11_power 31 = .ok (.iload_n 2, 1) := by decide +kernel
theorem dX11_power_32 : decode cX11_power 32 = .ok (.bipush 100, 2) := by decide +kernel
theorem dX11_power_34 : decode cX11_power 34 = .ok (.if_icmp .lt 5, 3) := by decide +kernel
theorem dX11_power_37 : decode cX11_power 37 = .ok (.iconst (-1), 1) := by decide +kernel
theorem dX11_power_38 : decode cX11_power 38 = .ok (.ireturn, 1) := by decide +kernel
theorem dX11_power_39 : decode cX11_power 39 = .ok (.aload_n 0, 1) := by decide +kernel
theorem dX11_power_40 : decode cX11_power 40 = .ok (.getfield 80, 3) := by decide +kernel
theorem dX11_power_43 : decode cX11_power 43 = .ok (.invokestatic 313, 3) := by decide +kernel
theorem dX11_power_46 : decode cX11_power 46 = .ok (.aload_n 0, 1) := by decide +kernel
theorem dX11_power_47 : decode cX11_power 47 = .ok (.getfield 80, 3) := by decide +kernel
theorem dX11_power_50 : decode cX11_power 50 = .ok (.iload_n 1, 1) := by decide +kernel
theorem dX11_power_51 : decode cX11_power 51 = .ok (.iconst 1, 1) := by decide +kernel
theorem dX11_power_52 : decode cX11_power 52 = .ok (.iastore, 1) := by decide +kernel
theorem dX11_power_53 : decode cX11_power 53 = .ok (.iconst 0, 1) := by decide +kernel
theorem dX11_power_54 : decode cX11_power 54 = .ok (.istore 5, 2) := by decide +kernel
theorem dX11_power_56 : decode cX11_power 56 = .ok (.iload 5, 2) := by decide +kernel
theorem dX11_power_58 : decode cX11_power 58 = .ok (.iload_n 2, 1) := by decide +kernel
theorem dX11_power_59 : decode cX11_power 59 = .ok (.if_icmp .ge 38, 3) := by decide +kernel
theorem dX11_power_62 : decode cX11_power 62 = .ok (.aload 4, 2) := by decide +kernel
theorem dX11_power_64 : decode cX11_power 64 = .ok (.aload_n 0, 1) := by decide +kernel
theorem dX11_power_65 : decode cX11_power 65 = .ok (.getfield 80, 3) := by decide +kernel
theorem dX11_power_68 : decode cX11_power 68 = .ok (.aload_n 0, 1) := by decide +kernel
theorem dX11_power_69 : decode cX11_power 69 = .ok (.getfield 84, 3) := by decide +kernel
theorem dX11_power_72 : decode cX11_power 72 = .ok (.invokevirtual 317, 3) := by decide +kernel
theorem dX11_power_75 : decode cX11_power 75 = .ok (.aload_n 0, 1) := by decide +kernel
theorem dX11_power_76 : decode cX11_power 76 = .ok (.getfield 84, 3) := by decide +kernel
theorem dX11_power_79 : decode cX11_power 79 = .ok (.iconst 0, 1) := by decide +kernel
theorem dX11_power_80 : decode cX11_power 80 = .ok (.aload_n 0, 1) := by decide +kernel
theorem dX11_power_81 : decode cX11_power 81 = .ok (.getfield 80, 3) := by decide +kernel
theorem dX11_power_84 : decode cX11_power 84 = .ok (.iconst 0, 1) := by decide +kernel
theorem dX11_power_85 : decode cX11_power 85 = .ok (.sipush 128, 3) := by decide +kernel
theorem dX11_power_88 : decode cX11_power 88 = .ok (.invokestatic 321, 3) := by decide +kernel
theorem dX11_power_91 : decode cX11_power 91 = .ok (.iinc 5 1, 3) := by decide +kernel
theorem dX11_power_94 : decode cX11_power 94 = .ok (.goto (-38), 3) := by decide +kernel
theorem dX11_power_97 : decode cX11_power 97 = .ok (.aload_n 0, 1) := by decide +kernel
theorem dX11_power_98 : decode cX11_power 98 = .ok (.getfield 80, 3) := by decide +kernel
theorem dX11_power_101 : decode cX11_power 101 = .ok (.iload_n 3, 1) := by decide +kernel
theorem dX11_power_102 : decode cX11_power 102 = .ok (.iaload, 1) := by decide +kernel
theorem dX11_power_103 : decode cX11_power 103 = .ok (.ireturn, 1) := by decide +kernel
theorem dX11_image_0 : decode cX11_image 0 = .ok (.aload_n 0, 1) := by decide +kernel
theorem dX11_image_1 : decode cX11_image 1 = .ok (.getfield 105, 3) := by decide +kernel
theorem dX11_image_4 : decode cX11_image 4 = .ok (.aload_n 0, 1) := by decide +kernel
theorem dX11_image_5 : decode cX11_image 5 = .ok (.getfield 101, 3) := by decide +kernel
theorem dX11_image_8 : decode cX11_image 8 = .ok (.invokevirtual 327, 3) := by decide +kernel
theorem dX11_image_11 : decode cX11_image 11 = .ok (.aload_n 0, 1) := by decide +kernel
theorem dX11_image_12 : decode cX11_image 12 = .ok (.getfield 101, 3) := by decide +kernel
theorem dX11_image_15 : decode cX11_image 15 = .ok (.getfield 108, 3) := by decide +kernel
theorem dX11_image_18 : decode cX11_image 18 = .ok (.getfield 111, 3) := by decide +kernel
theorem dX11_image_21 : decode cX11_image 21 = .ok (.ireturn, 1) := by decide +kernel
theorem dX11_back_0 : decode cX11_back 0 = .ok (.aload_n 0, 1) := by decide +kernel
theorem dX11_back_1 : decode cX11_back 1 = .ok (.getfield 101, 3) := by decide +kernel
theorem dX11_back_4 : decode cX11_back 4 = .ok (.aload_n 0, 1) := by decide +kernel
theorem dX11_back_5 : decode cX11_back 5 = .ok (.getfield 105, 3) := by decide +kernel
theorem dX11_back_8 : decode cX11_back 8 = .ok (.invokevirtual 327, 3) := by decide +kernel
theorem dX11_back_11 : decode cX11_back 11 = .ok (.aload_n 0, 1) := by decide +kernel
theorem dX11_back_12 : decode cX11_back 12 = .ok (.getfield 101, 3) := by decide +kernel
theorem dX11_back_15 : decode cX11_back 15 = .ok (.getfield 108, 3) := by decide +kernel
theorem dX11_back_18 : decode cX11_back 18 = .ok (.getfield 111, 3) := by decide +kernel
theorem dX11_back_21 : decode cX11_back 21 = .ok (.ireturn, 1) := by decide +kernel
theorem dX11_about_0 : decode cX11_about 0 = .ok (.iload_n 1, 1) := by decide +kernel
theorem dX11_about_1 : decode cX11_about 1 = .ok (.tableswitch 164 0 9 #[55, 66, 85, 96, 107, 118, 126, 134, 145, 156], 55) := by decide +kernel
theorem dX11_about_56 : decode cX11_about 56 = .ok (.aload_n 0, 1) := by decide +kernel
theorem dX11_about_57 : decode cX11_about 57 = .ok (.getfield 101, 3) := by decide +kernel
theorem dX11_about_60 : decode cX11_about 60 = .ok (.getfield 108, 3) := by decide +kernel
theorem dX11_about_63 : decode cX11_about 63 = .ok (.getfield 111, 3) := by decide +kernel
theorem dX11_about_66 : decode cX11_about 66 = .ok (.ireturn, 1) := by decide +kernel
theorem dX11_about_67 : decode cX11_about 67 = .ok (.aload_n 0, 1) := by decide +kernel
theorem dX11_about_68 : decode cX11_about 68 = .ok (.getfield 101, 3) := by decide +kernel
theorem dX11_about_71 : decode cX11_about 71 = .ok (.getfield 108, 3) := by decide +kernel
theorem dX11_about_74 : decode cX11_about 74 = .ok (.getfield 115, 3) := by decide +kernel
theorem dX11_about_77 : decode cX11_about 77 = .ok (.ifCond .eq 7, 3) := by decide +kernel
theorem dX11_about_80 : decode cX11_about 80 = .ok (.iconst 1, 1) := by decide +kernel
theorem dX11_about_81 : decode cX11_about 81 = .ok (.goto 4, 3) := by decide +kernel
theorem dX11_about_84 : decode cX11_about 84 = .ok (.iconst 0, 1) := by decide +kernel
theorem dX11_about_85 : decode cX11_about 85 = .ok (.ireturn, 1) := by decide +kernel
theorem dX11_about_86 : decode cX11_about 86 = .ok (.aload_n 0, 1) := by decide +kernel
theorem dX11_about_87 : decode cX11_about 87 = .ok (.getfield 101, 3) := by decide +kernel
theorem dX11_about_90 : decode cX11_about 90 = .ok (.getfield 108, 3) := by decide +kernel
theorem dX11_about_93 : decode cX11_about 93 = .ok (.getfield 132, 3) := by decide +kernel
theorem dX11_about_96 : decode cX11_about 96 = .ok (.ireturn, 1) := by decide +kernel
theorem dX11_about_97 : decode cX11_about 97 = .ok (.aload_n 0, 1) := by decide +kernel
theorem dX11_about_98 : decode cX11_about 98 = .ok (.getfield 101, 3) := by decide +kernel
theorem dX11_about_101 : decode cX11_about 101 = .ok (.getfield 108, 3) := by decide +kernel
theorem dX11_about_104 : decode cX11_about 104 = .ok (.getfield 141, 3) := by decide +kernel
theorem dX11_about_107 : decode cX11_about 107 = .ok (.ireturn, 1) := by decide +kernel
theorem dX11_about_108 : decode cX11_about 108 = .ok (.aload_n 0, 1) := by decide +kernel
theorem dX11_about_109 : decode cX11_about 109 = .ok (.getfield 101, 3) := by decide +kernel
theorem dX11_about_112 : decode cX11_about 112 = .ok (.getfield 108, 3) := by decide +kernel
theorem dX11_about_115 : decode cX11_about 115 = .ok (.getfield 135, 3) := by decide +kernel
theorem dX11_about_118 : decode cX11_about 118 = .ok (.ireturn, 1) := by decide +kernel
theorem dX11_about_119 : decode cX11_about 119 = .ok (.aload_n 0, 1) := by decide +kernel
theorem dX11_about_120 : decode cX11_about 120 = .ok (.getfield 101, 3) := by decide +kernel
theorem dX11_about_123 : decode cX11_about 123 = .ok (.getfield 156, 3) := by decide +kernel
theorem dX11_about_126 : decode cX11_about 126 = .ok (.ireturn, 1) := by decide +kernel
theorem dX11_about_127 : decode cX11_about 127 = .ok (.aload_n 0, 1) := by decide +kernel
theorem dX11_about_128 : decode cX11_about 128 = .ok (.getfield 101, 3) := by decide +kernel
theorem dX11_about_131 : decode cX11_about 131 = .ok (.getfield 176, 3) := by decide +kernel
theorem dX11_about_134 : decode cX11_about 134 = .ok (.ireturn, 1) := by decide +kernel
theorem dX11_about_135 : decode cX11_about 135 = .ok (.aload_n 0, 1) := by decide +kernel
theorem dX11_about_136 : decode cX11_about 136 = .ok (.getfield 101, 3) := by decide +kernel
theorem dX11_about_139 : decode cX11_about 139 = .ok (.getfield 119, 3) := by decide +kernel
theorem dX11_about_142 : decode cX11_about 142 = .ok (.getfield 307, 3) := by decide +kernel
theorem dX11_about_145 : decode cX11_about 145 = .ok (.ireturn, 1) := by decide +kernel
theorem dX11_about_146 : decode cX11_about 146 = .ok (.aload_n 0, 1) := by decide +kernel
theorem dX11_about_147 : decode cX11_about 147 = .ok (.getfield 101, 3) := by decide +kernel
theorem dX11_about_150 : decode cX11_about 150 = .ok (.getfield 119, 3) := by decide +kernel
theorem dX11_about_153 : decode cX11_about 153 = .ok (.getfield 310, 3) := by decide +kernel
theorem dX11_about_156 : decode cX11_about 156 = .ok (.ireturn, 1) := by decide +kernel
theorem dX11_about_157 : decode cX11_about 157 = .ok (.aload_n 0, 1) := by decide +kernel
theorem dX11_about_158 : decode cX11_about 158 = .ok (.getfield 10, 3) := by decide +kernel
theorem dX11_about_161 : decode cX11_about 161 = .ok (.getfield 150, 3) := by decide +kernel
theorem dX11_about_164 : decode cX11_about 164 = .ok (.ireturn, 1) := by decide +kernel
theorem dX11_about_165 : decode cX11_about 165 = .ok (.bipush (-2), 2) := by decide +kernel
theorem dX11_about_167 : decode cX11_about 167 = .ok (.ireturn, 1) := by decide +kernel
theorem dX11_isText_0 : decode cX11_isText 0 = .ok (.iload_n 1, 1) := by decide +kernel
theorem dX11_isText_1 : decode cX11_isText 1 = .ok (.ifCond .lt 27, 3) := by decide +kernel
theorem dX11_isText_4 : decode cX11_isText 4 = .ok (.iload_n 1, 1) := by decide +kernel
theorem dX11_isText_5 : decode cX11_isText 5 = .ok (.aload_n 0, 1) := by decide +kernel
theorem dX11_isText_6 : decode cX11_isText 6 = .ok (.getfield 101, 3) := by decide +kernel
theorem dX11_isText_9 : decode cX11_isText 9 = .ok (.getfield 156, 3) := by decide +kernel
theorem dX11_isText_12 : decode cX11_isText 12 = .ok (.if_icmp .ge 16, 3) := by decide +kernel
theorem dX11_isText_15 : decode cX11_isText 15 = .ok (.iload_n 1, 1) := by decide +kernel
theorem dX11_isText_16 : decode cX11_isText 16 = .ok (.aload_n 0, 1) := by decide +kernel
theorem dX11_isText_17 : decode cX11_isText 17 = .ok (.getfield 18, 3) := by decide +kernel
theorem dX11_isText_20 : decode cX11_isText 20 = .ok (.arraylength, 1) := by decide +kernel
theorem dX11_isText_21 : decode cX11_isText 21 = .ok (.if_icmp .ge 7, 3) := by decide +kernel
theorem dX11_isText_24 : decode cX11_isText 24 = .ok (.iconst 1, 1) := by decide +kernel
theorem dX11_isText_25 : decode cX11_isText 25 = .ok (.goto 4, 3) := by decide +kernel
theorem dX11_isText_28 : decode cX11_isText 28 = .ok (.iconst 0, 1) := by decide +kernel
theorem dX11_isText_29 : decode cX11_isText 29 = .ok (.ireturn, 1) := by decide +kernel
theorem dX11_toldScript_0 : decode cX11_toldScript 0 = .ok (.aload_n 0, 1) := by decide +kernel
theorem dX11_toldScript_1 : decode cX11_toldScript 1 = .ok (.aload_n 0, 1) := by decide +kernel
theorem dX11_toldScript_2 : decode cX11_toldScript 2 = .ok (.getfield 101, 3) := by decide +kernel
theorem dX11_toldScript_5 : decode cX11_toldScript 5 = .ok (.getfield 176, 3) := by decide +kernel
theorem dX11_toldScript_8 : decode cX11_toldScript 8 = .ok (.invokevirtual 173, 3) := by decide +kernel
theorem dX11_toldScript_11 : decode cX11_toldScript 11 = .ok (.ifCond .eq 18, 3) := by decide +kernel
theorem dX11_toldScript_14 : decode cX11_toldScript 14 = .ok (.aload_n 0, 1) := by decide +kernel
theorem dX11_toldScript_15 : decode cX11_toldScript 15 = .ok (.getfield 18, 3) := by decide +kernel
theorem dX11_toldScript_18 : decode cX11_toldScript 18 = .ok (.aload_n 0, 1) := by decide +kernel
theorem dX11_toldScript_19 : decode cX11_toldScript 19 = .ok (.getfield 101, 3) := by decide +kernel
theorem dX11_toldScript_22 : decode cX11_toldScript 22 = .ok (.getfield 176, 3) := by decide +kernel
theorem dX11_toldScript_25 : decode cX11_toldScript 25 = .ok (.aaload, 1) := by decide +kernel
theorem dX11_toldScript_26 : decode cX11_toldScript 26 = .ok (.goto 7, 3) := by decide +kernel
theorem dX11_toldScript_29 : decode cX11_toldScript 29 = .ok (.aload_n 0, 1) := by decide +kernel
theorem dX11_toldScript_30 : decode cX11_toldScript 30 = .ok (.getfield 23, 3) := by decide +kernel
theorem dX11_toldScript_33 : decode cX11_toldScript 33 = .ok (.areturn, 1) := by decide +kernel
theorem dX11_hasSector_0 : decode cX11_hasSector 0 = .ok (.aload_n 0, 1) := by decide +kernel
theorem dX11_hasSector_1 : decode cX11_hasSector 1 = .ok (.getfield 101, 3) := by decide +kernel
theorem dX11_hasSector_4 : decode cX11_hasSector 4 = .ok (.getfield 108, 3) := by decide +kernel
theorem dX11_hasSector_7 : decode cX11_hasSector 7 = .ok (.astore_n 3, 1) := by decide +kernel
theorem dX11_hasSector_8 : decode cX11_hasSector 8 = .ok (.aload_n 3, 1) := by decide +kernel
theorem dX11_hasSector_9 : decode cX11_hasSector 9 = .ok (.iload_n 1, 1) := by decide +kernel
theorem dX11_hasSector_10 : decode cX11_hasSector 10 = .ok (.invokevirtual 227, 3) := by decide +kernel
theorem dX11_hasSector_13 : decode cX11_hasSector 13 = .ok (.ifCond .ne 5, 3) := by decide +kernel
theorem dX11_hasSector_16 : decode cX11_hasSector 16 = .ok (.iconst 0, 1) := by decide +kernel
theorem dX11_hasSector_17 : decode cX11_hasSector 17 = .ok (.ireturn, 1) := by decide +kernel
theorem dX11_hasSector_18 : decode cX11_hasSector 18 = .ok (.iload_n 2, 1) := by decide +kernel
theorem dX11_hasSector_19 : decode cX11_hasSector 19 = .ok (.iconst (-1), 1) := by decide +kernel
theorem dX11_hasSector_20 : decode cX11_hasSector 20 = .ok (.if_icmp .eq 23, 3) := by decide +kernel
theorem dX11_hasSector_23 : decode cX11_hasSector 23 = .ok (.iload_n 2, 1) := by decide +kernel
theorem dX11_hasSector_24 : decode cX11_hasSector 24 = .ok (.ifCond .lt 23, 3) := by decide +kernel
theorem dX11_hasSector_27 : decode cX11_hasSector 27 = .ok (.iload_n 2, 1) := by decide +kernel
theorem dX11_hasSector_28 : decode cX11_hasSector 28 = .ok (.aload_n 3, 1) := by decide +kernel
theorem dX11_hasSector_29 : decode cX11_hasSector 29 = .ok (.getfield 111, 3) := by decide +kernel
theorem dX11_hasSector_32 : decode cX11_hasSector 32 = .ok (.if_icmp .ge 15, 3) := by decide +kernel
theorem dX11_hasSector_35 : decode cX11_hasSector 35 = .ok (.aload_n 3, 1) := by decide +kernel
theorem dX11_hasSector_36 : decode cX11_hasSector 36 = .ok (.invokevirtual 252, 3) := by decide +kernel
theorem dX11_hasSector_39 : decode cX11_hasSector 39 = .ok (.iconst (-1), 1) := by decide +kernel
theorem dX11_hasSector_40 : decode cX11_hasSector 40 = .ok (.if_icmp .eq 7, 3) := by decide +kernel
theorem dX11_hasSector_43 : decode cX11_hasSector 43 = .ok (.iconst 1, 1) := by decide +kernel
theorem dX11_hasSector_44 : decode cX11_hasSector 44 = .ok (.goto 4, 3) := by decide +kernel
theorem dX11_hasSector_47 : decode cX11_hasSector 47 = .ok (.iconst 0, 1) := by decide +kernel
theorem dX11_hasSector_48 : decode cX11_hasSector 48 = .ok (.ireturn, 1) := by decide +kernel
theorem dX11_agreesInSectors_0 : decode cX11_agreesInSectors 0 = .ok (.aload_n 0, 1) := by decide +kernel
theorem dX11_agreesInSectors_1 : decode cX11_agreesInSectors 1 = .ok (.getfield 101, 3) := by decide +kernel
theorem dX11_agreesInSectors_4 : decode cX11_agreesInSectors 4 = .ok (.getfield 108, 3) := by decide +kernel
theorem dX11_agreesInSectors_7 : decode cX11_agreesInSectors 7 = .ok (.astore_n 3, 1) := by decide +kernel
theorem dX11_agreesInSectors_8 : decode cX11_agreesInSectors 8 = .ok (.aload_n 0, 1) := by decide +kernel
theorem dX11_agreesInSectors_9 : decode cX11_agreesInSectors 9 = .ok (.getfield 39, 3) := by decide +kernel
theorem dX11_agreesInSectors_12 : decode cX11_agreesInSectors 12 = .ok (.aload_n 3, 1) := by decide +kernel
theorem dX11_agreesInSectors_13 : decode cX11_agreesInSectors 13 = .ok (.aload_n 0, 1) := by decide +kernel
theorem dX11_agreesInSectors_14 : decode cX11_agreesInSectors 14 = .ok (.invokevirtual 179, 3) := by decide +kernel
theorem dX11_agreesInSectors_17 : decode cX11_agreesInSectors 17 = .ok (.invokevirtual 187, 3) := by decide +kernel
theorem dX11_agreesInSectors_20 : decode cX11_agreesInSectors 20 = .ok (.iconst 1, 1) := by decide +kernel
theorem dX11_agreesInSectors_21 : decode cX11_agreesInSectors 21 = .ok (.istore 4, 2) := by decide +kernel
theorem dX11_agreesInSectors_23 : decode cX11_agreesInSectors 23 = .ok (.iconst 0, 1) := by decide +kernel
theorem dX11_agreesInSectors_24 : decode cX11_agreesInSectors 24 = .ok (.istore 5, 2) := by decide +kernel
theorem dX11_agreesInSectors_26 : decode cX11_agreesInSectors 26 = .ok (.iload 4, 2) := by decide +kernel
theorem dX11_agreesInSectors_28 : decode cX11_agreesInSectors 28 = .ok (.ifCond .eq 105, 3) := by decide +kernel
theorem dX11_agreesInSectors_31 : decode cX11_agreesInSectors 31 = .ok (.iconst 2, 1) := by decide +kernel
theorem dX11_agreesInSectors_32 : decode cX11_agreesInSectors 32 = .ok (.iload 5, 2) := by decide +kernel
theorem dX11_agreesInSectors_34 : decode cX11_agreesInSectors 34 = .ok (.imul, 1) := by decide +kernel
theorem dX11_agreesInSectors_35 : decode cX11_agreesInSectors 35 = .ok (.aload_n 3, 1) := by decide +kernel
theorem dX11_agreesInSectors_36 : decode cX11_agreesInSectors 36 = .ok (.getfield 111, 3) := by decide +kernel
theorem dX11_agreesInSectors_39 : decode cX11_agreesInSectors 39 = .ok (.if_icmp .gt 94, 3) := by decide +kernel
theorem dX11_agreesInSectors_42 : decode cX11_agreesInSectors 42 = .ok (.aload_n 0, 1) := by decide +kernel
theorem dX11_agreesInSectors_43 : decode cX11_agreesInSectors 43 = .ok (.getfield 46, 3) := by decide +kernel
theorem dX11_agreesInSectors_46 : decode cX11_agreesInSectors 46 = .ok (.aload_n 3, 1) := by decide +kernel
theorem dX11_agreesInSectors_47 : decode cX11_agreesInSectors 47 = .ok (.iload 5, 2) := by decide +kernel
theorem dX11_agreesInSectors_49 : decode cX11_agreesInSectors 49 = .ok (.iconst (-1), 1) := by decide +kernel
theorem dX11_agreesInSectors_50 : decode cX11_agreesInSectors 50 = .ok (.invokevirtual 220, 3) := by decide +kernel
theorem dX11_agreesInSectors_53 : decode cX11_agreesInSectors 53 = .ok (.aload_n 0, 1) := by decide +kernel
theorem dX11_agreesInSectors_54 : decode cX11_agreesInSectors 54 = .ok (.getfield 62, 3) := by decide +kernel
theorem dX11_agreesInSectors_57 : decode cX11_agreesInSectors 57 = .ok (.aload_n 0, 1) := by decide +kernel
theorem dX11_agreesInSectors_58 : decode cX11_agreesInSectors 58 = .ok (.getfield 39, 3) := by decide +kernel
theorem dX11_agreesInSectors_61 : decode cX11_agreesInSectors 61 = .ok (.iload_n 1, 1) := by decide +kernel
theorem dX11_agreesInSectors_62 : decode cX11_agreesInSectors 62 = .ok (.aload_n 0, 1) := by decide +kernel
theorem dX11_agreesInSectors_63 : decode cX11_agreesInSectors 63 = .ok (.getfield 62, 3) := by decide +kernel
theorem dX11_agreesInSectors_66 : decode cX11_agreesInSectors 66 = .ok (.getfield 331, 3) := by decide +kernel
theorem dX11_agreesInSectors_69 : decode cX11_agreesInSectors 69 = .ok (.invokevirtual 334, 3) := by decide +kernel
theorem dX11_agreesInSectors_72 : decode cX11_agreesInSectors 72 = .ok (.iload_n 2, 1) := by decide +kernel
theorem dX11_agreesInSectors_73 : decode cX11_agreesInSectors 73 = .ok (.iconst (-1), 1) := by decide +kernel
theorem dX11_agreesInSectors_74 : decode cX11_agreesInSectors 74 = .ok (.if_icmp .ne 21, 3) := by decide +kernel
theorem dX11_agreesInSectors_77 : decode cX11_agreesInSectors 77 = .ok (.aload_n 0, 1) := by decide +kernel
theorem dX11_agreesInSectors_78 : decode cX11_agreesInSectors 78 = .ok (.getfield 46, 3) := by decide +kernel
theorem dX11_agreesInSectors_81 : decode cX11_agreesInSectors 81 = .ok (.aload_n 3, 1) := by decide +kernel
theorem dX11_agreesInSectors_82 : decode cX11_agreesInSectors 82 = .ok (.aload_n 0, 1) := by decide +kernel
theorem dX11_agreesInSectors_83 : decode cX11_agreesInSectors 83 = .ok (.getfield 62, 3) := by decide +kernel
theorem dX11_agreesInSectors_86 : decode cX11_agreesInSectors 86 = .ok (.getfield 338, 3) := by decide +kernel
theorem dX11_agreesInSectors_89 : decode cX11_agreesInSectors 89 = .ok (.invokevirtual 341, 3) := by decide +kernel
theorem dX11_agreesInSectors_92 : decode cX11_agreesInSectors 92 = .ok (.goto 22, 3) := by decide +kernel
theorem dX11_agreesInSectors_95 : decode cX11_agreesInSectors 95 = .ok (.aload_n 0, 1) := by decide +kernel
theorem dX11_agreesInSectors_96 : decode cX11_agreesInSectors 96 = .ok (.getfield 62, 3) := by decide +kernel
theorem dX11_agreesInSectors_99 : decode cX11_agreesInSectors 99 = .ok (.aload_n 0, 1) := by decide +kernel
theorem dX11_agreesInSectors_100 : decode cX11_agreesInSectors 100 = .ok (.getfield 39, 3) := by decide +kernel
theorem dX11_agreesInSectors_103 : decode cX11_agreesInSectors 103 = .ok (.iload_n 2, 1) := by decide +kernel
theorem dX11_agreesInSectors_104 : decode cX11_agreesInSectors 104 = .ok (.aload_n 0, 1) := by decide +kernel
theorem dX11_agreesInSectors_105 : decode cX11_agreesInSectors 105 = .ok (.getfield 62, 3) := by decide +kernel
theorem dX11_agreesInSectors_108 : decode cX11_agreesInSectors 108 = .ok (.getfield 338, 3) := by decide +kernel
theorem dX11_agreesInSectors_111 : decode cX11_agreesInSectors 111 = .ok (.invokevirtual 334, 3) := by decide +kernel
theorem dX11_agreesInSectors_114 : decode cX11_agreesInSectors 114 = .ok (.aload_n 0, 1) := by decide +kernel
theorem dX11_agreesInSectors_115 : decode cX11_agreesInSectors 115 = .ok (.getfield 62, 3) := by decide +kernel
theorem dX11_agreesInSectors_118 : decode cX11_agreesInSectors 118 = .ok (.aload_n 3, 1) := by decide +kernel
theorem dX11_agreesInSectors_119 : decode cX11_agreesInSectors 119 = .ok (.getfield 132, 3) := by decide +kernel
theorem dX11_agreesInSectors_122 : decode cX11_agreesInSectors 122 = .ok (.invokevirtual 345, 3) := by decide +kernel
theorem dX11_agreesInSectors_125 : decode cX11_agreesInSectors 125 = .ok (.istore 4, 2) := by decide +kernel
theorem dX11_agreesInSectors_127 : decode cX11_agreesInSectors 127 = .ok (.iinc 5 1, 3) := by decide +kernel
theorem dX11_agreesInSectors_130 : decode cX11_agreesInSectors 130 = .ok (.goto (-104), 3) := by decide +kernel
theorem dX11_agreesInSectors_133 : decode cX11_agreesInSectors 133 = .ok (.iload 4, 2) := by decide +kernel
theorem dX11_agreesInSectors_135 : decode cX11_agreesInSectors 135 = .ok (.ireturn, 1) := by decide +kernel
theorem dX11_enact_0 : decode cX11_enact 0 = .ok (.aload_n 0, 1) := by decide +kernel
theorem dX11_enact_1 : decode cX11_enact 1 = .ok (.getfield 101, 3) := by decide +kernel
theorem dX11_enact_4 : decode cX11_enact 4 = .ok (.getfield 108, 3) := by decide +kernel
theorem dX11_enact_7 : decode cX11_enact 7 = .ok (.astore_n 3, 1) := by decide +kernel
theorem dX11_enact_8 : decode cX11_enact 8 = .ok (.iload_n 1, 1) := by decide +kernel
theorem dX11_enact_9 : decode cX11_enact 9 = .ok (.ifCond .eq 38, 3) := by decide +kernel
theorem dX11_enact_12 : decode cX11_enact 12 = .ok (.iload_n 1, 1) := by decide +kernel
theorem dX11_enact_13 : decode cX11_enact 13 = .ok (.iconst 2, 1) := by decide +kernel
theorem dX11_enact_14 : decode cX11_enact 14 = .ok (.if_icmp .eq 33, 3) := by decide +kernel
theorem dX11_enact_17 : decode cX11_enact 17 = .ok (.iload_n 1, 1) := by decide +kernel
theorem dX11_enact_18 : decode cX11_enact 18 = .ok (.iconst 1, 1) := by decide +kernel
theorem dX11_enact_19 : decode cX11_enact 19 = .ok (.if_icmp .ne 15, 3) := by decide +kernel
theorem dX11_enact_22 : decode cX11_enact 22 = .ok (.iload_n 2, 1) := by decide +kernel
theorem dX11_enact_23 : decode cX11_enact 23 = .ok (.ifCond .lt 11, 3) := by decide +kernel
theorem dX11_enact_26 : decode cX11_enact 26 = .ok (.iload_n 2, 1) := by decide +kernel
theorem dX11_enact_27 : decode cX11_enact 27 = .ok (.aload_n 3, 1) := by decide +kernel
theorem dX11_enact_28 : decode cX11_enact 28 = .ok (.getfield 111, 3) := by decide +kernel
theorem dX11_enact_31 : decode cX11_enact 31 = .ok (.if_icmp .lt 16, 3) := by decide +kernel
theorem dX11_enact_34 : decode cX11_enact 34 = .ok (.iload_n 1, 1) := by decide +kernel
theorem dX11_enact_35 : decode cX11_enact 35 = .ok (.iconst 3, 1) := by decide +kernel
theorem dX11_enact_36 : decode cX11_enact 36 = .ok (.if_icmp .ne 15, 3) := by decide +kernel
theorem dX11_enact_39 : decode cX11_enact 39 = .ok (.aload_n 3, 1) := by decide +kernel
theorem dX11_enact_40 : decode cX11_enact 40 = .ok (.iload_n 2, 1) := by decide +kernel
theorem dX11_enact_41 : decode cX11_enact 41 = .ok (.invokevirtual 147, 3) := by decide +kernel
theorem dX11_enact_44 : decode cX11_enact 44 = .ok (.ifCond .eq 7, 3) := by decide +kernel
theorem dX11_enact_47 : decode cX11_enact 47 = .ok (.iconst 1, 1) := by decide +kernel
theorem dX11_enact_48 : decode cX11_enact 48 = .ok (.goto 4, 3) := by decide +kernel
theorem dX11_enact_51 : decode cX11_enact 51 = .ok (.iconst 0, 1) := by decide +kernel
theorem dX11_enact_52 : decode cX11_enact 52 = .ok (.istore 4, 2) := by decide +kernel
theorem dX11_enact_54 : decode cX11_enact 54 = .ok (.iload 4, 2) := by decide +kernel
theorem dX11_enact_56 : decode cX11_enact 56 = .ok (.ifCond .ne 5, 3) := by decide +kernel
theorem dX11_enact_59 : decode cX11_enact 59 = .ok (.iconst 0, 1) := by decide +kernel
theorem dX11_enact_60 : decode cX11_enact 60 = .ok (.ireturn, 1) := by decide +kernel
theorem dX11_enact_61 : decode cX11_enact 61 = .ok (.aload_n 0, 1) := by decide +kernel
theorem dX11_enact_62 : decode cX11_enact 62 = .ok (.getfield 101, 3) := by decide +kernel
theorem dX11_enact_65 : decode cX11_enact 65 = .ok (.getfield 119, 3) := by decide +kernel
theorem dX11_enact_68 : decode cX11_enact 68 = .ok (.invokevirtual 348, 3) := by decide +kernel
theorem dX11_enact_71 : decode cX11_enact 71 = .ok (.aload_n 0, 1) := by decide +kernel
theorem dX11_enact_72 : decode cX11_enact 72 = .ok (.getfield 101, 3) := by decide +kernel
theorem dX11_enact_75 : decode cX11_enact 75 = .ok (.getfield 119, 3) := by decide +kernel
theorem dX11_enact_78 : decode cX11_enact 78 = .ok (.invokevirtual 351, 3) := by decide +kernel
theorem dX11_enact_81 : decode cX11_enact 81 = .ok (.astore 5, 2) := by decide +kernel
theorem dX11_enact_83 : decode cX11_enact 83 = .ok (.aload_n 0, 1) := by decide +kernel
theorem dX11_enact_84 : decode cX11_enact 84 = .ok (.getfield 101, 3) := by decide +kernel
theorem dX11_enact_87 : decode cX11_enact 87 = .ok (.getfield 119, 3) := by decide +kernel
theorem dX11_enact_90 : decode cX11_enact 90 = .ok (.invokevirtual 290, 3) := by decide +kernel
theorem dX11_enact_93 : decode cX11_enact 93 = .ok (.astore 6, 2) := by decide +kernel
theorem dX11_enact_95 : decode cX11_enact 95 = .ok (.iload_n 1, 1) := by decide +kernel
theorem dX11_enact_96 : decode cX11_enact 96 = .ok (.tableswitch 62 0 2 #[28, 39, 51], 28) := by decide +kernel
theorem dX11_enact_124 : decode cX11_enact 124 = .ok (.aload_n 3, 1) := by decide +kernel
theorem dX11_enact_125 : decode cX11_enact 125 = .ok (.aload 5, 2) := by decide +kernel
theorem dX11_enact_127 : decode cX11_enact 127 = .ok (.aload 6, 2) := by decide +kernel
theorem dX11_enact_129 : decode cX11_enact 129 = .ok (.invokevirtual 354, 3) := by decide +kernel
theorem dX11_enact_132 : decode cX11_enact 132 = .ok (.goto 50, 3) := by decide +kernel
theorem dX11_enact_135 : decode cX11_enact 135 = .ok (.aload_n 3, 1) := by decide +kernel
theorem dX11_enact_136 : decode cX11_enact 136 = .ok (.iload_n 2, 1) := by decide +kernel
theorem dX11_enact_137 : decode cX11_enact 137 = .ok (.aload 5, 2) := by decide +kernel
theorem dX11_enact_139 : decode cX11_enact 139 = .ok (.aload 6, 2) := by decide +kernel
theorem dX11_enact_141 : decode cX11_enact 141 = .ok (.invokevirtual 357, 3) := by decide +kernel
theorem dX11_enact_144 : decode cX11_enact 144 = .ok (.goto 38, 3) := by decide +kernel
theorem dX11_enact_147 : decode cX11_enact 147 = .ok (.aload_n 3, 1) := by decide +kernel
theorem dX11_enact_148 : decode cX11_enact 148 = .ok (.aload 5, 2) := by decide +kernel
theorem dX11_enact_150 : decode cX11_enact 150 = .ok (.aload 6, 2) := by decide +kernel
theorem dX11_enact_152 : decode cX11_enact 152 = .ok (.invokevirtual 317, 3) := by decide +kernel
theorem dX11_enact_155 : decode cX11_enact 155 = .ok (.goto 27, 3) := by decide +kernel
theorem dX11_enact_158 : decode cX11_enact 158 = .ok (.aload_n 0, 1) := by decide +kernel
theorem dX11_enact_159 : decode cX11_enact 159 = .ok (.getfield 39, 3) := by decide +kernel
theorem dX11_enact_162 : decode cX11_enact 162 = .ok (.aload_n 3, 1) := by decide +kernel
theorem dX11_enact_163 : decode cX11_enact 163 = .ok (.aload_n 0, 1) := by decide +kernel
theorem dX11_enact_164 : decode cX11_enact 164 = .ok (.invokevirtual 179, 3) := by decide +kernel
theorem dX11_enact_167 : decode cX11_enact 167 = .ok (.invokevirtual 187, 3) := by decide +kernel
theorem dX11_enact_170 : decode cX11_enact 170 = .ok (.aload_n 0, 1) := by decide +kernel
theorem dX11_enact_171 : decode cX11_enact 171 = .ok (.getfield 39, 3) := by decide +kernel
theorem dX11_enact_174 : decode cX11_enact 174 = .ok (.iload_n 2, 1) := by decide +kernel
theorem dX11_enact_175 : decode cX11_enact 175 = .ok (.aload 5, 2) := by decide +kernel
theorem dX11_enact_177 : decode cX11_enact 177 = .ok (.aload 6, 2) := by decide +kernel
theorem dX11_enact_179 : decode cX11_enact 179 = .ok (.invokevirtual 361, 3) := by decide +kernel
theorem dX11_enact_182 : decode cX11_enact 182 = .ok (.iconst 1, 1) := by decide +kernel
theorem dX11_enact_183 : decode cX11_enact 183 = .ok (.ireturn, 1) := by decide +kernel
theorem dX11_isTrue_0 : decode cX11_isTrue 0 = .ok (.iload_n 2, 1) := by decide +kernel
theorem dX11_isTrue_1 : decode cX11_isTrue 1 = .ok (.iconst (-1), 1) := by decide +kernel
theorem dX11_isTrue_2 : decode cX11_isTrue 2 = .ok (.if_icmp .ne 5, 3) := by decide +kernel
theorem dX11_isTrue_5 : decode cX11_isTrue 5 = .ok (.iconst 0, 1) := by decide +kernel
theorem dX11_isTrue_6 : decode cX11_isTrue 6 = .ok (.ireturn, 1) := by decide +kernel
theorem dX11_isTrue_7 : decode cX11_isTrue 7 = .ok (.aload_n 0, 1) := by decide +kernel
theorem dX11_isTrue_8 : decode cX11_isTrue 8 = .ok (.getfield 76, 3) := by decide +kernel
theorem dX11_isTrue_11 : decode cX11_isTrue 11 = .ok (.aload_n 0, 1) := by decide +kernel
theorem dX11_isTrue_12 : decode cX11_isTrue 12 = .ok (.getfield 101, 3) := by decide +kernel
theorem dX11_isTrue_15 : decode cX11_isTrue 15 = .ok (.getfield 108, 3) := by decide +kernel
theorem dX11_isTrue_18 : decode cX11_isTrue 18 = .ok (.invokevirtual 364, 3) := by decide +kernel
theorem dX11_isTrue_21 : decode cX11_isTrue 21 = .ok (.aload_n 0, 1) := by decide +kernel
theorem dX11_isTrue_22 : decode cX11_isTrue 22 = .ok (.getfield 76, 3) := by decide +kernel
theorem dX11_isTrue_25 : decode cX11_isTrue 25 = .ok (.iconst 1, 1) := by decide +kernel
theorem dX11_isTrue_26 : decode cX11_isTrue 26 = .ok (.putfield 115, 3) := by decide +kernel
theorem dX11_isTrue_29 : decode cX11_isTrue 29 = .ok (.aload_n 0, 1) := by decide +kernel
theorem dX11_isTrue_30 : decode cX11_isTrue 30 = .ok (.getfield 76, 3) := by decide +kernel
theorem dX11_isTrue_33 : decode cX11_isTrue 33 = .ok (.iconst 1, 1) := by decide +kernel
theorem dX11_isTrue_34 : decode cX11_isTrue 34 = .ok (.putfield 135, 3) := by decide +kernel
theorem dX11_isTrue_37 : decode cX11_isTrue 37 = .ok (.aload_n 0, 1) := by decide +kernel
theorem dX11_isTrue_38 : decode cX11_isTrue 38 = .ok (.getfield 55, 3) := by decide +kernel
theorem dX11_isTrue_41 : decode cX11_isTrue 41 = .ok (.aload_n 0, 1) := by decide +kernel
theorem dX11_isTrue_42 : decode cX11_isTrue 42 = .ok (.getfield 76, 3) := by decide +kernel
theorem dX11_isTrue_45 : decode cX11_isTrue 45 = .ok (.iload_n 1, 1) := by decide +kernel
theorem dX11_isTrue_46 : decode cX11_isTrue 46 = .ok (.iconst (-1), 1) := by decide +kernel
theorem dX11_isTrue_47 : decode cX11_isTrue 47 = .ok (.invokevirtual 230, 3) := by decide +kernel
theorem dX11_isTrue_50 : decode cX11_isTrue 50 = .ok (.aload_n 0, 1) := by decide +kernel
theorem dX11_isTrue_51 : decode cX11_isTrue 51 = .ok (.getfield 55, 3) := by decide +kernel
theorem dX11_isTrue_54 : decode cX11_isTrue 54 = .ok (.iload_n 2, 1) := by decide +kernel
theorem dX11_isTrue_55 : decode cX11_isTrue 55 = .ok (.invokevirtual 367, 3) := by decide +kernel
theorem dX11_isTrue_58 : decode cX11_isTrue 58 = .ok (.ifCond .ne 7, 3) := by decide +kernel
theorem dX11_isTrue_61 : decode cX11_isTrue 61 = .ok (.iconst 1, 1) := by decide +kernel
theorem dX11_isTrue_62 : decode cX11_isTrue 62 = .ok (.goto 4, 3) := by decide +kernel
theorem dX11_isTrue_65 : decode cX11_isTrue 65 = .ok (.iconst 0, 1) := by decide +kernel
theorem dX11_isTrue_66 : decode cX11_isTrue 66 = .ok (.ireturn, 1) := by decide +kernel
theorem dX11_isPrime_0 : decode cX11_isPrime 0 = .ok (.iload_n 0, 1) := by decide +kernel
theorem dX11_isPrime_1 : decode cX11_isPrime 1 = .ok (.iconst 5, 1) := by decide +kernel
theorem dX11_isPrime_2 : decode cX11_isPrime 2 = .ok (.if_icmp .lt 9, 3) := by decide +kernel
theorem dX11_isPrime_5 : decode cX11_isPrime 5 = .ok (.iload_n 0, 1) := by decide +kernel
theorem dX11_isPrime_6 : decode cX11_isPrime 6 = .ok (.bipush 97, 2) := by decide +kernel
theorem dX11_isPrime_8 : decode cX11_isPrime 8 = .ok (.if_icmp .le 5, 3) := by decide +kernel
theorem dX11_isPrime_11 : decode cX11_isPrime 11 = .ok (.iconst 0, 1) := by decide +kernel
theorem dX11_isPrime_12 : decode cX11_isPrime 12 = .ok (.ireturn, 1) := by decide +kernel
theorem dX11_isPrime_13 : decode cX11_isPrime 13 = .ok (.iconst 2, 1) := by decide +kernel
theorem dX11_isPrime_14 : decode cX11_isPrime 14 = .ok (.istore_n 1, 1) := by decide +kernel
theorem dX11_isPrime_15 : decode cX11_isPrime 15 = .ok (.iload_n 1, 1) := by decide +kernel
theorem dX11_isPrime_16 : decode cX11_isPrime 16 = .ok (.iload_n 1, 1) := by decide +kernel
theorem dX11_isPrime_17 : decode cX11_isPrime 17 = .ok (.imul, 1) := by decide +kernel
theorem dX11_isPrime_18 : decode cX11_isPrime 18 = .ok (.iload_n 0, 1) := by decide +kernel
theorem dX11_isPrime_19 : decode cX11_isPrime 19 = .ok (.if_icmp .gt 17, 3) := by decide +kernel
theorem dX11_isPrime_22 : decode cX11_isPrime 22 = .ok (.iload_n 0, 1) := by decide +kernel
theorem dX11_isPrime_23 : decode cX11_isPrime 23 = .ok (.iload_n 1, 1) := by decide +kernel
theorem dX11_isPrime_24 : decode cX11_isPrime 24 = .ok (.irem, 1) := by decide +kernel
theorem dX11_isPrime_25 : decode cX11_isPrime 25 = .ok (.ifCond .ne 5, 3) := by decide +kernel
theorem dX11_isPrime_28 : decode cX11_isPrime 28 = .ok (.iconst 0, 1) := by decide +kernel
theorem dX11_isPrime_29 : decode cX11_isPrime 29 = .ok (.ireturn, 1) := by decide +kernel
theorem dX11_isPrime_30 : decode cX11_isPrime 30 = .ok (.iinc 1 1, 3) := by decide +kernel
theorem dX11_isPrime_33 : decode cX11_isPrime 33 = .ok (.goto (-18), 3) := by decide +kernel
theorem dX11_isPrime_36 : decode cX11_isPrime 36 = .ok (.iconst 1, 1) := by decide +kernel
theorem dX11_isPrime_37 : decode cX11_isPrime 37 = .ok (.ireturn, 1) := by decide +kernel
theorem dX11_left_0 : decode cX11_left 0 = .ok (.iload_n 1, 1) := by decide +kernel
theorem dX11_left_1 : decode cX11_left 1 = .ok (.ifCond .gt 5, 3) := by decide +kernel
theorem dX11_left_4 : decode cX11_left 4 = .ok (.iconst 0, 1) := by decide +kernel
theorem dX11_left_5 : decode cX11_left 5 = .ok (.ireturn, 1) := by decide +kernel
theorem dX11_left_6 : decode cX11_left 6 = .ok (.iload_n 0, 1) := by decide +kernel
theorem dX11_left_7 : decode cX11_left 7 = .ok (.iload_n 1, 1) := by decide +kernel
theorem dX11_left_8 : decode cX11_left 8 = .ok (.irem, 1) := by decide +kernel
theorem dX11_left_9 : decode cX11_left 9 = .ok (.istore_n 2, 1) := by decide +kernel
theorem dX11_left_10 : decode cX11_left 10 = .ok (.iload_n 2, 1) := by decide +kernel
theorem dX11_left_11 : decode cX11_left 11 = .ok (.ifCond .ge 9, 3) := by decide +kernel
theorem dX11_left_14 : decode cX11_left 14 = .ok (.iload_n 2, 1) := by decide +kernel
theorem dX11_left_15 : decode cX11_left 15 = .ok (.iload_n 1, 1) := by decide +kernel
theorem dX11_left_16 : decode cX11_left 16 = .ok (.iadd, 1) := by decide +kernel
theorem dX11_left_17 : decode cX11_left 17 = .ok (.goto 4, 3) := by decide +kernel
theorem dX11_left_20 : decode cX11_left 20 = .ok (.iload_n 2, 1) := by decide +kernel
theorem dX11_left_21 : decode cX11_left 21 = .ok (.ireturn, 1) := by decide +kernel
theorem dX11_raised_0 : decode cX11_raised 0 = .ok (.iload_n 2, 1) := by decide +kernel
theorem dX11_raised_1 : decode cX11_raised 1 = .ok (.ifCond .gt 5, 3) := by decide +kernel
theorem dX11_raised_4 : decode cX11_raised 4 = .ok (.iconst 0, 1) := by decide +kernel
theorem dX11_raised_5 : decode cX11_raised 5 = .ok (.ireturn, 1) := by decide +kernel
theorem dX11_raised_6 : decode cX11_raised 6 = .ok (.iconst 1, 1) := by decide +kernel
theorem dX11_raised_7 : decode cX11_raised 7 = .ok (.istore_n 3, 1) := by decide +kernel
theorem dX11_raised_8 : decode cX11_raised 8 = .ok (.iload_n 0, 1) := by decide +kernel
theorem dX11_raised_9 : decode cX11_raised 9 = .ok (.iload_n 2, 1) := by decide +kernel
theorem dX11_raised_10 : decode cX11_raised 10 = .ok (.irem, 1) := by decide +kernel
theorem dX11_raised_11 : decode cX11_raised 11 = .ok (.istore 4, 2) := by decide +kernel
theorem dX11_raised_13 : decode cX11_raised 13 = .ok (.iload_n 1, 1) := by decide +kernel
theorem dX11_raised_14 : decode cX11_raised 14 = .ok (.istore 5, 2) := by decide +kernel
theorem dX11_raised_16 : decode cX11_raised 16 = .ok (.iload 5, 2) := by decide +kernel
theorem dX11_raised_18 : decode cX11_raised 18 = .ok (.ifCond .le 36, 3) := by decide +kernel
theorem dX11_raised_21 : decode cX11_raised 21 = .ok (.iload 5, 2) := by decide +kernel
theorem dX11_raised_23 : decode cX11_raised 23 = .ok (.iconst 1, 1) := by decide +kernel
theorem dX11_raised_24 : decode cX11_raised 24 = .ok (.iand, 1) := by decide +kernel
theorem dX11_raised_25 : decode cX11_raised 25 = .ok (.iconst 1, 1) := by decide +kernel
theorem dX11_raised_26 : decode cX11_raised 26 = .ok (.if_icmp .ne 10, 3) := by decide +kernel
theorem dX11_raised_29 : decode cX11_raised 29 = .ok (.iload_n 3, 1) := by decide +kernel
theorem dX11_raised_30 : decode cX11_raised 30 = .ok (.iload 4, 2) := by decide +kernel
theorem dX11_raised_32 : decode cX11_raised 32 = .ok (.imul, 1) := by decide +kernel
theorem dX11_raised_33 : decode cX11_raised 33 = .ok (.iload_n 2, 1) := by decide +kernel
theorem dX11_raised_34 : decode cX11_raised 34 = .ok (.irem, 1) := by decide +kernel
theorem dX11_raised_35 : decode cX11_raised 35 = .ok (.istore_n 3, 1) := by decide +kernel
theorem dX11_raised_36 : decode cX11_raised 36 = .ok (.iload 4, 2) := by decide +kernel
theorem dX11_raised_38 : decode cX11_raised 38 = .ok (.iload 4, 2) := by decide +kernel
theorem dX11_raised_40 : decode cX11_raised 40 = .ok (.imul, 1) := by decide +kernel
theorem dX11_raised_41 : decode cX11_raised 41 = .ok (.iload_n 2, 1) := by decide +kernel
theorem dX11_raised_42 : decode cX11_raised 42 = .ok (.irem, 1) := by decide +kernel
theorem dX11_raised_43 : decode cX11_raised 43 = .ok (.istore 4, 2) := by decide +kernel
theorem dX11_raised_45 : decode cX11_raised 45 = .ok (.iload 5, 2) := by decide +kernel
theorem dX11_raised_47 : decode cX11_raised 47 = .ok (.iconst 1, 1) := by decide +kernel
theorem dX11_raised_48 : decode cX11_raised 48 = .ok (.ishr, 1) := by decide +kernel
theorem dX11_raised_49 : decode cX11_raised 49 = .ok (.istore 5, 2) := by decide +kernel
theorem dX11_raised_51 : decode cX11_raised 51 = .ok (.goto (-35), 3) := by decide +kernel
theorem dX11_raised_54 : decode cX11_raised 54 = .ok (.iload_n 3, 1) := by decide +kernel
theorem dX11_raised_55 : decode cX11_raised 55 = .ok (.ireturn, 1) := by decide +kernel
theorem dX11_over_0 : decode cX11_over 0 = .ok (.iload_n 0, 1) := by decide +kernel
theorem dX11_over_1 : decode cX11_over 1 = .ok (.iload_n 1, 1) := by decide +kernel
theorem dX11_over_2 : decode cX11_over 2 = .ok (.iload_n 2, 1) := by decide +kernel
theorem dX11_over_3 : decode cX11_over 3 = .ok (.iconst 2, 1) := by decide +kernel
theorem dX11_over_4 : decode cX11_over 4 = .ok (.isub, 1) := by decide +kernel
theorem dX11_over_5 : decode cX11_over 5 = .ok (.iload_n 2, 1) := by decide +kernel
theorem dX11_over_6 : decode cX11_over 6 = .ok (.invokestatic 370, 3) := by decide +kernel
theorem dX11_over_9 : decode cX11_over 9 = .ok (.imul, 1) := by decide +kernel
theorem dX11_over_10 : decode cX11_over 10 = .ok (.iload_n 2, 1) := by decide +kernel
theorem dX11_over_11 : decode cX11_over 11 = .ok (.invokestatic 138, 3) := by decide +kernel
theorem dX11_over_14 : decode cX11_over 14 = .ok (.ireturn, 1) := by decide +kernel
theorem dX11_clear_0 : decode cX11_clear 0 = .ok (.iconst 0, 1) := by decide +kernel
theorem dX11_clear_1 : decode cX11_clear 1 = .ok (.istore_n 1, 1) := by decide +kernel
theorem dX11_clear_2 : decode cX11_clear 2 = .ok (.iload_n 1, 1) := by decide +kernel
theorem dX11_clear_3 : decode cX11_clear 3 = .ok (.aload_n 0, 1) := by decide +kernel
theorem dX11_clear_4 : decode cX11_clear 4 = .ok (.arraylength, 1) := by decide +kernel
theorem dX11_clear_5 : decode cX11_clear 5 = .ok (.if_icmp .ge 13, 3) := by decide +kernel
theorem dX11_clear_8 : decode cX11_clear 8 = .ok (.aload_n 0, 1) := by decide +kernel
theorem dX11_clear_9 : decode cX11_clear 9 = .ok (.iload_n 1, 1) := by decide +kernel
theorem dX11_clear_10 : decode cX11_clear 10 = .ok (.iconst 0, 1) := by decide +kernel
theorem dX11_clear_11 : decode cX11_clear 11 = .ok (.iastore, 1) := by decide +kernel
theorem dX11_clear_12 : decode cX11_clear 12 = .ok (.iinc 1 1, 3) := by decide +kernel
theorem dX11_clear_15 : decode cX11_clear 15 = .ok (.goto (-13), 3) := by decide +kernel
theorem dX11_clear_18 : decode cX11_clear 18 = .ok (.return_, 1) := by decide +kernel
theorem dX12_init_0 : decode cX12_init 0 = .ok (.aload_n 0, 1) := by decide +kernel
theorem dX12_init_1 : decode cX12_init 1 = .ok (.invokespecial 1, 3) := by decide +kernel
theorem dX12_init_4 : decode cX12_init 4 = .ok (.aload_n 0, 1) := by decide +kernel
theorem dX12_init_5 : decode cX12_init 5 = .ok (.sipush 2698, 3) := by decide +kernel
theorem dX12_init_8 : decode cX12_init 8 = .ok (.newarray .int, 2) := by decide +kernel
theorem dX12_init_10 : decode cX12_init 10 = .ok (.putfield 7, 3) := by decide +kernel
theorem dX12_init_13 : decode cX12_init 13 = .ok (.aload_n 0, 1) := by decide +kernel
theorem dX12_init_14 : decode cX12_init 14 = .ok (.sipush 2698, 3) := by decide +kernel
theorem dX12_init_17 : decode cX12_init 17 = .ok (.newarray .int, 2) := by decide +kernel
theorem dX12_init_19 : decode cX12_init 19 = .ok (.putfield 13, 3) := by decide +kernel
theorem dX12_init_22 : decode cX12_init 22 = .ok (.aload_n 0, 1) := by decide +kernel
theorem dX12_init_23 : decode cX12_init 23 = .ok (.sipush 300, 3) := by decide +kernel
theorem dX12_init_26 : decode cX12_init 26 = .ok (.newarray .byte, 2) := by decide +kernel
theorem dX12_init_28 : decode cX12_init 28 = .ok (.putfield 16, 3) := by decide +kernel
theorem dX12_init_31 : decode cX12_init 31 = .ok (.aload_n 0, 1) := by decide +kernel
theorem dX12_init_32 : decode cX12_init 32 = .ok (.iconst (-1), 1) := by decide +kernel
theorem dX12_init_33 : decode cX12_init 33 = .ok (.putfield 20, 3) := by decide +kernel
theorem dX12_init_36 : decode cX12_init 36 = .ok (.aload_n 0, 1) := by decide +kernel
theorem dX12_init_37 : decode cX12_init 37 = .ok (.iconst (-1), 1) := by decide +kernel
theorem dX12_init_38 : decode cX12_init 38 = .ok (.putfield 24, 3) := by decide +kernel
theorem dX12_init_41 : decode cX12_init 41 = .ok (.aload_n 0, 1) := by decide +kernel
theorem dX12_init_42 : decode cX12_init 42 = .ok (.iconst 4, 1) := by decide +kernel
theorem dX12_init_43 : decode cX12_init 43 = .ok (.newarray .int, 2) := by decide +kernel
theorem dX12_init_45 : decode cX12_init 45 = .ok (.putfield 27, 3) := by decide +kernel
theorem dX12_init_48 : decode cX12_init 48 = .ok (.aload_n 0, 1) := by decide +kernel
theorem dX12_init_49 : decode cX12_init 49 = .ok (.bipush 120, 2) := by decide +kernel
theorem dX12_init_51 : decode cX12_init 51 = .ok (.newarray .int, 2) := by decide +kernel
theorem dX12_init_53 : decode cX12_init 53 = .ok (.putfield 30, 3) := by decide +kernel
theorem dX12_init_56 : decode cX12_init 56 = .ok (.aload_n 0, 1) := by decide +kernel
theorem dX12_init_57 : decode cX12_init 57 = .ok (.bipush 120, 2) := by decide +kernel
theorem dX12_init_59 : decode cX12_init 59 = .ok (.newarray .int, 2) := by decide +kernel
theorem dX12_init_61 : decode cX12_init 61 = .ok (.putfield 33, 3) := by decide +kernel
theorem dX12_init_64 : decode cX12_init 64 = .ok (.aload_n 0, 1) := by decide +kernel
theorem dX12_init_65 : decode cX12_init 65 = .ok (.bipush 120, 2) := by decide +kernel
theorem dX12_init_67 : decode cX12_init 67 = .ok (.newarray .int, 2) := by decide +kernel
theorem dX12_init_69 : decode cX12_init 69 = .ok (.putfield 36, 3) := by decide +kernel
theorem dX12_init_72 : decode cX12_init 72 = .ok (.aload_n 0, 1) := by decide +kernel
theorem dX12_init_73 : decode cX12_init 73 = .ok (.sipush 1600, 3) := by decide +kernel
theorem dX12_init_76 : decode cX12_init 76 = .ok (.newarray .int, 2) := by decide +kernel
theorem dX12_init_78 : decode cX12_init 78 = .ok (.putfield 39, 3) := by decide +kernel
theorem dX12_init_81 : decode cX12_init 81 = .ok (.aload_n 0, 1) := by decide +kernel
theorem dX12_init_82 : decode cX12_init 82 = .ok (.sipush 1600, 3) := by decide +kernel
theorem dX12_init_85 : decode cX12_init 85 = .ok (.newarray .int, 2) := by decide +kernel
theorem dX12_init_87 : decode cX12_init 87 = .ok (.putfield 42, 3) := by decide +kernel
theorem dX12_init_90 : decode cX12_init 90 = .ok (.aload_n 0, 1) := by decide +kernel
theorem dX12_init_91 : decode cX12_init 91 = .ok (.bipush 40, 2) := by decide +kernel
theorem dX12_init_93 : decode cX12_init 93 = .ok (.newarray .int, 2) := by decide +kernel
theorem dX12_init_95 : decode cX12_init 95 = .ok (.putfield 45, 3) := by decide +kernel
theorem dX12_init_98 : decode cX12_init 98 = .ok (.aload_n 0, 1) := by decide +kernel
theorem dX12_init_99 : decode cX12_init 99 = .ok (.bipush 80, 2) := by decide +kernel
theorem dX12_init_101 : decode cX12_init 101 = .ok (.newarray .int, 2) := by decide +kernel
theorem dX12_init_103 : decode cX12_init 103 = .ok (.putfield 48, 3) := by decide +kernel
theorem dX12_init_106 : decode cX12_init 106 = .ok (.aload_n 0, 1) := by decide +kernel
theorem dX12_init_107 : decode cX12_init 107 = .ok (.bipush 80, 2) := by decide +kernel
theorem dX12_init_109 : decode cX12_init 109 = .ok (.newarray .int, 2) := by decide +kernel
theorem dX12_init_111 : decode cX12_init 111 = .ok (.putfield 51, 3) := by decide +kernel
theorem dX12_init_114 : decode cX12_init 114 = .ok (.aload_n 0, 1) := by decide +kernel
theorem dX12_init_115 : decode cX12_init 115 = .ok (.bipush 30, 2) := by decide +kernel
theorem dX12_init_117 : decode cX12_init 117 = .ok (.newarray .int, 2) := by decide +kernel
theorem dX12_init_119 : decode cX12_init 119 = .ok (.putfield 54, 3) := by decide +kernel
theorem dX12_init_122 : decode cX12_init 122 = .ok (.aload_n 0, 1) := by decide +kernel
theorem dX12_init_123 : decode cX12_init 123 = .ok (.bipush 30, 2) := by decide +kernel
theorem dX12_init_125 : decode cX12_init 125 = .ok (.newarray .int, 2) := by decide +kernel
theorem dX12_init_127 : decode cX12_init 127 = .ok (.putfield 57, 3) := by decide +kernel
theorem dX12_init_130 : decode cX12_init 130 = .ok (.aload_n 0, 1) := by decide +kernel
theorem dX12_init_131 : decode cX12_init 131 = .ok (.bipush 30, 2) := by decide +kernel
theorem dX12_init_133 : decode cX12_init 133 = .ok (.newarray .int, 2) := by decide +kernel
theorem dX12_init_135 : decode cX12_init 135 = .ok (.putfield 60, 3) := by decide +kernel
theorem dX12_init_138 : decode cX12_init 138 = .ok (.aload_n 0, 1) := by decide +kernel
theorem dX12_init_139 : decode cX12_init 139 = .ok (.sipush 400, 3) := by decide +kernel
theorem dX12_init_142 : decode cX12_init 142 = .ok (.newarray .int, 2) := by decide +kernel
theorem dX12_init_144 : decode cX12_init 144 = .ok (.putfield 63, 3) := by decide +kernel
theorem dX12_init_147 : decode cX12_init 147 = .ok (.aload_n 0, 1) := by decide +kernel
theorem dX12_init_148 : decode cX12_init 148 = .ok (.sipush 400, 3) := by decide +kernel
theorem dX12_init_151 : decode cX12_init 151 = .ok (.newarray .int, 2) := by decide +kernel
theorem dX12_init_153 : decode cX12_init 153 = .ok (.putfield 66, 3) := by decide +kernel
theorem dX12_init_156 : decode cX12_init 156 = .ok (.aload_n 0, 1) := by decide +kernel
theorem dX12_init_157 : decode cX12_init 157 = .ok (.sipush 200, 3) := by decide +kernel
theorem dX12_init_160 : decode cX12_init 160 = .ok (.newarray .int, 2) := by decide +kernel
theorem dX12_init_162 : decode cX12_init 162 = .ok (.putfield 69, 3) := by decide +kernel
theorem dX12_init_165 : decode cX12_init 165 = .ok (.aload_n 0, 1) := by decide +kernel
theorem dX12_init_166 : decode cX12_init 166 = .ok (.sipush 256, 3) := by decide +kernel
theorem dX12_init_169 : decode cX12_init 169 = .ok (.newarray .int, 2) := by decide +kernel
theorem dX12_init_171 : decode cX12_init 171 = .ok (.putfield 72, 3) := by decide +kernel
theorem dX12_init_174 : decode cX12_init 174 = .ok (.aload_n 0, 1) := by decide +kernel
theorem dX12_init_175 : decode cX12_init 175 = .ok (.sipush 256, 3) := by decide +kernel
theorem dX12_init_178 : decode cX12_init 178 = .ok (.newarray .int, 2) := by decide +kernel
theorem dX12_init_180 : decode cX12_init 180 = .ok (.putfield 75, 3) := by decide +kernel
theorem dX12_init_183 : decode cX12_init 183 = .ok (.aload_n 0, 1) := by decide +kernel
theorem dX12_init_184 : decode cX12_init 184 = .ok (.sipush 256, 3) := by decide +kernel
theorem dX12_init_187 : decode cX12_init 187 = .ok (.newarray .int, 2) := by decide +kernel
theorem dX12_init_189 : decode cX12_init 189 = .ok (.putfield 78, 3) := by decide +kernel
theorem dX12_init_192 : decode cX12_init 192 = .ok (.aload_n 0, 1) := by decide +kernel
theorem dX12_init_193 : decode cX12_init 193 = .ok (.sipush 128, 3) := by decide +kernel
theorem dX12_init_196 : decode cX12_init 196 = .ok (.newarray .int, 2) := by decide +kernel
theorem dX12_init_198 : decode cX12_init 198 = .ok (.putfield 81, 3) := by decide +kernel
theorem dX12_init_201 : decode cX12_init 201 = .ok (.aload_n 0, 1) := by decide +kernel
theorem dX12_init_202 : decode cX12_init 202 = .ok (.sipush 128, 3) := by decide +kernel
theorem dX12_init_205 : decode cX12_init 205 = .ok (.newarray .int, 2) := by decide +kernel
theorem dX12_init_207 : decode cX12_init 207 = .ok (.putfield 84, 3) := by decide +kernel
theorem dX12_init_210 : decode cX12_init 210 = .ok (.aload_n 0, 1) := by decide +kernel
theorem dX12_init_211 : decode cX12_init 211 = .ok (.sipush 128, 3) := by decide +kernel
theorem dX12_init_214 : decode cX12_init 214 = .ok (.newarray .int, 2) := by decide +kernel
theorem dX12_init_216 : decode cX12_init 216 = .ok (.putfield 87, 3) := by decide +kernel
theorem dX12_init_219 : decode cX12_init 219 = .ok (.aload_n 0, 1) := by decide +kernel
theorem dX12_init_220 : decode cX12_init 220 = .ok (.bipush 35, 2) := by decide +kernel
theorem dX12_init_222 : decode cX12_init 222 = .ok (.newarray .int, 2) := by decide +kernel
theorem dX12_init_224 : decode cX12_init 224 = .ok (.putfield 90, 3) := by decide +kernel
theorem dX12_init_227 : decode cX12_init 227 = .ok (.aload_n 0, 1) := by decide +kernel
theorem dX12_init_228 : decode cX12_init 228 = .ok (.sipush 128, 3) := by decide +kernel
theorem dX12_init_231 : decode cX12_init 231 = .ok (.newarray .int, 2) := by decide +kernel
theorem dX12_init_233 : decode cX12_init 233 = .ok (.putfield 93, 3) := by decide +kernel
theorem dX12_init_236 : decode cX12_init 236 = .ok (.aload_n 0, 1) := by decide +kernel
theorem dX12_init_237 : decode cX12_init 237 = .ok (.sipush 1225, 3) := by decide +kernel
theorem dX12_init_240 : decode cX12_init 240 = .ok (.newarray .int, 2) := by decide +kernel
theorem dX12_init_242 : decode cX12_init 242 = .ok (.putfield 96, 3) := by decide +kernel
theorem dX12_init_245 : decode cX12_init 245 = .ok (.aload_n 0, 1) := by decide +kernel
theorem dX12_init_246 : decode cX12_init 246 = .ok (.sipush 1296, 3) := by decide +kernel
theorem dX12_init_249 : decode cX12_init 249 = .ok (.newarray .int, 2) := by decide +kernel
theorem dX12_init_251 : decode cX12_init 251 = .ok (.putfield 99, 3) := by decide +kernel
theorem dX12_init_254 : decode cX12_init 254 = .ok (.aload_n 0, 1) := by decide +kernel
theorem dX12_init_255 : decode cX12_init 255 = .ok (.bipush 36, 2) := by decide +kernel
theorem dX12_init_257 : decode cX12_init 257 = .ok (.newarray .int, 2) := by decide +kernel
theorem dX12_init_259 : decode cX12_init 259 = .ok (.putfield 102, 3) := by decide +kernel
theorem dX12_init_262 : decode cX12_init 262 = .ok (.aload_n 0, 1) := by decide +kernel
theorem dX12_init_263 : decode cX12_init 263 = .ok (.iconst 3, 1) := by decide +kernel
theorem dX12_init_264 : decode cX12_init 264 = .ok (.newarray .int, 2) := by decide +kernel
theorem dX12_init_266 : decode cX12_init 266 = .ok (.putfield 105, 3) := by decide +kernel
theorem dX12_init_269 : decode cX12_init 269 = .ok (.aload_n 0, 1) := by decide +kernel
theorem dX12_init_270 : decode cX12_init 270 = .ok (.bipush 12, 2) := by decide +kernel
theorem dX12_init_272 : decode cX12_init 272 = .ok (.newarray .int, 2) := by decide +kernel
theorem dX12_init_274 : decode cX12_init 274 = .ok (.putfield 108, 3) := by decide +kernel
theorem dX12_init_277 : decode cX12_init 277 = .ok (.aload_n 0, 1) := by decide +kernel
theorem dX12_init_278 : decode cX12_init 278 = .ok (.bipush 8, 2) := by decide +kernel
theorem dX12_init_280 : decode cX12_init 280 = .ok (.newarray .int, 2) := by decide +kernel
theorem dX12_init_282 : decode cX12_init 282 = .ok (.putfield 111, 3) := by decide +kernel
theorem dX12_init_285 : decode cX12_init 285 = .ok (.aload_n 0, 1) := by decide +kernel
theorem dX12_init_286 : decode cX12_init 286 = .ok (.iconst 3, 1) := by decide +kernel
theorem dX12_init_287 : decode cX12_init 287 = .ok (.newarray .int, 2) := by decide +kernel
theorem dX12_init_289 : decode cX12_init 289 = .ok (.putfield 114, 3) := by decide +kernel
theorem dX12_init_292 : decode cX12_init 292 = .ok (.aload_n 0, 1) := by decide +kernel
theorem dX12_init_293 : decode cX12_init 293 = .ok (.bipush 8, 2) := by decide +kernel
theorem dX12_init_295 : decode cX12_init 295 = .ok (.newarray .int, 2) := by decide +kernel
theorem dX12_init_297 : decode cX12_init 297 = .ok (.putfield 117, 3) := by decide +kernel
theorem dX12_init_300 : decode cX12_init 300 = .ok (.aload_n 0, 1) := by decide +kernel
theorem dX12_init_301 : decode cX12_init 301 = .ok (.getfield 7, 3) := by decide +kernel
theorem dX12_init_304 : decode cX12_init 304 = .ok (.iconst 0, 1) := by decide +kernel
theorem dX12_init_305 : decode cX12_init 305 = .ok (.iload_n 1, 1) := by decide +kernel
theorem dX12_init_306 : decode cX12_init 306 = .ok (.iconst 2, 1) := by decide +kernel
theorem dX12_init_307 : decode cX12_init 307 = .ok (.if_icmp .ge 7, 3) := by decide +kernel
theorem dX12_init_310 : decode cX12_init 310 = .ok (.iconst 2, 1) := by decide +kernel
theorem dX12_init_311 : decode cX12_init 311 = .ok (.goto 15, 3) := by decide +kernel
theorem dX12_init_314 : decode cX12_init 314 = .ok (.iload_n 1, 1) := by decide +kernel
theorem dX12_init_315 : decode cX12_init 315 = .ok (.bipush 7, 2) := by decide +kernel
theorem dX12_init_317 : decode cX12_init 317 = .ok (.if_icmp .le 8, 3) := by decide +kernel
theorem dX12_init_320 : decode cX12_init 320 = .ok (.bipush 7, 2) := by decide +kernel
theorem dX12_init_322 : decode cX12_init 322 = .ok (.goto 4, 3) := by decide +kernel
theorem dX12_init_325 : decode cX12_init 325 = .ok (.iload_n 1, 1) := by decide +kernel
theorem dX12_init_326 : decode cX12_init 326 = .ok (.iastore, 1) := by decide +kernel
theorem dX12_init_327 : decode cX12_init 327 = .ok (.aload_n 0, 1) := by decide +kernel
theorem dX12_init_328 : decode cX12_init 328 = .ok (.getfield 7, 3) := by decide +kernel
theorem dX12_init_331 : decode cX12_init 331 = .ok (.iconst 1, 1) := by decide +kernel
theorem dX12_init_332 : decode cX12_init 332 = .ok (.iconst 1, 1) := by decide +kernel
theorem dX12_init_333 : decode cX12_init 333 = .ok (.iastore, 1) := by decide +kernel
theorem dX12_init_334 : decode cX12_init 334 = .ok (.aload_n 0, 1) := by decide +kernel
theorem dX12_init_335 : decode cX12_init 335 = .ok (.getfield 7, 3) := by decide +kernel
theorem dX12_init_338 : decode cX12_init 338 = .ok (.iconst 2, 1) := by decide +kernel
theorem dX12_init_339 : decode cX12_init 339 = .ok (.bipush 13, 2) := by decide +kernel
theorem dX12_init_341 : decode cX12_init 341 = .ok (.iastore, 1) := by decide +kernel
theorem dX12_init_342 : decode cX12_init 342 = .ok (.aload_n 0, 1) := by decide +kernel
theorem dX12_init_343 : decode cX12_init 343 = .ok (.getfield 7, 3) := by decide +kernel
theorem dX12_init_346 : decode cX12_init 346 = .ok (.iconst 3, 1) := by decide +kernel
theorem dX12_init_347 : decode cX12_init 347 = .ok (.iconst 1, 1) := by decide +kernel
theorem dX12_init_348 : decode cX12_init 348 = .ok (.iastore, 1) := by decide +kernel
theorem dX12_init_349 : decode cX12_init 349 = .ok (.aload_n 0, 1) := by decide +kernel
theorem dX12_init_350 : decode cX12_init 350 = .ok (.getfield 7, 3) := by decide +kernel
theorem dX12_init_353 : decode cX12_init 353 = .ok (.iconst 4, 1) := by decide +kernel
theorem dX12_init_354 : decode cX12_init 354 = .ok (.iconst 1, 1) := by decide +kernel
theorem dX12_init_355 : decode cX12_init 355 = .ok (.iastore, 1) := by decide +kernel
theorem dX12_init_356 : decode cX12_init 356 = .ok (.aload_n 0, 1) := by decide +kernel
theorem dX12_init_357 : decode cX12_init 357 = .ok (.getfield 7, 3) := by decide +kernel
theorem dX12_init_360 : decode cX12_init 360 = .ok (.bipush 6, 2) := by decide +kernel
theorem dX12_init_362 : decode cX12_init 362 = .ok (.iconst (-1), 1) := by decide +kernel
theorem dX12_init_363 : decode cX12_init 363 = .ok (.iastore, 1) := by decide +kernel
theorem dX12_init_364 : decode cX12_init 364 = .ok (.aload_n 0, 1) := by decide +kernel
theorem dX12_init_365 : decode cX12_init 365 = .ok (.iconst 1, 1) := by decide +kernel
theorem dX12_init_366 : decode cX12_init 366 = .ok (.invokevirtual 120, 3) := by decide +kernel
theorem dX12_init_369 : decode cX12_init 369 = .ok (.return_, 1) := by decide +kernel
theorem dX12_in_0 : decode cX12_in 0 = .ok (.iload_n 0, 1) := by decide +kernel
theorem dX12_in_1 : decode cX12_in 1 = .ok (.iload_n 1, 1) := by decide +kernel
theorem dX12_in_2 : decode cX12_in 2 = .ok (.if_icmp .lt 12, 3) := by decide +kernel
theorem dX12_in_5 : decode cX12_in 5 = .ok (.iload_n 0, 1) := by decide +kernel
theorem dX12_in_6 : decode cX12_in 6 = .ok (.iload_n 2, 1) := by decide +kernel
theorem dX12_in_7 : decode cX12_in 7 = .ok (.if_icmp .gt 7, 3) := by decide +kernel
theorem dX12_in_10 : decode cX12_in 10 = .ok (.iconst 1, 1) := by decide +kernel
theorem dX12_in_11 : decode cX12_in 11 = .ok (.goto 4, 3) := by decide +kernel
theorem dX12_in_14 : decode cX12_in 14 = .ok (.iconst 0, 1) := by decide +kernel
theorem dX12_in_15 : decode cX12_in 15 = .ok (.ireturn, 1) := by decide +kernel
theorem dX12_copies_0 : decode cX12_copies 0 = .ok (.iconst 0, 1) := by decide +kernel
theorem dX12_copies_1 : decode cX12_copies 1 = .ok (.istore_n 2, 1) := by decide +kernel
theorem dX12_copies_2 : decode cX12_copies 2 = .ok (.iload_n 2, 1) := by decide +kernel
theorem dX12_copies_3 : decode cX12_copies 3 = .ok (.sipush 2698, 3) := by decide +kernel
theorem dX12_copies_6 : decode cX12_copies 6 = .ok (.if_icmp .ge 40, 3) := by decide +kernel
theorem dX12_copies_9 : decode cX12_copies 9 = .ok (.iload_n 1, 1) := by decide +kernel
theorem dX12_copies_10 : decode cX12_copies 10 = .ok (.ifCond .eq 18, 3) := by decide +kernel
theorem dX12_copies_13 : decode cX12_copies 13 = .ok (.aload_n 0, 1) := by decide +kernel
theorem dX12_copies_14 : decode cX12_copies 14 = .ok (.getfield 13, 3) := by decide +kernel
theorem dX12_copies_17 : decode cX12_copies 17 = .ok (.iload_n 2, 1) := by decide +kernel
theorem dX12_copies_18 : decode cX12_copies 18 = .ok (.aload_n 0, 1) := by decide +kernel
theorem dX12_copies_19 : decode cX12_copies 19 = .ok (.getfield 7, 3) := by decide +kernel
theorem dX12_copies_22 : decode cX12_copies 22 = .ok (.iload_n 2, 1) := by decide +kernel
theorem dX12_copies_23 : decode cX12_copies 23 = .ok (.iaload, 1) := by decide +kernel
theorem dX12_copies_24 : decode cX12_copies 24 = .ok (.iastore, 1) := by decide +kernel
theorem dX12_copies_25 : decode cX12_copies 25 = .ok (.goto 15, 3) := by decide +kernel
theorem dX12_copies_28 : decode cX12_copies 28 = .ok (.aload_n 0, 1) := by decide +kernel
theorem dX12_copies_29 : decode cX12_copies 29 = .ok (.getfield 7, 3) := by decide +kernel
theorem dX12_copies_32 : decode cX12_copies 32 = .ok (.iload_n 2, 1) := by decide +kernel
theorem dX12_copies_33 : decode cX12_copies 33 = .ok (.aload_n 0, 1) := by decide +kernel
theorem dX12_copies_34 : decode cX12_copies 34 = .ok (.getfield 13, 3) := by decide +kernel
theorem dX12_copies_37 : decode cX12_copies 37 = .ok (.iload_n 2, 1) := by decide +kernel
theorem dX12_copies_38 : decode cX12_copies 38 = .ok (.iaload, 1) := by decide +kernel
theorem dX12_copies_39 : decode cX12_copies 39 = .ok (.iastore, 1) := by decide +kernel
theorem dX12_copies_40 : decode cX12_copies 40 = .ok (.iinc 2 1, 3) := by decide +kernel
theorem dX12_copies_43 : decode cX12_copies 43 = .ok (.goto (-41), 3) := by decide +kernel
theorem dX12_copies_46 : decode cX12_copies 46 = .ok (.return_, 1) := by decide +kernel
theorem dX12_left_0 : decode cX12_left 0 = .ok (.lload_n 1, 1) := by decide +kernel
theorem dX12_left_1 : decode cX12_left 1 = .ok (.aload_n 0, 1) := by decide +kernel
theorem dX12_left_2 : decode cX12_left 2 = .ok (.getfield 7, 3) := by decide +kernel
theorem dX12_left_5 : decode cX12_left 5 = .ok (.iconst 2, 1) := by decide +kernel
theorem dX12_left_6 : decode cX12_left 6 = .ok (.iaload, 1) := by decide +kernel
theorem dX12_left_7 : decode cX12_left 7 = .ok (.i2l, 1) := by decide +kernel
theorem dX12_left_8 : decode cX12_left 8 = .ok (.lrem, 1) := by decide +kernel
theorem dX12_left_9 : decode cX12_left 9 = .ok (.l2i, 1) := by decide +kernel
theorem dX12_left_10 : decode cX12_left 10 = .ok (.istore_n 3, 1) := by decide +kernel
theorem dX12_left_11 : decode cX12_left 11 = .ok (.iload_n 3, 1) := by decide +kernel
theorem dX12_left_12 : decode cX12_left 12 = .ok (.ifCond .ge 14, 3) := by decide +kernel
theorem dX12_left_15 : decode cX12_left 15 = .ok (.iload_n 3, 1) := by decide +kernel
theorem dX12_left_16 : decode cX12_left 16 = .ok (.aload_n 0, 1) := by decide +kernel
theorem dX12_left_17 : decode cX12_left 17 = .ok (.getfield 7, 3) := by decide +kernel
theorem dX12_left_20 : decode cX12_left 20 = .ok (.iconst 2, 1) := by decide +kernel
theorem dX12_left_21 : decode cX12_left 21 = .ok (.iaload, 1) := by decide +kernel
theorem dX12_left_22 : decode cX12_left 22 = .ok (.iadd, 1) := by decide +kernel
theorem dX12_left_23 : decode cX12_left 23 = .ok (.goto 4, 3) := by decide +kernel
theorem dX12_left_26 : decode cX12_left 26 = .ok (.iload_n 3, 1) := by decide +kernel
theorem dX12_left_27 : decode cX12_left 27 = .ok (.ireturn, 1) := by decide +kernel
theorem dX12_over_0 : decode cX12_over 0 = .ok (.iconst 0, 1) := by decide +kernel
theorem dX12_over_1 : decode cX12_over 1 = .ok (.istore_n 3, 1) := by decide +kernel
theorem dX12_over_2 : decode cX12_over 2 = .ok (.iload_n 2, 1) := by decide +kernel
theorem dX12_over_3 : decode cX12_over 3 = .ok (.ifCond .eq 23, 3) := by decide +kernel
theorem dX12_over_6 : decode cX12_over 6 = .ok (.iload_n 3, 1) := by decide +kernel
theorem dX12_over_7 : decode cX12_over 7 = .ok (.iload_n 2, 1) := by decide +kernel
theorem dX12_over_8 : decode cX12_over 8 = .ok (.imul, 1) := by decide +kernel
theorem dX12_over_9 : decode cX12_over 9 = .ok (.aload_n 0, 1) := by decide +kernel
theorem dX12_over_10 : decode cX12_over 10 = .ok (.getfield 7, 3) := by decide +kernel
theorem dX12_over_13 : decode cX12_over 13 = .ok (.iconst 2, 1) := by decide +kernel
theorem dX12_over_14 : decode cX12_over 14 = .ok (.iaload, 1) := by decide +kernel
theorem dX12_over_15 : decode cX12_over 15 = .ok (.irem, 1) := by decide +kernel
theorem dX12_over_16 : decode cX12_over 16 = .ok (.iload_n 1, 1) := by decide +kernel
theorem dX12_over_17 : decode cX12_over 17 = .ok (.if_icmp .eq 9, 3) := by decide +kernel
theorem dX12_over_20 : decode cX12_over 20 = .ok (.iinc 3 1, 3) := by decide +kernel
theorem dX12_over_23 : decode cX12_over 23 = .ok (.goto (-17), 3) := by decide +kernel
theorem dX12_over_26 : decode cX12_over 26 = .ok (.iload_n 3, 1) := by decide +kernel
theorem dX12_over_27 : decode cX12_over 27 = .ok (.ireturn, 1) := by decide +kernel
theorem dX12_raised_0 : decode cX12_raised 0 = .ok (.iconst 1, 1) := by decide +kernel
theorem dX12_raised_1 : decode cX12_raised 1 = .ok (.istore_n 3, 1) := by decide +kernel
theorem dX12_raised_2 : decode cX12_raised 2 = .ok (.iconst 0, 1) := by decide +kernel
theorem dX12_raised_3 : decode cX12_raised 3 = .ok (.istore 4, 2) := by decide +kernel
theorem dX12_raised_5 : decode cX12_raised 5 = .ok (.iload 4, 2) := by decide +kernel
theorem dX12_raised_7 : decode cX12_raised 7 = .ok (.iload_n 2, 1) := by decide +kernel
theorem dX12_raised_8 : decode cX12_raised 8 = .ok (.if_icmp .ge 20, 3) := by decide +kernel
theorem dX12_raised_11 : decode cX12_raised 11 = .ok (.iload_n 3, 1) := by decide +kernel
theorem dX12_raised_12 : decode cX12_raised 12 = .ok (.iload_n 1, 1) := by decide +kernel
theorem dX12_raised_13 : decode cX12_raised 13 = .ok (.imul, 1) := by decide +kernel
theorem dX12_raised_14 : decode cX12_raised 14 = .ok (.aload_n 0, 1) := by decide +kernel
theorem dX12_raised_15 : decode cX12_raised 15 = .ok (.getfield 7, 3) := by decide +kernel
theorem dX12_raised_18 : decode cX12_raised 18 = .ok (.iconst 2, 1) := by decide +kernel
theorem dX12_raised_19 : decode cX12_raised 19 = .ok (.iaload, 1) := by decide +kernel
theorem dX12_raised_20 : decode cX12_raised 20 = .ok (.irem, 1) := by decide +kernel
theorem dX12_raised_21 : decode cX12_raised 21 = .ok (.istore_n 3, 1) := by decide +kernel
theorem dX12_raised_22 : decode cX12_raised 22 = .ok (.iinc 4 1, 3) := by decide +kernel
theorem dX12_raised_25 : decode cX12_raised 25 = .ok (.goto (-20), 3) := by decide +kernel
theorem dX12_raised_28 : decode cX12_raised 28 = .ok (.iload_n 3, 1) := by decide +kernel
theorem dX12_raised_29 : decode cX12_raised 29 = .ok (.ireturn, 1) := by decide +kernel
theorem dX12_isNumber_0 : decode cX12_isNumber 0 = .ok (.iload_n 1, 1) := by decide +kernel
theorem dX12_isNumber_1 : decode cX12_isNumber 1 = .ok (.iconst 0, 1) := by decide +kernel
theorem dX12_isNumber_2 : decode cX12_isNumber 2 = .ok (.aload_n 0, 1) := by decide +kernel
theorem dX12_isNumber_3 : decode cX12_isNumber 3 = .ok (.getfield 7, 3) := by decide +kernel
theorem dX12_isNumber_6 : decode cX12_isNumber 6 = .ok (.iconst 2, 1) := by decide +kernel
theorem dX12_isNumber_7 : decode cX12_isNumber 7 = .ok (.iaload, 1) := by decide +kernel
theorem dX12_isNumber_8 : decode cX12_isNumber 8 = .ok (.iconst 1, 1) := by decide +kernel
theorem dX12_isNumber_9 : decode cX12_isNumber 9 = .ok (.isub, 1) := by decide +kernel
theorem dX12_isNumber_10 : decode cX12_isNumber 10 = .ok (.invokestatic 124, 3) := by decide +kernel
theorem dX12_isNumber_13 : decode cX12_isNumber 13 = .ok (.ireturn, 1) := by decide +kernel
theorem dX12_states_0 : decode cX12_states 0 = .ok (.iconst 1, 1) := by decide +kernel
theorem dX12_states_1 : decode cX12_states 1 = .ok (.aload_n 0, 1) := by decide +kernel
theorem dX12_states_2 : decode cX12_states 2 = .ok (.getfield 7, 3) := by decide +kernel
theorem dX12_states_5 : decode cX12_states 5 = .ok (.iconst 0, 1) := by decide +kernel
theorem dX12_states_6 : decode cX12_states 6 = .ok (.iaload, 1) := by decide +kernel
theorem dX12_states_7 : decode cX12_states 7 = .ok (.ishl, 1) := by decide +kernel
theorem dX12_states_8 : decode cX12_states 8 = .ok (.ireturn, 1) := by decide +kernel
theorem dX12_isState_0 : decode cX12_isState 0 = .ok (.iload_n 1, 1) := by decide +kernel
theorem dX12_isState_1 : decode cX12_isState 1 = .ok (.iconst 0, 1) := by decide +kernel
theorem dX12_isState_2 : decode cX12_isState 2 = .ok (.aload_n 0, 1) := by decide +kernel
theorem dX12_isState_3 : decode cX12_isState 3 = .ok (.invokevirtual 128, 3) := by decide +kernel
theorem dX12_isState_6 : decode cX12_isState 6 = .ok (.iconst 1, 1) := by decide +kernel
theorem dX12_isState_7 : decode cX12_isState 7 = .ok (.isub, 1) := by decide +kernel
theorem dX12_isState_8 : decode cX12_isState 8 = .ok (.invokestatic 124, 3) := by decide +kernel
theorem dX12_isState_11 : decode cX12_isState 11 = .ok (.ireturn, 1) := by decide +kernel
theorem dX12_forgets_0 : decode cX12_forgets 0 = .ok (.aload_n 0, 1) := by decide +kernel
theorem dX12_forgets_1 : decode cX12_forgets 1 = .ok (.getfield 7, 3) := by decide +kernel
theorem dX12_forgets_4 : decode cX12_forgets 4 = .ok (.bipush 7, 2) := by decide +kernel
theorem dX12_forgets_6 : decode cX12_forgets 6 = .ok (.iconst 0, 1) := by decide +kernel
theorem dX12_forgets_7 : decode cX12_forgets 7 = .ok (.iastore, 1) := by decide +kernel
theorem dX12_forgets_8 : decode cX12_forgets 8 = .ok (.aload_n 0, 1) := by decide +kernel
theorem dX12_forgets_9 : decode cX12_forgets 9 = .ok (.getfield 7, 3) := by decide +kernel
theorem dX12_forgets_12 : decode cX12_forgets 12 = .ok (.bipush 8, 2) := by decide +kernel
theorem dX12_forgets_14 : decode cX12_forgets 14 = .ok (.iconst 0, 1) := by decide +kernel
theorem dX12_forgets_15 : decode cX12_forgets 15 = .ok (.iastore, 1) := by decide +kernel
theorem dX12_forgets_16 : decode cX12_forgets 16 = .ok (.return_, 1) := by decide +kernel
theorem dX12_chain_0 : decode cX12_chain 0 = .ok (.iload_n 1, 1) := by decide +kernel
theorem dX12_chain_1 : decode cX12_chain 1 = .ok (.iconst 2, 1) := by decide +kernel
theorem dX12_chain_2 : decode cX12_chain 2 = .ok (.bipush 7, 2) := by decide +kernel
theorem dX12_chain_4 : decode cX12_chain 4 = .ok (.invokestatic 124, 3) := by decide +kernel
theorem dX12_chain_7 : decode cX12_chain 7 = .ok (.ifCond .ne 5, 3) := by decide +kernel
theorem dX12_chain_10 : decode cX12_chain 10 = .ok (.iconst 0, 1) := by decide +kernel
theorem dX12_chain_11 : decode cX12_chain 11 = .ok (.ireturn, 1) := by decide +kernel
theorem dX12_chain_12 : decode cX12_chain 12 = .ok (.aload_n 0, 1) := by decide +kernel
theorem dX12_chain_13 : decode cX12_chain 13 = .ok (.getfield 7, 3) := by decide +kernel
theorem dX12_chain_16 : decode cX12_chain 16 = .ok (.iconst 0, 1) := by decide +kernel
theorem dX12_chain_17 : decode cX12_chain 17 = .ok (.iload_n 1, 1) := by decide +kernel
theorem dX12_chain_18 : decode cX12_chain 18 = .ok (.iastore, 1) := by decide +kernel
theorem dX12_chain_19 : decode cX12_chain 19 = .ok (.aload_n 0, 1) := by decide +kernel
theorem dX12_chain_20 : decode cX12_chain 20 = .ok (.getfield 7, 3) := by decide +kernel
theorem dX12_chain_23 : decode cX12_chain 23 = .ok (.iconst 1, 1) := by decide +kernel
theorem dX12_chain_24 : decode cX12_chain 24 = .ok (.iload_n 2, 1) := by decide +kernel
theorem dX12_chain_25 : decode cX12_chain 25 = .ok (.ifCond .eq 7, 3) := by decide +kernel
theorem dX12_chain_28 : decode cX12_chain 28 = .ok (.iconst 1, 1) := by decide +kernel
theorem dX12_chain_29 : decode cX12_chain 29 = .ok (.goto 4, 3) := by decide +kernel
theorem dX12_chain_32 : decode cX12_chain 32 = .ok (.iconst 0, 1) := by decide +kernel
theorem dX12_chain_33 : decode cX12_chain 33 = .ok (.iastore, 1) := by decide +kernel
theorem dX12_chain_34 : decode cX12_chain 34 = .ok (.aload_n 0, 1) := by decide +kernel
theorem dX12_chain_35 : decode cX12_chain 35 = .ok (.invokevirtual 132, 3) := by decide +kernel
theorem dX12_chain_38 : decode cX12_chain 38 = .ok (.iconst 0, 1) := by decide +kernel
theorem dX12_chain_39 : decode cX12_chain 39 = .ok (.istore_n 3, 1) := by decide +kernel
theorem dX12_chain_40 : decode cX12_chain 40 = .ok (.iload_n 3, 1) := by decide +kernel
theorem dX12_chain_41 : decode cX12_chain 41 = .ok (.sipush 128, 3) := by decide +kernel
theorem dX12_chain_44 : decode cX12_chain 44 = .ok (.if_icmp .ge 19, 3) := by decide +kernel
theorem dX12_chain_47 : decode cX12_chain 47 = .ok (.aload_n 0, 1) := by decide +kernel
theorem dX12_chain_48 : decode cX12_chain 48 = .ok (.getfield 7, 3) := by decide +kernel
theorem dX12_chain_51 : decode cX12_chain 51 = .ok (.bipush 10, 2) := by decide +kernel
theorem dX12_chain_53 : decode cX12_chain 53 = .ok (.iload_n 3, 1) := by decide +kernel
theorem dX12_chain_54 : decode cX12_chain 54 = .ok (.iadd, 1) := by decide +kernel
theorem dX12_chain_55 : decode cX12_chain 55 = .ok (.iconst 0, 1) := by decide +kernel
theorem dX12_chain_56 : decode cX12_chain 56 = .ok (.iastore, 1) := by decide +kernel
theorem dX12_chain_57 : decode cX12_chain 57 = .ok (.iinc 3 1, 3) := by decide +kernel
theorem dX12_chain_60 : decode cX12_chain 60 = .ok (.goto (-20), 3) := by decide +kernel
theorem dX12_chain_63 : decode cX12_chain 63 = .ok (.iconst 1, 1) := by decide +kernel
theorem dX12_chain_64 : decode cX12_chain 64 = .ok (.ireturn, 1) := by decide +kernel
theorem dX12_prime_0 : decode cX12_prime 0 = .ok (.iload_n 1, 1) := by decide +kernel
theorem dX12_prime_1 : decode cX12_prime 1 = .ok (.iconst 5, 1) := by decide +kernel
theorem dX12_prime_2 : decode cX12_prime 2 = .ok (.bipush 97, 2) := by decide +kernel
theorem dX12_prime_4 : decode cX12_prime 4 = .ok (.invokestatic 124, 3) := by decide +kernel
theorem dX12_prime_7 : decode cX12_prime 7 = .ok (.istore_n 2, 1) := by decide +kernel
theorem dX12_prime_8 : decode cX12_prime 8 = .ok (.iconst 2, 1) := by decide +kernel
theorem dX12_prime_9 : decode cX12_prime 9 = .ok (.istore_n 3, 1) := by decide +kernel
theorem dX12_prime_10 : decode cX12_prime 10 = .ok (.iload_n 3, 1) := by decide +kernel
theorem dX12_prime_11 : decode cX12_prime 11 = .ok (.iload_n 1, 1) := by decide +kernel
theorem dX12_prime_12 : decode cX12_prime 12 = .ok (.if_icmp .ge 25, 3) := by decide +kernel
theorem dX12_prime_15 : decode cX12_prime 15 = .ok (.iload_n 2, 1) := by decide +kernel
theorem dX12_prime_16 : decode cX12_prime 16 = .ok (.ifCond .eq 21, 3) := by decide +kernel
theorem dX12_prime_19 : decode cX12_prime 19 = .ok (.iload_n 1, 1) := by decide +kernel
theorem dX12_prime_20 : decode cX12_prime 20 = .ok (.iload_n 3, 1) := by decide +kernel
theorem dX12_prime_21 : decode cX12_prime 21 = .ok (.irem, 1) := by decide +kernel
theorem dX12_prime_22 : decode cX12_prime 22 = .ok (.ifCond .eq 7, 3) := by decide +kernel
theorem dX12_prime_25 : decode cX12_prime 25 = .ok (.iconst 1, 1) := by decide +kernel
theorem dX12_prime_26 : decode cX12_prime 26 = .ok (.goto 4, 3) := by decide +kernel
theorem dX12_prime_29 : decode cX12_prime 29 = .ok (.iconst 0, 1) := by decide +kernel
theorem dX12_prime_30 : decode cX12_prime 30 = .ok (.istore_n 2, 1) := by decide +kernel
theorem dX12_prime_31 : decode cX12_prime 31 = .ok (.iinc 3 1, 3) := by decide +kernel
theorem dX12_prime_34 : decode cX12_prime 34 = .ok (.goto (-24), 3) := by decide +kernel
theorem dX12_prime_37 : decode cX12_prime 37 = .ok (.iload_n 2, 1) := by decide +kernel
theorem dX12_prime_38 : decode cX12_prime 38 = .ok (.ifCond .ne 5, 3) := by decide +kernel
theorem dX12_prime_41 : decode cX12_prime 41 = .ok (.iconst 0, 1) := by decide +kernel
theorem dX12_prime_42 : decode cX12_prime 42 = .ok (.ireturn, 1) := by decide +kernel
theorem dX12_prime_43 : decode cX12_prime 43 = .ok (.aload_n 0, 1) := by decide +kernel
theorem dX12_prime_44 : decode cX12_prime 44 = .ok (.getfield 7, 3) := by decide +kernel
theorem dX12_prime_47 : decode cX12_prime 47 = .ok (.iconst 2, 1) := by decide +kernel
theorem dX12_prime_48 : decode cX12_prime 48 = .ok (.iload_n 1, 1) := by decide +kernel
theorem dX12_prime_49 : decode cX12_prime 49 = .ok (.iastore, 1) := by decide +kernel
theorem dX12_prime_50 : decode cX12_prime 50 = .ok (.aload_n 0, 1) := by decide +kernel
theorem dX12_prime_51 : decode cX12_prime 51 = .ok (.getfield 7, 3) := by decide +kernel
theorem dX12_prime_54 : decode cX12_prime 54 = .ok (.iconst 3, 1) := by decide +kernel
theorem dX12_prime_55 : decode cX12_prime 55 = .ok (.aload_n 0, 1) := by decide +kernel
theorem dX12_prime_56 : decode cX12_prime 56 = .ok (.getfield 7, 3) := by decide +kernel
theorem dX12_prime_59 : decode cX12_prime 59 = .ok (.iconst 3, 1) := by decide +kernel
theorem dX12_prime_60 : decode cX12_prime 60 = .ok (.iaload, 1) := by decide +kernel
theorem dX12_prime_61 : decode cX12_prime 61 = .ok (.iload_n 1, 1) := by decide +kernel
theorem dX12_prime_62 : decode cX12_prime 62 = .ok (.irem, 1) := by decide +kernel
theorem dX12_prime_63 : decode cX12_prime 63 = .ok (.ifCond .ne 7, 3) := by decide +kernel
theorem dX12_prime_66 : decode cX12_prime 66 = .ok (.iconst 1, 1) := by decide +kernel
theorem dX12_prime_67 : decode cX12_prime 67 = .ok (.goto 11, 3) := by decide +kernel
theorem dX12_prime_70 : decode cX12_prime 70 = .ok (.aload_n 0, 1) := by decide +kernel
theorem dX12_prime_71 : decode cX12_prime 71 = .ok (.getfield 7, 3) := by decide +kernel
theorem dX12_prime_74 : decode cX12_prime 74 = .ok (.iconst 3, 1) := by decide +kernel
theorem dX12_prime_75 : decode cX12_prime 75 = .ok (.iaload, 1) := by decide +kernel
theorem dX12_prime_76 : decode cX12_prime 76 = .ok (.iload_n 1, 1) := by decide +kernel
theorem dX12_prime_77 : decode cX12_prime 77 = .ok (.irem, 1) := by decide +kernel
theorem dX12_prime_78 : decode cX12_prime 78 = .ok (.iastore, 1) := by decide +kernel
theorem dX12_prime_79 : decode cX12_prime 79 = .ok (.aload_n 0, 1) := by decide +kernel
theorem dX12_prime_80 : decode cX12_prime 80 = .ok (.getfield 7, 3) := by decide +kernel
theorem dX12_prime_83 : decode cX12_prime 83 = .ok (.iconst 4, 1) := by decide +kernel
theorem dX12_prime_84 : decode cX12_prime 84 = .ok (.aload_n 0, 1) := by decide +kernel
theorem dX12_prime_85 : decode cX12_prime 85 = .ok (.getfield 7, 3) := by decide +kernel
theorem dX12_prime_88 : decode cX12_prime 88 = .ok (.iconst 4, 1) := by decide +kernel
theorem dX12_prime_89 : decode cX12_prime 89 = .ok (.iaload, 1) := by decide +kernel
theorem dX12_prime_90 : decode cX12_prime 90 = .ok (.iload_n 1, 1) := by decide +kernel
theorem dX12_prime_91 : decode cX12_prime 91 = .ok (.irem, 1) := by decide +kernel
theorem dX12_prime_92 : decode cX12_prime 92 = .ok (.iastore, 1) := by decide +kernel
theorem dX12_prime_93 : decode cX12_prime 93 = .ok (.bipush 10, 2) := by decide +kernel
theorem dX12_prime_95 : decode cX12_prime 95 = .ok (.istore_n 3, 1) := by decide +kernel
theorem dX12_prime_96 : decode cX12_prime 96 = .ok (.iload_n 3, 1) := by decide +kernel
theorem dX12_prime_97 : decode cX12_prime 97 = .ok (.sipush 2698, 3) := by decide +kernel
theorem dX12_prime_100 : decode cX12_prime 100 = .ok (.if_icmp .ge 23, 3) := by decide +kernel
theorem dX12_prime_103 : decode cX12_prime 103 = .ok (.aload_n 0, 1) := by decide +kernel
theorem dX12_prime_104 : decode cX12_prime 104 = .ok (.getfield 7, 3) := by decide +kernel
theorem dX12_prime_107 : decode cX12_prime 107 = .ok (.iload_n 3, 1) := by decide +kernel
theorem dX12_prime_108 : decode cX12_prime 108 = .ok (.aload_n 0, 1) := by decide +kernel
theorem dX12_prime_109 : decode cX12_prime 109 = .ok (.getfield 7, 3) := by decide +kernel
theorem dX12_prime_112 : decode cX12_prime 112 = .ok (.iload_n 3, 1) := by decide +kernel
theorem dX12_prime_113 : decode cX12_prime 113 = .ok (.iaload, 1) := by decide +kernel
theorem dX12_prime_114 : decode cX12_prime 114 = .ok (.iload_n 1, 1) := by decide +kernel
theorem dX12_prime_115 : decode cX12_prime 115 = .ok (.irem, 1) := by decide +kernel
theorem dX12_prime_116 : decode cX12_prime 116 = .ok (.iastore, 1) := by decide +kernel
theorem dX12_prime_117 : decode cX12_prime 117 = .ok (.iinc 3 1, 3) := by decide +kernel
theorem dX12_prime_120 : decode cX12_prime 120 = .ok (.goto (-24), 3) := by decide +kernel
theorem dX12_prime_123 : decode cX12_prime 123 = .ok (.iconst 1, 1) := by decide +kernel
theorem dX12_prime_124 : decode cX12_prime 124 = .ok (.ireturn, 1) := by decide +kernel
theorem dX12_numbers_0 : decode cX12_numbers 0 = .ok (.iload_n 1, 1) := by decide +kernel
theorem dX12_numbers_1 : decode cX12_numbers 1 = .ok (.iconst 1, 1) := by decide +kernel
theorem dX12_numbers_2 : decode cX12_numbers 2 = .ok (.aload_n 0, 1) := by decide +kernel
theorem dX12_numbers_3 : decode cX12_numbers 3 = .ok (.getfield 7, 3) := by decide +kernel
theorem dX12_numbers_6 : decode cX12_numbers 6 = .ok (.iconst 2, 1) := by decide +kernel
theorem dX12_numbers_7 : decode cX12_numbers 7 = .ok (.iaload, 1) := by decide +kernel
theorem dX12_numbers_8 : decode cX12_numbers 8 = .ok (.iconst 1, 1) := by decide +kernel
theorem dX12_numbers_9 : decode cX12_numbers 9 = .ok (.isub, 1) := by decide +kernel
theorem dX12_numbers_10 : decode cX12_numbers 10 = .ok (.invokestatic 124, 3) := by decide +kernel
theorem dX12_numbers_13 : decode cX12_numbers 13 = .ok (.ifCond .eq 11, 3) := by decide +kernel
theorem dX12_numbers_16 : decode cX12_numbers 16 = .ok (.aload_n 0, 1) := by decide +kernel
theorem dX12_numbers_17 : decode cX12_numbers 17 = .ok (.iload_n 2, 1) := by decide +kernel
theorem dX12_numbers_18 : decode cX12_numbers 18 = .ok (.invokevirtual 135, 3) := by decide +kernel
theorem dX12_numbers_21 : decode cX12_numbers 21 = .ok (.ifCond .ne 5, 3) := by decide +kernel
theorem dX12_numbers_24 : decode cX12_numbers 24 = .ok (.iconst 0, 1) := by decide +kernel
theorem dX12_numbers_25 : decode cX12_numbers 25 = .ok (.ireturn, 1) := by decide +kernel
theorem dX12_numbers_26 : decode cX12_numbers 26 = .ok (.aload_n 0, 1) := by decide +kernel
theorem dX12_numbers_27 : decode cX12_numbers 27 = .ok (.getfield 7, 3) := by decide +kernel
theorem dX12_numbers_30 : decode cX12_numbers 30 = .ok (.iconst 3, 1) := by decide +kernel
theorem dX12_numbers_31 : decode cX12_numbers 31 = .ok (.iload_n 1, 1) := by decide +kernel
theorem dX12_numbers_32 : decode cX12_numbers 32 = .ok (.iastore, 1) := by decide +kernel
theorem dX12_numbers_33 : decode cX12_numbers 33 = .ok (.aload_n 0, 1) := by decide +kernel
theorem dX12_numbers_34 : decode cX12_numbers 34 = .ok (.getfield 7, 3) := by decide +kernel
theorem dX12_numbers_37 : decode cX12_numbers 37 = .ok (.iconst 4, 1) := by decide +kernel
theorem dX12_numbers_38 : decode cX12_numbers 38 = .ok (.iload_n 2, 1) := by decide +kernel
theorem dX12_numbers_39 : decode cX12_numbers 39 = .ok (.iastore, 1) := by decide +kernel
theorem dX12_numbers_40 : decode cX12_numbers 40 = .ok (.iconst 1, 1) := by decide +kernel
theorem dX12_numbers_41 : decode cX12_numbers 41 = .ok (.ireturn, 1) := by decide +kernel
theorem dX12_put_0 : decode cX12_put 0 = .ok (.bipush 24, 2) := by decide +kernel
theorem dX12_put_2 : decode cX12_put 2 = .ok (.istore_n 2, 1) := by decide +kernel
theorem dX12_put_3 : decode cX12_put 3 = .ok (.iload_n 2, 1) := by decide +kernel
theorem dX12_put_4 : decode cX12_put 4 = .ok (.ifCond .lt 34, 3) := by decide +kernel
theorem dX12_put_7 : decode cX12_put 7 = .ok (.aload_n 0, 1) := by decide +kernel
theorem dX12_put_8 : decode cX12_put 8 = .ok (.getfield 16, 3) := by decide +kernel
theorem dX12_put_11 : decode cX12_put 11 = .ok (.aload_n 0, 1) := by decide +kernel
theorem dX12_put_12 : decode cX12_put 12 = .ok (.getfield 139, 3) := by decide +kernel
theorem dX12_put_15 : decode cX12_put 15 = .ok (.iload_n 1, 1) := by decide +kernel
theorem dX12_put_16 : decode cX12_put 16 = .ok (.iload_n 2, 1) := by decide +kernel
theorem dX12_put_17 : decode cX12_put 17 = .ok (.ishr, 1) := by decide +kernel
theorem dX12_put_18 : decode cX12_put 18 = .ok (.i2b, 1) := by decide +kernel
theorem dX12_put_19 : decode cX12_put 19 = .ok (.bastore, 1) := by decide +kernel
theorem dX12_put_20 : decode cX12_put 20 = .ok (.aload_n 0, 1) := by decide +kernel
theorem dX12_put_21 : decode cX12_put 21 = .ok (.dup, 1) := by decide +kernel
theorem dX12_put_22 : decode cX12_put 22 = .ok (.getfield 139, 3) := by decide +kernel
theorem dX12_put_25 : decode cX12_put 25 = .ok (.iconst 1, 1) := by decide +kernel
theorem dX12_put_26 : decode cX12_put 26 = .ok (.iadd, 1) := by decide +kernel
theorem dX12_put_27 : decode cX12_put 27 = .ok (.putfield 139, 3) := by decide +kernel
theorem dX12_put_30 : decode cX12_put 30 = .ok (.iload_n 2, 1) := by decide +kernel
theorem dX12_put_31 : decode cX12_put 31 = .ok (.bipush 8, 2) := by decide +kernel
theorem dX12_put_33 : decode cX12_put 33 = .ok (.isub, 1) := by decide +kernel
theorem dX12_put_34 : decode cX12_put 34 = .ok (.istore_n 2, 1) := by decide +kernel
theorem dX12_put_35 : decode cX12_put 35 = .ok (.goto (-32), 3) := by decide +kernel
theorem dX12_put_38 : decode cX12_put 38 = .ok (.return_, 1) := by decide +kernel
theorem dX12_feed_0 : decode cX12_feed 0 = .ok (.aload_n 0, 1) := by decide +kernel
theorem dX12_feed_1 : decode cX12_feed 1 = .ok (.getfield 139, 3) := by decide +kernel
theorem dX12_feed_4 : decode cX12_feed 4 = .ok (.bipush 20, 2) := by decide +kernel
theorem dX12_feed_6 : decode cX12_feed 6 = .ok (.iadd, 1) := by decide +kernel
theorem dX12_feed_7 : decode cX12_feed 7 = .ok (.sipush 300, 3) := by decide +kernel
theorem dX12_feed_10 : decode cX12_feed 10 = .ok (.if_icmp .le 5, 3) := by decide +kernel
theorem dX12_feed_13 : decode cX12_feed 13 = .ok (.iconst (-1), 1) := by decide +kernel
theorem dX12_feed_14 : decode cX12_feed 14 = .ok (.ireturn, 1) := by decide +kernel
theorem dX12_feed_15 : decode cX12_feed 15 = .ok (.aload_n 0, 1) := by decide +kernel
theorem dX12_feed_16 : decode cX12_feed 16 = .ok (.iload_n 1, 1) := by decide +kernel
theorem dX12_feed_17 : decode cX12_feed 17 = .ok (.invokevirtual 142, 3) := by decide +kernel
theorem dX12_feed_20 : decode cX12_feed 20 = .ok (.aload_n 0, 1) := by decide +kernel
theorem dX12_feed_21 : decode cX12_feed 21 = .ok (.iload_n 2, 1) := by decide +kernel
theorem dX12_feed_22 : decode cX12_feed 22 = .ok (.invokevirtual 142, 3) := by decide +kernel
theorem dX12_feed_25 : decode cX12_feed 25 = .ok (.aload_n 0, 1) := by decide +kernel
theorem dX12_feed_26 : decode cX12_feed 26 = .ok (.iload_n 3, 1) := by decide +kernel
theorem dX12_feed_27 : decode cX12_feed 27 = .ok (.invokevirtual 142, 3) := by decide +kernel
theorem dX12_feed_30 : decode cX12_feed 30 = .ok (.aload_n 0, 1) := by decide +kernel
theorem dX12_feed_31 : decode cX12_feed 31 = .ok (.iload 4, 2) := by decide +kernel
theorem dX12_feed_33 : decode cX12_feed 33 = .ok (.invokevirtual 142, 3) := by decide +kernel
theorem dX12_feed_36 : decode cX12_feed 36 = .ok (.aload_n 0, 1) := by decide +kernel
theorem dX12_feed_37 : decode cX12_feed 37 = .ok (.iload 5, 2) := by decide +kernel
theorem dX12_feed_39 : decode cX12_feed 39 = .ok (.invokevirtual 142, 3) := by decide +kernel
theorem dX12_feed_42 : decode cX12_feed 42 = .ok (.aload_n 0, 1) := by decide +kernel
theorem dX12_feed_43 : decode cX12_feed 43 = .ok (.getfield 139, 3) := by decide +kernel
theorem dX12_feed_46 : decode cX12_feed 46 = .ok (.ireturn, 1) := by decide +kernel
theorem dX12_end_0 : decode cX12_end 0 = .ok (.iload_n 1, 1) := by decide +kernel
theorem dX12_end_1 : decode cX12_end 1 = .ok (.iconst 0, 1) := by decide +kernel
theorem dX12_end_2 : decode cX12_end 2 = .ok (.aload_n 0, 1) := by decide +kernel
theorem dX12_end_3 : decode cX12_end 3 = .ok (.getfield 139, 3) := by decide +kernel
theorem dX12_end_6 : decode cX12_end 6 = .ok (.invokestatic 124, 3) := by decide +kernel
theorem dX12_end_9 : decode cX12_end 9 = .ok (.ifCond .ne 5, 3) := by decide +kernel
theorem dX12_end_12 : decode cX12_end 12 = .ok (.iconst (-1), 1) := by decide +kernel
theorem dX12_end_13 : decode cX12_end 13 = .ok (.ireturn, 1) := by decide +kernel
theorem dX12_end_14 : decode cX12_end 14 = .ok (.aload_n 0, 1) := by decide +kernel
theorem dX12_end_15 : decode cX12_end 15 = .ok (.iload_n 1, 1) := by decide +kernel
theorem dX12_end_16 : decode cX12_end 16 = .ok (.putfield 139, 3) := by decide +kernel
theorem dX12_end_19 : decode cX12_end 19 = .ok (.iload_n 1, 1) := by decide +kernel
theorem dX12_end_20 : decode cX12_end 20 = .ok (.ireturn, 1) := by decide +kernel
theorem dX12_isLetter_0 : decode cX12_isLetter 0 = .ok (.iload_n 0, 1) := by decide +kernel
theorem dX12_isLetter_1 : decode cX12_isLetter 1 = .ok (.bipush 97, 2) := by decide +kernel
theorem dX12_isLetter_3 : decode cX12_isLetter 3 = .ok (.bipush 122, 2) := by decide +kernel
theorem dX12_isLetter_5 : decode cX12_isLetter 5 = .ok (.invokestatic 124, 3) := by decide +kernel
theorem dX12_isLetter_8 : decode cX12_isLetter 8 = .ok (.ifCond .ne 14, 3) := by decide +kernel
theorem dX12_isLetter_11 : decode cX12_isLetter 11 = .ok (.iload_n 0, 1) := by decide +kernel
theorem dX12_isLetter_12 : decode cX12_isLetter 12 = .ok (.bipush 65, 2) := by decide +kernel
theorem dX12_isLetter_14 : decode cX12_isLetter 14 = .ok (.bipush 90, 2) := by decide +kernel
theorem dX12_isLetter_16 : decode cX12_isLetter 16 = .ok (.invokestatic 124, 3) := by decide +kernel
theorem dX12_isLetter_19 : decode cX12_isLetter 19 = .ok (.ifCond .eq 7, 3) := by decide +kernel
theorem dX12_isLetter_22 : decode cX12_isLetter 22 = .ok (.iconst 1, 1) := by decide +kernel
theorem dX12_isLetter_23 : decode cX12_isLetter 23 = .ok (.goto 4, 3) := by decide +kernel
theorem dX12_isLetter_26 : decode cX12_isLetter 26 = .ok (.iconst 0, 1) := by decide +kernel
theorem dX12_isLetter_27 : decode cX12_isLetter 27 = .ok (.ireturn, 1) := by decide +kernel
theorem dX12_wordOf_0 : decode cX12_wordOf 0 = .ok (.lload_n 0, 1) := by decide +kernel
theorem dX12_wordOf_1 : decode cX12_wordOf 1 = .ok (.ldc2_w 146, 3) := by decide +kernel
theorem dX12_wordOf_4 : decode cX12_wordOf 4 = .ok (.lcmp, 1) := by decide +kernel
theorem dX12_wordOf_5 : decode cX12_wordOf 5 = .ok (.ifCond .ne 5, 3) := by decide +kernel
theorem dX12_wordOf_8 : decode cX12_wordOf 8 = .ok (.iconst 0, 1) := by decide +kernel
theorem dX12_wordOf_9 : decode cX12_wordOf 9 = .ok (.ireturn, 1) := by decide +kernel
theorem dX12_wordOf_10 : decode cX12_wordOf 10 = .ok (.lload_n 0, 1) := by decide +kernel
theorem dX12_wordOf_11 : decode cX12_wordOf 11 = .ok (.ldc2_w 148, 3) := by decide +kernel
theorem dX12_wordOf_14 : decode cX12_wordOf 14 = .ok (.lcmp, 1) := by decide +kernel
theorem dX12_wordOf_15 : decode cX12_wordOf 15 = .ok (.ifCond .ne 5, 3) := by decide +kernel
theorem dX12_wordOf_18 : decode cX12_wordOf 18 = .ok (.iconst 1, 1) := by decide +kernel
theorem dX12_wordOf_19 : decode cX12_wordOf 19 = .ok (.ireturn, 1) := by decide +kernel
theorem dX12_wordOf_20 : decode cX12_wordOf 20 = .ok (.lload_n 0, 1) := by decide +kernel
theorem dX12_wordOf_21 : decode cX12_wordOf 21 = .ok (.ldc2_w 150, 3) := by decide +kernel
theorem dX12_wordOf_24 : decode cX12_wordOf 24 = .ok (.lcmp, 1) := by decide +kernel
theorem dX12_wordOf_25 : decode cX12_wordOf 25 = .ok (.ifCond .ne 5, 3) := by decide +kernel
theorem dX12_wordOf_28 : decode cX12_wordOf 28 = .ok (.iconst 2, 1) := by decide +kernel
theorem dX12_wordOf_29 : decode cX12_wordOf 29 = .ok (.ireturn, 1) := by decide +kernel
theorem dX12_wordOf_30 : decode cX12_wordOf 30 = .ok (.lload_n 0, 1) := by decide +kernel
theorem dX12_wordOf_31 : decode cX12_wordOf 31 = .ok (.ldc2_w 152, 3) := by decide +kernel
theorem dX12_wordOf_34 : decode cX12_wordOf 34 = .ok (.lcmp, 1) := by decide +kernel
theorem dX12_wordOf_35 : decode cX12_wordOf 35 = .ok (.ifCond .ne 5, 3) := by decide +kernel
theorem dX12_wordOf_38 : decode cX12_wordOf 38 = .ok (.iconst 3, 1) := by decide +kernel
theorem dX12_wordOf_39 : decode cX12_wordOf 39 = .ok (.ireturn, 1) := by decide +kernel
theorem dX12_wordOf_40 : decode cX12_wordOf 40 = .ok (.lload_n 0, 1) := by decide +kernel
theorem dX12_wordOf_41 : decode cX12_wordOf 41 = .ok (.ldc2_w 154, 3) := by decide +kernel
theorem dX12_wordOf_44 : decode cX12_wordOf 44 = .ok (.lcmp, 1) := by decide +kernel
theorem dX12_wordOf_45 : decode cX12_wordOf 45 = .ok (.ifCond .ne 5, 3) := by decide +kernel
theorem dX12_wordOf_48 : decode cX12_wordOf 48 = .ok (.iconst 4, 1) := by decide +kernel
theorem dX12_wordOf_49 : decode cX12_wordOf 49 = .ok (.ireturn, 1) := by decide +kernel
theorem dX12_wordOf_50 : decode cX12_wordOf 50 = .ok (.lload_n 0, 1) := by decide +kernel
theorem dX12_wordOf_51 : decode cX12_wordOf 51 = .ok (.ldc2_w 156, 3) := by decide +kernel
theorem dX12_wordOf_54 : decode cX12_wordOf 54 = .ok (.lcmp, 1) := by decide +kernel
theorem dX12_wordOf_55 : decode cX12_wordOf 55 = .ok (.ifCond .ne 5, 3) := by decide +kernel
theorem dX12_wordOf_58 : decode cX12_wordOf 58 = .ok (.iconst 5, 1) := by decide +kernel
theorem dX12_wordOf_59 : decode cX12_wordOf 59 = .ok (.ireturn, 1) := by decide +kernel
theorem dX12_wordOf_60 : decode cX12_wordOf 60 = .ok (.lload_n 0, 1) := by decide +kernel
theorem dX12_wordOf_61 : decode cX12_wordOf 61 = .ok (.ldc2_w 158, 3) := by decide +kernel
theorem dX12_wordOf_64 : decode cX12_wordOf 64 = .ok (.lcmp, 1) := by decide +kernel
theorem dX12_wordOf_65 : decode cX12_wordOf 65 = .ok (.ifCond .ne 6, 3) := by decide +kernel
theorem dX12_wordOf_68 : decode cX12_wordOf 68 = .ok (.bipush 6, 2) := by decide +kernel
theorem dX12_wordOf_70 : decode cX12_wordOf 70 = .ok (.ireturn, 1) := by decide +kernel
theorem dX12_wordOf_71 : decode cX12_wordOf 71 = .ok (.lload_n 0, 1) := by decide +kernel
theorem dX12_wordOf_72 : decode cX12_wordOf 72 = .ok (.ldc2_w 160, 3) := by decide +kernel
theorem dX12_wordOf_75 : decode cX12_wordOf 75 = .ok (.lcmp, 1) := by decide +kernel
theorem dX12_wordOf_76 : decode cX12_wordOf 76 = .ok (.ifCond .ne 6, 3) := by decide +kernel
theorem dX12_wordOf_79 : decode cX12_wordOf 79 = .ok (.bipush 7, 2) := by decide +kernel
theorem dX12_wordOf_81 : decode cX12_wordOf 81 = .ok (.ireturn, 1) := by decide +kernel
theorem dX12_wordOf_82 : decode cX12_wordOf 82 = .ok (.lload_n 0, 1) := by decide +kernel
theorem dX12_wordOf_83 : decode cX12_wordOf 83 = .ok (.ldc2_w 162, 3) := by decide +kernel
theorem dX12_wordOf_86 : decode cX12_wordOf 86 = .ok (.lcmp, 1) := by decide +kernel
theorem dX12_wordOf_87 : decode cX12_wordOf 87 = .ok (.ifCond .ne 6, 3) := by decide +kernel
theorem dX12_wordOf_90 : decode cX12_wordOf 90 = .ok (.bipush 8, 2) := by decide +kernel
theorem dX12_wordOf_92 : decode cX12_wordOf 92 = .ok (.ireturn, 1) := by decide +kernel
theorem dX12_wordOf_93 : decode cX12_wordOf 93 = .ok (.lload_n 0, 1) := by decide +kernel
theorem dX12_wordOf_94 : decode cX12_wordOf 94 = .ok (.ldc2_w 164, 3) := by decide +kernel
theorem dX12_wordOf_97 : decode cX12_wordOf 97 = .ok (.lcmp, 1) := by decide +kernel
theorem dX12_wordOf_98 : decode cX12_wordOf 98 = .ok (.ifCond .ne 6, 3) := by decide +kernel
theorem dX12_wordOf_101 : decode cX12_wordOf 101 = .ok (.bipush 9, 2) := by decide +kernel
theorem dX12_wordOf_103 : decode cX12_wordOf 103 = .ok (.ireturn, 1) := by decide +kernel
theorem dX12_wordOf_104 : decode cX12_wordOf 104 = .ok (.iconst (-1), 1) := by decide +kernel
theorem dX12_wordOf_105 : decode cX12_wordOf 105 = .ok (.ireturn, 1) := by decide +kernel
theorem dX12_next_0 : decode cX12_next 0 = .ok (.aload_n 0, 1) := by decide +kernel
theorem dX12_next_1 : decode cX12_next 1 = .ok (.getfield 166, 3) := by decide +kernel
theorem dX12_next_4 : decode cX12_next 4 = .ok (.aload_n 0, 1) := by decide +kernel
theorem dX12_next_5 : decode cX12_next 5 = .ok (.getfield 169, 3) := by decide +kernel
theorem dX12_next_8 : decode cX12_next 8 = .ok (.if_icmp .ge 44, 3) := by decide +kernel
theorem dX12_next_11 : decode cX12_next 11 = .ok (.aload_n 0, 1) := by decide +kernel
theorem dX12_next_12 : decode cX12_next 12 = .ok (.getfield 16, 3) := by decide +kernel
theorem dX12_next_15 : decode cX12_next 15 = .ok (.aload_n 0, 1) := by decide +kernel
theorem dX12_next_16 : decode cX12_next 16 = .ok (.getfield 166, 3) := by decide +kernel
theorem dX12_next_19 : decode cX12_next 19 = .ok (.baload, 1) := by decide +kernel
theorem dX12_next_20 : decode cX12_next 20 = .ok (.bipush 32, 2) := by decide +kernel
theorem dX12_next_22 : decode cX12_next 22 = .ok (.if_icmp .eq 17, 3) := by decide +kernel
theorem dX12_next_25 : decode cX12_next 25 = .ok (.aload_n 0, 1) := by decide +kernel
theorem dX12_next_26 : decode cX12_next 26 = .ok (.getfield 16, 3) := by decide +kernel
theorem dX12_next_29 : decode cX12_next 29 = .ok (.aload_n 0, 1) := by decide +kernel
theorem dX12_next_30 : decode cX12_next 30 = .ok (.getfield 166, 3) := by decide +kernel
theorem dX12_next_33 : decode cX12_next 33 = .ok (.baload, 1) := by decide +kernel
theorem dX12_next_34 : decode cX12_next 34 = .ok (.bipush 10, 2) := by decide +kernel
theorem dX12_next_36 : decode cX12_next 36 = .ok (.if_icmp .ne 16, 3) := by decide +kernel
theorem dX12_next_39 : decode cX12_next 39 = .ok (.aload_n 0, 1) := by decide +kernel
theorem dX12_next_40 : decode cX12_next 40 = .ok (.dup, 1) := by decide +kernel
theorem dX12_next_41 : decode cX12_next 41 = .ok (.getfield 166, 3) := by decide +kernel
theorem dX12_next_44 : decode cX12_next 44 = .ok (.iconst 1, 1) := by decide +kernel
theorem dX12_next_45 : decode cX12_next 45 = .ok (.iadd, 1) := by decide +kernel
theorem dX12_next_46 : decode cX12_next 46 = .ok (.putfield 166, 3) := by decide +kernel
theorem dX12_next_49 : decode cX12_next 49 = .ok (.goto (-49), 3) := by decide +kernel
theorem dX12_next_52 : decode cX12_next 52 = .ok (.aload_n 0, 1) := by decide +kernel
theorem dX12_next_53 : decode cX12_next 53 = .ok (.aload_n 0, 1) := by decide +kernel
theorem dX12_next_54 : decode cX12_next 54 = .ok (.getfield 166, 3) := by decide +kernel
theorem dX12_next_57 : decode cX12_next 57 = .ok (.putfield 172, 3) := by decide +kernel
theorem dX12_next_60 : decode cX12_next 60 = .ok (.aload_n 0, 1) := by decide +kernel
theorem dX12_next_61 : decode cX12_next 61 = .ok (.getfield 166, 3) := by decide +kernel
theorem dX12_next_64 : decode cX12_next 64 = .ok (.aload_n 0, 1) := by decide +kernel
theorem dX12_next_65 : decode cX12_next 65 = .ok (.getfield 169, 3) := by decide +kernel
theorem dX12_next_68 : decode cX12_next 68 = .ok (.if_icmp .ne 9, 3) := by decide +kernel
theorem dX12_next_71 : decode cX12_next 71 = .ok (.aload_n 0, 1) := by decide +kernel
theorem dX12_next_72 : decode cX12_next 72 = .ok (.iconst 0, 1) := by decide +kernel
theorem dX12_next_73 : decode cX12_next 73 = .ok (.putfield 175, 3) := by decide +kernel
theorem dX12_next_76 : decode cX12_next 76 = .ok (.return_, 1) := by decide +kernel
theorem dX12_next_77 : decode cX12_next 77 = .ok (.aload_n 0, 1) := by decide +kernel
theorem dX12_next_78 : decode cX12_next 78 = .ok (.getfield 16, 3) := by decide +kernel
theorem dX12_next_81 : decode cX12_next 81 = .ok (.aload_n 0, 1) := by decide +kernel
theorem dX12_next_82 : decode cX12_next 82 = .ok (.getfield 166, 3) := by decide +kernel
theorem dX12_next_85 : decode cX12_next 85 = .ok (.baload, 1) := by decide +kernel
theorem dX12_next_86 : decode cX12_next 86 = .ok (.istore_n 1, 1) := by decide +kernel
theorem dX12_next_87 : decode cX12_next 87 = .ok (.iload_n 1, 1) := by decide +kernel
theorem dX12_next_88 : decode cX12_next 88 = .ok (.invokestatic 178, 3) := by decide +kernel
theorem dX12_next_91 : decode cX12_next 91 = .ok (.ifCond .eq 120, 3) := by decide +kernel
theorem dX12_next_94 : decode cX12_next 94 = .ok (.lconst 0, 1) := by decide +kernel
theorem dX12_next_95 : decode cX12_next 95 = .ok (.lstore_n 2, 1) := by decide +kernel
theorem dX12_next_96 : decode cX12_next 96 = .ok (.iconst 0, 1) := by decide +kernel
theorem dX12_next_97 : decode cX12_next 97 = .ok (.istore 4, 2) := by decide +kernel
theorem dX12_next_99 : decode cX12_next 99 = .ok (.aload_n 0, 1) := by decide +kernel
theorem dX12_next_100 : decode cX12_next 100 = .ok (.getfield 166, 3) := by decide +kernel
theorem dX12_next_103 : decode cX12_next 103 = .ok (.aload_n 0, 1) := by decide +kernel
theorem dX12_next_104 : decode cX12_next 104 = .ok (.getfield 169, 3) := by decide +kernel
theorem dX12_next_107 : decode cX12_next 107 = .ok (.if_icmp .ge 66, 3) := by decide +kernel
theorem dX12_next_110 : decode cX12_next 110 = .ok (.aload_n 0, 1) := by decide +kernel
theorem dX12_next_111 : decode cX12_next 111 = .ok (.getfield 16, 3) := by decide +kernel
theorem dX12_next_114 : decode cX12_next 114 = .ok (.aload_n 0, 1) := by decide +kernel
theorem dX12_next_115 : decode cX12_next 115 = .ok (.getfield 166, 3) := by decide +kernel
theorem dX12_next_118 : decode cX12_next 118 = .ok (.baload, 1) := by decide +kernel
theorem dX12_next_119 : decode cX12_next 119 = .ok (.invokestatic 178, 3) := by decide +kernel
theorem dX12_next_122 : decode cX12_next 122 = .ok (.ifCond .eq 51, 3) := by decide +kernel
theorem dX12_next_125 : decode cX12_next 125 = .ok (.iload 4, 2) := by decide +kernel
theorem dX12_next_127 : decode cX12_next 127 = .ok (.bipush 8, 2) := by decide +kernel
theorem dX12_next_129 : decode cX12_next 129 = .ok (.if_icmp .ge 26, 3) := by decide +kernel
theorem dX12_next_132 : decode cX12_next 132 = .ok (.ldc2_w 181, 3) := by decide +kernel
theorem dX12_next_135 : decode cX12_next 135 = .ok (.lload_n 2, 1) := by decide +kernel
theorem dX12_next_136 : decode cX12_next 136 = .ok (.lmul, 1) := by decide +kernel
theorem dX12_next_137 : decode cX12_next 137 = .ok (.aload_n 0, 1) := by decide +kernel
theorem dX12_next_138 : decode cX12_next 138 = .ok (.getfield 16, 3) := by decide +kernel
theorem dX12_next_141 : decode cX12_next 141 = .ok (.aload_n 0, 1) := by decide +kernel
theorem dX12_next_142 : decode cX12_next 142 = .ok (.getfield 166, 3) := by decide +kernel
theorem dX12_next_145 : decode cX12_next 145 = .ok (.baload, 1) := by decide +kernel
theorem dX12_next_146 : decode cX12_next 146 = .ok (.i2l, 1) := by decide +kernel
theorem dX12_next_147 : decode cX12_next 147 = .ok (.ladd, 1) := by decide +kernel
theorem dX12_next_148 : decode cX12_next 148 = .ok (.ldc2_w 181, 3) := by decide +kernel
theorem dX12_next_151 : decode cX12_next 151 = .ok (.lsub, 1) := by decide +kernel
theorem dX12_next_152 : decode cX12_next 152 = .ok (.goto 4, 3) := by decide +kernel
theorem dX12_next_155 : decode cX12_next 155 = .ok (.lload_n 2, 1) := by decide +kernel
theorem dX12_next_156 : decode cX12_next 156 = .ok (.lstore_n 2, 1) := by decide +kernel
theorem dX12_next_157 : decode cX12_next 157 = .ok (.iinc 4 1, 3) := by decide +kernel
theorem dX12_next_160 : decode cX12_next 160 = .ok (.aload_n 0, 1) := by decide +kernel
theorem dX12_next_161 : decode cX12_next 161 = .ok (.dup, 1) := by decide +kernel
theorem dX12_next_162 : decode cX12_next 162 = .ok (.getfield 166, 3) := by decide +kernel
theorem dX12_next_165 : decode cX12_next 165 = .ok (.iconst 1, 1) := by decide +kernel
theorem dX12_next_166 : decode cX12_next 166 = .ok (.iadd, 1) := by decide +kernel
theorem dX12_next_167 : decode cX12_next 167 = .ok (.putfield 166, 3) := by decide +kernel
theorem dX12_next_170 : decode cX12_next 170 = .ok (.goto (-71), 3) := by decide +kernel
theorem dX12_next_173 : decode cX12_next 173 = .ok (.aload_n 0, 1) := by decide +kernel
theorem dX12_next_174 : decode cX12_next 174 = .ok (.iload 4, 2) := by decide +kernel
theorem dX12_next_176 : decode cX12_next 176 = .ok (.bipush 7, 2) := by decide +kernel
theorem dX12_next_178 : decode cX12_next 178 = .ok (.if_icmp .le 7, 3) := by decide +kernel
theorem dX12_next_181 : decode cX12_next 181 = .ok (.iconst (-1), 1) := by decide +kernel
theorem dX12_next_182 : decode cX12_next 182 = .ok (.goto 7, 3) := by decide +kernel
theorem dX12_next_185 : decode cX12_next 185 = .ok (.lload_n 2, 1) := by decide +kernel
theorem dX12_next_186 : decode cX12_next 186 = .ok (.invokestatic 183, 3) := by decide +kernel
theorem dX12_next_189 : decode cX12_next 189 = .ok (.putfield 187, 3) := by decide +kernel
theorem dX12_next_192 : decode cX12_next 192 = .ok (.aload_n 0, 1) := by decide +kernel
theorem dX12_next_193 : decode cX12_next 193 = .ok (.aload_n 0, 1) := by decide +kernel
theorem dX12_next_194 : decode cX12_next 194 = .ok (.getfield 187, 3) := by decide +kernel
theorem dX12_next_197 : decode cX12_next 197 = .ok (.ifCond .ge 7, 3) := by decide +kernel
theorem dX12_next_200 : decode cX12_next 200 = .ok (.iconst 4, 1) := by decide +kernel
theorem dX12_next_201 : decode cX12_next 201 = .ok (.goto 4, 3) := by decide +kernel
theorem dX12_next_204 : decode cX12_next 204 = .ok (.iconst 1, 1) := by decide +kernel
theorem dX12_next_205 : decode cX12_next 205 = .ok (.putfield 175, 3) := by decide +kernel
theorem dX12_next_208 : decode cX12_next 208 = .ok (.goto 231, 3) := by decide +kernel
theorem dX12_next_211 : decode cX12_next 211 = .ok (.iload_n 1, 1) := by decide +kernel
theorem dX12_next_212 : decode cX12_next 212 = .ok (.bipush 48, 2) := by decide +kernel
theorem dX12_next_214 : decode cX12_next 214 = .ok (.bipush 57, 2) := by decide +kernel
theorem dX12_next_216 : decode cX12_next 216 = .ok (.invokestatic 124, 3) := by decide +kernel
theorem dX12_next_219 : decode cX12_next 219 = .ok (.ifCond .eq 96, 3) := by decide +kernel
theorem dX12_next_222 : decode cX12_next 222 = .ok (.aload_n 0, 1) := by decide +kernel
theorem dX12_next_223 : decode cX12_next 223 = .ok (.iconst 2, 1) := by decide +kernel
theorem dX12_next_224 : decode cX12_next 224 = .ok (.putfield 175, 3) := by decide +kernel
theorem dX12_next_227 : decode cX12_next 227 = .ok (.aload_n 0, 1) := by decide +kernel
theorem dX12_next_228 : decode cX12_next 228 = .ok (.iconst 0, 1) := by decide +kernel
theorem dX12_next_229 : decode cX12_next 229 = .ok (.putfield 187, 3) := by decide +kernel
theorem dX12_next_232 : decode cX12_next 232 = .ok (.aload_n 0, 1) := by decide +kernel
theorem dX12_next_233 : decode cX12_next 233 = .ok (.getfield 166, 3) := by decide +kernel
theorem dX12_next_236 : decode cX12_next 236 = .ok (.aload_n 0, 1) := by decide +kernel
theorem dX12_next_237 : decode cX12_next 237 = .ok (.getfield 169, 3) := by decide +kernel
theorem dX12_next_240 : decode cX12_next 240 = .ok (.if_icmp .ge 199, 3) := by decide +kernel
theorem dX12_next_243 : decode cX12_next 243 = .ok (.aload_n 0, 1) := by decide +kernel
theorem dX12_next_244 : decode cX12_next 244 = .ok (.getfield 16, 3) := by decide +kernel
theorem dX12_next_247 : decode cX12_next 247 = .ok (.aload_n 0, 1) := by decide +kernel
theorem dX12_next_248 : decode cX12_next 248 = .ok (.getfield 166, 3) := by decide +kernel
theorem dX12_next_251 : decode cX12_next 251 = .ok (.baload, 1) := by decide +kernel
theorem dX12_next_252 : decode cX12_next 252 = .ok (.bipush 48, 2) := by decide +kernel
theorem dX12_next_254 : decode cX12_next 254 = .ok (.bipush 57, 2) := by decide +kernel
theorem dX12_next_256 : decode cX12_next 256 = .ok (.invokestatic 124, 3) := by decide +kernel
theorem dX12_next_259 : decode cX12_next 259 = .ok (.ifCond .eq 180, 3) := by decide +kernel
theorem dX12_next_262 : decode cX12_next 262 = .ok (.aload_n 0, 1) := by decide +kernel
theorem dX12_next_263 : decode cX12_next 263 = .ok (.aload_n 0, 1) := by decide +kernel
theorem dX12_next_264 : decode cX12_next 264 = .ok (.getfield 187, 3) := by decide +kernel
theorem dX12_next_267 : decode cX12_next 267 = .ok (.ldc 190, 2) := by decide +kernel
theorem dX12_next_269 : decode cX12_next 269 = .ok (.if_icmp .le 10, 3) := by decide +kernel
theorem dX12_next_272 : decode cX12_next 272 = .ok (.aload_n 0, 1) := by decide +kernel
theorem dX12_next_273 : decode cX12_next 273 = .ok (.getfield 187, 3) := by decide +kernel
theorem dX12_next_276 : decode cX12_next 276 = .ok (.goto 23, 3) := by decide +kernel
theorem dX12_next_279 : decode cX12_next 279 = .ok (.bipush 10, 2) := by decide +kernel
theorem dX12_next_281 : decode cX12_next 281 = .ok (.aload_n 0, 1) := by decide +kernel
theorem dX12_next_282 : decode cX12_next 282 = .ok (.getfield 187, 3) := by decide +kernel
theorem dX12_next_285 : decode cX12_next 285 = .ok (.imul, 1) := by decide +kernel
theorem dX12_next_286 : decode cX12_next 286 = .ok (.aload_n 0, 1) := by decide +kernel
theorem dX12_next_287 : decode cX12_next 287 = .ok (.getfield 16, 3) := by decide +kernel
theorem dX12_next_290 : decode cX12_next 290 = .ok (.aload_n 0, 1) := by decide +kernel
theorem dX12_next_291 : decode cX12_next 291 = .ok (.getfield 166, 3) := by decide +kernel
theorem dX12_next_294 : decode cX12_next 294 = .ok (.baload, 1) := by decide +kernel
theorem dX12_next_295 : decode cX12_next 295 = .ok (.iadd, 1) := by decide +kernel
theorem dX12_next_296 : decode cX12_next 296 = .ok (.bipush 48, 2) := by decide +kernel
theorem dX12_next_298 : decode cX12_next 298 = .ok (.isub, 1) := by decide +kernel
theorem dX12_next_299 : decode cX12_next 299 = .ok (.putfield 187, 3) := by decide +kernel
theorem dX12_next_302 : decode cX12_next 302 = .ok (.aload_n 0, 1) := by decide +kernel
theorem dX12_next_303 : decode cX12_next 303 = .ok (.dup, 1) := by decide +kernel
theorem dX12_next_304 : decode cX12_next 304 = .ok (.getfield 166, 3) := by decide +kernel
theorem dX12_next_307 : decode cX12_next 307 = .ok (.iconst 1, 1) := by decide +kernel
theorem dX12_next_308 : decode cX12_next 308 = .ok (.iadd, 1) := by decide +kernel
theorem dX12_next_309 : decode cX12_next 309 = .ok (.putfield 166, 3) := by decide +kernel
theorem dX12_next_312 : decode cX12_next 312 = .ok (.goto (-80), 3) := by decide +kernel
theorem dX12_next_315 : decode cX12_next 315 = .ok (.aload_n 0, 1) := by decide +kernel
theorem dX12_next_316 : decode cX12_next 316 = .ok (.dup, 1) := by decide +kernel
theorem dX12_next_317 : decode cX12_next 317 = .ok (.getfield 166, 3) := by decide +kernel
theorem dX12_next_320 : decode cX12_next 320 = .ok (.iconst 1, 1) := by decide +kernel
theorem dX12_next_321 : decode cX12_next 321 = .ok (.iadd, 1) := by decide +kernel
theorem dX12_next_322 : decode cX12_next 322 = .ok (.putfield 166, 3) := by decide +kernel
theorem dX12_next_325 : decode cX12_next 325 = .ok (.aload_n 0, 1) := by decide +kernel
theorem dX12_next_326 : decode cX12_next 326 = .ok (.iload_n 1, 1) := by decide +kernel
theorem dX12_next_327 : decode cX12_next 327 = .ok (.putfield 187, 3) := by decide +kernel
theorem dX12_next_330 : decode cX12_next 330 = .ok (.aload_n 0, 1) := by decide +kernel
theorem dX12_next_331 : decode cX12_next 331 = .ok (.iload_n 1, 1) := by decide +kernel
theorem dX12_next_332 : decode cX12_next 332 = .ok (.bipush 59, 2) := by decide +kernel
theorem dX12_next_334 : decode cX12_next 334 = .ok (.bipush 62, 2) := by decide +kernel
theorem dX12_next_336 : decode cX12_next 336 = .ok (.invokestatic 124, 3) := by decide +kernel
theorem dX12_next_339 : decode cX12_next 339 = .ok (.ifCond .ne 26, 3) := by decide +kernel
theorem dX12_next_342 : decode cX12_next 342 = .ok (.iload_n 1, 1) := by decide +kernel
theorem dX12_next_343 : decode cX12_next 343 = .ok (.bipush 40, 2) := by decide +kernel
theorem dX12_next_345 : decode cX12_next 345 = .ok (.bipush 45, 2) := by decide +kernel
theorem dX12_next_347 : decode cX12_next 347 = .ok (.invokestatic 124, 3) := by decide +kernel
theorem dX12_next_350 : decode cX12_next 350 = .ok (.ifCond .ne 15, 3) := by decide +kernel
theorem dX12_next_353 : decode cX12_next 353 = .ok (.iload_n 1, 1) := by decide +kernel
theorem dX12_next_354 : decode cX12_next 354 = .ok (.bipush 47, 2) := by decide +kernel
theorem dX12_next_356 : decode cX12_next 356 = .ok (.if_icmp .eq 9, 3) := by decide +kernel
theorem dX12_next_359 : decode cX12_next 359 = .ok (.iload_n 1, 1) := by decide +kernel
theorem dX12_next_360 : decode cX12_next 360 = .ok (.bipush 35, 2) := by decide +kernel
theorem dX12_next_362 : decode cX12_next 362 = .ok (.if_icmp .ne 7, 3) := by decide +kernel
theorem dX12_next_365 : decode cX12_next 365 = .ok (.iconst 3, 1) := by decide +kernel
theorem dX12_next_366 : decode cX12_next 366 = .ok (.goto 4, 3) := by decide +kernel
theorem dX12_next_369 : decode cX12_next 369 = .ok (.iconst 4, 1) := by decide +kernel
theorem dX12_next_370 : decode cX12_next 370 = .ok (.putfield 175, 3) := by decide +kernel
theorem dX12_next_373 : decode cX12_next 373 = .ok (.iload_n 1, 1) := by decide +kernel
theorem dX12_next_374 : decode cX12_next 374 = .ok (.bipush 60, 2) := by decide +kernel
theorem dX12_next_376 : decode cX12_next 376 = .ok (.if_icmp .eq 9, 3) := by decide +kernel
theorem dX12_next_379 : decode cX12_next 379 = .ok (.iload_n 1, 1) := by decide +kernel
theorem dX12_next_380 : decode cX12_next 380 = .ok (.bipush 62, 2) := by decide +kernel
theorem dX12_next_382 : decode cX12_next 382 = .ok (.if_icmp .ne 57, 3) := by decide +kernel
theorem dX12_next_385 : decode cX12_next 385 = .ok (.aload_n 0, 1) := by decide +kernel
theorem dX12_next_386 : decode cX12_next 386 = .ok (.getfield 166, 3) := by decide +kernel
theorem dX12_next_389 : decode cX12_next 389 = .ok (.aload_n 0, 1) := by decide +kernel
theorem dX12_next_390 : decode cX12_next 390 = .ok (.getfield 169, 3) := by decide +kernel
theorem dX12_next_393 : decode cX12_next 393 = .ok (.if_icmp .ge 46, 3) := by decide +kernel
theorem dX12_next_396 : decode cX12_next 396 = .ok (.aload_n 0, 1) := by decide +kernel
theorem dX12_next_397 : decode cX12_next 397 = .ok (.getfield 16, 3) := by decide +kernel
theorem dX12_next_400 : decode cX12_next 400 = .ok (.aload_n 0, 1) := by decide +kernel
theorem dX12_next_401 : decode cX12_next 401 = .ok (.getfield 166, 3) := by decide +kernel
theorem dX12_next_404 : decode cX12_next 404 = .ok (.baload, 1) := by decide +kernel
theorem dX12_next_405 : decode cX12_next 405 = .ok (.bipush 61, 2) := by decide +kernel
theorem dX12_next_407 : decode cX12_next 407 = .ok (.if_icmp .ne 32, 3) := by decide +kernel
theorem dX12_next_410 : decode cX12_next 410 = .ok (.aload_n 0, 1) := by decide +kernel
theorem dX12_next_411 : decode cX12_next 411 = .ok (.iload_n 1, 1) := by decide +kernel
theorem dX12_next_412 : decode cX12_next 412 = .ok (.bipush 60, 2) := by decide +kernel
theorem dX12_next_414 : decode cX12_next 414 = .ok (.if_icmp .ne 9, 3) := by decide +kernel
theorem dX12_next_417 : decode cX12_next 417 = .ok (.sipush 300, 3) := by decide +kernel
theorem dX12_next_420 : decode cX12_next 420 = .ok (.goto 6, 3) := by decide +kernel
theorem dX12_next_423 : decode cX12_next 423 = .ok (.sipush 301, 3) := by decide +kernel
theorem dX12_next_426 : decode cX12_next 426 = .ok (.putfield 187, 3) := by decide +kernel
theorem dX12_next_429 : decode cX12_next 429 = .ok (.aload_n 0, 1) := by decide +kernel
theorem dX12_next_430 : decode cX12_next 430 = .ok (.dup, 1) := by decide +kernel
theorem dX12_next_431 : decode cX12_next 431 = .ok (.getfield 166, 3) := by decide +kernel
theorem dX12_next_434 : decode cX12_next 434 = .ok (.iconst 1, 1) := by decide +kernel
theorem dX12_next_435 : decode cX12_next 435 = .ok (.iadd, 1) := by decide +kernel
theorem dX12_next_436 : decode cX12_next 436 = .ok (.putfield 166, 3) := by decide +kernel
theorem dX12_next_439 : decode cX12_next 439 = .ok (.return_, 1) := by decide +kernel
theorem dX12_isSign_0 : decode cX12_isSign 0 = .ok (.aload_n 0, 1) := by decide +kernel
theorem dX12_isSign_1 : decode cX12_isSign 1 = .ok (.getfield 175, 3) := by decide +kernel
theorem dX12_isSign_4 : decode cX12_isSign 4 = .ok (.iconst 3, 1) := by decide +kernel
theorem dX12_isSign_5 : decode cX12_isSign 5 = .ok (.if_icmp .ne 15, 3) := by decide +kernel
theorem dX12_isSign_8 : decode cX12_isSign 8 = .ok (.aload_n 0, 1) := by decide +kernel
theorem dX12_isSign_9 : decode cX12_isSign 9 = .ok (.getfield 187, 3) := by decide +kernel
theorem dX12_isSign_12 : decode cX12_isSign 12 = .ok (.iload_n 1, 1) := by decide +kernel
theorem dX12_isSign_13 : decode cX12_isSign 13 = .ok (.if_icmp .ne 7, 3) := by decide +kernel
theorem dX12_isSign_16 : decode cX12_isSign 16 = .ok (.iconst 1, 1) := by decide +kernel
theorem dX12_isSign_17 : decode cX12_isSign 17 = .ok (.goto 4, 3) := by decide +kernel
theorem dX12_isSign_20 : decode cX12_isSign 20 = .ok (.iconst 0, 1) := by decide +kernel
theorem dX12_isSign_21 : decode cX12_isSign 21 = .ok (.ireturn, 1) := by decide +kernel
theorem dX12_errs_0 : decode cX12_errs 0 = .ok (.aload_n 0, 1) := by decide +kernel
theorem dX12_errs_1 : decode cX12_errs 1 = .ok (.getfield 191, 3) := by decide +kernel
theorem dX12_errs_4 : decode cX12_errs 4 = .ok (.ifCond .ne 16, 3) := by decide +kernel
theorem dX12_errs_7 : decode cX12_errs 7 = .ok (.aload_n 0, 1) := by decide +kernel
theorem dX12_errs_8 : decode cX12_errs 8 = .ok (.iload_n 1, 1) := by decide +kernel
theorem dX12_errs_9 : decode cX12_errs 9 = .ok (.putfield 191, 3) := by decide +kernel
theorem dX12_errs_12 : decode cX12_errs 12 = .ok (.aload_n 0, 1) := by decide +kernel
theorem dX12_errs_13 : decode cX12_errs 13 = .ok (.aload_n 0, 1) := by decide +kernel
theorem dX12_errs_14 : decode cX12_errs 14 = .ok (.getfield 172, 3) := by decide +kernel
theorem dX12_errs_17 : decode cX12_errs 17 = .ok (.putfield 194, 3) := by decide +kernel
theorem dX12_errs_20 : decode cX12_errs 20 = .ok (.return_, 1) := by decide +kernel
theorem dX12_emits_0 : decode cX12_emits 0 = .ok (.aload_n 0, 1) := by decide +kernel
theorem dX12_emits_1 : decode cX12_emits 1 = .ok (.getfield 63, 3) := by decide +kernel
theorem dX12_emits_4 : decode cX12_emits 4 = .ok (.aload_n 0, 1) := by decide +kernel
theorem dX12_emits_5 : decode cX12_emits 5 = .ok (.getfield 197, 3) := by decide +kernel
theorem dX12_emits_8 : decode cX12_emits 8 = .ok (.iload_n 1, 1) := by decide +kernel
theorem dX12_emits_9 : decode cX12_emits 9 = .ok (.iastore, 1) := by decide +kernel
theorem dX12_emits_10 : decode cX12_emits 10 = .ok (.aload_n 0, 1) := by decide +kernel
theorem dX12_emits_11 : decode cX12_emits 11 = .ok (.getfield 66, 3) := by decide +kernel
theorem dX12_emits_14 : decode cX12_emits 14 = .ok (.aload_n 0, 1) := by decide +kernel
theorem dX12_emits_15 : decode cX12_emits 15 = .ok (.getfield 197, 3) := by decide +kernel
theorem dX12_emits_18 : decode cX12_emits 18 = .ok (.iload_n 2, 1) := by decide +kernel
theorem dX12_emits_19 : decode cX12_emits 19 = .ok (.iastore, 1) := by decide +kernel
theorem dX12_emits_20 : decode cX12_emits 20 = .ok (.aload_n 0, 1) := by decide +kernel
theorem dX12_emits_21 : decode cX12_emits 21 = .ok (.dup, 1) := by decide +kernel
theorem dX12_emits_22 : decode cX12_emits 22 = .ok (.getfield 197, 3) := by decide +kernel
theorem dX12_emits_25 : decode cX12_emits 25 = .ok (.iconst 1, 1) := by decide +kernel
theorem dX12_emits_26 : decode cX12_emits 26 = .ok (.iadd, 1) := by decide +kernel
theorem dX12_emits_27 : decode cX12_emits 27 = .ok (.putfield 197, 3) := by decide +kernel
theorem dX12_emits_30 : decode cX12_emits 30 = .ok (.return_, 1) := by decide +kernel
theorem dX12_opensFrame_0 : decode cX12_opensFrame 0 = .ok (.aload_n 0, 1) := by decide +kernel
theorem dX12_opensFrame_1 : decode cX12_opensFrame 1 = .ok (.getfield 45, 3) := by decide +kernel
theorem dX12_opensFrame_4 : decode cX12_opensFrame 4 = .ok (.aload_n 0, 1) := by decide +kernel
theorem dX12_opensFrame_5 : decode cX12_opensFrame 5 = .ok (.getfield 200, 3) := by decide +kernel
theorem dX12_opensFrame_8 : decode cX12_opensFrame 8 = .ok (.iload_n 1, 1) := by decide +kernel
theorem dX12_opensFrame_9 : decode cX12_opensFrame 9 = .ok (.iastore, 1) := by decide +kernel
theorem dX12_opensFrame_10 : decode cX12_opensFrame 10 = .ok (.aload_n 0, 1) := by decide +kernel
theorem dX12_opensFrame_11 : decode cX12_opensFrame 11 = .ok (.dup, 1) := by decide +kernel
theorem dX12_opensFrame_12 : decode cX12_opensFrame 12 = .ok (.getfield 200, 3) := by decide +kernel
theorem dX12_opensFrame_15 : decode cX12_opensFrame 15 = .ok (.iconst 1, 1) := by decide +kernel
theorem dX12_opensFrame_16 : decode cX12_opensFrame 16 = .ok (.iadd, 1) := by decide +kernel
theorem dX12_opensFrame_17 : decode cX12_opensFrame 17 = .ok (.putfield 200, 3) := by decide +kernel
theorem dX12_opensFrame_20 : decode cX12_opensFrame 20 = .ok (.return_, 1) := by decide +kernel
theorem dX12_top_0 : decode cX12_top 0 = .ok (.aload_n 0, 1) := by decide +kernel
theorem dX12_top_1 : decode cX12_top 1 = .ok (.getfield 45, 3) := by decide +kernel
theorem dX12_top_4 : decode cX12_top 4 = .ok (.aload_n 0, 1) := by decide +kernel
theorem dX12_top_5 : decode cX12_top 5 = .ok (.getfield 200, 3) := by decide +kernel
theorem dX12_top_8 : decode cX12_top 8 = .ok (.iconst 1, 1) := by decide +kernel
theorem dX12_top_9 : decode cX12_top 9 = .ok (.isub, 1) := by decide +kernel
theorem dX12_top_10 : decode cX12_top 10 = .ok (.iaload, 1) := by decide +kernel
theorem dX12_top_11 : decode cX12_top 11 = .ok (.ireturn, 1) := by decide +kernel
theorem dX12_opensSign_0 : decode cX12_opensSign 0 = .ok (.aload_n 0, 1) := by decide +kernel
theorem dX12_opensSign_1 : decode cX12_opensSign 1 = .ok (.getfield 203, 3) := by decide +kernel
theorem dX12_opensSign_4 : decode cX12_opensSign 4 = .ok (.bipush 8, 2) := by decide +kernel
theorem dX12_opensSign_6 : decode cX12_opensSign 6 = .ok (.if_icmp .ne 10, 3) := by decide +kernel
theorem dX12_opensSign_9 : decode cX12_opensSign 9 = .ok (.aload_n 0, 1) := by decide +kernel
theorem dX12_opensSign_10 : decode cX12_opensSign 10 = .ok (.iconst 3, 1) := by decide +kernel
theorem dX12_opensSign_11 : decode cX12_opensSign 11 = .ok (.invokevirtual 206, 3) := by decide +kernel
theorem dX12_opensSign_14 : decode cX12_opensSign 14 = .ok (.iconst 0, 1) := by decide +kernel
theorem dX12_opensSign_15 : decode cX12_opensSign 15 = .ok (.ireturn, 1) := by decide +kernel
theorem dX12_opensSign_16 : decode cX12_opensSign 16 = .ok (.aload_n 0, 1) := by decide +kernel
theorem dX12_opensSign_17 : decode cX12_opensSign 17 = .ok (.dup, 1) := by decide +kernel
theorem dX12_opensSign_18 : decode cX12_opensSign 18 = .ok (.getfield 203, 3) := by decide +kernel
theorem dX12_opensSign_21 : decode cX12_opensSign 21 = .ok (.iconst 1, 1) := by decide +kernel
theorem dX12_opensSign_22 : decode cX12_opensSign 22 = .ok (.iadd, 1) := by decide +kernel
theorem dX12_opensSign_23 : decode cX12_opensSign 23 = .ok (.putfield 203, 3) := by decide +kernel
theorem dX12_opensSign_26 : decode cX12_opensSign 26 = .ok (.aload_n 0, 1) := by decide +kernel
theorem dX12_opensSign_27 : decode cX12_opensSign 27 = .ok (.iload_n 1, 1) := by decide +kernel
theorem dX12_opensSign_28 : decode cX12_opensSign 28 = .ok (.invokevirtual 209, 3) := by decide +kernel
theorem dX12_opensSign_31 : decode cX12_opensSign 31 = .ok (.aload_n 0, 1) := by decide +kernel
theorem dX12_opensSign_32 : decode cX12_opensSign 32 = .ok (.invokevirtual 212, 3) := by decide +kernel
theorem dX12_opensSign_35 : decode cX12_opensSign 35 = .ok (.iconst 1, 1) := by decide +kernel
theorem dX12_opensSign_36 : decode cX12_opensSign 36 = .ok (.ireturn, 1) := by decide +kernel
theorem dX12_rank_0 : decode cX12_rank 0 = .ok (.iload_n 0, 1) := by decide +kernel
theorem dX12_rank_1 : decode cX12_rank 1 = .ok (.sipush 407, 3) := by decide +kernel
theorem dX12_rank_4 : decode cX12_rank 4 = .ok (.if_icmp .ne 7, 3) := by decide +kernel
theorem dX12_rank_7 : decode cX12_rank 7 = .ok (.iconst 1, 1) := by decide +kernel
theorem dX12_rank_8 : decode cX12_rank 8 = .ok (.goto 31, 3) := by decide +kernel
theorem dX12_rank_11 : decode cX12_rank 11 = .ok (.iload_n 0, 1) := by decide +kernel
theorem dX12_rank_12 : decode cX12_rank 12 = .ok (.sipush 406, 3) := by decide +kernel
theorem dX12_rank_15 : decode cX12_rank 15 = .ok (.if_icmp .ne 7, 3) := by decide +kernel
theorem dX12_rank_18 : decode cX12_rank 18 = .ok (.iconst 2, 1) := by decide +kernel
theorem dX12_rank_19 : decode cX12_rank 19 = .ok (.goto 20, 3) := by decide +kernel
theorem dX12_rank_22 : decode cX12_rank 22 = .ok (.iload_n 0, 1) := by decide +kernel
theorem dX12_rank_23 : decode cX12_rank 23 = .ok (.bipush 43, 2) := by decide +kernel
theorem dX12_rank_25 : decode cX12_rank 25 = .ok (.if_icmp .eq 9, 3) := by decide +kernel
theorem dX12_rank_28 : decode cX12_rank 28 = .ok (.iload_n 0, 1) := by decide +kernel
theorem dX12_rank_29 : decode cX12_rank 29 = .ok (.bipush 45, 2) := by decide +kernel
theorem dX12_rank_31 : decode cX12_rank 31 = .ok (.if_icmp .ne 7, 3) := by decide +kernel
theorem dX12_rank_34 : decode cX12_rank 34 = .ok (.iconst 3, 1) := by decide +kernel
theorem dX12_rank_35 : decode cX12_rank 35 = .ok (.goto 4, 3) := by decide +kernel
theorem dX12_rank_38 : decode cX12_rank 38 = .ok (.iconst 4, 1) := by decide +kernel
theorem dX12_rank_39 : decode cX12_rank 39 = .ok (.ireturn, 1) := by decide +kernel
theorem dX12_works_0 : decode cX12_works 0 = .ok (.aload_n 0, 1) := by decide +kernel
theorem dX12_works_1 : decode cX12_works 1 = .ok (.getfield 214, 3) := by decide +kernel
theorem dX12_works_4 : decode cX12_works 4 = .ok (.ifCond .le 66, 3) := by decide +kernel
theorem dX12_works_7 : decode cX12_works 7 = .ok (.aload_n 0, 1) := by decide +kernel
theorem dX12_works_8 : decode cX12_works 8 = .ok (.getfield 51, 3) := by decide +kernel
theorem dX12_works_11 : decode cX12_works 11 = .ok (.aload_n 0, 1) := by decide +kernel
theorem dX12_works_12 : decode cX12_works 12 = .ok (.getfield 214, 3) := by decide +kernel
theorem dX12_works_15 : decode cX12_works 15 = .ok (.iconst 1, 1) := by decide +kernel
theorem dX12_works_16 : decode cX12_works 16 = .ok (.isub, 1) := by decide +kernel
theorem dX12_works_17 : decode cX12_works 17 = .ok (.iaload, 1) := by decide +kernel
theorem dX12_works_18 : decode cX12_works 18 = .ok (.aload_n 0, 1) := by decide +kernel
theorem dX12_works_19 : decode cX12_works 19 = .ok (.getfield 200, 3) := by decide +kernel
theorem dX12_works_22 : decode cX12_works 22 = .ok (.if_icmp .ne 48, 3) := by decide +kernel
theorem dX12_works_25 : decode cX12_works 25 = .ok (.aload_n 0, 1) := by decide +kernel
theorem dX12_works_26 : decode cX12_works 26 = .ok (.getfield 48, 3) := by decide +kernel
theorem dX12_works_29 : decode cX12_works 29 = .ok (.aload_n 0, 1) := by decide +kernel
theorem dX12_works_30 : decode cX12_works 30 = .ok (.getfield 214, 3) := by decide +kernel
theorem dX12_works_33 : decode cX12_works 33 = .ok (.iconst 1, 1) := by decide +kernel
theorem dX12_works_34 : decode cX12_works 34 = .ok (.isub, 1) := by decide +kernel
theorem dX12_works_35 : decode cX12_works 35 = .ok (.iaload, 1) := by decide +kernel
theorem dX12_works_36 : decode cX12_works 36 = .ok (.invokestatic 217, 3) := by decide +kernel
theorem dX12_works_39 : decode cX12_works 39 = .ok (.iload_n 1, 1) := by decide +kernel
theorem dX12_works_40 : decode cX12_works 40 = .ok (.if_icmp .lt 30, 3) := by decide +kernel
theorem dX12_works_43 : decode cX12_works 43 = .ok (.aload_n 0, 1) := by decide +kernel
theorem dX12_works_44 : decode cX12_works 44 = .ok (.dup, 1) := by decide +kernel
theorem dX12_works_45 : decode cX12_works 45 = .ok (.getfield 214, 3) := by decide +kernel
theorem dX12_works_48 : decode cX12_works 48 = .ok (.iconst 1, 1) := by decide +kernel
theorem dX12_works_49 : decode cX12_works 49 = .ok (.isub, 1) := by decide +kernel
theorem dX12_works_50 : decode cX12_works 50 = .ok (.putfield 214, 3) := by decide +kernel
theorem dX12_works_53 : decode cX12_works 53 = .ok (.aload_n 0, 1) := by decide +kernel
theorem dX12_works_54 : decode cX12_works 54 = .ok (.aload_n 0, 1) := by decide +kernel
theorem dX12_works_55 : decode cX12_works 55 = .ok (.getfield 48, 3) := by decide +kernel
theorem dX12_works_58 : decode cX12_works 58 = .ok (.aload_n 0, 1) := by decide +kernel
theorem dX12_works_59 : decode cX12_works 59 = .ok (.getfield 214, 3) := by decide +kernel
theorem dX12_works_62 : decode cX12_works 62 = .ok (.iaload, 1) := by decide +kernel
theorem dX12_works_63 : decode cX12_works 63 = .ok (.iconst 0, 1) := by decide +kernel
theorem dX12_works_64 : decode cX12_works 64 = .ok (.invokevirtual 221, 3) := by decide +kernel
theorem dX12_works_67 : decode cX12_works 67 = .ok (.goto (-67), 3) := by decide +kernel
theorem dX12_works_70 : decode cX12_works 70 = .ok (.return_, 1) := by decide +kernel
theorem dX12_waitsFor_0 : decode cX12_waitsFor 0 = .ok (.aload_n 0, 1) := by decide +kernel
theorem dX12_waitsFor_1 : decode cX12_waitsFor 1 = .ok (.iload_n 1, 1) := by decide +kernel
theorem dX12_waitsFor_2 : decode cX12_waitsFor 2 = .ok (.invokestatic 217, 3) := by decide +kernel
theorem dX12_waitsFor_5 : decode cX12_waitsFor 5 = .ok (.invokevirtual 225, 3) := by decide +kernel
theorem dX12_waitsFor_8 : decode cX12_waitsFor 8 = .ok (.aload_n 0, 1) := by decide +kernel
theorem dX12_waitsFor_9 : decode cX12_waitsFor 9 = .ok (.getfield 48, 3) := by decide +kernel
theorem dX12_waitsFor_12 : decode cX12_waitsFor 12 = .ok (.aload_n 0, 1) := by decide +kernel
theorem dX12_waitsFor_13 : decode cX12_waitsFor 13 = .ok (.getfield 214, 3) := by decide +kernel
theorem dX12_waitsFor_16 : decode cX12_waitsFor 16 = .ok (.iload_n 1, 1) := by decide +kernel
theorem dX12_waitsFor_17 : decode cX12_waitsFor 17 = .ok (.iastore, 1) := by decide +kernel
theorem dX12_waitsFor_18 : decode cX12_waitsFor 18 = .ok (.aload_n 0, 1) := by decide +kernel
theorem dX12_waitsFor_19 : decode cX12_waitsFor 19 = .ok (.getfield 51, 3) := by decide +kernel
theorem dX12_waitsFor_22 : decode cX12_waitsFor 22 = .ok (.aload_n 0, 1) := by decide +kernel
theorem dX12_waitsFor_23 : decode cX12_waitsFor 23 = .ok (.getfield 214, 3) := by decide +kernel
theorem dX12_waitsFor_26 : decode cX12_waitsFor 26 = .ok (.aload_n 0, 1) := by decide +kernel
theorem dX12_waitsFor_27 : decode cX12_waitsFor 27 = .ok (.getfield 200, 3) := by decide +kernel
theorem dX12_waitsFor_30 : decode cX12_waitsFor 30 = .ok (.iastore, 1) := by decide +kernel
theorem dX12_waitsFor_31 : decode cX12_waitsFor 31 = .ok (.aload_n 0, 1) := by decide +kernel
theorem dX12_waitsFor_32 : decode cX12_waitsFor 32 = .ok (.dup, 1) := by decide +kernel
theorem dX12_waitsFor_33 : decode cX12_waitsFor 33 = .ok (.getfield 214, 3) := by decide +kernel
theorem dX12_waitsFor_36 : decode cX12_waitsFor 36 = .ok (.iconst 1, 1) := by decide +kernel
theorem dX12_waitsFor_37 : decode cX12_waitsFor 37 = .ok (.iadd, 1) := by decide +kernel
theorem dX12_waitsFor_38 : decode cX12_waitsFor 38 = .ok (.putfield 214, 3) := by decide +kernel
theorem dX12_waitsFor_41 : decode cX12_waitsFor 41 = .ok (.aload_n 0, 1) := by decide +kernel
theorem dX12_waitsFor_42 : decode cX12_waitsFor 42 = .ok (.invokevirtual 212, 3) := by decide +kernel
theorem dX12_waitsFor_45 : decode cX12_waitsFor 45 = .ok (.return_, 1) := by decide +kernel
theorem dX12_begins_0 : decode cX12_begins 0 = .ok (.aload_n 0, 1) := by decide +kernel
theorem dX12_begins_1 : decode cX12_begins 1 = .ok (.getfield 175, 3) := by decide +kernel
theorem dX12_begins_4 : decode cX12_begins 4 = .ok (.iconst 2, 1) := by decide +kernel
theorem dX12_begins_5 : decode cX12_begins 5 = .ok (.if_icmp .ne 41, 3) := by decide +kernel
theorem dX12_begins_8 : decode cX12_begins 8 = .ok (.aload_n 0, 1) := by decide +kernel
theorem dX12_begins_9 : decode cX12_begins 9 = .ok (.getfield 187, 3) := by decide +kernel
theorem dX12_begins_12 : decode cX12_begins 12 = .ok (.sipush 9999, 3) := by decide +kernel
theorem dX12_begins_15 : decode cX12_begins 15 = .ok (.if_icmp .le 9, 3) := by decide +kernel
theorem dX12_begins_18 : decode cX12_begins 18 = .ok (.aload_n 0, 1) := by decide +kernel
theorem dX12_begins_19 : decode cX12_begins 19 = .ok (.iconst 2, 1) := by decide +kernel
theorem dX12_begins_20 : decode cX12_begins 20 = .ok (.invokevirtual 206, 3) := by decide +kernel
theorem dX12_begins_23 : decode cX12_begins 23 = .ok (.return_, 1) := by decide +kernel
theorem dX12_begins_24 : decode cX12_begins 24 = .ok (.aload_n 0, 1) := by decide +kernel
theorem dX12_begins_25 : decode cX12_begins 25 = .ok (.sipush 400, 3) := by decide +kernel
