theorem dX10_leaves_97 : decode cX10_leaves 97 = .ok (.lmul, 1) := by decide +kernel
theorem dX10_leaves_98 : decode cX10_leaves 98 = .ok (.lcmp, 1) := by decide +kernel
theorem dX10_leaves_99 : decode cX10_leaves 99 = .ok (.ifCond .le 6, 3) := by decide +kernel
theorem dX10_leaves_102 : decode cX10_leaves 102 = .ok (.iload 7, 2) := by decide +kernel
theorem dX10_leaves_104 : decode cX10_leaves 104 = .ok (.ireturn, 1) := by decide +kernel
theorem dX10_leaves_105 : decode cX10_leaves 105 = .ok (.iinc 7 1, 3) := by decide +kernel
theorem dX10_leaves_108 : decode cX10_leaves 108 = .ok (.goto (-52), 3) := by decide +kernel
theorem dX10_leaves_111 : decode cX10_leaves 111 = .ok (.iconst 0, 1) := by decide +kernel
theorem dX10_leaves_112 : decode cX10_leaves 112 = .ok (.ireturn, 1) := by decide +kernel
theorem dX10_keepNow_0 : decode cX10_keepNow 0 = .ok (.aload_n 0, 1) := by decide +kernel
theorem dX10_keepNow_1 : decode cX10_keepNow 1 = .ok (.getfield 413, 3) := by decide +kernel
theorem dX10_keepNow_4 : decode cX10_keepNow 4 = .ok (.bipush 20, 2) := by decide +kernel
theorem dX10_keepNow_6 : decode cX10_keepNow 6 = .ok (.if_icmp .ne 39, 3) := by decide +kernel
theorem dX10_keepNow_9 : decode cX10_keepNow 9 = .ok (.iconst 1, 1) := by decide +kernel
theorem dX10_keepNow_10 : decode cX10_keepNow 10 = .ok (.istore_n 1, 1) := by decide +kernel
theorem dX10_keepNow_11 : decode cX10_keepNow 11 = .ok (.iload_n 1, 1) := by decide +kernel
theorem dX10_keepNow_12 : decode cX10_keepNow 12 = .ok (.bipush 20, 2) := by decide +kernel
theorem dX10_keepNow_14 : decode cX10_keepNow 14 = .ok (.if_icmp .ge 21, 3) := by decide +kernel
theorem dX10_keepNow_17 : decode cX10_keepNow 17 = .ok (.aload_n 0, 1) := by decide +kernel
theorem dX10_keepNow_18 : decode cX10_keepNow 18 = .ok (.iconst 2, 1) := by decide +kernel
theorem dX10_keepNow_19 : decode cX10_keepNow 19 = .ok (.iload_n 1, 1) := by decide +kernel
theorem dX10_keepNow_20 : decode cX10_keepNow 20 = .ok (.iadd, 1) := by decide +kernel
theorem dX10_keepNow_21 : decode cX10_keepNow 21 = .ok (.iconst 1, 1) := by decide +kernel
theorem dX10_keepNow_22 : decode cX10_keepNow 22 = .ok (.isub, 1) := by decide +kernel
theorem dX10_keepNow_23 : decode cX10_keepNow 23 = .ok (.iconst 2, 1) := by decide +kernel
theorem dX10_keepNow_24 : decode cX10_keepNow 24 = .ok (.iload_n 1, 1) := by decide +kernel
theorem dX10_keepNow_25 : decode cX10_keepNow 25 = .ok (.iadd, 1) := by decide +kernel
theorem dX10_keepNow_26 : decode cX10_keepNow 26 = .ok (.invokevirtual 588, 3) := by decide +kernel
theorem dX10_keepNow_29 : decode cX10_keepNow 29 = .ok (.iinc 1 1, 3) := by decide +kernel
theorem dX10_keepNow_32 : decode cX10_keepNow 32 = .ok (.goto (-21), 3) := by decide +kernel
theorem dX10_keepNow_35 : decode cX10_keepNow 35 = .ok (.aload_n 0, 1) := by decide +kernel
theorem dX10_keepNow_36 : decode cX10_keepNow 36 = .ok (.dup, 1) := by decide +kernel
theorem dX10_keepNow_37 : decode cX10_keepNow 37 = .ok (.getfield 413, 3) := by decide +kernel
theorem dX10_keepNow_40 : decode cX10_keepNow 40 = .ok (.iconst 1, 1) := by decide +kernel
theorem dX10_keepNow_41 : decode cX10_keepNow 41 = .ok (.isub, 1) := by decide +kernel
theorem dX10_keepNow_42 : decode cX10_keepNow 42 = .ok (.putfield 413, 3) := by decide +kernel
theorem dX10_keepNow_45 : decode cX10_keepNow 45 = .ok (.aload_n 0, 1) := by decide +kernel
theorem dX10_keepNow_46 : decode cX10_keepNow 46 = .ok (.iconst 2, 1) := by decide +kernel
theorem dX10_keepNow_47 : decode cX10_keepNow 47 = .ok (.aload_n 0, 1) := by decide +kernel
theorem dX10_keepNow_48 : decode cX10_keepNow 48 = .ok (.getfield 413, 3) := by decide +kernel
theorem dX10_keepNow_51 : decode cX10_keepNow 51 = .ok (.iadd, 1) := by decide +kernel
theorem dX10_keepNow_52 : decode cX10_keepNow 52 = .ok (.iconst 0, 1) := by decide +kernel
theorem dX10_keepNow_53 : decode cX10_keepNow 53 = .ok (.invokevirtual 588, 3) := by decide +kernel
theorem dX10_keepNow_56 : decode cX10_keepNow 56 = .ok (.aload_n 0, 1) := by decide +kernel
theorem dX10_keepNow_57 : decode cX10_keepNow 57 = .ok (.dup, 1) := by decide +kernel
theorem dX10_keepNow_58 : decode cX10_keepNow 58 = .ok (.getfield 413, 3) := by decide +kernel
theorem dX10_keepNow_61 : decode cX10_keepNow 61 = .ok (.iconst 1, 1) := by decide +kernel
theorem dX10_keepNow_62 : decode cX10_keepNow 62 = .ok (.iadd, 1) := by decide +kernel
theorem dX10_keepNow_63 : decode cX10_keepNow 63 = .ok (.putfield 413, 3) := by decide +kernel
theorem dX10_keepNow_66 : decode cX10_keepNow 66 = .ok (.return_, 1) := by decide +kernel
theorem dX10_make_0 : decode cX10_make 0 = .ok (.aload_n 0, 1) := by decide +kernel
theorem dX10_make_1 : decode cX10_make 1 = .ok (.iconst 0, 1) := by decide +kernel
theorem dX10_make_2 : decode cX10_make 2 = .ok (.putfield 235, 3) := by decide +kernel
theorem dX10_make_5 : decode cX10_make 5 = .ok (.aload_n 0, 1) := by decide +kernel
theorem dX10_make_6 : decode cX10_make 6 = .ok (.iload_n 1, 1) := by decide +kernel
theorem dX10_make_7 : decode cX10_make 7 = .ok (.invokevirtual 527, 3) := by decide +kernel
theorem dX10_make_10 : decode cX10_make 10 = .ok (.ifCond .eq 51, 3) := by decide +kernel
theorem dX10_make_13 : decode cX10_make 13 = .ok (.aload_n 0, 1) := by decide +kernel
theorem dX10_make_14 : decode cX10_make 14 = .ok (.iload_n 2, 1) := by decide +kernel
theorem dX10_make_15 : decode cX10_make 15 = .ok (.invokevirtual 512, 3) := by decide +kernel
theorem dX10_make_18 : decode cX10_make 18 = .ok (.ifCond .eq 43, 3) := by decide +kernel
theorem dX10_make_21 : decode cX10_make 21 = .ok (.iload_n 3, 1) := by decide +kernel
theorem dX10_make_22 : decode cX10_make 22 = .ok (.invokestatic 530, 3) := by decide +kernel
theorem dX10_make_25 : decode cX10_make 25 = .ok (.ifCond .eq 36, 3) := by decide +kernel
theorem dX10_make_28 : decode cX10_make 28 = .ok (.iload 4, 2) := by decide +kernel
theorem dX10_make_30 : decode cX10_make 30 = .ok (.invokestatic 530, 3) := by decide +kernel
theorem dX10_make_33 : decode cX10_make 33 = .ok (.ifCond .eq 28, 3) := by decide +kernel
theorem dX10_make_36 : decode cX10_make 36 = .ok (.iload 4, 2) := by decide +kernel
theorem dX10_make_38 : decode cX10_make 38 = .ok (.iload_n 3, 1) := by decide +kernel
theorem dX10_make_39 : decode cX10_make 39 = .ok (.if_icmp .lt 22, 3) := by decide +kernel
theorem dX10_make_42 : decode cX10_make 42 = .ok (.iload 5, 2) := by decide +kernel
theorem dX10_make_44 : decode cX10_make 44 = .ok (.invokestatic 591, 3) := by decide +kernel
theorem dX10_make_47 : decode cX10_make 47 = .ok (.ifCond .eq 14, 3) := by decide +kernel
theorem dX10_make_50 : decode cX10_make 50 = .ok (.aload_n 0, 1) := by decide +kernel
theorem dX10_make_51 : decode cX10_make 51 = .ok (.getfield 114, 3) := by decide +kernel
theorem dX10_make_54 : decode cX10_make 54 = .ok (.iconst 0, 1) := by decide +kernel
theorem dX10_make_55 : decode cX10_make 55 = .ok (.iaload, 1) := by decide +kernel
theorem dX10_make_56 : decode cX10_make 56 = .ok (.bipush 12, 2) := by decide +kernel
theorem dX10_make_58 : decode cX10_make 58 = .ok (.if_icmp .ne 5, 3) := by decide +kernel
theorem dX10_make_61 : decode cX10_make 61 = .ok (.iconst (-1), 1) := by decide +kernel
theorem dX10_make_62 : decode cX10_make 62 = .ok (.ireturn, 1) := by decide +kernel
theorem dX10_make_63 : decode cX10_make 63 = .ok (.aload_n 0, 1) := by decide +kernel
theorem dX10_make_64 : decode cX10_make 64 = .ok (.invokevirtual 594, 3) := by decide +kernel
theorem dX10_make_67 : decode cX10_make 67 = .ok (.aload_n 0, 1) := by decide +kernel
theorem dX10_make_68 : decode cX10_make 68 = .ok (.iload_n 1, 1) := by decide +kernel
theorem dX10_make_69 : decode cX10_make 69 = .ok (.iload_n 2, 1) := by decide +kernel
theorem dX10_make_70 : decode cX10_make 70 = .ok (.iload_n 3, 1) := by decide +kernel
theorem dX10_make_71 : decode cX10_make 71 = .ok (.iload 4, 2) := by decide +kernel
theorem dX10_make_73 : decode cX10_make 73 = .ok (.iload 5, 2) := by decide +kernel
theorem dX10_make_75 : decode cX10_make 75 = .ok (.invokevirtual 466, 3) := by decide +kernel
theorem dX10_make_78 : decode cX10_make 78 = .ok (.aload_n 0, 1) := by decide +kernel
theorem dX10_make_79 : decode cX10_make 79 = .ok (.getfield 114, 3) := by decide +kernel
theorem dX10_make_82 : decode cX10_make 82 = .ok (.iconst 0, 1) := by decide +kernel
theorem dX10_make_83 : decode cX10_make 83 = .ok (.iaload, 1) := by decide +kernel
theorem dX10_make_84 : decode cX10_make 84 = .ok (.iconst 1, 1) := by decide +kernel
theorem dX10_make_85 : decode cX10_make 85 = .ok (.isub, 1) := by decide +kernel
theorem dX10_make_86 : decode cX10_make 86 = .ok (.ireturn, 1) := by decide +kernel
theorem dX10_stop_0 : decode cX10_stop 0 = .ok (.aload_n 0, 1) := by decide +kernel
theorem dX10_stop_1 : decode cX10_stop 1 = .ok (.iconst 0, 1) := by decide +kernel
theorem dX10_stop_2 : decode cX10_stop 2 = .ok (.putfield 235, 3) := by decide +kernel
theorem dX10_stop_5 : decode cX10_stop 5 = .ok (.aload_n 0, 1) := by decide +kernel
theorem dX10_stop_6 : decode cX10_stop 6 = .ok (.iload_n 1, 1) := by decide +kernel
theorem dX10_stop_7 : decode cX10_stop 7 = .ok (.invokevirtual 521, 3) := by decide +kernel
theorem dX10_stop_10 : decode cX10_stop 10 = .ok (.ifCond .eq 17, 3) := by decide +kernel
theorem dX10_stop_13 : decode cX10_stop 13 = .ok (.aload_n 0, 1) := by decide +kernel
theorem dX10_stop_14 : decode cX10_stop 14 = .ok (.getfield 132, 3) := by decide +kernel
theorem dX10_stop_17 : decode cX10_stop 17 = .ok (.iconst 0, 1) := by decide +kernel
theorem dX10_stop_18 : decode cX10_stop 18 = .ok (.iaload, 1) := by decide +kernel
theorem dX10_stop_19 : decode cX10_stop 19 = .ok (.iload_n 1, 1) := by decide +kernel
theorem dX10_stop_20 : decode cX10_stop 20 = .ok (.ishr, 1) := by decide +kernel
theorem dX10_stop_21 : decode cX10_stop 21 = .ok (.iconst 1, 1) := by decide +kernel
theorem dX10_stop_22 : decode cX10_stop 22 = .ok (.iand, 1) := by decide +kernel
theorem dX10_stop_23 : decode cX10_stop 23 = .ok (.iconst 1, 1) := by decide +kernel
theorem dX10_stop_24 : decode cX10_stop 24 = .ok (.if_icmp .ne 5, 3) := by decide +kernel
theorem dX10_stop_27 : decode cX10_stop 27 = .ok (.iconst 0, 1) := by decide +kernel
theorem dX10_stop_28 : decode cX10_stop 28 = .ok (.ireturn, 1) := by decide +kernel
theorem dX10_stop_29 : decode cX10_stop 29 = .ok (.aload_n 0, 1) := by decide +kernel
theorem dX10_stop_30 : decode cX10_stop 30 = .ok (.invokevirtual 594, 3) := by decide +kernel
theorem dX10_stop_33 : decode cX10_stop 33 = .ok (.aload_n 0, 1) := by decide +kernel
theorem dX10_stop_34 : decode cX10_stop 34 = .ok (.getfield 132, 3) := by decide +kernel
theorem dX10_stop_37 : decode cX10_stop 37 = .ok (.iconst 0, 1) := by decide +kernel
theorem dX10_stop_38 : decode cX10_stop 38 = .ok (.dup2, 1) := by decide +kernel
theorem dX10_stop_39 : decode cX10_stop 39 = .ok (.iaload, 1) := by decide +kernel
theorem dX10_stop_40 : decode cX10_stop 40 = .ok (.iconst 1, 1) := by decide +kernel
theorem dX10_stop_41 : decode cX10_stop 41 = .ok (.iload_n 1, 1) := by decide +kernel
theorem dX10_stop_42 : decode cX10_stop 42 = .ok (.ishl, 1) := by decide +kernel
theorem dX10_stop_43 : decode cX10_stop 43 = .ok (.ior, 1) := by decide +kernel
theorem dX10_stop_44 : decode cX10_stop 44 = .ok (.iastore, 1) := by decide +kernel
theorem dX10_stop_45 : decode cX10_stop 45 = .ok (.iconst 1, 1) := by decide +kernel
theorem dX10_stop_46 : decode cX10_stop 46 = .ok (.ireturn, 1) := by decide +kernel
theorem dX10_wall_0 : decode cX10_wall 0 = .ok (.aload_n 0, 1) := by decide +kernel
theorem dX10_wall_1 : decode cX10_wall 1 = .ok (.iconst 0, 1) := by decide +kernel
theorem dX10_wall_2 : decode cX10_wall 2 = .ok (.putfield 235, 3) := by decide +kernel
theorem dX10_wall_5 : decode cX10_wall 5 = .ok (.aload_n 0, 1) := by decide +kernel
theorem dX10_wall_6 : decode cX10_wall 6 = .ok (.iload_n 1, 1) := by decide +kernel
theorem dX10_wall_7 : decode cX10_wall 7 = .ok (.invokevirtual 524, 3) := by decide +kernel
theorem dX10_wall_10 : decode cX10_wall 10 = .ok (.ifCond .eq 26, 3) := by decide +kernel
theorem dX10_wall_13 : decode cX10_wall 13 = .ok (.aload_n 0, 1) := by decide +kernel
theorem dX10_wall_14 : decode cX10_wall 14 = .ok (.getfield 138, 3) := by decide +kernel
theorem dX10_wall_17 : decode cX10_wall 17 = .ok (.iconst 0, 1) := by decide +kernel
theorem dX10_wall_18 : decode cX10_wall 18 = .ok (.iaload, 1) := by decide +kernel
theorem dX10_wall_19 : decode cX10_wall 19 = .ok (.iload_n 1, 1) := by decide +kernel
theorem dX10_wall_20 : decode cX10_wall 20 = .ok (.ishr, 1) := by decide +kernel
theorem dX10_wall_21 : decode cX10_wall 21 = .ok (.iconst 1, 1) := by decide +kernel
theorem dX10_wall_22 : decode cX10_wall 22 = .ok (.iand, 1) := by decide +kernel
theorem dX10_wall_23 : decode cX10_wall 23 = .ok (.iconst 1, 1) := by decide +kernel
theorem dX10_wall_24 : decode cX10_wall 24 = .ok (.if_icmp .ne 7, 3) := by decide +kernel
theorem dX10_wall_27 : decode cX10_wall 27 = .ok (.iconst 1, 1) := by decide +kernel
theorem dX10_wall_28 : decode cX10_wall 28 = .ok (.goto 4, 3) := by decide +kernel
theorem dX10_wall_31 : decode cX10_wall 31 = .ok (.iconst 0, 1) := by decide +kernel
theorem dX10_wall_32 : decode cX10_wall 32 = .ok (.iload_n 2, 1) := by decide +kernel
theorem dX10_wall_33 : decode cX10_wall 33 = .ok (.if_icmp .ne 5, 3) := by decide +kernel
theorem dX10_wall_36 : decode cX10_wall 36 = .ok (.iconst 0, 1) := by decide +kernel
theorem dX10_wall_37 : decode cX10_wall 37 = .ok (.ireturn, 1) := by decide +kernel
theorem dX10_wall_38 : decode cX10_wall 38 = .ok (.aload_n 0, 1) := by decide +kernel
theorem dX10_wall_39 : decode cX10_wall 39 = .ok (.invokevirtual 594, 3) := by decide +kernel
theorem dX10_wall_42 : decode cX10_wall 42 = .ok (.aload_n 0, 1) := by decide +kernel
theorem dX10_wall_43 : decode cX10_wall 43 = .ok (.getfield 138, 3) := by decide +kernel
theorem dX10_wall_46 : decode cX10_wall 46 = .ok (.iconst 0, 1) := by decide +kernel
theorem dX10_wall_47 : decode cX10_wall 47 = .ok (.dup2, 1) := by decide +kernel
theorem dX10_wall_48 : decode cX10_wall 48 = .ok (.iaload, 1) := by decide +kernel
theorem dX10_wall_49 : decode cX10_wall 49 = .ok (.iconst 1, 1) := by decide +kernel
theorem dX10_wall_50 : decode cX10_wall 50 = .ok (.iload_n 1, 1) := by decide +kernel
theorem dX10_wall_51 : decode cX10_wall 51 = .ok (.ishl, 1) := by decide +kernel
theorem dX10_wall_52 : decode cX10_wall 52 = .ok (.ixor, 1) := by decide +kernel
theorem dX10_wall_53 : decode cX10_wall 53 = .ok (.iastore, 1) := by decide +kernel
theorem dX10_wall_54 : decode cX10_wall 54 = .ok (.iconst 1, 1) := by decide +kernel
theorem dX10_wall_55 : decode cX10_wall 55 = .ok (.ireturn, 1) := by decide +kernel
theorem dX10_sell_0 : decode cX10_sell 0 = .ok (.aload_n 0, 1) := by decide +kernel
theorem dX10_sell_1 : decode cX10_sell 1 = .ok (.iconst 0, 1) := by decide +kernel
theorem dX10_sell_2 : decode cX10_sell 2 = .ok (.putfield 235, 3) := by decide +kernel
theorem dX10_sell_5 : decode cX10_sell 5 = .ok (.iload_n 1, 1) := by decide +kernel
theorem dX10_sell_6 : decode cX10_sell 6 = .ok (.ifCond .lt 52, 3) := by decide +kernel
theorem dX10_sell_9 : decode cX10_sell 9 = .ok (.iload_n 1, 1) := by decide +kernel
theorem dX10_sell_10 : decode cX10_sell 10 = .ok (.aload_n 0, 1) := by decide +kernel
theorem dX10_sell_11 : decode cX10_sell 11 = .ok (.getfield 13, 3) := by decide +kernel
theorem dX10_sell_14 : decode cX10_sell 14 = .ok (.iconst 4, 1) := by decide +kernel
theorem dX10_sell_15 : decode cX10_sell 15 = .ok (.iaload, 1) := by decide +kernel
theorem dX10_sell_16 : decode cX10_sell 16 = .ok (.if_icmp .ge 42, 3) := by decide +kernel
theorem dX10_sell_19 : decode cX10_sell 19 = .ok (.aload_n 0, 1) := by decide +kernel
theorem dX10_sell_20 : decode cX10_sell 20 = .ok (.iload_n 2, 1) := by decide +kernel
theorem dX10_sell_21 : decode cX10_sell 21 = .ok (.invokevirtual 512, 3) := by decide +kernel
theorem dX10_sell_24 : decode cX10_sell 24 = .ok (.ifCond .eq 34, 3) := by decide +kernel
theorem dX10_sell_27 : decode cX10_sell 27 = .ok (.iload_n 3, 1) := by decide +kernel
theorem dX10_sell_28 : decode cX10_sell 28 = .ok (.ifCond .lt 30, 3) := by decide +kernel
theorem dX10_sell_31 : decode cX10_sell 31 = .ok (.iload_n 3, 1) := by decide +kernel
theorem dX10_sell_32 : decode cX10_sell 32 = .ok (.sipush 999, 3) := by decide +kernel
theorem dX10_sell_35 : decode cX10_sell 35 = .ok (.if_icmp .gt 23, 3) := by decide +kernel
theorem dX10_sell_38 : decode cX10_sell 38 = .ok (.aload_n 0, 1) := by decide +kernel
theorem dX10_sell_39 : decode cX10_sell 39 = .ok (.getfield 135, 3) := by decide +kernel
theorem dX10_sell_42 : decode cX10_sell 42 = .ok (.iload_n 1, 1) := by decide +kernel
theorem dX10_sell_43 : decode cX10_sell 43 = .ok (.iaload, 1) := by decide +kernel
theorem dX10_sell_44 : decode cX10_sell 44 = .ok (.iload_n 2, 1) := by decide +kernel
theorem dX10_sell_45 : decode cX10_sell 45 = .ok (.if_icmp .eq 13, 3) := by decide +kernel
theorem dX10_sell_48 : decode cX10_sell 48 = .ok (.aload_n 0, 1) := by decide +kernel
theorem dX10_sell_49 : decode cX10_sell 49 = .ok (.getfield 141, 3) := by decide +kernel
theorem dX10_sell_52 : decode cX10_sell 52 = .ok (.iload_n 2, 1) := by decide +kernel
theorem dX10_sell_53 : decode cX10_sell 53 = .ok (.iaload, 1) := by decide +kernel
theorem dX10_sell_54 : decode cX10_sell 54 = .ok (.iload_n 3, 1) := by decide +kernel
theorem dX10_sell_55 : decode cX10_sell 55 = .ok (.if_icmp .ge 5, 3) := by decide +kernel
theorem dX10_sell_58 : decode cX10_sell 58 = .ok (.iconst 0, 1) := by decide +kernel
theorem dX10_sell_59 : decode cX10_sell 59 = .ok (.ireturn, 1) := by decide +kernel
theorem dX10_sell_60 : decode cX10_sell 60 = .ok (.aload_n 0, 1) := by decide +kernel
theorem dX10_sell_61 : decode cX10_sell 61 = .ok (.invokevirtual 594, 3) := by decide +kernel
theorem dX10_sell_64 : decode cX10_sell 64 = .ok (.aload_n 0, 1) := by decide +kernel
theorem dX10_sell_65 : decode cX10_sell 65 = .ok (.getfield 141, 3) := by decide +kernel
theorem dX10_sell_68 : decode cX10_sell 68 = .ok (.iload_n 2, 1) := by decide +kernel
theorem dX10_sell_69 : decode cX10_sell 69 = .ok (.dup2, 1) := by decide +kernel
theorem dX10_sell_70 : decode cX10_sell 70 = .ok (.iaload, 1) := by decide +kernel
theorem dX10_sell_71 : decode cX10_sell 71 = .ok (.iload_n 3, 1) := by decide +kernel
theorem dX10_sell_72 : decode cX10_sell 72 = .ok (.isub, 1) := by decide +kernel
theorem dX10_sell_73 : decode cX10_sell 73 = .ok (.iastore, 1) := by decide +kernel
theorem dX10_sell_74 : decode cX10_sell 74 = .ok (.aload_n 0, 1) := by decide +kernel
theorem dX10_sell_75 : decode cX10_sell 75 = .ok (.getfield 141, 3) := by decide +kernel
theorem dX10_sell_78 : decode cX10_sell 78 = .ok (.aload_n 0, 1) := by decide +kernel
theorem dX10_sell_79 : decode cX10_sell 79 = .ok (.getfield 135, 3) := by decide +kernel
theorem dX10_sell_82 : decode cX10_sell 82 = .ok (.iload_n 1, 1) := by decide +kernel
theorem dX10_sell_83 : decode cX10_sell 83 = .ok (.iaload, 1) := by decide +kernel
theorem dX10_sell_84 : decode cX10_sell 84 = .ok (.dup2, 1) := by decide +kernel
theorem dX10_sell_85 : decode cX10_sell 85 = .ok (.iaload, 1) := by decide +kernel
theorem dX10_sell_86 : decode cX10_sell 86 = .ok (.iload_n 3, 1) := by decide +kernel
theorem dX10_sell_87 : decode cX10_sell 87 = .ok (.iadd, 1) := by decide +kernel
theorem dX10_sell_88 : decode cX10_sell 88 = .ok (.iastore, 1) := by decide +kernel
theorem dX10_sell_89 : decode cX10_sell 89 = .ok (.aload_n 0, 1) := by decide +kernel
theorem dX10_sell_90 : decode cX10_sell 90 = .ok (.getfield 135, 3) := by decide +kernel
theorem dX10_sell_93 : decode cX10_sell 93 = .ok (.iload_n 1, 1) := by decide +kernel
theorem dX10_sell_94 : decode cX10_sell 94 = .ok (.iload_n 2, 1) := by decide +kernel
theorem dX10_sell_95 : decode cX10_sell 95 = .ok (.iastore, 1) := by decide +kernel
theorem dX10_sell_96 : decode cX10_sell 96 = .ok (.iconst 1, 1) := by decide +kernel
theorem dX10_sell_97 : decode cX10_sell 97 = .ok (.ireturn, 1) := by decide +kernel
theorem dX10_pays_0 : decode cX10_pays 0 = .ok (.iconst 0, 1) := by decide +kernel
theorem dX10_pays_1 : decode cX10_pays 1 = .ok (.istore_n 2, 1) := by decide +kernel
theorem dX10_pays_2 : decode cX10_pays 2 = .ok (.iload_n 2, 1) := by decide +kernel
theorem dX10_pays_3 : decode cX10_pays 3 = .ok (.aload_n 0, 1) := by decide +kernel
theorem dX10_pays_4 : decode cX10_pays 4 = .ok (.getfield 13, 3) := by decide +kernel
theorem dX10_pays_7 : decode cX10_pays 7 = .ok (.iconst 0, 1) := by decide +kernel
theorem dX10_pays_8 : decode cX10_pays 8 = .ok (.iaload, 1) := by decide +kernel
theorem dX10_pays_9 : decode cX10_pays 9 = .ok (.if_icmp .ge 113, 3) := by decide +kernel
theorem dX10_pays_12 : decode cX10_pays 12 = .ok (.iconst 0, 1) := by decide +kernel
theorem dX10_pays_13 : decode cX10_pays 13 = .ok (.istore_n 3, 1) := by decide +kernel
theorem dX10_pays_14 : decode cX10_pays 14 = .ok (.iload_n 3, 1) := by decide +kernel
theorem dX10_pays_15 : decode cX10_pays 15 = .ok (.aload_n 0, 1) := by decide +kernel
theorem dX10_pays_16 : decode cX10_pays 16 = .ok (.getfield 470, 3) := by decide +kernel
theorem dX10_pays_19 : decode cX10_pays 19 = .ok (.if_icmp .ge 97, 3) := by decide +kernel
theorem dX10_pays_22 : decode cX10_pays 22 = .ok (.aload_n 0, 1) := by decide +kernel
theorem dX10_pays_23 : decode cX10_pays 23 = .ok (.iload_n 3, 1) := by decide +kernel
theorem dX10_pays_24 : decode cX10_pays 24 = .ok (.iload_n 2, 1) := by decide +kernel
theorem dX10_pays_25 : decode cX10_pays 25 = .ok (.iload_n 1, 1) := by decide +kernel
theorem dX10_pays_26 : decode cX10_pays 26 = .ok (.invokevirtual 480, 3) := by decide +kernel
theorem dX10_pays_29 : decode cX10_pays 29 = .ok (.ifCond .eq 18, 3) := by decide +kernel
theorem dX10_pays_32 : decode cX10_pays 32 = .ok (.aload_n 0, 1) := by decide +kernel
theorem dX10_pays_33 : decode cX10_pays 33 = .ok (.aload_n 0, 1) := by decide +kernel
theorem dX10_pays_34 : decode cX10_pays 34 = .ok (.getfield 150, 3) := by decide +kernel
theorem dX10_pays_37 : decode cX10_pays 37 = .ok (.iload_n 3, 1) := by decide +kernel
theorem dX10_pays_38 : decode cX10_pays 38 = .ok (.iaload, 1) := by decide +kernel
theorem dX10_pays_39 : decode cX10_pays 39 = .ok (.iload_n 2, 1) := by decide +kernel
theorem dX10_pays_40 : decode cX10_pays 40 = .ok (.iload_n 1, 1) := by decide +kernel
theorem dX10_pays_41 : decode cX10_pays 41 = .ok (.invokevirtual 508, 3) := by decide +kernel
theorem dX10_pays_44 : decode cX10_pays 44 = .ok (.goto 4, 3) := by decide +kernel
theorem dX10_pays_47 : decode cX10_pays 47 = .ok (.iconst (-1), 1) := by decide +kernel
theorem dX10_pays_48 : decode cX10_pays 48 = .ok (.istore 4, 2) := by decide +kernel
theorem dX10_pays_50 : decode cX10_pays 50 = .ok (.iload 4, 2) := by decide +kernel
theorem dX10_pays_52 : decode cX10_pays 52 = .ok (.iconst (-1), 1) := by decide +kernel
theorem dX10_pays_53 : decode cX10_pays 53 = .ok (.if_icmp .ne 6, 3) := by decide +kernel
theorem dX10_pays_56 : decode cX10_pays 56 = .ok (.goto 54, 3) := by decide +kernel
theorem dX10_pays_59 : decode cX10_pays 59 = .ok (.aload_n 0, 1) := by decide +kernel
theorem dX10_pays_60 : decode cX10_pays 60 = .ok (.getfield 13, 3) := by decide +kernel
theorem dX10_pays_63 : decode cX10_pays 63 = .ok (.bipush 8, 2) := by decide +kernel
theorem dX10_pays_65 : decode cX10_pays 65 = .ok (.iaload, 1) := by decide +kernel
theorem dX10_pays_66 : decode cX10_pays 66 = .ok (.aload_n 0, 1) := by decide +kernel
theorem dX10_pays_67 : decode cX10_pays 67 = .ok (.getfield 141, 3) := by decide +kernel
theorem dX10_pays_70 : decode cX10_pays 70 = .ok (.aload_n 0, 1) := by decide +kernel
theorem dX10_pays_71 : decode cX10_pays 71 = .ok (.getfield 150, 3) := by decide +kernel
theorem dX10_pays_74 : decode cX10_pays 74 = .ok (.iload_n 3, 1) := by decide +kernel
theorem dX10_pays_75 : decode cX10_pays 75 = .ok (.iaload, 1) := by decide +kernel
theorem dX10_pays_76 : decode cX10_pays 76 = .ok (.iaload, 1) := by decide +kernel
theorem dX10_pays_77 : decode cX10_pays 77 = .ok (.invokestatic 474, 3) := by decide +kernel
theorem dX10_pays_80 : decode cX10_pays 80 = .ok (.istore 5, 2) := by decide +kernel
theorem dX10_pays_82 : decode cX10_pays 82 = .ok (.aload_n 0, 1) := by decide +kernel
theorem dX10_pays_83 : decode cX10_pays 83 = .ok (.getfield 141, 3) := by decide +kernel
theorem dX10_pays_86 : decode cX10_pays 86 = .ok (.aload_n 0, 1) := by decide +kernel
theorem dX10_pays_87 : decode cX10_pays 87 = .ok (.getfield 150, 3) := by decide +kernel
theorem dX10_pays_90 : decode cX10_pays 90 = .ok (.iload_n 3, 1) := by decide +kernel
theorem dX10_pays_91 : decode cX10_pays 91 = .ok (.iaload, 1) := by decide +kernel
theorem dX10_pays_92 : decode cX10_pays 92 = .ok (.dup2, 1) := by decide +kernel
theorem dX10_pays_93 : decode cX10_pays 93 = .ok (.iaload, 1) := by decide +kernel
theorem dX10_pays_94 : decode cX10_pays 94 = .ok (.iload 5, 2) := by decide +kernel
theorem dX10_pays_96 : decode cX10_pays 96 = .ok (.isub, 1) := by decide +kernel
theorem dX10_pays_97 : decode cX10_pays 97 = .ok (.iastore, 1) := by decide +kernel
theorem dX10_pays_98 : decode cX10_pays 98 = .ok (.aload_n 0, 1) := by decide +kernel
theorem dX10_pays_99 : decode cX10_pays 99 = .ok (.getfield 141, 3) := by decide +kernel
theorem dX10_pays_102 : decode cX10_pays 102 = .ok (.iload 4, 2) := by decide +kernel
theorem dX10_pays_104 : decode cX10_pays 104 = .ok (.dup2, 1) := by decide +kernel
theorem dX10_pays_105 : decode cX10_pays 105 = .ok (.iaload, 1) := by decide +kernel
theorem dX10_pays_106 : decode cX10_pays 106 = .ok (.iload 5, 2) := by decide +kernel
theorem dX10_pays_108 : decode cX10_pays 108 = .ok (.iadd, 1) := by decide +kernel
theorem dX10_pays_109 : decode cX10_pays 109 = .ok (.iastore, 1) := by decide +kernel
theorem dX10_pays_110 : decode cX10_pays 110 = .ok (.iinc 3 1, 3) := by decide +kernel
theorem dX10_pays_113 : decode cX10_pays 113 = .ok (.goto (-99), 3) := by decide +kernel
theorem dX10_pays_116 : decode cX10_pays 116 = .ok (.iinc 2 1, 3) := by decide +kernel
theorem dX10_pays_119 : decode cX10_pays 119 = .ok (.goto (-117), 3) := by decide +kernel
theorem dX10_pays_122 : decode cX10_pays 122 = .ok (.return_, 1) := by decide +kernel
theorem dX10_go_0 : decode cX10_go 0 = .ok (.aload_n 0, 1) := by decide +kernel
theorem dX10_go_1 : decode cX10_go 1 = .ok (.iconst 0, 1) := by decide +kernel
theorem dX10_go_2 : decode cX10_go 2 = .ok (.putfield 235, 3) := by decide +kernel
theorem dX10_go_5 : decode cX10_go 5 = .ok (.iload_n 1, 1) := by decide +kernel
theorem dX10_go_6 : decode cX10_go 6 = .ok (.ifCond .lt 22, 3) := by decide +kernel
theorem dX10_go_9 : decode cX10_go 9 = .ok (.iload_n 1, 1) := by decide +kernel
theorem dX10_go_10 : decode cX10_go 10 = .ok (.bipush 48, 2) := by decide +kernel
theorem dX10_go_12 : decode cX10_go 12 = .ok (.if_icmp .gt 16, 3) := by decide +kernel
theorem dX10_go_15 : decode cX10_go 15 = .ok (.aload_n 0, 1) := by decide +kernel
theorem dX10_go_16 : decode cX10_go 16 = .ok (.getfield 144, 3) := by decide +kernel
theorem dX10_go_19 : decode cX10_go 19 = .ok (.iconst 0, 1) := by decide +kernel
theorem dX10_go_20 : decode cX10_go 20 = .ok (.iaload, 1) := by decide +kernel
theorem dX10_go_21 : decode cX10_go 21 = .ok (.iload_n 1, 1) := by decide +kernel
theorem dX10_go_22 : decode cX10_go 22 = .ok (.iadd, 1) := by decide +kernel
theorem dX10_go_23 : decode cX10_go 23 = .ok (.bipush 48, 2) := by decide +kernel
theorem dX10_go_25 : decode cX10_go 25 = .ok (.if_icmp .le 5, 3) := by decide +kernel
theorem dX10_go_28 : decode cX10_go 28 = .ok (.iconst (-1), 1) := by decide +kernel
theorem dX10_go_29 : decode cX10_go 29 = .ok (.ireturn, 1) := by decide +kernel
theorem dX10_go_30 : decode cX10_go 30 = .ok (.iload_n 1, 1) := by decide +kernel
theorem dX10_go_31 : decode cX10_go 31 = .ok (.ifCond .le 8, 3) := by decide +kernel
theorem dX10_go_34 : decode cX10_go 34 = .ok (.aload_n 0, 1) := by decide +kernel
theorem dX10_go_35 : decode cX10_go 35 = .ok (.iconst 0, 1) := by decide +kernel
theorem dX10_go_36 : decode cX10_go 36 = .ok (.putfield 413, 3) := by decide +kernel
theorem dX10_go_39 : decode cX10_go 39 = .ok (.aload_n 0, 1) := by decide +kernel
theorem dX10_go_40 : decode cX10_go 40 = .ok (.invokevirtual 515, 3) := by decide +kernel
theorem dX10_go_43 : decode cX10_go 43 = .ok (.iconst 0, 1) := by decide +kernel
theorem dX10_go_44 : decode cX10_go 44 = .ok (.istore_n 2, 1) := by decide +kernel
theorem dX10_go_45 : decode cX10_go 45 = .ok (.iload_n 2, 1) := by decide +kernel
theorem dX10_go_46 : decode cX10_go 46 = .ok (.iload_n 1, 1) := by decide +kernel
theorem dX10_go_47 : decode cX10_go 47 = .ok (.if_icmp .ge 29, 3) := by decide +kernel
theorem dX10_go_50 : decode cX10_go 50 = .ok (.aload_n 0, 1) := by decide +kernel
theorem dX10_go_51 : decode cX10_go 51 = .ok (.aload_n 0, 1) := by decide +kernel
theorem dX10_go_52 : decode cX10_go 52 = .ok (.getfield 144, 3) := by decide +kernel
theorem dX10_go_55 : decode cX10_go 55 = .ok (.iconst 0, 1) := by decide +kernel
theorem dX10_go_56 : decode cX10_go 56 = .ok (.iaload, 1) := by decide +kernel
theorem dX10_go_57 : decode cX10_go 57 = .ok (.invokevirtual 597, 3) := by decide +kernel
theorem dX10_go_60 : decode cX10_go 60 = .ok (.aload_n 0, 1) := by decide +kernel
theorem dX10_go_61 : decode cX10_go 61 = .ok (.getfield 144, 3) := by decide +kernel
theorem dX10_go_64 : decode cX10_go 64 = .ok (.iconst 0, 1) := by decide +kernel
theorem dX10_go_65 : decode cX10_go 65 = .ok (.dup2, 1) := by decide +kernel
theorem dX10_go_66 : decode cX10_go 66 = .ok (.iaload, 1) := by decide +kernel
theorem dX10_go_67 : decode cX10_go 67 = .ok (.iconst 1, 1) := by decide +kernel
theorem dX10_go_68 : decode cX10_go 68 = .ok (.iadd, 1) := by decide +kernel
theorem dX10_go_69 : decode cX10_go 69 = .ok (.iastore, 1) := by decide +kernel
theorem dX10_go_70 : decode cX10_go 70 = .ok (.iinc 2 1, 3) := by decide +kernel
theorem dX10_go_73 : decode cX10_go 73 = .ok (.goto (-28), 3) := by decide +kernel
theorem dX10_go_76 : decode cX10_go 76 = .ok (.aload_n 0, 1) := by decide +kernel
theorem dX10_go_77 : decode cX10_go 77 = .ok (.getfield 144, 3) := by decide +kernel
theorem dX10_go_80 : decode cX10_go 80 = .ok (.iconst 0, 1) := by decide +kernel
theorem dX10_go_81 : decode cX10_go 81 = .ok (.iaload, 1) := by decide +kernel
theorem dX10_go_82 : decode cX10_go 82 = .ok (.ireturn, 1) := by decide +kernel
theorem dX10_layBad_0 : decode cX10_layBad 0 = .ok (.aload_n 0, 1) := by decide +kernel
theorem dX10_layBad_1 : decode cX10_layBad 1 = .ok (.invokevirtual 515, 3) := by decide +kernel
theorem dX10_layBad_4 : decode cX10_layBad 4 = .ok (.iconst 0, 1) := by decide +kernel
theorem dX10_layBad_5 : decode cX10_layBad 5 = .ok (.istore_n 1, 1) := by decide +kernel
theorem dX10_layBad_6 : decode cX10_layBad 6 = .ok (.iload_n 1, 1) := by decide +kernel
theorem dX10_layBad_7 : decode cX10_layBad 7 = .ok (.aload_n 0, 1) := by decide +kernel
theorem dX10_layBad_8 : decode cX10_layBad 8 = .ok (.getfield 13, 3) := by decide +kernel
theorem dX10_layBad_11 : decode cX10_layBad 11 = .ok (.bipush 6, 2) := by decide +kernel
theorem dX10_layBad_13 : decode cX10_layBad 13 = .ok (.iaload, 1) := by decide +kernel
theorem dX10_layBad_14 : decode cX10_layBad 14 = .ok (.if_icmp .ge 98, 3) := by decide +kernel
theorem dX10_layBad_17 : decode cX10_layBad 17 = .ok (.iconst 0, 1) := by decide +kernel
theorem dX10_layBad_18 : decode cX10_layBad 18 = .ok (.istore_n 2, 1) := by decide +kernel
theorem dX10_layBad_19 : decode cX10_layBad 19 = .ok (.iload_n 2, 1) := by decide +kernel
theorem dX10_layBad_20 : decode cX10_layBad 20 = .ok (.bipush 48, 2) := by decide +kernel
theorem dX10_layBad_22 : decode cX10_layBad 22 = .ok (.if_icmp .ge 84, 3) := by decide +kernel
theorem dX10_layBad_25 : decode cX10_layBad 25 = .ok (.iconst 0, 1) := by decide +kernel
theorem dX10_layBad_26 : decode cX10_layBad 26 = .ok (.istore_n 3, 1) := by decide +kernel
theorem dX10_layBad_27 : decode cX10_layBad 27 = .ok (.iconst 0, 1) := by decide +kernel
theorem dX10_layBad_28 : decode cX10_layBad 28 = .ok (.istore 4, 2) := by decide +kernel
theorem dX10_layBad_30 : decode cX10_layBad 30 = .ok (.iload 4, 2) := by decide +kernel
theorem dX10_layBad_32 : decode cX10_layBad 32 = .ok (.aload_n 0, 1) := by decide +kernel
theorem dX10_layBad_33 : decode cX10_layBad 33 = .ok (.getfield 13, 3) := by decide +kernel
theorem dX10_layBad_36 : decode cX10_layBad 36 = .ok (.iconst 0, 1) := by decide +kernel
theorem dX10_layBad_37 : decode cX10_layBad 37 = .ok (.iaload, 1) := by decide +kernel
theorem dX10_layBad_38 : decode cX10_layBad 38 = .ok (.if_icmp .ge 50, 3) := by decide +kernel
theorem dX10_layBad_41 : decode cX10_layBad 41 = .ok (.aload_n 0, 1) := by decide +kernel
theorem dX10_layBad_42 : decode cX10_layBad 42 = .ok (.aload_n 0, 1) := by decide +kernel
theorem dX10_layBad_43 : decode cX10_layBad 43 = .ok (.getfield 79, 3) := by decide +kernel
theorem dX10_layBad_46 : decode cX10_layBad 46 = .ok (.iload_n 1, 1) := by decide +kernel
theorem dX10_layBad_47 : decode cX10_layBad 47 = .ok (.iaload, 1) := by decide +kernel
theorem dX10_layBad_48 : decode cX10_layBad 48 = .ok (.aload_n 0, 1) := by decide +kernel
theorem dX10_layBad_49 : decode cX10_layBad 49 = .ok (.getfield 85, 3) := by decide +kernel
theorem dX10_layBad_52 : decode cX10_layBad 52 = .ok (.iload_n 1, 1) := by decide +kernel
theorem dX10_layBad_53 : decode cX10_layBad 53 = .ok (.iaload, 1) := by decide +kernel
theorem dX10_layBad_54 : decode cX10_layBad 54 = .ok (.iload 4, 2) := by decide +kernel
theorem dX10_layBad_56 : decode cX10_layBad 56 = .ok (.iload_n 2, 1) := by decide +kernel
theorem dX10_layBad_57 : decode cX10_layBad 57 = .ok (.invokevirtual 476, 3) := by decide +kernel
theorem dX10_layBad_60 : decode cX10_layBad 60 = .ok (.ifCond .eq 22, 3) := by decide +kernel
theorem dX10_layBad_63 : decode cX10_layBad 63 = .ok (.aload_n 0, 1) := by decide +kernel
theorem dX10_layBad_64 : decode cX10_layBad 64 = .ok (.aload_n 0, 1) := by decide +kernel
theorem dX10_layBad_65 : decode cX10_layBad 65 = .ok (.getfield 76, 3) := by decide +kernel
theorem dX10_layBad_68 : decode cX10_layBad 68 = .ok (.iload_n 1, 1) := by decide +kernel
theorem dX10_layBad_69 : decode cX10_layBad 69 = .ok (.iaload, 1) := by decide +kernel
theorem dX10_layBad_70 : decode cX10_layBad 70 = .ok (.iload 4, 2) := by decide +kernel
theorem dX10_layBad_72 : decode cX10_layBad 72 = .ok (.iload_n 2, 1) := by decide +kernel
theorem dX10_layBad_73 : decode cX10_layBad 73 = .ok (.invokevirtual 508, 3) := by decide +kernel
theorem dX10_layBad_76 : decode cX10_layBad 76 = .ok (.iconst (-1), 1) := by decide +kernel
theorem dX10_layBad_77 : decode cX10_layBad 77 = .ok (.if_icmp .eq 5, 3) := by decide +kernel
theorem dX10_layBad_80 : decode cX10_layBad 80 = .ok (.iconst 1, 1) := by decide +kernel
theorem dX10_layBad_81 : decode cX10_layBad 81 = .ok (.istore_n 3, 1) := by decide +kernel
theorem dX10_layBad_82 : decode cX10_layBad 82 = .ok (.iinc 4 1, 3) := by decide +kernel
theorem dX10_layBad_85 : decode cX10_layBad 85 = .ok (.goto (-55), 3) := by decide +kernel
theorem dX10_layBad_88 : decode cX10_layBad 88 = .ok (.aload_n 0, 1) := by decide +kernel
theorem dX10_layBad_89 : decode cX10_layBad 89 = .ok (.getfield 195, 3) := by decide +kernel
theorem dX10_layBad_92 : decode cX10_layBad 92 = .ok (.bipush 48, 2) := by decide +kernel
theorem dX10_layBad_94 : decode cX10_layBad 94 = .ok (.iload_n 1, 1) := by decide +kernel
theorem dX10_layBad_95 : decode cX10_layBad 95 = .ok (.imul, 1) := by decide +kernel
theorem dX10_layBad_96 : decode cX10_layBad 96 = .ok (.iload_n 2, 1) := by decide +kernel
theorem dX10_layBad_97 : decode cX10_layBad 97 = .ok (.iadd, 1) := by decide +kernel
theorem dX10_layBad_98 : decode cX10_layBad 98 = .ok (.iload_n 3, 1) := by decide +kernel
theorem dX10_layBad_99 : decode cX10_layBad 99 = .ok (.bastore, 1) := by decide +kernel
theorem dX10_layBad_100 : decode cX10_layBad 100 = .ok (.iinc 2 1, 3) := by decide +kernel
theorem dX10_layBad_103 : decode cX10_layBad 103 = .ok (.goto (-84), 3) := by decide +kernel
theorem dX10_layBad_106 : decode cX10_layBad 106 = .ok (.iinc 1 1, 3) := by decide +kernel
theorem dX10_layBad_109 : decode cX10_layBad 109 = .ok (.goto (-103), 3) := by decide +kernel
theorem dX10_layBad_112 : decode cX10_layBad 112 = .ok (.return_, 1) := by decide +kernel
theorem dX10_isOpen_0 : decode cX10_isOpen 0 = .ok (.iload_n 3, 1) := by decide +kernel
theorem dX10_isOpen_1 : decode cX10_isOpen 1 = .ok (.aload_n 0, 1) := by decide +kernel
theorem dX10_isOpen_2 : decode cX10_isOpen 2 = .ok (.getfield 82, 3) := by decide +kernel
theorem dX10_isOpen_5 : decode cX10_isOpen 5 = .ok (.iload_n 2, 1) := by decide +kernel
theorem dX10_isOpen_6 : decode cX10_isOpen 6 = .ok (.iaload, 1) := by decide +kernel
theorem dX10_isOpen_7 : decode cX10_isOpen 7 = .ok (.iadd, 1) := by decide +kernel
theorem dX10_isOpen_8 : decode cX10_isOpen 8 = .ok (.iconst 1, 1) := by decide +kernel
theorem dX10_isOpen_9 : decode cX10_isOpen 9 = .ok (.isub, 1) := by decide +kernel
theorem dX10_isOpen_10 : decode cX10_isOpen 10 = .ok (.istore 4, 2) := by decide +kernel
theorem dX10_isOpen_12 : decode cX10_isOpen 12 = .ok (.iload_n 3, 1) := by decide +kernel
theorem dX10_isOpen_13 : decode cX10_isOpen 13 = .ok (.istore 5, 2) := by decide +kernel
theorem dX10_isOpen_15 : decode cX10_isOpen 15 = .ok (.iload 5, 2) := by decide +kernel
theorem dX10_isOpen_17 : decode cX10_isOpen 17 = .ok (.iload 4, 2) := by decide +kernel
theorem dX10_isOpen_19 : decode cX10_isOpen 19 = .ok (.if_icmp .gt 26, 3) := by decide +kernel
theorem dX10_isOpen_22 : decode cX10_isOpen 22 = .ok (.aload_n 0, 1) := by decide +kernel
theorem dX10_isOpen_23 : decode cX10_isOpen 23 = .ok (.getfield 195, 3) := by decide +kernel
theorem dX10_isOpen_26 : decode cX10_isOpen 26 = .ok (.bipush 48, 2) := by decide +kernel
theorem dX10_isOpen_28 : decode cX10_isOpen 28 = .ok (.iload_n 2, 1) := by decide +kernel
theorem dX10_isOpen_29 : decode cX10_isOpen 29 = .ok (.imul, 1) := by decide +kernel
theorem dX10_isOpen_30 : decode cX10_isOpen 30 = .ok (.iload 5, 2) := by decide +kernel
theorem dX10_isOpen_32 : decode cX10_isOpen 32 = .ok (.iadd, 1) := by decide +kernel
theorem dX10_isOpen_33 : decode cX10_isOpen 33 = .ok (.baload, 1) := by decide +kernel
theorem dX10_isOpen_34 : decode cX10_isOpen 34 = .ok (.ifCond .eq 5, 3) := by decide +kernel
theorem dX10_isOpen_37 : decode cX10_isOpen 37 = .ok (.iconst 0, 1) := by decide +kernel
theorem dX10_isOpen_38 : decode cX10_isOpen 38 = .ok (.ireturn, 1) := by decide +kernel
theorem dX10_isOpen_39 : decode cX10_isOpen 39 = .ok (.iinc 5 1, 3) := by decide +kernel
theorem dX10_isOpen_42 : decode cX10_isOpen 42 = .ok (.goto (-27), 3) := by decide +kernel
theorem dX10_isOpen_45 : decode cX10_isOpen 45 = .ok (.iconst 0, 1) := by decide +kernel
theorem dX10_isOpen_46 : decode cX10_isOpen 46 = .ok (.istore 5, 2) := by decide +kernel
theorem dX10_isOpen_48 : decode cX10_isOpen 48 = .ok (.iload 5, 2) := by decide +kernel
theorem dX10_isOpen_50 : decode cX10_isOpen 50 = .ok (.iload_n 1, 1) := by decide +kernel
theorem dX10_isOpen_51 : decode cX10_isOpen 51 = .ok (.if_icmp .ge 69, 3) := by decide +kernel
theorem dX10_isOpen_54 : decode cX10_isOpen 54 = .ok (.aload_n 0, 1) := by decide +kernel
theorem dX10_isOpen_55 : decode cX10_isOpen 55 = .ok (.getfield 199, 3) := by decide +kernel
theorem dX10_isOpen_58 : decode cX10_isOpen 58 = .ok (.iload 5, 2) := by decide +kernel
theorem dX10_isOpen_60 : decode cX10_isOpen 60 = .ok (.iaload, 1) := by decide +kernel
theorem dX10_isOpen_61 : decode cX10_isOpen 61 = .ok (.istore 6, 2) := by decide +kernel
theorem dX10_isOpen_63 : decode cX10_isOpen 63 = .ok (.aload_n 0, 1) := by decide +kernel
theorem dX10_isOpen_64 : decode cX10_isOpen 64 = .ok (.getfield 76, 3) := by decide +kernel
theorem dX10_isOpen_67 : decode cX10_isOpen 67 = .ok (.iload 6, 2) := by decide +kernel
theorem dX10_isOpen_69 : decode cX10_isOpen 69 = .ok (.iaload, 1) := by decide +kernel
theorem dX10_isOpen_70 : decode cX10_isOpen 70 = .ok (.aload_n 0, 1) := by decide +kernel
theorem dX10_isOpen_71 : decode cX10_isOpen 71 = .ok (.getfield 76, 3) := by decide +kernel
theorem dX10_isOpen_74 : decode cX10_isOpen 74 = .ok (.iload_n 2, 1) := by decide +kernel
theorem dX10_isOpen_75 : decode cX10_isOpen 75 = .ok (.iaload, 1) := by decide +kernel
theorem dX10_isOpen_76 : decode cX10_isOpen 76 = .ok (.if_icmp .ne 38, 3) := by decide +kernel
theorem dX10_isOpen_79 : decode cX10_isOpen 79 = .ok (.aload_n 0, 1) := by decide +kernel
theorem dX10_isOpen_80 : decode cX10_isOpen 80 = .ok (.getfield 202, 3) := by decide +kernel
theorem dX10_isOpen_83 : decode cX10_isOpen 83 = .ok (.iload 5, 2) := by decide +kernel
theorem dX10_isOpen_85 : decode cX10_isOpen 85 = .ok (.iaload, 1) := by decide +kernel
theorem dX10_isOpen_86 : decode cX10_isOpen 86 = .ok (.iload 4, 2) := by decide +kernel
theorem dX10_isOpen_88 : decode cX10_isOpen 88 = .ok (.if_icmp .gt 26, 3) := by decide +kernel
theorem dX10_isOpen_91 : decode cX10_isOpen 91 = .ok (.iload_n 3, 1) := by decide +kernel
theorem dX10_isOpen_92 : decode cX10_isOpen 92 = .ok (.aload_n 0, 1) := by decide +kernel
theorem dX10_isOpen_93 : decode cX10_isOpen 93 = .ok (.getfield 202, 3) := by decide +kernel
theorem dX10_isOpen_96 : decode cX10_isOpen 96 = .ok (.iload 5, 2) := by decide +kernel
theorem dX10_isOpen_98 : decode cX10_isOpen 98 = .ok (.iaload, 1) := by decide +kernel
theorem dX10_isOpen_99 : decode cX10_isOpen 99 = .ok (.aload_n 0, 1) := by decide +kernel
theorem dX10_isOpen_100 : decode cX10_isOpen 100 = .ok (.getfield 82, 3) := by decide +kernel
theorem dX10_isOpen_103 : decode cX10_isOpen 103 = .ok (.iload 6, 2) := by decide +kernel
theorem dX10_isOpen_105 : decode cX10_isOpen 105 = .ok (.iaload, 1) := by decide +kernel
theorem dX10_isOpen_106 : decode cX10_isOpen 106 = .ok (.iadd, 1) := by decide +kernel
theorem dX10_isOpen_107 : decode cX10_isOpen 107 = .ok (.iconst 1, 1) := by decide +kernel
theorem dX10_isOpen_108 : decode cX10_isOpen 108 = .ok (.isub, 1) := by decide +kernel
theorem dX10_isOpen_109 : decode cX10_isOpen 109 = .ok (.if_icmp .gt 5, 3) := by decide +kernel
theorem dX10_isOpen_112 : decode cX10_isOpen 112 = .ok (.iconst 0, 1) := by decide +kernel
theorem dX10_isOpen_113 : decode cX10_isOpen 113 = .ok (.ireturn, 1) := by decide +kernel
theorem dX10_isOpen_114 : decode cX10_isOpen 114 = .ok (.iinc 5 1, 3) := by decide +kernel
theorem dX10_isOpen_117 : decode cX10_isOpen 117 = .ok (.goto (-69), 3) := by decide +kernel
theorem dX10_isOpen_120 : decode cX10_isOpen 120 = .ok (.iconst 1, 1) := by decide +kernel
theorem dX10_isOpen_121 : decode cX10_isOpen 121 = .ok (.ireturn, 1) := by decide +kernel
theorem dX10_plans_0 : decode cX10_plans 0 = .ok (.iload_n 1, 1) := by decide +kernel
theorem dX10_plans_1 : decode cX10_plans 1 = .ok (.aload_n 0, 1) := by decide +kernel
theorem dX10_plans_2 : decode cX10_plans 2 = .ok (.getfield 13, 3) := by decide +kernel
theorem dX10_plans_5 : decode cX10_plans 5 = .ok (.bipush 6, 2) := by decide +kernel
theorem dX10_plans_7 : decode cX10_plans 7 = .ok (.iaload, 1) := by decide +kernel
theorem dX10_plans_8 : decode cX10_plans 8 = .ok (.if_icmp .ne 69, 3) := by decide +kernel
theorem dX10_plans_11 : decode cX10_plans 11 = .ok (.aload_n 0, 1) := by decide +kernel
theorem dX10_plans_12 : decode cX10_plans 12 = .ok (.getfield 600, 3) := by decide +kernel
theorem dX10_plans_15 : decode cX10_plans 15 = .ok (.iconst (-1), 1) := by decide +kernel
theorem dX10_plans_16 : decode cX10_plans 16 = .ok (.if_icmp .eq 12, 3) := by decide +kernel
theorem dX10_plans_19 : decode cX10_plans 19 = .ok (.iload_n 3, 1) := by decide +kernel
theorem dX10_plans_20 : decode cX10_plans 20 = .ok (.aload_n 0, 1) := by decide +kernel
theorem dX10_plans_21 : decode cX10_plans 21 = .ok (.getfield 600, 3) := by decide +kernel
theorem dX10_plans_24 : decode cX10_plans 24 = .ok (.if_icmp .lt 4, 3) := by decide +kernel
theorem dX10_plans_27 : decode cX10_plans 27 = .ok (.return_, 1) := by decide +kernel
theorem dX10_plans_28 : decode cX10_plans 28 = .ok (.aload_n 0, 1) := by decide +kernel
theorem dX10_plans_29 : decode cX10_plans 29 = .ok (.iload_n 3, 1) := by decide +kernel
theorem dX10_plans_30 : decode cX10_plans 30 = .ok (.putfield 600, 3) := by decide +kernel
theorem dX10_plans_33 : decode cX10_plans 33 = .ok (.iconst 0, 1) := by decide +kernel
theorem dX10_plans_34 : decode cX10_plans 34 = .ok (.istore 4, 2) := by decide +kernel
theorem dX10_plans_36 : decode cX10_plans 36 = .ok (.iload 4, 2) := by decide +kernel
theorem dX10_plans_38 : decode cX10_plans 38 = .ok (.iload_n 1, 1) := by decide +kernel
theorem dX10_plans_39 : decode cX10_plans 39 = .ok (.if_icmp .ge 37, 3) := by decide +kernel
theorem dX10_plans_42 : decode cX10_plans 42 = .ok (.aload_n 0, 1) := by decide +kernel
theorem dX10_plans_43 : decode cX10_plans 43 = .ok (.getfield 205, 3) := by decide +kernel
theorem dX10_plans_46 : decode cX10_plans 46 = .ok (.iload 4, 2) := by decide +kernel
theorem dX10_plans_48 : decode cX10_plans 48 = .ok (.aload_n 0, 1) := by decide +kernel
theorem dX10_plans_49 : decode cX10_plans 49 = .ok (.getfield 199, 3) := by decide +kernel
theorem dX10_plans_52 : decode cX10_plans 52 = .ok (.iload 4, 2) := by decide +kernel
theorem dX10_plans_54 : decode cX10_plans 54 = .ok (.iaload, 1) := by decide +kernel
theorem dX10_plans_55 : decode cX10_plans 55 = .ok (.iastore, 1) := by decide +kernel
theorem dX10_plans_56 : decode cX10_plans 56 = .ok (.aload_n 0, 1) := by decide +kernel
theorem dX10_plans_57 : decode cX10_plans 57 = .ok (.getfield 208, 3) := by decide +kernel
theorem dX10_plans_60 : decode cX10_plans 60 = .ok (.iload 4, 2) := by decide +kernel
theorem dX10_plans_62 : decode cX10_plans 62 = .ok (.aload_n 0, 1) := by decide +kernel
theorem dX10_plans_63 : decode cX10_plans 63 = .ok (.getfield 202, 3) := by decide +kernel
theorem dX10_plans_66 : decode cX10_plans 66 = .ok (.iload 4, 2) := by decide +kernel
theorem dX10_plans_68 : decode cX10_plans 68 = .ok (.iaload, 1) := by decide +kernel
theorem dX10_plans_69 : decode cX10_plans 69 = .ok (.iastore, 1) := by decide +kernel
theorem dX10_plans_70 : decode cX10_plans 70 = .ok (.iinc 4 1, 3) := by decide +kernel
theorem dX10_plans_73 : decode cX10_plans 73 = .ok (.goto (-37), 3) := by decide +kernel
theorem dX10_plans_76 : decode cX10_plans 76 = .ok (.return_, 1) := by decide +kernel
theorem dX10_plans_77 : decode cX10_plans 77 = .ok (.iconst 0, 1) := by decide +kernel
theorem dX10_plans_78 : decode cX10_plans 78 = .ok (.istore 4, 2) := by decide +kernel
theorem dX10_plans_80 : decode cX10_plans 80 = .ok (.iload 4, 2) := by decide +kernel
theorem dX10_plans_82 : decode cX10_plans 82 = .ok (.aload_n 0, 1) := by decide +kernel
theorem dX10_plans_83 : decode cX10_plans 83 = .ok (.getfield 13, 3) := by decide +kernel
theorem dX10_plans_86 : decode cX10_plans 86 = .ok (.bipush 6, 2) := by decide +kernel
theorem dX10_plans_88 : decode cX10_plans 88 = .ok (.iaload, 1) := by decide +kernel
theorem dX10_plans_89 : decode cX10_plans 89 = .ok (.if_icmp .ge 121, 3) := by decide +kernel
theorem dX10_plans_92 : decode cX10_plans 92 = .ok (.iload_n 2, 1) := by decide +kernel
theorem dX10_plans_93 : decode cX10_plans 93 = .ok (.iload 4, 2) := by decide +kernel
theorem dX10_plans_95 : decode cX10_plans 95 = .ok (.ishr, 1) := by decide +kernel
theorem dX10_plans_96 : decode cX10_plans 96 = .ok (.iconst 1, 1) := by decide +kernel
theorem dX10_plans_97 : decode cX10_plans 97 = .ok (.iand, 1) := by decide +kernel
theorem dX10_plans_98 : decode cX10_plans 98 = .ok (.iconst 1, 1) := by decide +kernel
theorem dX10_plans_99 : decode cX10_plans 99 = .ok (.if_icmp .ne 6, 3) := by decide +kernel
theorem dX10_plans_102 : decode cX10_plans 102 = .ok (.goto 102, 3) := by decide +kernel
theorem dX10_plans_105 : decode cX10_plans 105 = .ok (.iconst 0, 1) := by decide +kernel
theorem dX10_plans_106 : decode cX10_plans 106 = .ok (.istore 5, 2) := by decide +kernel
theorem dX10_plans_108 : decode cX10_plans 108 = .ok (.iload 5, 2) := by decide +kernel
theorem dX10_plans_110 : decode cX10_plans 110 = .ok (.aload_n 0, 1) := by decide +kernel
theorem dX10_plans_111 : decode cX10_plans 111 = .ok (.getfield 82, 3) := by decide +kernel
theorem dX10_plans_114 : decode cX10_plans 114 = .ok (.iload 4, 2) := by decide +kernel
theorem dX10_plans_116 : decode cX10_plans 116 = .ok (.iaload, 1) := by decide +kernel
theorem dX10_plans_117 : decode cX10_plans 117 = .ok (.iadd, 1) := by decide +kernel
theorem dX10_plans_118 : decode cX10_plans 118 = .ok (.bipush 48, 2) := by decide +kernel
theorem dX10_plans_120 : decode cX10_plans 120 = .ok (.if_icmp .gt 21, 3) := by decide +kernel
theorem dX10_plans_123 : decode cX10_plans 123 = .ok (.aload_n 0, 1) := by decide +kernel
theorem dX10_plans_124 : decode cX10_plans 124 = .ok (.iload_n 1, 1) := by decide +kernel
theorem dX10_plans_125 : decode cX10_plans 125 = .ok (.iload 4, 2) := by decide +kernel
theorem dX10_plans_127 : decode cX10_plans 127 = .ok (.iload 5, 2) := by decide +kernel
theorem dX10_plans_129 : decode cX10_plans 129 = .ok (.invokevirtual 603, 3) := by decide +kernel
theorem dX10_plans_132 : decode cX10_plans 132 = .ok (.ifCond .ne 9, 3) := by decide +kernel
theorem dX10_plans_135 : decode cX10_plans 135 = .ok (.iinc 5 1, 3) := by decide +kernel
theorem dX10_plans_138 : decode cX10_plans 138 = .ok (.goto (-30), 3) := by decide +kernel
theorem dX10_plans_141 : decode cX10_plans 141 = .ok (.iload 5, 2) := by decide +kernel
theorem dX10_plans_143 : decode cX10_plans 143 = .ok (.aload_n 0, 1) := by decide +kernel
theorem dX10_plans_144 : decode cX10_plans 144 = .ok (.getfield 82, 3) := by decide +kernel
theorem dX10_plans_147 : decode cX10_plans 147 = .ok (.iload 4, 2) := by decide +kernel
theorem dX10_plans_149 : decode cX10_plans 149 = .ok (.iaload, 1) := by decide +kernel
theorem dX10_plans_150 : decode cX10_plans 150 = .ok (.iadd, 1) := by decide +kernel
theorem dX10_plans_151 : decode cX10_plans 151 = .ok (.bipush 48, 2) := by decide +kernel
theorem dX10_plans_153 : decode cX10_plans 153 = .ok (.if_icmp .le 6, 3) := by decide +kernel
theorem dX10_plans_156 : decode cX10_plans 156 = .ok (.goto 48, 3) := by decide +kernel
theorem dX10_plans_159 : decode cX10_plans 159 = .ok (.aload_n 0, 1) := by decide +kernel
theorem dX10_plans_160 : decode cX10_plans 160 = .ok (.getfield 199, 3) := by decide +kernel
theorem dX10_plans_163 : decode cX10_plans 163 = .ok (.iload_n 1, 1) := by decide +kernel
theorem dX10_plans_164 : decode cX10_plans 164 = .ok (.iload 4, 2) := by decide +kernel
theorem dX10_plans_166 : decode cX10_plans 166 = .ok (.iastore, 1) := by decide +kernel
theorem dX10_plans_167 : decode cX10_plans 167 = .ok (.aload_n 0, 1) := by decide +kernel
theorem dX10_plans_168 : decode cX10_plans 168 = .ok (.getfield 202, 3) := by decide +kernel
theorem dX10_plans_171 : decode cX10_plans 171 = .ok (.iload_n 1, 1) := by decide +kernel
theorem dX10_plans_172 : decode cX10_plans 172 = .ok (.iload 5, 2) := by decide +kernel
theorem dX10_plans_174 : decode cX10_plans 174 = .ok (.iastore, 1) := by decide +kernel
theorem dX10_plans_175 : decode cX10_plans 175 = .ok (.aload_n 0, 1) := by decide +kernel
theorem dX10_plans_176 : decode cX10_plans 176 = .ok (.iload_n 1, 1) := by decide +kernel
theorem dX10_plans_177 : decode cX10_plans 177 = .ok (.iconst 1, 1) := by decide +kernel
theorem dX10_plans_178 : decode cX10_plans 178 = .ok (.iadd, 1) := by decide +kernel
theorem dX10_plans_179 : decode cX10_plans 179 = .ok (.iload_n 2, 1) := by decide +kernel
theorem dX10_plans_180 : decode cX10_plans 180 = .ok (.iconst 1, 1) := by decide +kernel
theorem dX10_plans_181 : decode cX10_plans 181 = .ok (.iload 4, 2) := by decide +kernel
theorem dX10_plans_183 : decode cX10_plans 183 = .ok (.ishl, 1) := by decide +kernel
theorem dX10_plans_184 : decode cX10_plans 184 = .ok (.ior, 1) := by decide +kernel
theorem dX10_plans_185 : decode cX10_plans 185 = .ok (.iload_n 3, 1) := by decide +kernel
theorem dX10_plans_186 : decode cX10_plans 186 = .ok (.iload 5, 2) := by decide +kernel
theorem dX10_plans_188 : decode cX10_plans 188 = .ok (.aload_n 0, 1) := by decide +kernel
theorem dX10_plans_189 : decode cX10_plans 189 = .ok (.getfield 82, 3) := by decide +kernel
theorem dX10_plans_192 : decode cX10_plans 192 = .ok (.iload 4, 2) := by decide +kernel
theorem dX10_plans_194 : decode cX10_plans 194 = .ok (.iaload, 1) := by decide +kernel
theorem dX10_plans_195 : decode cX10_plans 195 = .ok (.iadd, 1) := by decide +kernel
theorem dX10_plans_196 : decode cX10_plans 196 = .ok (.iconst 1, 1) := by decide +kernel
theorem dX10_plans_197 : decode cX10_plans 197 = .ok (.isub, 1) := by decide +kernel
theorem dX10_plans_198 : decode cX10_plans 198 = .ok (.invokestatic 606, 3) := by decide +kernel
theorem dX10_plans_201 : decode cX10_plans 201 = .ok (.invokevirtual 608, 3) := by decide +kernel
theorem dX10_plans_204 : decode cX10_plans 204 = .ok (.iinc 4 1, 3) := by decide +kernel
theorem dX10_plans_207 : decode cX10_plans 207 = .ok (.goto (-127), 3) := by decide +kernel
theorem dX10_plans_210 : decode cX10_plans 210 = .ok (.return_, 1) := by decide +kernel
theorem dX10_layPlan_0 : decode cX10_layPlan 0 = .ok (.aload_n 0, 1) := by decide +kernel
theorem dX10_layPlan_1 : decode cX10_layPlan 1 = .ok (.invokevirtual 611, 3) := by decide +kernel
theorem dX10_layPlan_4 : decode cX10_layPlan 4 = .ok (.aload_n 0, 1) := by decide +kernel
theorem dX10_layPlan_5 : decode cX10_layPlan 5 = .ok (.iconst (-1), 1) := by decide +kernel
theorem dX10_layPlan_6 : decode cX10_layPlan 6 = .ok (.putfield 600, 3) := by decide +kernel
theorem dX10_layPlan_9 : decode cX10_layPlan 9 = .ok (.aload_n 0, 1) := by decide +kernel
theorem dX10_layPlan_10 : decode cX10_layPlan 10 = .ok (.iconst 0, 1) := by decide +kernel
theorem dX10_layPlan_11 : decode cX10_layPlan 11 = .ok (.iconst 0, 1) := by decide +kernel
theorem dX10_layPlan_12 : decode cX10_layPlan 12 = .ok (.iconst (-1), 1) := by decide +kernel
theorem dX10_layPlan_13 : decode cX10_layPlan 13 = .ok (.invokevirtual 608, 3) := by decide +kernel
theorem dX10_layPlan_16 : decode cX10_layPlan 16 = .ok (.return_, 1) := by decide +kernel
theorem dX10_plan_0 : decode cX10_plan 0 = .ok (.aload_n 0, 1) := by decide +kernel
theorem dX10_plan_1 : decode cX10_plan 1 = .ok (.iconst 0, 1) := by decide +kernel
theorem dX10_plan_2 : decode cX10_plan 2 = .ok (.putfield 235, 3) := by decide +kernel
theorem dX10_plan_5 : decode cX10_plan 5 = .ok (.aload_n 0, 1) := by decide +kernel
theorem dX10_plan_6 : decode cX10_plan 6 = .ok (.getfield 13, 3) := by decide +kernel
theorem dX10_plan_9 : decode cX10_plan 9 = .ok (.bipush 6, 2) := by decide +kernel
theorem dX10_plan_11 : decode cX10_plan 11 = .ok (.iaload, 1) := by decide +kernel
theorem dX10_plan_12 : decode cX10_plan 12 = .ok (.ifCond .ne 5, 3) := by decide +kernel
theorem dX10_plan_15 : decode cX10_plan 15 = .ok (.iconst (-1), 1) := by decide +kernel
theorem dX10_plan_16 : decode cX10_plan 16 = .ok (.ireturn, 1) := by decide +kernel
theorem dX10_plan_17 : decode cX10_plan 17 = .ok (.aload_n 0, 1) := by decide +kernel
theorem dX10_plan_18 : decode cX10_plan 18 = .ok (.invokevirtual 614, 3) := by decide +kernel
theorem dX10_plan_21 : decode cX10_plan 21 = .ok (.aload_n 0, 1) := by decide +kernel
theorem dX10_plan_22 : decode cX10_plan 22 = .ok (.getfield 600, 3) := by decide +kernel
theorem dX10_plan_25 : decode cX10_plan 25 = .ok (.iconst (-1), 1) := by decide +kernel
theorem dX10_plan_26 : decode cX10_plan 26 = .ok (.if_icmp .ne 8, 3) := by decide +kernel
theorem dX10_plan_29 : decode cX10_plan 29 = .ok (.bipush (-2), 2) := by decide +kernel
theorem dX10_plan_31 : decode cX10_plan 31 = .ok (.goto 7, 3) := by decide +kernel
theorem dX10_plan_34 : decode cX10_plan 34 = .ok (.aload_n 0, 1) := by decide +kernel
theorem dX10_plan_35 : decode cX10_plan 35 = .ok (.getfield 600, 3) := by decide +kernel
theorem dX10_plan_38 : decode cX10_plan 38 = .ok (.ireturn, 1) := by decide +kernel
theorem dX10_planned_0 : decode cX10_planned 0 = .ok (.aload_n 0, 1) := by decide +kernel
theorem dX10_planned_1 : decode cX10_planned 1 = .ok (.iconst 0, 1) := by decide +kernel
theorem dX10_planned_2 : decode cX10_planned 2 = .ok (.putfield 235, 3) := by decide +kernel
theorem dX10_planned_5 : decode cX10_planned 5 = .ok (.iload_n 1, 1) := by decide +kernel
theorem dX10_planned_6 : decode cX10_planned 6 = .ok (.ifCond .lt 12, 3) := by decide +kernel
theorem dX10_planned_9 : decode cX10_planned 9 = .ok (.iload_n 2, 1) := by decide +kernel
theorem dX10_planned_10 : decode cX10_planned 10 = .ok (.ifCond .lt 8, 3) := by decide +kernel
theorem dX10_planned_13 : decode cX10_planned 13 = .ok (.iload_n 2, 1) := by decide +kernel
theorem dX10_planned_14 : decode cX10_planned 14 = .ok (.iconst 1, 1) := by decide +kernel
theorem dX10_planned_15 : decode cX10_planned 15 = .ok (.if_icmp .le 5, 3) := by decide +kernel
theorem dX10_planned_18 : decode cX10_planned 18 = .ok (.iconst (-1), 1) := by decide +kernel
theorem dX10_planned_19 : decode cX10_planned 19 = .ok (.ireturn, 1) := by decide +kernel
theorem dX10_planned_20 : decode cX10_planned 20 = .ok (.iload_n 1, 1) := by decide +kernel
theorem dX10_planned_21 : decode cX10_planned 21 = .ok (.aload_n 0, 1) := by decide +kernel
theorem dX10_planned_22 : decode cX10_planned 22 = .ok (.getfield 13, 3) := by decide +kernel
theorem dX10_planned_25 : decode cX10_planned 25 = .ok (.bipush 6, 2) := by decide +kernel
theorem dX10_planned_27 : decode cX10_planned 27 = .ok (.iaload, 1) := by decide +kernel
theorem dX10_planned_28 : decode cX10_planned 28 = .ok (.if_icmp .lt 6, 3) := by decide +kernel
theorem dX10_planned_31 : decode cX10_planned 31 = .ok (.bipush (-2), 2) := by decide +kernel
theorem dX10_planned_33 : decode cX10_planned 33 = .ok (.ireturn, 1) := by decide +kernel
theorem dX10_planned_34 : decode cX10_planned 34 = .ok (.aload_n 0, 1) := by decide +kernel
theorem dX10_planned_35 : decode cX10_planned 35 = .ok (.invokevirtual 614, 3) := by decide +kernel
theorem dX10_planned_38 : decode cX10_planned 38 = .ok (.aload_n 0, 1) := by decide +kernel
theorem dX10_planned_39 : decode cX10_planned 39 = .ok (.getfield 600, 3) := by decide +kernel
theorem dX10_planned_42 : decode cX10_planned 42 = .ok (.iconst (-1), 1) := by decide +kernel
theorem dX10_planned_43 : decode cX10_planned 43 = .ok (.if_icmp .ne 8, 3) := by decide +kernel
theorem dX10_planned_46 : decode cX10_planned 46 = .ok (.bipush (-2), 2) := by decide +kernel
theorem dX10_planned_48 : decode cX10_planned 48 = .ok (.goto 22, 3) := by decide +kernel
theorem dX10_planned_51 : decode cX10_planned 51 = .ok (.iload_n 2, 1) := by decide +kernel
theorem dX10_planned_52 : decode cX10_planned 52 = .ok (.ifCond .ne 12, 3) := by decide +kernel
theorem dX10_planned_55 : decode cX10_planned 55 = .ok (.aload_n 0, 1) := by decide +kernel
theorem dX10_planned_56 : decode cX10_planned 56 = .ok (.getfield 205, 3) := by decide +kernel
theorem dX10_planned_59 : decode cX10_planned 59 = .ok (.iload_n 1, 1) := by decide +kernel
theorem dX10_planned_60 : decode cX10_planned 60 = .ok (.iaload, 1) := by decide +kernel
theorem dX10_planned_61 : decode cX10_planned 61 = .ok (.goto 9, 3) := by decide +kernel
theorem dX10_planned_64 : decode cX10_planned 64 = .ok (.aload_n 0, 1) := by decide +kernel
theorem dX10_planned_65 : decode cX10_planned 65 = .ok (.getfield 208, 3) := by decide +kernel
theorem dX10_planned_68 : decode cX10_planned 68 = .ok (.iload_n 1, 1) := by decide +kernel
theorem dX10_planned_69 : decode cX10_planned 69 = .ok (.iaload, 1) := by decide +kernel
theorem dX10_planned_70 : decode cX10_planned 70 = .ok (.ireturn, 1) := by decide +kernel
theorem dX10_isHeardBy_0 : decode cX10_isHeardBy 0 = .ok (.aload_n 0, 1) := by decide +kernel
theorem dX10_isHeardBy_1 : decode cX10_isHeardBy 1 = .ok (.iload_n 3, 1) := by decide +kernel
theorem dX10_isHeardBy_2 : decode cX10_isHeardBy 2 = .ok (.iconst (-1), 1) := by decide +kernel
theorem dX10_isHeardBy_3 : decode cX10_isHeardBy 3 = .ok (.invokevirtual 496, 3) := by decide +kernel
theorem dX10_isHeardBy_6 : decode cX10_isHeardBy 6 = .ok (.aload_n 0, 1) := by decide +kernel
theorem dX10_isHeardBy_7 : decode cX10_isHeardBy 7 = .ok (.getfield 123, 3) := by decide +kernel
theorem dX10_isHeardBy_10 : decode cX10_isHeardBy 10 = .ok (.iload_n 1, 1) := by decide +kernel
theorem dX10_isHeardBy_11 : decode cX10_isHeardBy 11 = .ok (.iaload, 1) := by decide +kernel
theorem dX10_isHeardBy_12 : decode cX10_isHeardBy 12 = .ok (.istore 4, 2) := by decide +kernel
theorem dX10_isHeardBy_14 : decode cX10_isHeardBy 14 = .ok (.iload 4, 2) := by decide +kernel
theorem dX10_isHeardBy_16 : decode cX10_isHeardBy 16 = .ok (.aload_n 0, 1) := by decide +kernel
theorem dX10_isHeardBy_17 : decode cX10_isHeardBy 17 = .ok (.getfield 126, 3) := by decide +kernel
theorem dX10_isHeardBy_20 : decode cX10_isHeardBy 20 = .ok (.iload_n 1, 1) := by decide +kernel
theorem dX10_isHeardBy_21 : decode cX10_isHeardBy 21 = .ok (.iaload, 1) := by decide +kernel
theorem dX10_isHeardBy_22 : decode cX10_isHeardBy 22 = .ok (.if_icmp .gt 22, 3) := by decide +kernel
theorem dX10_isHeardBy_25 : decode cX10_isHeardBy 25 = .ok (.aload_n 0, 1) := by decide +kernel
theorem dX10_isHeardBy_26 : decode cX10_isHeardBy 26 = .ok (.iload_n 1, 1) := by decide +kernel
theorem dX10_isHeardBy_27 : decode cX10_isHeardBy 27 = .ok (.iload_n 2, 1) := by decide +kernel
theorem dX10_isHeardBy_28 : decode cX10_isHeardBy 28 = .ok (.iload 4, 2) := by decide +kernel
theorem dX10_isHeardBy_30 : decode cX10_isHeardBy 30 = .ok (.invokevirtual 480, 3) := by decide +kernel
theorem dX10_isHeardBy_33 : decode cX10_isHeardBy 33 = .ok (.ifCond .eq 5, 3) := by decide +kernel
theorem dX10_isHeardBy_36 : decode cX10_isHeardBy 36 = .ok (.iconst 1, 1) := by decide +kernel
theorem dX10_isHeardBy_37 : decode cX10_isHeardBy 37 = .ok (.ireturn, 1) := by decide +kernel
theorem dX10_isHeardBy_38 : decode cX10_isHeardBy 38 = .ok (.iinc 4 1, 3) := by decide +kernel
theorem dX10_isHeardBy_41 : decode cX10_isHeardBy 41 = .ok (.goto (-27), 3) := by decide +kernel
theorem dX10_isHeardBy_44 : decode cX10_isHeardBy 44 = .ok (.iconst 0, 1) := by decide +kernel
theorem dX10_isHeardBy_45 : decode cX10_isHeardBy 45 = .ok (.ireturn, 1) := by decide +kernel
theorem dX10_walls_0 : decode cX10_walls 0 = .ok (.aload_n 0, 1) := by decide +kernel
theorem dX10_walls_1 : decode cX10_walls 1 = .ok (.iconst 0, 1) := by decide +kernel
theorem dX10_walls_2 : decode cX10_walls 2 = .ok (.putfield 235, 3) := by decide +kernel
theorem dX10_walls_5 : decode cX10_walls 5 = .ok (.aload_n 0, 1) := by decide +kernel
theorem dX10_walls_6 : decode cX10_walls 6 = .ok (.iload_n 1, 1) := by decide +kernel
theorem dX10_walls_7 : decode cX10_walls 7 = .ok (.invokevirtual 521, 3) := by decide +kernel
theorem dX10_walls_10 : decode cX10_walls 10 = .ok (.ifCond .eq 11, 3) := by decide +kernel
theorem dX10_walls_13 : decode cX10_walls 13 = .ok (.aload_n 0, 1) := by decide +kernel
theorem dX10_walls_14 : decode cX10_walls 14 = .ok (.iload_n 2, 1) := by decide +kernel
theorem dX10_walls_15 : decode cX10_walls 15 = .ok (.invokevirtual 527, 3) := by decide +kernel
theorem dX10_walls_18 : decode cX10_walls 18 = .ok (.ifCond .ne 5, 3) := by decide +kernel
theorem dX10_walls_21 : decode cX10_walls 21 = .ok (.iconst (-1), 1) := by decide +kernel
theorem dX10_walls_22 : decode cX10_walls 22 = .ok (.ireturn, 1) := by decide +kernel
theorem dX10_walls_23 : decode cX10_walls 23 = .ok (.aload_n 0, 1) := by decide +kernel
theorem dX10_walls_24 : decode cX10_walls 24 = .ok (.invokevirtual 493, 3) := by decide +kernel
theorem dX10_walls_27 : decode cX10_walls 27 = .ok (.bipush (-2), 2) := by decide +kernel
theorem dX10_walls_29 : decode cX10_walls 29 = .ok (.istore_n 3, 1) := by decide +kernel
theorem dX10_walls_30 : decode cX10_walls 30 = .ok (.iconst 0, 1) := by decide +kernel
theorem dX10_walls_31 : decode cX10_walls 31 = .ok (.istore 4, 2) := by decide +kernel
theorem dX10_walls_33 : decode cX10_walls 33 = .ok (.iload 4, 2) := by decide +kernel
theorem dX10_walls_35 : decode cX10_walls 35 = .ok (.iconst 1, 1) := by decide +kernel
theorem dX10_walls_36 : decode cX10_walls 36 = .ok (.aload_n 0, 1) := by decide +kernel
theorem dX10_walls_37 : decode cX10_walls 37 = .ok (.getfield 13, 3) := by decide +kernel
theorem dX10_walls_40 : decode cX10_walls 40 = .ok (.iconst 1, 1) := by decide +kernel
theorem dX10_walls_41 : decode cX10_walls 41 = .ok (.iaload, 1) := by decide +kernel
theorem dX10_walls_42 : decode cX10_walls 42 = .ok (.ishl, 1) := by decide +kernel
theorem dX10_walls_43 : decode cX10_walls 43 = .ok (.if_icmp .ge 61, 3) := by decide +kernel
theorem dX10_walls_46 : decode cX10_walls 46 = .ok (.iload 4, 2) := by decide +kernel
theorem dX10_walls_48 : decode cX10_walls 48 = .ok (.aload_n 0, 1) := by decide +kernel
theorem dX10_walls_49 : decode cX10_walls 49 = .ok (.getfield 138, 3) := by decide +kernel
theorem dX10_walls_52 : decode cX10_walls 52 = .ok (.iconst 0, 1) := by decide +kernel
theorem dX10_walls_53 : decode cX10_walls 53 = .ok (.iaload, 1) := by decide +kernel
theorem dX10_walls_54 : decode cX10_walls 54 = .ok (.iand, 1) := by decide +kernel
theorem dX10_walls_55 : decode cX10_walls 55 = .ok (.ifCond .ne 43, 3) := by decide +kernel
theorem dX10_walls_58 : decode cX10_walls 58 = .ok (.iload_n 3, 1) := by decide +kernel
theorem dX10_walls_59 : decode cX10_walls 59 = .ok (.ifCond .lt 18, 3) := by decide +kernel
theorem dX10_walls_62 : decode cX10_walls 62 = .ok (.iload 4, 2) := by decide +kernel
theorem dX10_walls_64 : decode cX10_walls 64 = .ok (.invokestatic 566, 3) := by decide +kernel
theorem dX10_walls_67 : decode cX10_walls 67 = .ok (.iload_n 3, 1) := by decide +kernel
theorem dX10_walls_68 : decode cX10_walls 68 = .ok (.invokestatic 566, 3) := by decide +kernel
theorem dX10_walls_71 : decode cX10_walls 71 = .ok (.if_icmp .lt 6, 3) := by decide +kernel
theorem dX10_walls_74 : decode cX10_walls 74 = .ok (.goto 24, 3) := by decide +kernel
theorem dX10_walls_77 : decode cX10_walls 77 = .ok (.aload_n 0, 1) := by decide +kernel
theorem dX10_walls_78 : decode cX10_walls 78 = .ok (.iload_n 1, 1) := by decide +kernel
theorem dX10_walls_79 : decode cX10_walls 79 = .ok (.iload_n 2, 1) := by decide +kernel
theorem dX10_walls_80 : decode cX10_walls 80 = .ok (.aload_n 0, 1) := by decide +kernel
theorem dX10_walls_81 : decode cX10_walls 81 = .ok (.getfield 138, 3) := by decide +kernel
theorem dX10_walls_84 : decode cX10_walls 84 = .ok (.iconst 0, 1) := by decide +kernel
theorem dX10_walls_85 : decode cX10_walls 85 = .ok (.iaload, 1) := by decide +kernel
theorem dX10_walls_86 : decode cX10_walls 86 = .ok (.iload 4, 2) := by decide +kernel
theorem dX10_walls_88 : decode cX10_walls 88 = .ok (.ior, 1) := by decide +kernel
theorem dX10_walls_89 : decode cX10_walls 89 = .ok (.invokevirtual 617, 3) := by decide +kernel
theorem dX10_walls_92 : decode cX10_walls 92 = .ok (.ifCond .ne 6, 3) := by decide +kernel
theorem dX10_walls_95 : decode cX10_walls 95 = .ok (.iload 4, 2) := by decide +kernel
theorem dX10_walls_97 : decode cX10_walls 97 = .ok (.istore_n 3, 1) := by decide +kernel
theorem dX10_walls_98 : decode cX10_walls 98 = .ok (.iinc 4 1, 3) := by decide +kernel
theorem dX10_walls_101 : decode cX10_walls 101 = .ok (.goto (-68), 3) := by decide +kernel
theorem dX10_walls_104 : decode cX10_walls 104 = .ok (.iload_n 3, 1) := by decide +kernel
theorem dX10_walls_105 : decode cX10_walls 105 = .ok (.ireturn, 1) := by decide +kernel
theorem dX10_barksNext_0 : decode cX10_barksNext 0 = .ok (.iconst 0, 1) := by decide +kernel
theorem dX10_barksNext_1 : decode cX10_barksNext 1 = .ok (.istore_n 2, 1) := by decide +kernel
theorem dX10_barksNext_2 : decode cX10_barksNext 2 = .ok (.iconst 0, 1) := by decide +kernel
theorem dX10_barksNext_3 : decode cX10_barksNext 3 = .ok (.istore_n 3, 1) := by decide +kernel
theorem dX10_barksNext_4 : decode cX10_barksNext 4 = .ok (.iload_n 3, 1) := by decide +kernel
theorem dX10_barksNext_5 : decode cX10_barksNext 5 = .ok (.aload_n 0, 1) := by decide +kernel
theorem dX10_barksNext_6 : decode cX10_barksNext 6 = .ok (.getfield 13, 3) := by decide +kernel
theorem dX10_barksNext_9 : decode cX10_barksNext 9 = .ok (.iconst 0, 1) := by decide +kernel
theorem dX10_barksNext_10 : decode cX10_barksNext 10 = .ok (.iaload, 1) := by decide +kernel
theorem dX10_barksNext_11 : decode cX10_barksNext 11 = .ok (.if_icmp .ge 87, 3) := by decide +kernel
theorem dX10_barksNext_14 : decode cX10_barksNext 14 = .ok (.aload_n 0, 1) := by decide +kernel
theorem dX10_barksNext_15 : decode cX10_barksNext 15 = .ok (.getfield 88, 3) := by decide +kernel
theorem dX10_barksNext_18 : decode cX10_barksNext 18 = .ok (.iload_n 3, 1) := by decide +kernel
theorem dX10_barksNext_19 : decode cX10_barksNext 19 = .ok (.iaload, 1) := by decide +kernel
theorem dX10_barksNext_20 : decode cX10_barksNext 20 = .ok (.ifCond .eq 72, 3) := by decide +kernel
theorem dX10_barksNext_23 : decode cX10_barksNext 23 = .ok (.iload_n 1, 1) := by decide +kernel
theorem dX10_barksNext_24 : decode cX10_barksNext 24 = .ok (.iload_n 3, 1) := by decide +kernel
theorem dX10_barksNext_25 : decode cX10_barksNext 25 = .ok (.ishr, 1) := by decide +kernel
theorem dX10_barksNext_26 : decode cX10_barksNext 26 = .ok (.iconst 1, 1) := by decide +kernel
theorem dX10_barksNext_27 : decode cX10_barksNext 27 = .ok (.iand, 1) := by decide +kernel
theorem dX10_barksNext_28 : decode cX10_barksNext 28 = .ok (.iconst 1, 1) := by decide +kernel
theorem dX10_barksNext_29 : decode cX10_barksNext 29 = .ok (.if_icmp .ne 6, 3) := by decide +kernel
theorem dX10_barksNext_32 : decode cX10_barksNext 32 = .ok (.goto 60, 3) := by decide +kernel
theorem dX10_barksNext_35 : decode cX10_barksNext 35 = .ok (.iconst 0, 1) := by decide +kernel
theorem dX10_barksNext_36 : decode cX10_barksNext 36 = .ok (.istore 4, 2) := by decide +kernel
theorem dX10_barksNext_38 : decode cX10_barksNext 38 = .ok (.iload 4, 2) := by decide +kernel
theorem dX10_barksNext_40 : decode cX10_barksNext 40 = .ok (.aload_n 0, 1) := by decide +kernel
theorem dX10_barksNext_41 : decode cX10_barksNext 41 = .ok (.getfield 13, 3) := by decide +kernel
theorem dX10_barksNext_44 : decode cX10_barksNext 44 = .ok (.iconst 0, 1) := by decide +kernel
theorem dX10_barksNext_45 : decode cX10_barksNext 45 = .ok (.iaload, 1) := by decide +kernel
theorem dX10_barksNext_46 : decode cX10_barksNext 46 = .ok (.if_icmp .ge 46, 3) := by decide +kernel
theorem dX10_barksNext_49 : decode cX10_barksNext 49 = .ok (.iload_n 1, 1) := by decide +kernel
theorem dX10_barksNext_50 : decode cX10_barksNext 50 = .ok (.iload 4, 2) := by decide +kernel
theorem dX10_barksNext_52 : decode cX10_barksNext 52 = .ok (.ishr, 1) := by decide +kernel
theorem dX10_barksNext_53 : decode cX10_barksNext 53 = .ok (.iconst 1, 1) := by decide +kernel
theorem dX10_barksNext_54 : decode cX10_barksNext 54 = .ok (.iand, 1) := by decide +kernel
theorem dX10_barksNext_55 : decode cX10_barksNext 55 = .ok (.iconst 1, 1) := by decide +kernel
theorem dX10_barksNext_56 : decode cX10_barksNext 56 = .ok (.if_icmp .ne 30, 3) := by decide +kernel
theorem dX10_barksNext_59 : decode cX10_barksNext 59 = .ok (.aload_n 0, 1) := by decide +kernel
theorem dX10_barksNext_60 : decode cX10_barksNext 60 = .ok (.getfield 162, 3) := by decide +kernel
theorem dX10_barksNext_63 : decode cX10_barksNext 63 = .ok (.bipush 6, 2) := by decide +kernel
theorem dX10_barksNext_65 : decode cX10_barksNext 65 = .ok (.iload_n 3, 1) := by decide +kernel
theorem dX10_barksNext_66 : decode cX10_barksNext 66 = .ok (.imul, 1) := by decide +kernel
theorem dX10_barksNext_67 : decode cX10_barksNext 67 = .ok (.iload 4, 2) := by decide +kernel
theorem dX10_barksNext_69 : decode cX10_barksNext 69 = .ok (.iadd, 1) := by decide +kernel
theorem dX10_barksNext_70 : decode cX10_barksNext 70 = .ok (.iaload, 1) := by decide +kernel
theorem dX10_barksNext_71 : decode cX10_barksNext 71 = .ok (.aload_n 0, 1) := by decide +kernel
theorem dX10_barksNext_72 : decode cX10_barksNext 72 = .ok (.getfield 88, 3) := by decide +kernel
theorem dX10_barksNext_75 : decode cX10_barksNext 75 = .ok (.iload_n 3, 1) := by decide +kernel
theorem dX10_barksNext_76 : decode cX10_barksNext 76 = .ok (.iaload, 1) := by decide +kernel
theorem dX10_barksNext_77 : decode cX10_barksNext 77 = .ok (.if_icmp .gt 9, 3) := by decide +kernel
theorem dX10_barksNext_80 : decode cX10_barksNext 80 = .ok (.iload_n 2, 1) := by decide +kernel
theorem dX10_barksNext_81 : decode cX10_barksNext 81 = .ok (.iconst 1, 1) := by decide +kernel
theorem dX10_barksNext_82 : decode cX10_barksNext 82 = .ok (.iload_n 3, 1) := by decide +kernel
theorem dX10_barksNext_83 : decode cX10_barksNext 83 = .ok (.ishl, 1) := by decide +kernel
theorem dX10_barksNext_84 : decode cX10_barksNext 84 = .ok (.ior, 1) := by decide +kernel
theorem dX10_barksNext_85 : decode cX10_barksNext 85 = .ok (.istore_n 2, 1) := by decide +kernel
theorem dX10_barksNext_86 : decode cX10_barksNext 86 = .ok (.iinc 4 1, 3) := by decide +kernel
theorem dX10_barksNext_89 : decode cX10_barksNext 89 = .ok (.goto (-51), 3) := by decide +kernel
theorem dX10_barksNext_92 : decode cX10_barksNext 92 = .ok (.iinc 3 1, 3) := by decide +kernel
theorem dX10_barksNext_95 : decode cX10_barksNext 95 = .ok (.goto (-91), 3) := by decide +kernel
theorem dX10_barksNext_98 : decode cX10_barksNext 98 = .ok (.iload_n 2, 1) := by decide +kernel
theorem dX10_barksNext_99 : decode cX10_barksNext 99 = .ok (.ireturn, 1) := by decide +kernel
theorem dX10_bark_0 : decode cX10_bark 0 = .ok (.aload_n 0, 1) := by decide +kernel
theorem dX10_bark_1 : decode cX10_bark 1 = .ok (.iconst 0, 1) := by decide +kernel
theorem dX10_bark_2 : decode cX10_bark 2 = .ok (.putfield 235, 3) := by decide +kernel
theorem dX10_bark_5 : decode cX10_bark 5 = .ok (.iload_n 1, 1) := by decide +kernel
theorem dX10_bark_6 : decode cX10_bark 6 = .ok (.ifCond .lt 18, 3) := by decide +kernel
theorem dX10_bark_9 : decode cX10_bark 9 = .ok (.iload_n 1, 1) := by decide +kernel
theorem dX10_bark_10 : decode cX10_bark 10 = .ok (.bipush 64, 2) := by decide +kernel
theorem dX10_bark_12 : decode cX10_bark 12 = .ok (.if_icmp .ge 12, 3) := by decide +kernel
theorem dX10_bark_15 : decode cX10_bark 15 = .ok (.iload_n 2, 1) := by decide +kernel
theorem dX10_bark_16 : decode cX10_bark 16 = .ok (.ifCond .lt 8, 3) := by decide +kernel
theorem dX10_bark_19 : decode cX10_bark 19 = .ok (.iload_n 2, 1) := by decide +kernel
theorem dX10_bark_20 : decode cX10_bark 20 = .ok (.iconst 2, 1) := by decide +kernel
theorem dX10_bark_21 : decode cX10_bark 21 = .ok (.if_icmp .le 5, 3) := by decide +kernel
theorem dX10_bark_24 : decode cX10_bark 24 = .ok (.iconst (-1), 1) := by decide +kernel
theorem dX10_bark_25 : decode cX10_bark 25 = .ok (.ireturn, 1) := by decide +kernel
theorem dX10_bark_26 : decode cX10_bark 26 = .ok (.iconst 0, 1) := by decide +kernel
theorem dX10_bark_27 : decode cX10_bark 27 = .ok (.istore_n 3, 1) := by decide +kernel
theorem dX10_bark_28 : decode cX10_bark 28 = .ok (.iload_n 3, 1) := by decide +kernel
theorem dX10_bark_29 : decode cX10_bark 29 = .ok (.bipush 6, 2) := by decide +kernel
theorem dX10_bark_31 : decode cX10_bark 31 = .ok (.if_icmp .ge 37, 3) := by decide +kernel
theorem dX10_bark_34 : decode cX10_bark 34 = .ok (.iload_n 1, 1) := by decide +kernel
theorem dX10_bark_35 : decode cX10_bark 35 = .ok (.iload_n 3, 1) := by decide +kernel
theorem dX10_bark_36 : decode cX10_bark 36 = .ok (.ishr, 1) := by decide +kernel
theorem dX10_bark_37 : decode cX10_bark 37 = .ok (.iconst 1, 1) := by decide +kernel
theorem dX10_bark_38 : decode cX10_bark 38 = .ok (.iand, 1) := by decide +kernel
theorem dX10_bark_39 : decode cX10_bark 39 = .ok (.iconst 1, 1) := by decide +kernel
theorem dX10_bark_40 : decode cX10_bark 40 = .ok (.if_icmp .ne 22, 3) := by decide +kernel
theorem dX10_bark_43 : decode cX10_bark 43 = .ok (.aload_n 0, 1) := by decide +kernel
theorem dX10_bark_44 : decode cX10_bark 44 = .ok (.iload_n 3, 1) := by decide +kernel
theorem dX10_bark_45 : decode cX10_bark 45 = .ok (.invokevirtual 527, 3) := by decide +kernel
theorem dX10_bark_48 : decode cX10_bark 48 = .ok (.ifCond .eq 12, 3) := by decide +kernel
theorem dX10_bark_51 : decode cX10_bark 51 = .ok (.aload_n 0, 1) := by decide +kernel
theorem dX10_bark_52 : decode cX10_bark 52 = .ok (.getfield 88, 3) := by decide +kernel
theorem dX10_bark_55 : decode cX10_bark 55 = .ok (.iload_n 3, 1) := by decide +kernel
theorem dX10_bark_56 : decode cX10_bark 56 = .ok (.iaload, 1) := by decide +kernel
theorem dX10_bark_57 : decode cX10_bark 57 = .ok (.ifCond .ne 5, 3) := by decide +kernel
theorem dX10_bark_60 : decode cX10_bark 60 = .ok (.iconst (-1), 1) := by decide +kernel
theorem dX10_bark_61 : decode cX10_bark 61 = .ok (.ireturn, 1) := by decide +kernel
theorem dX10_bark_62 : decode cX10_bark 62 = .ok (.iinc 3 1, 3) := by decide +kernel
theorem dX10_bark_65 : decode cX10_bark 65 = .ok (.goto (-37), 3) := by decide +kernel
theorem dX10_bark_68 : decode cX10_bark 68 = .ok (.aload_n 0, 1) := by decide +kernel
theorem dX10_bark_69 : decode cX10_bark 69 = .ok (.aload_n 0, 1) := by decide +kernel
theorem dX10_bark_70 : decode cX10_bark 70 = .ok (.getfield 138, 3) := by decide +kernel
theorem dX10_bark_73 : decode cX10_bark 73 = .ok (.iconst 0, 1) := by decide +kernel
theorem dX10_bark_74 : decode cX10_bark 74 = .ok (.iaload, 1) := by decide +kernel
theorem dX10_bark_75 : decode cX10_bark 75 = .ok (.iconst (-1), 1) := by decide +kernel
theorem dX10_bark_76 : decode cX10_bark 76 = .ok (.invokevirtual 496, 3) := by decide +kernel
theorem dX10_bark_79 : decode cX10_bark 79 = .ok (.iconst 0, 1) := by decide +kernel
theorem dX10_bark_80 : decode cX10_bark 80 = .ok (.istore_n 3, 1) := by decide +kernel
theorem dX10_bark_81 : decode cX10_bark 81 = .ok (.iload_n 3, 1) := by decide +kernel
theorem dX10_bark_82 : decode cX10_bark 82 = .ok (.bipush 64, 2) := by decide +kernel
theorem dX10_bark_84 : decode cX10_bark 84 = .ok (.if_icmp .ge 16, 3) := by decide +kernel
theorem dX10_bark_87 : decode cX10_bark 87 = .ok (.aload_n 0, 1) := by decide +kernel
theorem dX10_bark_88 : decode cX10_bark 88 = .ok (.getfield 211, 3) := by decide +kernel
theorem dX10_bark_91 : decode cX10_bark 91 = .ok (.iload_n 3, 1) := by decide +kernel
theorem dX10_bark_92 : decode cX10_bark 92 = .ok (.iconst (-1), 1) := by decide +kernel
theorem dX10_bark_93 : decode cX10_bark 93 = .ok (.iastore, 1) := by decide +kernel
theorem dX10_bark_94 : decode cX10_bark 94 = .ok (.iinc 3 1, 3) := by decide +kernel
theorem dX10_bark_97 : decode cX10_bark 97 = .ok (.goto (-16), 3) := by decide +kernel
theorem dX10_bark_100 : decode cX10_bark 100 = .ok (.iload_n 1, 1) := by decide +kernel
theorem dX10_bark_101 : decode cX10_bark 101 = .ok (.istore_n 3, 1) := by decide +kernel
theorem dX10_bark_102 : decode cX10_bark 102 = .ok (.iconst 0, 1) := by decide +kernel
theorem dX10_bark_103 : decode cX10_bark 103 = .ok (.istore 4, 2) := by decide +kernel
theorem dX10_bark_105 : decode cX10_bark 105 = .ok (.iconst 0, 1) := by decide +kernel
theorem dX10_bark_106 : decode cX10_bark 106 = .ok (.istore 5, 2) := by decide +kernel
theorem dX10_bark_108 : decode cX10_bark 108 = .ok (.iload_n 3, 1) := by decide +kernel
theorem dX10_bark_109 : decode cX10_bark 109 = .ok (.ifCond .eq 44, 3) := by decide +kernel
theorem dX10_bark_112 : decode cX10_bark 112 = .ok (.aload_n 0, 1) := by decide +kernel
theorem dX10_bark_113 : decode cX10_bark 113 = .ok (.getfield 211, 3) := by decide +kernel
theorem dX10_bark_116 : decode cX10_bark 116 = .ok (.iload_n 3, 1) := by decide +kernel
theorem dX10_bark_117 : decode cX10_bark 117 = .ok (.iaload, 1) := by decide +kernel
theorem dX10_bark_118 : decode cX10_bark 118 = .ok (.iconst (-1), 1) := by decide +kernel
theorem dX10_bark_119 : decode cX10_bark 119 = .ok (.if_icmp .ne 34, 3) := by decide +kernel
theorem dX10_bark_122 : decode cX10_bark 122 = .ok (.aload_n 0, 1) := by decide +kernel
theorem dX10_bark_123 : decode cX10_bark 123 = .ok (.getfield 211, 3) := by decide +kernel
theorem dX10_bark_126 : decode cX10_bark 126 = .ok (.iload_n 3, 1) := by decide +kernel
theorem dX10_bark_127 : decode cX10_bark 127 = .ok (.iload 4, 2) := by decide +kernel
theorem dX10_bark_129 : decode cX10_bark 129 = .ok (.iastore, 1) := by decide +kernel
theorem dX10_bark_130 : decode cX10_bark 130 = .ok (.iload 5, 2) := by decide +kernel
theorem dX10_bark_132 : decode cX10_bark 132 = .ok (.iload_n 3, 1) := by decide +kernel
theorem dX10_bark_133 : decode cX10_bark 133 = .ok (.invokestatic 566, 3) := by decide +kernel
theorem dX10_bark_136 : decode cX10_bark 136 = .ok (.invokestatic 606, 3) := by decide +kernel
theorem dX10_bark_139 : decode cX10_bark 139 = .ok (.istore 5, 2) := by decide +kernel
theorem dX10_bark_141 : decode cX10_bark 141 = .ok (.aload_n 0, 1) := by decide +kernel
theorem dX10_bark_142 : decode cX10_bark 142 = .ok (.iload_n 3, 1) := by decide +kernel
theorem dX10_bark_143 : decode cX10_bark 143 = .ok (.invokevirtual 620, 3) := by decide +kernel
theorem dX10_bark_146 : decode cX10_bark 146 = .ok (.istore_n 3, 1) := by decide +kernel
theorem dX10_bark_147 : decode cX10_bark 147 = .ok (.iinc 4 1, 3) := by decide +kernel
theorem dX10_bark_150 : decode cX10_bark 150 = .ok (.goto (-42), 3) := by decide +kernel
theorem dX10_bark_153 : decode cX10_bark 153 = .ok (.iload_n 2, 1) := by decide +kernel
theorem dX10_bark_154 : decode cX10_bark 154 = .ok (.iconst 2, 1) := by decide +kernel
theorem dX10_bark_155 : decode cX10_bark 155 = .ok (.if_icmp .ne 6, 3) := by decide +kernel
theorem dX10_bark_158 : decode cX10_bark 158 = .ok (.iload 5, 2) := by decide +kernel
theorem dX10_bark_160 : decode cX10_bark 160 = .ok (.ireturn, 1) := by decide +kernel
theorem dX10_bark_161 : decode cX10_bark 161 = .ok (.iload_n 3, 1) := by decide +kernel
theorem dX10_bark_162 : decode cX10_bark 162 = .ok (.ifCond .ne 14, 3) := by decide +kernel
theorem dX10_bark_165 : decode cX10_bark 165 = .ok (.iload_n 2, 1) := by decide +kernel
theorem dX10_bark_166 : decode cX10_bark 166 = .ok (.ifCond .ne 8, 3) := by decide +kernel
theorem dX10_bark_169 : decode cX10_bark 169 = .ok (.iload 4, 2) := by decide +kernel
theorem dX10_bark_171 : decode cX10_bark 171 = .ok (.goto 4, 3) := by decide +kernel
theorem dX10_bark_174 : decode cX10_bark 174 = .ok (.iconst 0, 1) := by decide +kernel
theorem dX10_bark_175 : decode cX10_bark 175 = .ok (.ireturn, 1) := by decide +kernel
theorem dX10_bark_176 : decode cX10_bark 176 = .ok (.iload_n 2, 1) := by decide +kernel
theorem dX10_bark_177 : decode cX10_bark 177 = .ok (.ifCond .ne 8, 3) := by decide +kernel
theorem dX10_bark_180 : decode cX10_bark 180 = .ok (.bipush (-2), 2) := by decide +kernel
theorem dX10_bark_182 : decode cX10_bark 182 = .ok (.goto 12, 3) := by decide +kernel
theorem dX10_bark_185 : decode cX10_bark 185 = .ok (.iload 4, 2) := by decide +kernel
theorem dX10_bark_187 : decode cX10_bark 187 = .ok (.aload_n 0, 1) := by decide +kernel
theorem dX10_bark_188 : decode cX10_bark 188 = .ok (.getfield 211, 3) := by decide +kernel
theorem dX10_bark_191 : decode cX10_bark 191 = .ok (.iload_n 3, 1) := by decide +kernel
theorem dX10_bark_192 : decode cX10_bark 192 = .ok (.iaload, 1) := by decide +kernel
theorem dX10_bark_193 : decode cX10_bark 193 = .ok (.isub, 1) := by decide +kernel
theorem dX10_bark_194 : decode cX10_bark 194 = .ok (.ireturn, 1) := by decide +kernel
theorem dX10_note_0 : decode cX10_note 0 = .ok (.aload_n 0, 1) := by decide +kernel
theorem dX10_note_1 : decode cX10_note 1 = .ok (.iconst 0, 1) := by decide +kernel
theorem dX10_note_2 : decode cX10_note 2 = .ok (.putfield 235, 3) := by decide +kernel
theorem dX10_note_5 : decode cX10_note 5 = .ok (.aload_n 0, 1) := by decide +kernel
theorem dX10_note_6 : decode cX10_note 6 = .ok (.iload_n 1, 1) := by decide +kernel
theorem dX10_note_7 : decode cX10_note 7 = .ok (.invokevirtual 527, 3) := by decide +kernel
theorem dX10_note_10 : decode cX10_note 10 = .ok (.ifCond .eq 19, 3) := by decide +kernel
theorem dX10_note_13 : decode cX10_note 13 = .ok (.iload_n 2, 1) := by decide +kernel
theorem dX10_note_14 : decode cX10_note 14 = .ok (.invokestatic 530, 3) := by decide +kernel
theorem dX10_note_17 : decode cX10_note 17 = .ok (.ifCond .eq 12, 3) := by decide +kernel
theorem dX10_note_20 : decode cX10_note 20 = .ok (.aload_n 0, 1) := by decide +kernel
theorem dX10_note_21 : decode cX10_note 21 = .ok (.getfield 406, 3) := by decide +kernel
theorem dX10_note_24 : decode cX10_note 24 = .ok (.bipush 24, 2) := by decide +kernel
theorem dX10_note_26 : decode cX10_note 26 = .ok (.if_icmp .ne 5, 3) := by decide +kernel
theorem dX10_note_29 : decode cX10_note 29 = .ok (.iconst (-1), 1) := by decide +kernel
theorem dX10_note_30 : decode cX10_note 30 = .ok (.ireturn, 1) := by decide +kernel
theorem dX10_note_31 : decode cX10_note 31 = .ok (.aload_n 0, 1) := by decide +kernel
theorem dX10_note_32 : decode cX10_note 32 = .ok (.getfield 217, 3) := by decide +kernel
theorem dX10_note_35 : decode cX10_note 35 = .ok (.aload_n 0, 1) := by decide +kernel
theorem dX10_note_36 : decode cX10_note 36 = .ok (.getfield 406, 3) := by decide +kernel
theorem dX10_note_39 : decode cX10_note 39 = .ok (.iload_n 1, 1) := by decide +kernel
theorem dX10_note_40 : decode cX10_note 40 = .ok (.iastore, 1) := by decide +kernel
theorem dX10_note_41 : decode cX10_note 41 = .ok (.aload_n 0, 1) := by decide +kernel
theorem dX10_note_42 : decode cX10_note 42 = .ok (.getfield 220, 3) := by decide +kernel
theorem dX10_note_45 : decode cX10_note 45 = .ok (.aload_n 0, 1) := by decide +kernel
theorem dX10_note_46 : decode cX10_note 46 = .ok (.getfield 406, 3) := by decide +kernel
theorem dX10_note_49 : decode cX10_note 49 = .ok (.iload_n 2, 1) := by decide +kernel
theorem dX10_note_50 : decode cX10_note 50 = .ok (.iastore, 1) := by decide +kernel
theorem dX10_note_51 : decode cX10_note 51 = .ok (.aload_n 0, 1) := by decide +kernel
theorem dX10_note_52 : decode cX10_note 52 = .ok (.getfield 223, 3) := by decide +kernel
theorem dX10_note_55 : decode cX10_note 55 = .ok (.aload_n 0, 1) := by decide +kernel
theorem dX10_note_56 : decode cX10_note 56 = .ok (.getfield 406, 3) := by decide +kernel
theorem dX10_note_59 : decode cX10_note 59 = .ok (.iload_n 3, 1) := by decide +kernel
theorem dX10_note_60 : decode cX10_note 60 = .ok (.bastore, 1) := by decide +kernel
theorem dX10_note_61 : decode cX10_note 61 = .ok (.aload_n 0, 1) := by decide +kernel
theorem dX10_note_62 : decode cX10_note 62 = .ok (.getfield 226, 3) := by decide +kernel
theorem dX10_note_65 : decode cX10_note 65 = .ok (.aload_n 0, 1) := by decide +kernel
theorem dX10_note_66 : decode cX10_note 66 = .ok (.getfield 406, 3) := by decide +kernel
theorem dX10_note_69 : decode cX10_note 69 = .ok (.iconst (-1), 1) := by decide +kernel
theorem dX10_note_70 : decode cX10_note 70 = .ok (.iastore, 1) := by decide +kernel
theorem dX10_note_71 : decode cX10_note 71 = .ok (.aload_n 0, 1) := by decide +kernel
theorem dX10_note_72 : decode cX10_note 72 = .ok (.dup, 1) := by decide +kernel
theorem dX10_note_73 : decode cX10_note 73 = .ok (.getfield 406, 3) := by decide +kernel
theorem dX10_note_76 : decode cX10_note 76 = .ok (.iconst 1, 1) := by decide +kernel
theorem dX10_note_77 : decode cX10_note 77 = .ok (.iadd, 1) := by decide +kernel
theorem dX10_note_78 : decode cX10_note 78 = .ok (.putfield 406, 3) := by decide +kernel
theorem dX10_note_81 : decode cX10_note 81 = .ok (.aload_n 0, 1) := by decide +kernel
theorem dX10_note_82 : decode cX10_note 82 = .ok (.getfield 406, 3) := by decide +kernel
theorem dX10_note_85 : decode cX10_note 85 = .ok (.iconst 1, 1) := by decide +kernel
theorem dX10_note_86 : decode cX10_note 86 = .ok (.isub, 1) := by decide +kernel
theorem dX10_note_87 : decode cX10_note 87 = .ok (.ireturn, 1) := by decide +kernel
theorem dX10_strike_0 : decode cX10_strike 0 = .ok (.aload_n 0, 1) := by decide +kernel
theorem dX10_strike_1 : decode cX10_strike 1 = .ok (.iconst 0, 1) := by decide +kernel
theorem dX10_strike_2 : decode cX10_strike 2 = .ok (.putfield 235, 3) := by decide +kernel
theorem dX10_strike_5 : decode cX10_strike 5 = .ok (.iload_n 1, 1) := by decide +kernel
theorem dX10_strike_6 : decode cX10_strike 6 = .ok (.ifCond .lt 20, 3) := by decide +kernel
theorem dX10_strike_9 : decode cX10_strike 9 = .ok (.iload_n 1, 1) := by decide +kernel
theorem dX10_strike_10 : decode cX10_strike 10 = .ok (.aload_n 0, 1) := by decide +kernel
theorem dX10_strike_11 : decode cX10_strike 11 = .ok (.getfield 406, 3) := by decide +kernel
theorem dX10_strike_14 : decode cX10_strike 14 = .ok (.if_icmp .ge 12, 3) := by decide +kernel
theorem dX10_strike_17 : decode cX10_strike 17 = .ok (.aload_n 0, 1) := by decide +kernel
theorem dX10_strike_18 : decode cX10_strike 18 = .ok (.getfield 406, 3) := by decide +kernel
theorem dX10_strike_21 : decode cX10_strike 21 = .ok (.bipush 24, 2) := by decide +kernel
theorem dX10_strike_23 : decode cX10_strike 23 = .ok (.if_icmp .ne 5, 3) := by decide +kernel
theorem dX10_strike_26 : decode cX10_strike 26 = .ok (.iconst (-1), 1) := by decide +kernel
theorem dX10_strike_27 : decode cX10_strike 27 = .ok (.ireturn, 1) := by decide +kernel
theorem dX10_strike_28 : decode cX10_strike 28 = .ok (.aload_n 0, 1) := by decide +kernel
theorem dX10_strike_29 : decode cX10_strike 29 = .ok (.getfield 226, 3) := by decide +kernel
theorem dX10_strike_32 : decode cX10_strike 32 = .ok (.aload_n 0, 1) := by decide +kernel
theorem dX10_strike_33 : decode cX10_strike 33 = .ok (.getfield 406, 3) := by decide +kernel
theorem dX10_strike_36 : decode cX10_strike 36 = .ok (.iload_n 1, 1) := by decide +kernel
theorem dX10_strike_37 : decode cX10_strike 37 = .ok (.iastore, 1) := by decide +kernel
theorem dX10_strike_38 : decode cX10_strike 38 = .ok (.aload_n 0, 1) := by decide +kernel
theorem dX10_strike_39 : decode cX10_strike 39 = .ok (.dup, 1) := by decide +kernel
theorem dX10_strike_40 : decode cX10_strike 40 = .ok (.getfield 406, 3) := by decide +kernel
theorem dX10_strike_43 : decode cX10_strike 43 = .ok (.iconst 1, 1) := by decide +kernel
theorem dX10_strike_44 : decode cX10_strike 44 = .ok (.iadd, 1) := by decide +kernel
theorem dX10_strike_45 : decode cX10_strike 45 = .ok (.putfield 406, 3) := by decide +kernel
theorem dX10_strike_48 : decode cX10_strike 48 = .ok (.aload_n 0, 1) := by decide +kernel
theorem dX10_strike_49 : decode cX10_strike 49 = .ok (.getfield 406, 3) := by decide +kernel
theorem dX10_strike_52 : decode cX10_strike 52 = .ok (.iconst 1, 1) := by decide +kernel
theorem dX10_strike_53 : decode cX10_strike 53 = .ok (.isub, 1) := by decide +kernel
theorem dX10_strike_54 : decode cX10_strike 54 = .ok (.ireturn, 1) := by decide +kernel
theorem dX10_known_0 : decode cX10_known 0 = .ok (.aload_n 0, 1) := by decide +kernel
theorem dX10_known_1 : decode cX10_known 1 = .ok (.iconst 0, 1) := by decide +kernel
theorem dX10_known_2 : decode cX10_known 2 = .ok (.putfield 235, 3) := by decide +kernel
theorem dX10_known_5 : decode cX10_known 5 = .ok (.iload_n 1, 1) := by decide +kernel
theorem dX10_known_6 : decode cX10_known 6 = .ok (.iconst (-1), 1) := by decide +kernel
theorem dX10_known_7 : decode cX10_known 7 = .ok (.if_icmp .lt 11, 3) := by decide +kernel
theorem dX10_known_10 : decode cX10_known 10 = .ok (.iload_n 1, 1) := by decide +kernel
theorem dX10_known_11 : decode cX10_known 11 = .ok (.aload_n 0, 1) := by decide +kernel
theorem dX10_known_12 : decode cX10_known 12 = .ok (.getfield 406, 3) := by decide +kernel
theorem dX10_known_15 : decode cX10_known 15 = .ok (.if_icmp .le 5, 3) := by decide +kernel
theorem dX10_known_18 : decode cX10_known 18 = .ok (.iconst 0, 1) := by decide +kernel
theorem dX10_known_19 : decode cX10_known 19 = .ok (.ireturn, 1) := by decide +kernel
theorem dX10_known_20 : decode cX10_known 20 = .ok (.aload_n 0, 1) := by decide +kernel
theorem dX10_known_21 : decode cX10_known 21 = .ok (.iload_n 1, 1) := by decide +kernel
theorem dX10_known_22 : decode cX10_known 22 = .ok (.putfield 214, 3) := by decide +kernel
theorem dX10_known_25 : decode cX10_known 25 = .ok (.iconst 1, 1) := by decide +kernel
theorem dX10_known_26 : decode cX10_known 26 = .ok (.ireturn, 1) := by decide +kernel
theorem dX10_knownMany_0 : decode cX10_knownMany 0 = .ok (.aload_n 0, 1) := by decide +kernel
theorem dX10_knownMany_1 : decode cX10_knownMany 1 = .ok (.getfield 214, 3) := by decide +kernel
theorem dX10_knownMany_4 : decode cX10_knownMany 4 = .ok (.iconst (-1), 1) := by decide +kernel
theorem dX10_knownMany_5 : decode cX10_knownMany 5 = .ok (.if_icmp .ne 10, 3) := by decide +kernel
theorem dX10_knownMany_8 : decode cX10_knownMany 8 = .ok (.aload_n 0, 1) := by decide +kernel
theorem dX10_knownMany_9 : decode cX10_knownMany 9 = .ok (.getfield 406, 3) := by decide +kernel
theorem dX10_knownMany_12 : decode cX10_knownMany 12 = .ok (.goto 7, 3) := by decide +kernel
theorem dX10_knownMany_15 : decode cX10_knownMany 15 = .ok (.aload_n 0, 1) := by decide +kernel
theorem dX10_knownMany_16 : decode cX10_knownMany 16 = .ok (.getfield 214, 3) := by decide +kernel
theorem dX10_knownMany_19 : decode cX10_knownMany 19 = .ok (.ireturn, 1) := by decide +kernel
theorem dX10_areSo_0 : decode cX10_areSo 0 = .ok (.iconst 0, 1) := by decide +kernel
theorem dX10_areSo_1 : decode cX10_areSo 1 = .ok (.istore 4, 2) := by decide +kernel
theorem dX10_areSo_3 : decode cX10_areSo 3 = .ok (.iload 4, 2) := by decide +kernel
theorem dX10_areSo_5 : decode cX10_areSo 5 = .ok (.aload_n 0, 1) := by decide +kernel
theorem dX10_areSo_6 : decode cX10_areSo 6 = .ok (.invokevirtual 623, 3) := by decide +kernel
theorem dX10_areSo_9 : decode cX10_areSo 9 = .ok (.if_icmp .ge 109, 3) := by decide +kernel
theorem dX10_areSo_12 : decode cX10_areSo 12 = .ok (.aload_n 0, 1) := by decide +kernel
theorem dX10_areSo_13 : decode cX10_areSo 13 = .ok (.getfield 229, 3) := by decide +kernel
theorem dX10_areSo_16 : decode cX10_areSo 16 = .ok (.iload 4, 2) := by decide +kernel
theorem dX10_areSo_18 : decode cX10_areSo 18 = .ok (.baload, 1) := by decide +kernel
theorem dX10_areSo_19 : decode cX10_areSo 19 = .ok (.ifCond .ne 93, 3) := by decide +kernel
theorem dX10_areSo_22 : decode cX10_areSo 22 = .ok (.aload_n 0, 1) := by decide +kernel
theorem dX10_areSo_23 : decode cX10_areSo 23 = .ok (.getfield 226, 3) := by decide +kernel
theorem dX10_areSo_26 : decode cX10_areSo 26 = .ok (.iload 4, 2) := by decide +kernel
theorem dX10_areSo_28 : decode cX10_areSo 28 = .ok (.iaload, 1) := by decide +kernel
theorem dX10_areSo_29 : decode cX10_areSo 29 = .ok (.iconst (-1), 1) := by decide +kernel
theorem dX10_areSo_30 : decode cX10_areSo 30 = .ok (.if_icmp .eq 6, 3) := by decide +kernel
theorem dX10_areSo_33 : decode cX10_areSo 33 = .ok (.goto 79, 3) := by decide +kernel
theorem dX10_areSo_36 : decode cX10_areSo 36 = .ok (.aload_n 0, 1) := by decide +kernel
theorem dX10_areSo_37 : decode cX10_areSo 37 = .ok (.getfield 165, 3) := by decide +kernel
theorem dX10_areSo_40 : decode cX10_areSo 40 = .ok (.bipush 48, 2) := by decide +kernel
theorem dX10_areSo_42 : decode cX10_areSo 42 = .ok (.aload_n 0, 1) := by decide +kernel
theorem dX10_areSo_43 : decode cX10_areSo 43 = .ok (.getfield 217, 3) := by decide +kernel
theorem dX10_areSo_46 : decode cX10_areSo 46 = .ok (.iload 4, 2) := by decide +kernel
theorem dX10_areSo_48 : decode cX10_areSo 48 = .ok (.iaload, 1) := by decide +kernel
theorem dX10_areSo_49 : decode cX10_areSo 49 = .ok (.imul, 1) := by decide +kernel
theorem dX10_areSo_50 : decode cX10_areSo 50 = .ok (.aload_n 0, 1) := by decide +kernel
theorem dX10_areSo_51 : decode cX10_areSo 51 = .ok (.getfield 220, 3) := by decide +kernel
theorem dX10_areSo_54 : decode cX10_areSo 54 = .ok (.iload 4, 2) := by decide +kernel
theorem dX10_areSo_56 : decode cX10_areSo 56 = .ok (.iaload, 1) := by decide +kernel
theorem dX10_areSo_57 : decode cX10_areSo 57 = .ok (.iadd, 1) := by decide +kernel
theorem dX10_areSo_58 : decode cX10_areSo 58 = .ok (.iaload, 1) := by decide +kernel
theorem dX10_areSo_59 : decode cX10_areSo 59 = .ok (.iconst (-1), 1) := by decide +kernel
theorem dX10_areSo_60 : decode cX10_areSo 60 = .ok (.if_icmp .ne 31, 3) := by decide +kernel
theorem dX10_areSo_63 : decode cX10_areSo 63 = .ok (.aload_n 0, 1) := by decide +kernel
theorem dX10_areSo_64 : decode cX10_areSo 64 = .ok (.getfield 220, 3) := by decide +kernel
theorem dX10_areSo_67 : decode cX10_areSo 67 = .ok (.iload 4, 2) := by decide +kernel
theorem dX10_areSo_69 : decode cX10_areSo 69 = .ok (.iaload, 1) := by decide +kernel
theorem dX10_areSo_70 : decode cX10_areSo 70 = .ok (.iload_n 2, 1) := by decide +kernel
theorem dX10_areSo_71 : decode cX10_areSo 71 = .ok (.if_icmp .ne 24, 3) := by decide +kernel
theorem dX10_areSo_74 : decode cX10_areSo 74 = .ok (.aload_n 0, 1) := by decide +kernel
theorem dX10_areSo_75 : decode cX10_areSo 75 = .ok (.iload_n 1, 1) := by decide +kernel
theorem dX10_areSo_76 : decode cX10_areSo 76 = .ok (.iload_n 3, 1) := by decide +kernel
theorem dX10_areSo_77 : decode cX10_areSo 77 = .ok (.aload_n 0, 1) := by decide +kernel
theorem dX10_areSo_78 : decode cX10_areSo 78 = .ok (.getfield 217, 3) := by decide +kernel
theorem dX10_areSo_81 : decode cX10_areSo 81 = .ok (.iload 4, 2) := by decide +kernel
theorem dX10_areSo_83 : decode cX10_areSo 83 = .ok (.iaload, 1) := by decide +kernel
theorem dX10_areSo_84 : decode cX10_areSo 84 = .ok (.iload_n 2, 1) := by decide +kernel
theorem dX10_areSo_85 : decode cX10_areSo 85 = .ok (.invokevirtual 476, 3) := by decide +kernel
theorem dX10_areSo_88 : decode cX10_areSo 88 = .ok (.ifCond .eq 7, 3) := by decide +kernel
theorem dX10_areSo_91 : decode cX10_areSo 91 = .ok (.iconst 1, 1) := by decide +kernel
theorem dX10_areSo_92 : decode cX10_areSo 92 = .ok (.goto 4, 3) := by decide +kernel
theorem dX10_areSo_95 : decode cX10_areSo 95 = .ok (.iconst 0, 1) := by decide +kernel
theorem dX10_areSo_96 : decode cX10_areSo 96 = .ok (.istore 5, 2) := by decide +kernel
theorem dX10_areSo_98 : decode cX10_areSo 98 = .ok (.iload 5, 2) := by decide +kernel
theorem dX10_areSo_100 : decode cX10_areSo 100 = .ok (.aload_n 0, 1) := by decide +kernel
theorem dX10_areSo_101 : decode cX10_areSo 101 = .ok (.getfield 223, 3) := by decide +kernel
theorem dX10_areSo_104 : decode cX10_areSo 104 = .ok (.iload 4, 2) := by decide +kernel
theorem dX10_areSo_106 : decode cX10_areSo 106 = .ok (.baload, 1) := by decide +kernel
theorem dX10_areSo_107 : decode cX10_areSo 107 = .ok (.if_icmp .eq 5, 3) := by decide +kernel
theorem dX10_areSo_110 : decode cX10_areSo 110 = .ok (.iconst 0, 1) := by decide +kernel
theorem dX10_areSo_111 : decode cX10_areSo 111 = .ok (.ireturn, 1) := by decide +kernel
theorem dX10_areSo_112 : decode cX10_areSo 112 = .ok (.iinc 4 1, 3) := by decide +kernel
theorem dX10_areSo_115 : decode cX10_areSo 115 = .ok (.goto (-112), 3) := by decide +kernel
theorem dX10_areSo_118 : decode cX10_areSo 118 = .ok (.iconst 1, 1) := by decide +kernel
theorem dX10_areSo_119 : decode cX10_areSo 119 = .ok (.ireturn, 1) := by decide +kernel
theorem dX10_layThieves_0 : decode cX10_layThieves 0 = .ok (.iconst 0, 1) := by decide +kernel
theorem dX10_layThieves_1 : decode cX10_layThieves 1 = .ok (.istore_n 2, 1) := by decide +kernel
theorem dX10_layThieves_2 : decode cX10_layThieves 2 = .ok (.iload_n 2, 1) := by decide +kernel
theorem dX10_layThieves_3 : decode cX10_layThieves 3 = .ok (.aload_n 0, 1) := by decide +kernel
theorem dX10_layThieves_4 : decode cX10_layThieves 4 = .ok (.invokevirtual 623, 3) := by decide +kernel
theorem dX10_layThieves_7 : decode cX10_layThieves 7 = .ok (.if_icmp .ge 16, 3) := by decide +kernel
theorem dX10_layThieves_10 : decode cX10_layThieves 10 = .ok (.aload_n 0, 1) := by decide +kernel
theorem dX10_layThieves_11 : decode cX10_layThieves 11 = .ok (.getfield 229, 3) := by decide +kernel
theorem dX10_layThieves_14 : decode cX10_layThieves 14 = .ok (.iload_n 2, 1) := by decide +kernel
theorem dX10_layThieves_15 : decode cX10_layThieves 15 = .ok (.iconst 0, 1) := by decide +kernel
theorem dX10_layThieves_16 : decode cX10_layThieves 16 = .ok (.bastore, 1) := by decide +kernel
theorem dX10_layThieves_17 : decode cX10_layThieves 17 = .ok (.iinc 2 1, 3) := by decide +kernel
theorem dX10_layThieves_20 : decode cX10_layThieves 20 = .ok (.goto (-18), 3) := by decide +kernel
theorem dX10_layThieves_23 : decode cX10_layThieves 23 = .ok (.aload_n 0, 1) := by decide +kernel
theorem dX10_layThieves_24 : decode cX10_layThieves 24 = .ok (.invokevirtual 623, 3) := by decide +kernel
theorem dX10_layThieves_27 : decode cX10_layThieves 27 = .ok (.iconst 1, 1) := by decide +kernel
theorem dX10_layThieves_28 : decode cX10_layThieves 28 = .ok (.isub, 1) := by decide +kernel
theorem dX10_layThieves_29 : decode cX10_layThieves 29 = .ok (.istore_n 2, 1) := by decide +kernel
theorem dX10_layThieves_30 : decode cX10_layThieves 30 = .ok (.iload_n 2, 1) := by decide +kernel
theorem dX10_layThieves_31 : decode cX10_layThieves 31 = .ok (.ifCond .lt 40, 3) := by decide +kernel
theorem dX10_layThieves_34 : decode cX10_layThieves 34 = .ok (.aload_n 0, 1) := by decide +kernel
theorem dX10_layThieves_35 : decode cX10_layThieves 35 = .ok (.getfield 229, 3) := by decide +kernel
theorem dX10_layThieves_38 : decode cX10_layThieves 38 = .ok (.iload_n 2, 1) := by decide +kernel
theorem dX10_layThieves_39 : decode cX10_layThieves 39 = .ok (.baload, 1) := by decide +kernel
theorem dX10_layThieves_40 : decode cX10_layThieves 40 = .ok (.ifCond .ne 25, 3) := by decide +kernel
theorem dX10_layThieves_43 : decode cX10_layThieves 43 = .ok (.aload_n 0, 1) := by decide +kernel
theorem dX10_layThieves_44 : decode cX10_layThieves 44 = .ok (.getfield 226, 3) := by decide +kernel
theorem dX10_layThieves_47 : decode cX10_layThieves 47 = .ok (.iload_n 2, 1) := by decide +kernel
theorem dX10_layThieves_48 : decode cX10_layThieves 48 = .ok (.iaload, 1) := by decide +kernel
theorem dX10_layThieves_49 : decode cX10_layThieves 49 = .ok (.iconst (-1), 1) := by decide +kernel
theorem dX10_layThieves_50 : decode cX10_layThieves 50 = .ok (.if_icmp .eq 15, 3) := by decide +kernel
theorem dX10_layThieves_53 : decode cX10_layThieves 53 = .ok (.aload_n 0, 1) := by decide +kernel
theorem dX10_layThieves_54 : decode cX10_layThieves 54 = .ok (.getfield 229, 3) := by decide +kernel
theorem dX10_layThieves_57 : decode cX10_layThieves 57 = .ok (.aload_n 0, 1) := by decide +kernel
theorem dX10_layThieves_58 : decode cX10_layThieves 58 = .ok (.getfield 226, 3) := by decide +kernel
theorem dX10_layThieves_61 : decode cX10_layThieves 61 = .ok (.iload_n 2, 1) := by decide +kernel
theorem dX10_layThieves_62 : decode cX10_layThieves 62 = .ok (.iaload, 1) := by decide +kernel
theorem dX10_layThieves_63 : decode cX10_layThieves 63 = .ok (.iconst 1, 1) := by decide +kernel
theorem dX10_layThieves_64 : decode cX10_layThieves 64 = .ok (.bastore, 1) := by decide +kernel
theorem dX10_layThieves_65 : decode cX10_layThieves 65 = .ok (.iinc 2 (-1), 3) := by decide +kernel
theorem dX10_layThieves_68 : decode cX10_layThieves 68 = .ok (.goto (-38), 3) := by decide +kernel
theorem dX10_layThieves_71 : decode cX10_layThieves 71 = .ok (.aload_n 0, 1) := by decide +kernel
theorem dX10_layThieves_72 : decode cX10_layThieves 72 = .ok (.invokevirtual 515, 3) := by decide +kernel
theorem dX10_layThieves_75 : decode cX10_layThieves 75 = .ok (.iconst 0, 1) := by decide +kernel
theorem dX10_layThieves_76 : decode cX10_layThieves 76 = .ok (.istore_n 2, 1) := by decide +kernel
theorem dX10_layThieves_77 : decode cX10_layThieves 77 = .ok (.iconst 0, 1) := by decide +kernel
theorem dX10_layThieves_78 : decode cX10_layThieves 78 = .ok (.istore_n 3, 1) := by decide +kernel
theorem dX10_layThieves_79 : decode cX10_layThieves 79 = .ok (.iload_n 3, 1) := by decide +kernel
theorem dX10_layThieves_80 : decode cX10_layThieves 80 = .ok (.aload_n 0, 1) := by decide +kernel
theorem dX10_layThieves_81 : decode cX10_layThieves 81 = .ok (.getfield 13, 3) := by decide +kernel
theorem dX10_layThieves_84 : decode cX10_layThieves 84 = .ok (.iconst 0, 1) := by decide +kernel
theorem dX10_layThieves_85 : decode cX10_layThieves 85 = .ok (.iaload, 1) := by decide +kernel
theorem dX10_layThieves_86 : decode cX10_layThieves 86 = .ok (.if_icmp .ge 81, 3) := by decide +kernel
theorem dX10_layThieves_89 : decode cX10_layThieves 89 = .ok (.iconst 0, 1) := by decide +kernel
theorem dX10_layThieves_90 : decode cX10_layThieves 90 = .ok (.istore 4, 2) := by decide +kernel
theorem dX10_layThieves_92 : decode cX10_layThieves 92 = .ok (.iload 4, 2) := by decide +kernel
theorem dX10_layThieves_94 : decode cX10_layThieves 94 = .ok (.bipush 48, 2) := by decide +kernel
theorem dX10_layThieves_96 : decode cX10_layThieves 96 = .ok (.if_icmp .ge 65, 3) := by decide +kernel
theorem dX10_layThieves_99 : decode cX10_layThieves 99 = .ok (.iconst 1, 1) := by decide +kernel
theorem dX10_layThieves_100 : decode cX10_layThieves 100 = .ok (.istore 5, 2) := by decide +kernel
theorem dX10_layThieves_102 : decode cX10_layThieves 102 = .ok (.iload 5, 2) := by decide +kernel
theorem dX10_layThieves_104 : decode cX10_layThieves 104 = .ok (.bipush 20, 2) := by decide +kernel
theorem dX10_layThieves_106 : decode cX10_layThieves 106 = .ok (.if_icmp .gt 49, 3) := by decide +kernel
theorem dX10_layThieves_109 : decode cX10_layThieves 109 = .ok (.aload_n 0, 1) := by decide +kernel
theorem dX10_layThieves_110 : decode cX10_layThieves 110 = .ok (.iload_n 3, 1) := by decide +kernel
theorem dX10_layThieves_111 : decode cX10_layThieves 111 = .ok (.iload 4, 2) := by decide +kernel
theorem dX10_layThieves_113 : decode cX10_layThieves 113 = .ok (.iload 5, 2) := by decide +kernel
theorem dX10_layThieves_115 : decode cX10_layThieves 115 = .ok (.invokevirtual 626, 3) := by decide +kernel
theorem dX10_layThieves_118 : decode cX10_layThieves 118 = .ok (.ifCond .ne 6, 3) := by decide +kernel
theorem dX10_layThieves_121 : decode cX10_layThieves 121 = .ok (.goto 28, 3) := by decide +kernel
theorem dX10_layThieves_124 : decode cX10_layThieves 124 = .ok (.iload_n 2, 1) := by decide +kernel
theorem dX10_layThieves_125 : decode cX10_layThieves 125 = .ok (.iload_n 1, 1) := by decide +kernel
theorem dX10_layThieves_126 : decode cX10_layThieves 126 = .ok (.if_icmp .ne 20, 3) := by decide +kernel
theorem dX10_layThieves_129 : decode cX10_layThieves 129 = .ok (.aload_n 0, 1) := by decide +kernel
theorem dX10_layThieves_130 : decode cX10_layThieves 130 = .ok (.iload_n 3, 1) := by decide +kernel
theorem dX10_layThieves_131 : decode cX10_layThieves 131 = .ok (.putfield 629, 3) := by decide +kernel
theorem dX10_layThieves_134 : decode cX10_layThieves 134 = .ok (.aload_n 0, 1) := by decide +kernel
theorem dX10_layThieves_135 : decode cX10_layThieves 135 = .ok (.iload 4, 2) := by decide +kernel
theorem dX10_layThieves_137 : decode cX10_layThieves 137 = .ok (.putfield 632, 3) := by decide +kernel
theorem dX10_layThieves_140 : decode cX10_layThieves 140 = .ok (.aload_n 0, 1) := by decide +kernel
theorem dX10_layThieves_141 : decode cX10_layThieves 141 = .ok (.iload 5, 2) := by decide +kernel
theorem dX10_layThieves_143 : decode cX10_layThieves 143 = .ok (.putfield 635, 3) := by decide +kernel
theorem dX10_layThieves_146 : decode cX10_layThieves 146 = .ok (.iinc 2 1, 3) := by decide +kernel
theorem dX10_layThieves_149 : decode cX10_layThieves 149 = .ok (.iinc 5 1, 3) := by decide +kernel
theorem dX10_layThieves_152 : decode cX10_layThieves 152 = .ok (.goto (-50), 3) := by decide +kernel
theorem dX10_layThieves_155 : decode cX10_layThieves 155 = .ok (.iinc 4 1, 3) := by decide +kernel
theorem dX10_layThieves_158 : decode cX10_layThieves 158 = .ok (.goto (-66), 3) := by decide +kernel
theorem dX10_layThieves_161 : decode cX10_layThieves 161 = .ok (.iinc 3 1, 3) := by decide +kernel
theorem dX10_layThieves_164 : decode cX10_layThieves 164 = .ok (.goto (-85), 3) := by decide +kernel
theorem dX10_layThieves_167 : decode cX10_layThieves 167 = .ok (.iload_n 2, 1) := by decide +kernel
theorem dX10_layThieves_168 : decode cX10_layThieves 168 = .ok (.ireturn, 1) := by decide +kernel
theorem dX10_thieves_0 : decode cX10_thieves 0 = .ok (.aload_n 0, 1) := by decide +kernel
theorem dX10_thieves_1 : decode cX10_thieves 1 = .ok (.iconst 0, 1) := by decide +kernel
theorem dX10_thieves_2 : decode cX10_thieves 2 = .ok (.putfield 235, 3) := by decide +kernel
theorem dX10_thieves_5 : decode cX10_thieves 5 = .ok (.aload_n 0, 1) := by decide +kernel
theorem dX10_thieves_6 : decode cX10_thieves 6 = .ok (.iconst (-1), 1) := by decide +kernel
theorem dX10_thieves_7 : decode cX10_thieves 7 = .ok (.invokevirtual 638, 3) := by decide +kernel
theorem dX10_thieves_10 : decode cX10_thieves 10 = .ok (.ireturn, 1) := by decide +kernel
theorem dX10_thief_0 : decode cX10_thief 0 = .ok (.aload_n 0, 1) := by decide +kernel
theorem dX10_thief_1 : decode cX10_thief 1 = .ok (.iconst 0, 1) := by decide +kernel
theorem dX10_thief_2 : decode cX10_thief 2 = .ok (.putfield 235, 3) := by decide +kernel
theorem dX10_thief_5 : decode cX10_thief 5 = .ok (.iload_n 1, 1) := by decide +kernel
theorem dX10_thief_6 : decode cX10_thief 6 = .ok (.ifCond .lt 12, 3) := by decide +kernel
theorem dX10_thief_9 : decode cX10_thief 9 = .ok (.iload_n 2, 1) := by decide +kernel
theorem dX10_thief_10 : decode cX10_thief 10 = .ok (.ifCond .lt 8, 3) := by decide +kernel
theorem dX10_thief_13 : decode cX10_thief 13 = .ok (.iload_n 2, 1) := by decide +kernel
theorem dX10_thief_14 : decode cX10_thief 14 = .ok (.iconst 2, 1) := by decide +kernel
theorem dX10_thief_15 : decode cX10_thief 15 = .ok (.if_icmp .le 5, 3) := by decide +kernel
theorem dX10_thief_18 : decode cX10_thief 18 = .ok (.iconst (-1), 1) := by decide +kernel
theorem dX10_thief_19 : decode cX10_thief 19 = .ok (.ireturn, 1) := by decide +kernel
theorem dX10_thief_20 : decode cX10_thief 20 = .ok (.iload_n 1, 1) := by decide +kernel
theorem dX10_thief_21 : decode cX10_thief 21 = .ok (.aload_n 0, 1) := by decide +kernel
theorem dX10_thief_22 : decode cX10_thief 22 = .ok (.iload_n 1, 1) := by decide +kernel
theorem dX10_thief_23 : decode cX10_thief 23 = .ok (.invokevirtual 638, 3) := by decide +kernel
theorem dX10_thief_26 : decode cX10_thief 26 = .ok (.if_icmp .lt 6, 3) := by decide +kernel
theorem dX10_thief_29 : decode cX10_thief 29 = .ok (.bipush (-2), 2) := by decide +kernel
theorem dX10_thief_31 : decode cX10_thief 31 = .ok (.ireturn, 1) := by decide +kernel
theorem dX10_thief_32 : decode cX10_thief 32 = .ok (.iload_n 2, 1) := by decide +kernel
theorem dX10_thief_33 : decode cX10_thief 33 = .ok (.ifCond .ne 10, 3) := by decide +kernel
theorem dX10_thief_36 : decode cX10_thief 36 = .ok (.aload_n 0, 1) := by decide +kernel
theorem dX10_thief_37 : decode cX10_thief 37 = .ok (.getfield 629, 3) := by decide +kernel
theorem dX10_thief_40 : decode cX10_thief 40 = .ok (.goto 19, 3) := by decide +kernel
theorem dX10_thief_43 : decode cX10_thief 43 = .ok (.iload_n 2, 1) := by decide +kernel
theorem dX10_thief_44 : decode cX10_thief 44 = .ok (.iconst 1, 1) := by decide +kernel
theorem dX10_thief_45 : decode cX10_thief 45 = .ok (.if_icmp .ne 10, 3) := by decide +kernel
theorem dX10_thief_48 : decode cX10_thief 48 = .ok (.aload_n 0, 1) := by decide +kernel
theorem dX10_thief_49 : decode cX10_thief 49 = .ok (.getfield 632, 3) := by decide +kernel
theorem dX10_thief_52 : decode cX10_thief 52 = .ok (.goto 7, 3) := by decide +kernel
theorem dX10_thief_55 : decode cX10_thief 55 = .ok (.aload_n 0, 1) := by decide +kernel
theorem dX10_thief_56 : decode cX10_thief 56 = .ok (.getfield 635, 3) := by decide +kernel
theorem dX10_thief_59 : decode cX10_thief 59 = .ok (.ireturn, 1) := by decide +kernel
theorem dX10_holds_0 : decode cX10_holds 0 = .ok (.iload_n 3, 1) := by decide +kernel
theorem dX10_holds_1 : decode cX10_holds 1 = .ok (.iload 4, 2) := by decide +kernel
theorem dX10_holds_3 : decode cX10_holds 3 = .ok (.if_icmp .le 4, 3) := by decide +kernel
theorem dX10_holds_6 : decode cX10_holds 6 = .ok (.return_, 1) := by decide +kernel
theorem dX10_holds_7 : decode cX10_holds 7 = .ok (.aload_n 0, 1) := by decide +kernel
theorem dX10_holds_8 : decode cX10_holds 8 = .ok (.getfield 168, 3) := by decide +kernel
theorem dX10_holds_11 : decode cX10_holds 11 = .ok (.aload_n 0, 1) := by decide +kernel
theorem dX10_holds_12 : decode cX10_holds 12 = .ok (.getfield 487, 3) := by decide +kernel
theorem dX10_holds_15 : decode cX10_holds 15 = .ok (.iload_n 1, 1) := by decide +kernel
theorem dX10_holds_16 : decode cX10_holds 16 = .ok (.iastore, 1) := by decide +kernel
theorem dX10_holds_17 : decode cX10_holds 17 = .ok (.aload_n 0, 1) := by decide +kernel
theorem dX10_holds_18 : decode cX10_holds 18 = .ok (.getfield 171, 3) := by decide +kernel
theorem dX10_holds_21 : decode cX10_holds 21 = .ok (.aload_n 0, 1) := by decide +kernel
theorem dX10_holds_22 : decode cX10_holds 22 = .ok (.getfield 487, 3) := by decide +kernel
theorem dX10_holds_25 : decode cX10_holds 25 = .ok (.iload_n 2, 1) := by decide +kernel
theorem dX10_holds_26 : decode cX10_holds 26 = .ok (.iastore, 1) := by decide +kernel
theorem dX10_holds_27 : decode cX10_holds 27 = .ok (.aload_n 0, 1) := by decide +kernel
theorem dX10_holds_28 : decode cX10_holds 28 = .ok (.getfield 174, 3) := by decide +kernel
theorem dX10_holds_31 : decode cX10_holds 31 = .ok (.aload_n 0, 1) := by decide +kernel
theorem dX10_holds_32 : decode cX10_holds 32 = .ok (.getfield 487, 3) := by decide +kernel
theorem dX10_holds_35 : decode cX10_holds 35 = .ok (.iload_n 3, 1) := by decide +kernel
theorem dX10_holds_36 : decode cX10_holds 36 = .ok (.iastore, 1) := by decide +kernel
theorem dX10_holds_37 : decode cX10_holds 37 = .ok (.aload_n 0, 1) := by decide +kernel
theorem dX10_holds_38 : decode cX10_holds 38 = .ok (.getfield 177, 3) := by decide +kernel
theorem dX10_holds_41 : decode cX10_holds 41 = .ok (.aload_n 0, 1) := by decide +kernel
theorem dX10_holds_42 : decode cX10_holds 42 = .ok (.getfield 487, 3) := by decide +kernel
theorem dX10_holds_45 : decode cX10_holds 45 = .ok (.iload 4, 2) := by decide +kernel
theorem dX10_holds_47 : decode cX10_holds 47 = .ok (.iastore, 1) := by decide +kernel
theorem dX10_holds_48 : decode cX10_holds 48 = .ok (.aload_n 0, 1) := by decide +kernel
theorem dX10_holds_49 : decode cX10_holds 49 = .ok (.dup, 1) := by decide +kernel
theorem dX10_holds_50 : decode cX10_holds 50 = .ok (.getfield 487, 3) := by decide +kernel
theorem dX10_holds_53 : decode cX10_holds 53 = .ok (.iconst 1, 1) := by decide +kernel
theorem dX10_holds_54 : decode cX10_holds 54 = .ok (.iadd, 1) := by decide +kernel
theorem dX10_holds_55 : decode cX10_holds 55 = .ok (.putfield 487, 3) := by decide +kernel
theorem dX10_holds_58 : decode cX10_holds 58 = .ok (.return_, 1) := by decide +kernel
theorem dX10_layHeirs_0 : decode cX10_layHeirs 0 = .ok (.aload_n 0, 1) := by decide +kernel
theorem dX10_layHeirs_1 : decode cX10_layHeirs 1 = .ok (.getfield 34, 3) := by decide +kernel
theorem dX10_layHeirs_4 : decode cX10_layHeirs 4 = .ok (.iload_n 1, 1) := by decide +kernel
theorem dX10_layHeirs_5 : decode cX10_layHeirs 5 = .ok (.iaload, 1) := by decide +kernel
theorem dX10_layHeirs_6 : decode cX10_layHeirs 6 = .ok (.iconst 1, 1) := by decide +kernel
theorem dX10_layHeirs_7 : decode cX10_layHeirs 7 = .ok (.isub, 1) := by decide +kernel
theorem dX10_layHeirs_8 : decode cX10_layHeirs 8 = .ok (.istore_n 3, 1) := by decide +kernel
theorem dX10_layHeirs_9 : decode cX10_layHeirs 9 = .ok (.iload_n 3, 1) := by decide +kernel
theorem dX10_layHeirs_10 : decode cX10_layHeirs 10 = .ok (.iconst (-1), 1) := by decide +kernel
theorem dX10_layHeirs_11 : decode cX10_layHeirs 11 = .ok (.if_icmp .ne 7, 3) := by decide +kernel
theorem dX10_layHeirs_14 : decode cX10_layHeirs 14 = .ok (.iconst (-1), 1) := by decide +kernel
theorem dX10_layHeirs_15 : decode cX10_layHeirs 15 = .ok (.goto 11, 3) := by decide +kernel
theorem dX10_layHeirs_18 : decode cX10_layHeirs 18 = .ok (.aload_n 0, 1) := by decide +kernel
theorem dX10_layHeirs_19 : decode cX10_layHeirs 19 = .ok (.getfield 34, 3) := by decide +kernel
theorem dX10_layHeirs_22 : decode cX10_layHeirs 22 = .ok (.iload_n 3, 1) := by decide +kernel
theorem dX10_layHeirs_23 : decode cX10_layHeirs 23 = .ok (.iaload, 1) := by decide +kernel
theorem dX10_layHeirs_24 : decode cX10_layHeirs 24 = .ok (.iconst 1, 1) := by decide +kernel
theorem dX10_layHeirs_25 : decode cX10_layHeirs 25 = .ok (.isub, 1) := by decide +kernel
theorem dX10_layHeirs_26 : decode cX10_layHeirs 26 = .ok (.istore 4, 2) := by decide +kernel
theorem dX10_layHeirs_28 : decode cX10_layHeirs 28 = .ok (.iload 4, 2) := by decide +kernel
theorem dX10_layHeirs_30 : decode cX10_layHeirs 30 = .ok (.iconst (-1), 1) := by decide +kernel
theorem dX10_layHeirs_31 : decode cX10_layHeirs 31 = .ok (.if_icmp .eq 9, 3) := by decide +kernel
theorem dX10_layHeirs_34 : decode cX10_layHeirs 34 = .ok (.iload 4, 2) := by decide +kernel
theorem dX10_layHeirs_36 : decode cX10_layHeirs 36 = .ok (.iload_n 1, 1) := by decide +kernel
theorem dX10_layHeirs_37 : decode cX10_layHeirs 37 = .ok (.if_icmp .ne 7, 3) := by decide +kernel
theorem dX10_layHeirs_40 : decode cX10_layHeirs 40 = .ok (.iload_n 3, 1) := by decide +kernel
theorem dX10_layHeirs_41 : decode cX10_layHeirs 41 = .ok (.goto 5, 3) := by decide +kernel
theorem dX10_layHeirs_44 : decode cX10_layHeirs 44 = .ok (.iload 4, 2) := by decide +kernel
theorem dX10_layHeirs_46 : decode cX10_layHeirs 46 = .ok (.istore 5, 2) := by decide +kernel
theorem dX10_layHeirs_48 : decode cX10_layHeirs 48 = .ok (.aload_n 0, 1) := by decide +kernel
theorem dX10_layHeirs_49 : decode cX10_layHeirs 49 = .ok (.iconst 0, 1) := by decide +kernel
theorem dX10_layHeirs_50 : decode cX10_layHeirs 50 = .ok (.putfield 487, 3) := by decide +kernel
theorem dX10_layHeirs_53 : decode cX10_layHeirs 53 = .ok (.iconst 0, 1) := by decide +kernel
theorem dX10_layHeirs_54 : decode cX10_layHeirs 54 = .ok (.istore 6, 2) := by decide +kernel
theorem dX10_layHeirs_56 : decode cX10_layHeirs 56 = .ok (.iload 6, 2) := by decide +kernel
theorem dX10_layHeirs_58 : decode cX10_layHeirs 58 = .ok (.aload_n 0, 1) := by decide +kernel
theorem dX10_layHeirs_59 : decode cX10_layHeirs 59 = .ok (.getfield 13, 3) := by decide +kernel
theorem dX10_layHeirs_62 : decode cX10_layHeirs 62 = .ok (.iconst 4, 1) := by decide +kernel
theorem dX10_layHeirs_63 : decode cX10_layHeirs 63 = .ok (.iaload, 1) := by decide +kernel
theorem dX10_layHeirs_64 : decode cX10_layHeirs 64 = .ok (.if_icmp .ge 185, 3) := by decide +kernel
theorem dX10_layHeirs_67 : decode cX10_layHeirs 67 = .ok (.aload_n 0, 1) := by decide +kernel
theorem dX10_layHeirs_68 : decode cX10_layHeirs 68 = .ok (.getfield 135, 3) := by decide +kernel
theorem dX10_layHeirs_71 : decode cX10_layHeirs 71 = .ok (.iload 6, 2) := by decide +kernel
theorem dX10_layHeirs_73 : decode cX10_layHeirs 73 = .ok (.iaload, 1) := by decide +kernel
theorem dX10_layHeirs_74 : decode cX10_layHeirs 74 = .ok (.iload_n 1, 1) := by decide +kernel
theorem dX10_layHeirs_75 : decode cX10_layHeirs 75 = .ok (.if_icmp .eq 38, 3) := by decide +kernel
theorem dX10_layHeirs_78 : decode cX10_layHeirs 78 = .ok (.aload_n 0, 1) := by decide +kernel
theorem dX10_layHeirs_79 : decode cX10_layHeirs 79 = .ok (.aload_n 0, 1) := by decide +kernel
theorem dX10_layHeirs_80 : decode cX10_layHeirs 80 = .ok (.getfield 135, 3) := by decide +kernel
theorem dX10_layHeirs_83 : decode cX10_layHeirs 83 = .ok (.iload 6, 2) := by decide +kernel
theorem dX10_layHeirs_85 : decode cX10_layHeirs 85 = .ok (.iaload, 1) := by decide +kernel
theorem dX10_layHeirs_86 : decode cX10_layHeirs 86 = .ok (.aload_n 0, 1) := by decide +kernel
theorem dX10_layHeirs_87 : decode cX10_layHeirs 87 = .ok (.getfield 55, 3) := by decide +kernel
theorem dX10_layHeirs_90 : decode cX10_layHeirs 90 = .ok (.iload 6, 2) := by decide +kernel
theorem dX10_layHeirs_92 : decode cX10_layHeirs 92 = .ok (.iaload, 1) := by decide +kernel
theorem dX10_layHeirs_93 : decode cX10_layHeirs 93 = .ok (.aload_n 0, 1) := by decide +kernel
theorem dX10_layHeirs_94 : decode cX10_layHeirs 94 = .ok (.getfield 58, 3) := by decide +kernel
theorem dX10_layHeirs_97 : decode cX10_layHeirs 97 = .ok (.iload 6, 2) := by decide +kernel
theorem dX10_layHeirs_99 : decode cX10_layHeirs 99 = .ok (.iaload, 1) := by decide +kernel
theorem dX10_layHeirs_100 : decode cX10_layHeirs 100 = .ok (.aload_n 0, 1) := by decide +kernel
theorem dX10_layHeirs_101 : decode cX10_layHeirs 101 = .ok (.getfield 61, 3) := by decide +kernel
theorem dX10_layHeirs_104 : decode cX10_layHeirs 104 = .ok (.iload 6, 2) := by decide +kernel
theorem dX10_layHeirs_106 : decode cX10_layHeirs 106 = .ok (.iaload, 1) := by decide +kernel
theorem dX10_layHeirs_107 : decode cX10_layHeirs 107 = .ok (.invokevirtual 641, 3) := by decide +kernel
theorem dX10_layHeirs_110 : decode cX10_layHeirs 110 = .ok (.goto 133, 3) := by decide +kernel
theorem dX10_layHeirs_113 : decode cX10_layHeirs 113 = .ok (.iload_n 2, 1) := by decide +kernel
theorem dX10_layHeirs_114 : decode cX10_layHeirs 114 = .ok (.ifCond .ne 37, 3) := by decide +kernel
theorem dX10_layHeirs_117 : decode cX10_layHeirs 117 = .ok (.iload_n 3, 1) := by decide +kernel
theorem dX10_layHeirs_118 : decode cX10_layHeirs 118 = .ok (.iconst (-1), 1) := by decide +kernel
theorem dX10_layHeirs_119 : decode cX10_layHeirs 119 = .ok (.if_icmp .eq 32, 3) := by decide +kernel
theorem dX10_layHeirs_122 : decode cX10_layHeirs 122 = .ok (.aload_n 0, 1) := by decide +kernel
theorem dX10_layHeirs_123 : decode cX10_layHeirs 123 = .ok (.iload_n 3, 1) := by decide +kernel
theorem dX10_layHeirs_124 : decode cX10_layHeirs 124 = .ok (.aload_n 0, 1) := by decide +kernel
theorem dX10_layHeirs_125 : decode cX10_layHeirs 125 = .ok (.getfield 55, 3) := by decide +kernel
theorem dX10_layHeirs_128 : decode cX10_layHeirs 128 = .ok (.iload 6, 2) := by decide +kernel
theorem dX10_layHeirs_130 : decode cX10_layHeirs 130 = .ok (.iaload, 1) := by decide +kernel
theorem dX10_layHeirs_131 : decode cX10_layHeirs 131 = .ok (.aload_n 0, 1) := by decide +kernel
theorem dX10_layHeirs_132 : decode cX10_layHeirs 132 = .ok (.getfield 58, 3) := by decide +kernel
theorem dX10_layHeirs_135 : decode cX10_layHeirs 135 = .ok (.iload 6, 2) := by decide +kernel
theorem dX10_layHeirs_137 : decode cX10_layHeirs 137 = .ok (.iaload, 1) := by decide +kernel
theorem dX10_layHeirs_138 : decode cX10_layHeirs 138 = .ok (.aload_n 0, 1) := by decide +kernel
theorem dX10_layHeirs_139 : decode cX10_layHeirs 139 = .ok (.getfield 61, 3) := by decide +kernel
theorem dX10_layHeirs_142 : decode cX10_layHeirs 142 = .ok (.iload 6, 2) := by decide +kernel
theorem dX10_layHeirs_144 : decode cX10_layHeirs 144 = .ok (.iaload, 1) := by decide +kernel
theorem dX10_layHeirs_145 : decode cX10_layHeirs 145 = .ok (.invokevirtual 641, 3) := by decide +kernel
theorem dX10_layHeirs_148 : decode cX10_layHeirs 148 = .ok (.goto 95, 3) := by decide +kernel
theorem dX10_layHeirs_151 : decode cX10_layHeirs 151 = .ok (.iload_n 2, 1) := by decide +kernel
theorem dX10_layHeirs_152 : decode cX10_layHeirs 152 = .ok (.iconst 1, 1) := by decide +kernel
theorem dX10_layHeirs_153 : decode cX10_layHeirs 153 = .ok (.if_icmp .ne 90, 3) := by decide +kernel
theorem dX10_layHeirs_156 : decode cX10_layHeirs 156 = .ok (.iload_n 3, 1) := by decide +kernel
theorem dX10_layHeirs_157 : decode cX10_layHeirs 157 = .ok (.iconst (-1), 1) := by decide +kernel
theorem dX10_layHeirs_158 : decode cX10_layHeirs 158 = .ok (.if_icmp .eq 85, 3) := by decide +kernel
theorem dX10_layHeirs_161 : decode cX10_layHeirs 161 = .ok (.aload_n 0, 1) := by decide +kernel
theorem dX10_layHeirs_162 : decode cX10_layHeirs 162 = .ok (.getfield 61, 3) := by decide +kernel
theorem dX10_layHeirs_165 : decode cX10_layHeirs 165 = .ok (.iload 6, 2) := by decide +kernel
theorem dX10_layHeirs_167 : decode cX10_layHeirs 167 = .ok (.iaload, 1) := by decide +kernel
theorem dX10_layHeirs_168 : decode cX10_layHeirs 168 = .ok (.aload_n 0, 1) := by decide +kernel
theorem dX10_layHeirs_169 : decode cX10_layHeirs 169 = .ok (.getfield 58, 3) := by decide +kernel
theorem dX10_layHeirs_172 : decode cX10_layHeirs 172 = .ok (.iload 6, 2) := by decide +kernel
theorem dX10_layHeirs_174 : decode cX10_layHeirs 174 = .ok (.iaload, 1) := by decide +kernel
theorem dX10_layHeirs_175 : decode cX10_layHeirs 175 = .ok (.isub, 1) := by decide +kernel
theorem dX10_layHeirs_176 : decode cX10_layHeirs 176 = .ok (.iconst 1, 1) := by decide +kernel
theorem dX10_layHeirs_177 : decode cX10_layHeirs 177 = .ok (.iadd, 1) := by decide +kernel
theorem dX10_layHeirs_178 : decode cX10_layHeirs 178 = .ok (.iconst 2, 1) := by decide +kernel
theorem dX10_layHeirs_179 : decode cX10_layHeirs 179 = .ok (.idiv, 1) := by decide +kernel
theorem dX10_layHeirs_180 : decode cX10_layHeirs 180 = .ok (.istore 7, 2) := by decide +kernel
theorem dX10_layHeirs_182 : decode cX10_layHeirs 182 = .ok (.aload_n 0, 1) := by decide +kernel
theorem dX10_layHeirs_183 : decode cX10_layHeirs 183 = .ok (.iload_n 3, 1) := by decide +kernel
theorem dX10_layHeirs_184 : decode cX10_layHeirs 184 = .ok (.aload_n 0, 1) := by decide +kernel
theorem dX10_layHeirs_185 : decode cX10_layHeirs 185 = .ok (.getfield 55, 3) := by decide +kernel
theorem dX10_layHeirs_188 : decode cX10_layHeirs 188 = .ok (.iload 6, 2) := by decide +kernel
theorem dX10_layHeirs_190 : decode cX10_layHeirs 190 = .ok (.iaload, 1) := by decide +kernel
theorem dX10_layHeirs_191 : decode cX10_layHeirs 191 = .ok (.aload_n 0, 1) := by decide +kernel
theorem dX10_layHeirs_192 : decode cX10_layHeirs 192 = .ok (.getfield 58, 3) := by decide +kernel
theorem dX10_layHeirs_195 : decode cX10_layHeirs 195 = .ok (.iload 6, 2) := by decide +kernel
theorem dX10_layHeirs_197 : decode cX10_layHeirs 197 = .ok (.iaload, 1) := by decide +kernel
theorem dX10_layHeirs_198 : decode cX10_layHeirs 198 = .ok (.aload_n 0, 1) := by decide +kernel
theorem dX10_layHeirs_199 : decode cX10_layHeirs 199 = .ok (.getfield 58, 3) := by decide +kernel
theorem dX10_layHeirs_202 : decode cX10_layHeirs 202 = .ok (.iload 6, 2) := by decide +kernel
theorem dX10_layHeirs_204 : decode cX10_layHeirs 204 = .ok (.iaload, 1) := by decide +kernel
theorem dX10_layHeirs_205 : decode cX10_layHeirs 205 = .ok (.iload 7, 2) := by decide +kernel
theorem dX10_layHeirs_207 : decode cX10_layHeirs 207 = .ok (.iadd, 1) := by decide +kernel
theorem dX10_layHeirs_208 : decode cX10_layHeirs 208 = .ok (.iconst 1, 1) := by decide +kernel
theorem dX10_layHeirs_209 : decode cX10_layHeirs 209 = .ok (.isub, 1) := by decide +kernel
theorem dX10_layHeirs_210 : decode cX10_layHeirs 210 = .ok (.invokevirtual 641, 3) := by decide +kernel
theorem dX10_layHeirs_213 : decode cX10_layHeirs 213 = .ok (.aload_n 0, 1) := by decide +kernel
theorem dX10_layHeirs_214 : decode cX10_layHeirs 214 = .ok (.iload 5, 2) := by decide +kernel
theorem dX10_layHeirs_216 : decode cX10_layHeirs 216 = .ok (.aload_n 0, 1) := by decide +kernel
theorem dX10_layHeirs_217 : decode cX10_layHeirs 217 = .ok (.getfield 55, 3) := by decide +kernel
theorem dX10_layHeirs_220 : decode cX10_layHeirs 220 = .ok (.iload 6, 2) := by decide +kernel
theorem dX10_layHeirs_222 : decode cX10_layHeirs 222 = .ok (.iaload, 1) := by decide +kernel
theorem dX10_layHeirs_223 : decode cX10_layHeirs 223 = .ok (.aload_n 0, 1) := by decide +kernel
theorem dX10_layHeirs_224 : decode cX10_layHeirs 224 = .ok (.getfield 58, 3) := by decide +kernel
theorem dX10_layHeirs_227 : decode cX10_layHeirs 227 = .ok (.iload 6, 2) := by decide +kernel
theorem dX10_layHeirs_229 : decode cX10_layHeirs 229 = .ok (.iaload, 1) := by decide +kernel
theorem dX10_layHeirs_230 : decode cX10_layHeirs 230 = .ok (.iload 7, 2) := by decide +kernel
theorem dX10_layHeirs_232 : decode cX10_layHeirs 232 = .ok (.iadd, 1) := by decide +kernel
theorem dX10_layHeirs_233 : decode cX10_layHeirs 233 = .ok (.aload_n 0, 1) := by decide +kernel
theorem dX10_layHeirs_234 : decode cX10_layHeirs 234 = .ok (.getfield 61, 3) := by decide +kernel
theorem dX10_layHeirs_237 : decode cX10_layHeirs 237 = .ok (.iload 6, 2) := by decide +kernel
theorem dX10_layHeirs_239 : decode cX10_layHeirs 239 = .ok (.iaload, 1) := by decide +kernel
theorem dX10_layHeirs_240 : decode cX10_layHeirs 240 = .ok (.invokevirtual 641, 3) := by decide +kernel
theorem dX10_layHeirs_243 : decode cX10_layHeirs 243 = .ok (.iinc 6 1, 3) := by decide +kernel
theorem dX10_layHeirs_246 : decode cX10_layHeirs 246 = .ok (.goto (-190), 3) := by decide +kernel
theorem dX10_layHeirs_249 : decode cX10_layHeirs 249 = .ok (.return_, 1) := by decide +kernel
theorem dX10_left_0 : decode cX10_left 0 = .ok (.aload_n 0, 1) := by decide +kernel
theorem dX10_left_1 : decode cX10_left 1 = .ok (.iconst 0, 1) := by decide +kernel
theorem dX10_left_2 : decode cX10_left 2 = .ok (.putfield 235, 3) := by decide +kernel
theorem dX10_left_5 : decode cX10_left 5 = .ok (.aload_n 0, 1) := by decide +kernel
theorem dX10_left_6 : decode cX10_left 6 = .ok (.iload_n 1, 1) := by decide +kernel
theorem dX10_left_7 : decode cX10_left 7 = .ok (.invokevirtual 512, 3) := by decide +kernel
theorem dX10_left_10 : decode cX10_left 10 = .ok (.ifCond .eq 12, 3) := by decide +kernel
theorem dX10_left_13 : decode cX10_left 13 = .ok (.iload_n 2, 1) := by decide +kernel
theorem dX10_left_14 : decode cX10_left 14 = .ok (.ifCond .lt 8, 3) := by decide +kernel
theorem dX10_left_17 : decode cX10_left 17 = .ok (.iload_n 2, 1) := by decide +kernel
theorem dX10_left_18 : decode cX10_left 18 = .ok (.iconst 2, 1) := by decide +kernel
theorem dX10_left_19 : decode cX10_left 19 = .ok (.if_icmp .le 5, 3) := by decide +kernel
theorem dX10_left_22 : decode cX10_left 22 = .ok (.iconst (-1), 1) := by decide +kernel
theorem dX10_left_23 : decode cX10_left 23 = .ok (.ireturn, 1) := by decide +kernel
theorem dX10_left_24 : decode cX10_left 24 = .ok (.aload_n 0, 1) := by decide +kernel
theorem dX10_left_25 : decode cX10_left 25 = .ok (.invokevirtual 515, 3) := by decide +kernel
theorem dX10_left_28 : decode cX10_left 28 = .ok (.aload_n 0, 1) := by decide +kernel
theorem dX10_left_29 : decode cX10_left 29 = .ok (.iload_n 1, 1) := by decide +kernel
theorem dX10_left_30 : decode cX10_left 30 = .ok (.iload_n 2, 1) := by decide +kernel
theorem dX10_left_31 : decode cX10_left 31 = .ok (.invokevirtual 644, 3) := by decide +kernel
theorem dX10_left_34 : decode cX10_left 34 = .ok (.aload_n 0, 1) := by decide +kernel
theorem dX10_left_35 : decode cX10_left 35 = .ok (.invokevirtual 502, 3) := by decide +kernel
theorem dX10_left_38 : decode cX10_left 38 = .ok (.iconst 0, 1) := by decide +kernel
theorem dX10_left_39 : decode cX10_left 39 = .ok (.istore_n 3, 1) := by decide +kernel
theorem dX10_left_40 : decode cX10_left 40 = .ok (.iconst 0, 1) := by decide +kernel
theorem dX10_left_41 : decode cX10_left 41 = .ok (.istore 4, 2) := by decide +kernel
theorem dX10_left_43 : decode cX10_left 43 = .ok (.iload 4, 2) := by decide +kernel
theorem dX10_left_45 : decode cX10_left 45 = .ok (.aload_n 0, 1) := by decide +kernel
theorem dX10_left_46 : decode cX10_left 46 = .ok (.getfield 13, 3) := by decide +kernel
theorem dX10_left_49 : decode cX10_left 49 = .ok (.iconst 0, 1) := by decide +kernel
theorem dX10_left_50 : decode cX10_left 50 = .ok (.iaload, 1) := by decide +kernel
theorem dX10_left_51 : decode cX10_left 51 = .ok (.if_icmp .ge 94, 3) := by decide +kernel
theorem dX10_left_54 : decode cX10_left 54 = .ok (.iconst 0, 1) := by decide +kernel
theorem dX10_left_55 : decode cX10_left 55 = .ok (.istore 5, 2) := by decide +kernel
theorem dX10_left_57 : decode cX10_left 57 = .ok (.iconst 0, 1) := by decide +kernel
theorem dX10_left_58 : decode cX10_left 58 = .ok (.istore 6, 2) := by decide +kernel
theorem dX10_left_60 : decode cX10_left 60 = .ok (.iload 6, 2) := by decide +kernel
theorem dX10_left_62 : decode cX10_left 62 = .ok (.bipush 48, 2) := by decide +kernel
theorem dX10_left_64 : decode cX10_left 64 = .ok (.if_icmp .ge 75, 3) := by decide +kernel
theorem dX10_left_67 : decode cX10_left 67 = .ok (.aload_n 0, 1) := by decide +kernel
theorem dX10_left_68 : decode cX10_left 68 = .ok (.getfield 180, 3) := by decide +kernel
theorem dX10_left_71 : decode cX10_left 71 = .ok (.bipush 48, 2) := by decide +kernel
theorem dX10_left_73 : decode cX10_left 73 = .ok (.iload 4, 2) := by decide +kernel
theorem dX10_left_75 : decode cX10_left 75 = .ok (.imul, 1) := by decide +kernel
theorem dX10_left_76 : decode cX10_left 76 = .ok (.iload 6, 2) := by decide +kernel
theorem dX10_left_78 : decode cX10_left 78 = .ok (.iadd, 1) := by decide +kernel
theorem dX10_left_79 : decode cX10_left 79 = .ok (.iaload, 1) := by decide +kernel
theorem dX10_left_80 : decode cX10_left 80 = .ok (.istore 7, 2) := by decide +kernel
theorem dX10_left_82 : decode cX10_left 82 = .ok (.iload 7, 2) := by decide +kernel
theorem dX10_left_84 : decode cX10_left 84 = .ok (.ifCond .ge 7, 3) := by decide +kernel
theorem dX10_left_87 : decode cX10_left 87 = .ok (.iconst 0, 1) := by decide +kernel
theorem dX10_left_88 : decode cX10_left 88 = .ok (.goto 36, 3) := by decide +kernel
theorem dX10_left_91 : decode cX10_left 91 = .ok (.iload 6, 2) := by decide +kernel
theorem dX10_left_93 : decode cX10_left 93 = .ok (.ifCond .le 30, 3) := by decide +kernel
theorem dX10_left_96 : decode cX10_left 96 = .ok (.aload_n 0, 1) := by decide +kernel
theorem dX10_left_97 : decode cX10_left 97 = .ok (.getfield 180, 3) := by decide +kernel
theorem dX10_left_100 : decode cX10_left 100 = .ok (.bipush 48, 2) := by decide +kernel
theorem dX10_left_102 : decode cX10_left 102 = .ok (.iload 4, 2) := by decide +kernel
theorem dX10_left_104 : decode cX10_left 104 = .ok (.imul, 1) := by decide +kernel
theorem dX10_left_105 : decode cX10_left 105 = .ok (.iload 6, 2) := by decide +kernel
theorem dX10_left_107 : decode cX10_left 107 = .ok (.iadd, 1) := by decide +kernel
theorem dX10_left_108 : decode cX10_left 108 = .ok (.iconst 1, 1) := by decide +kernel
theorem dX10_left_109 : decode cX10_left 109 = .ok (.isub, 1) := by decide +kernel
theorem dX10_left_110 : decode cX10_left 110 = .ok (.iaload, 1) := by decide +kernel
theorem dX10_left_111 : decode cX10_left 111 = .ok (.iload 7, 2) := by decide +kernel
theorem dX10_left_113 : decode cX10_left 113 = .ok (.if_icmp .ne 10, 3) := by decide +kernel
theorem dX10_left_116 : decode cX10_left 116 = .ok (.iload 5, 2) := by decide +kernel
theorem dX10_left_118 : decode cX10_left 118 = .ok (.iconst 1, 1) := by decide +kernel
theorem dX10_left_119 : decode cX10_left 119 = .ok (.iadd, 1) := by decide +kernel
theorem dX10_left_120 : decode cX10_left 120 = .ok (.goto 4, 3) := by decide +kernel
theorem dX10_left_123 : decode cX10_left 123 = .ok (.iconst 1, 1) := by decide +kernel
theorem dX10_left_124 : decode cX10_left 124 = .ok (.istore 5, 2) := by decide +kernel
theorem dX10_left_126 : decode cX10_left 126 = .ok (.iload_n 3, 1) := by decide +kernel
theorem dX10_left_127 : decode cX10_left 127 = .ok (.iload 5, 2) := by decide +kernel
theorem dX10_left_129 : decode cX10_left 129 = .ok (.invokestatic 606, 3) := by decide +kernel
theorem dX10_left_132 : decode cX10_left 132 = .ok (.istore_n 3, 1) := by decide +kernel
theorem dX10_left_133 : decode cX10_left 133 = .ok (.iinc 6 1, 3) := by decide +kernel
theorem dX10_left_136 : decode cX10_left 136 = .ok (.goto (-76), 3) := by decide +kernel
theorem dX10_left_139 : decode cX10_left 139 = .ok (.iinc 4 1, 3) := by decide +kernel
theorem dX10_left_142 : decode cX10_left 142 = .ok (.goto (-99), 3) := by decide +kernel
theorem dX10_left_145 : decode cX10_left 145 = .ok (.iload_n 3, 1) := by decide +kernel
theorem dX10_left_146 : decode cX10_left 146 = .ok (.ireturn, 1) := by decide +kernel
theorem dX10_has_0 : decode cX10_has 0 = .ok (.iload_n 2, 1) := by decide +kernel
theorem dX10_has_1 : decode cX10_has 1 = .ok (.iload_n 3, 1) := by decide +kernel
theorem dX10_has_2 : decode cX10_has 2 = .ok (.if_icmp .le 7, 3) := by decide +kernel
theorem dX10_has_5 : decode cX10_has 5 = .ok (.iload_n 0, 1) := by decide +kernel
theorem dX10_has_6 : decode cX10_has 6 = .ok (.goto 15, 3) := by decide +kernel
theorem dX10_has_9 : decode cX10_has 9 = .ok (.iload_n 2, 1) := by decide +kernel
theorem dX10_has_10 : decode cX10_has 10 = .ok (.iload_n 3, 1) := by decide +kernel
theorem dX10_has_11 : decode cX10_has 11 = .ok (.if_icmp .ne 9, 3) := by decide +kernel
theorem dX10_has_14 : decode cX10_has 14 = .ok (.iload_n 0, 1) := by decide +kernel
theorem dX10_has_15 : decode cX10_has 15 = .ok (.iconst 2, 1) := by decide +kernel
theorem dX10_has_16 : decode cX10_has 16 = .ok (.idiv, 1) := by decide +kernel
theorem dX10_has_17 : decode cX10_has 17 = .ok (.goto 4, 3) := by decide +kernel
theorem dX10_has_20 : decode cX10_has 20 = .ok (.iconst 0, 1) := by decide +kernel
theorem dX10_has_21 : decode cX10_has 21 = .ok (.iload_n 1, 1) := by decide +kernel
theorem dX10_has_22 : decode cX10_has 22 = .ok (.iload_n 2, 1) := by decide +kernel
theorem dX10_has_23 : decode cX10_has 23 = .ok (.iload_n 3, 1) := by decide +kernel
theorem dX10_has_24 : decode cX10_has 24 = .ok (.invokestatic 474, 3) := by decide +kernel
theorem dX10_has_27 : decode cX10_has 27 = .ok (.imul, 1) := by decide +kernel
theorem dX10_has_28 : decode cX10_has 28 = .ok (.isub, 1) := by decide +kernel
theorem dX10_has_29 : decode cX10_has 29 = .ok (.ireturn, 1) := by decide +kernel
theorem dX10_isRest_0 : decode cX10_isRest 0 = .ok (.iconst 0, 1) := by decide +kernel
theorem dX10_isRest_1 : decode cX10_isRest 1 = .ok (.istore 5, 2) := by decide +kernel
theorem dX10_isRest_3 : decode cX10_isRest 3 = .ok (.iload 5, 2) := by decide +kernel
theorem dX10_isRest_5 : decode cX10_isRest 5 = .ok (.bipush 10, 2) := by decide +kernel
theorem dX10_isRest_7 : decode cX10_isRest 7 = .ok (.if_icmp .ge 50, 3) := by decide +kernel
theorem dX10_isRest_10 : decode cX10_isRest 10 = .ok (.iload_n 0, 1) := by decide +kernel
theorem dX10_isRest_11 : decode cX10_isRest 11 = .ok (.iload_n 1, 1) := by decide +kernel
theorem dX10_isRest_12 : decode cX10_isRest 12 = .ok (.iload 5, 2) := by decide +kernel
theorem dX10_isRest_14 : decode cX10_isRest 14 = .ok (.iload 4, 2) := by decide +kernel
theorem dX10_isRest_16 : decode cX10_isRest 16 = .ok (.invokestatic 647, 3) := by decide +kernel
theorem dX10_isRest_19 : decode cX10_isRest 19 = .ok (.iload_n 0, 1) := by decide +kernel
theorem dX10_isRest_20 : decode cX10_isRest 20 = .ok (.iload_n 1, 1) := by decide +kernel
theorem dX10_isRest_21 : decode cX10_isRest 21 = .ok (.iload_n 3, 1) := by decide +kernel
theorem dX10_isRest_22 : decode cX10_isRest 22 = .ok (.iload 4, 2) := by decide +kernel
theorem dX10_isRest_24 : decode cX10_isRest 24 = .ok (.invokestatic 647, 3) := by decide +kernel
theorem dX10_isRest_27 : decode cX10_isRest 27 = .ok (.if_icmp .gt 22, 3) := by decide +kernel
theorem dX10_isRest_30 : decode cX10_isRest 30 = .ok (.iload_n 0, 1) := by decide +kernel
theorem dX10_isRest_31 : decode cX10_isRest 31 = .ok (.iload_n 2, 1) := by decide +kernel
theorem dX10_isRest_32 : decode cX10_isRest 32 = .ok (.iload 5, 2) := by decide +kernel
theorem dX10_isRest_34 : decode cX10_isRest 34 = .ok (.iload_n 3, 1) := by decide +kernel
theorem dX10_isRest_35 : decode cX10_isRest 35 = .ok (.invokestatic 647, 3) := by decide +kernel
theorem dX10_isRest_38 : decode cX10_isRest 38 = .ok (.iload_n 0, 1) := by decide +kernel
theorem dX10_isRest_39 : decode cX10_isRest 39 = .ok (.iload_n 2, 1) := by decide +kernel
theorem dX10_isRest_40 : decode cX10_isRest 40 = .ok (.iload 4, 2) := by decide +kernel
theorem dX10_isRest_42 : decode cX10_isRest 42 = .ok (.iload_n 3, 1) := by decide +kernel
theorem dX10_isRest_43 : decode cX10_isRest 43 = .ok (.invokestatic 647, 3) := by decide +kernel
theorem dX10_isRest_46 : decode cX10_isRest 46 = .ok (.if_icmp .le 5, 3) := by decide +kernel
theorem dX10_isRest_49 : decode cX10_isRest 49 = .ok (.iconst 0, 1) := by decide +kernel
theorem dX10_isRest_50 : decode cX10_isRest 50 = .ok (.ireturn, 1) := by decide +kernel
theorem dX10_isRest_51 : decode cX10_isRest 51 = .ok (.iinc 5 1, 3) := by decide +kernel
theorem dX10_isRest_54 : decode cX10_isRest 54 = .ok (.goto (-51), 3) := by decide +kernel
theorem dX10_isRest_57 : decode cX10_isRest 57 = .ok (.iconst 1, 1) := by decide +kernel
theorem dX10_isRest_58 : decode cX10_isRest 58 = .ok (.ireturn, 1) := by decide +kernel
theorem dX10_restOf_0 : decode cX10_restOf 0 = .ok (.iconst 0, 1) := by decide +kernel
theorem dX10_restOf_1 : decode cX10_restOf 1 = .ok (.istore 4, 2) := by decide +kernel
theorem dX10_restOf_3 : decode cX10_restOf 3 = .ok (.iconst 0, 1) := by decide +kernel
theorem dX10_restOf_4 : decode cX10_restOf 4 = .ok (.istore 5, 2) := by decide +kernel
theorem dX10_restOf_6 : decode cX10_restOf 6 = .ok (.iload 5, 2) := by decide +kernel
theorem dX10_restOf_8 : decode cX10_restOf 8 = .ok (.bipush 10, 2) := by decide +kernel
theorem dX10_restOf_10 : decode cX10_restOf 10 = .ok (.if_icmp .ge 59, 3) := by decide +kernel
theorem dX10_restOf_13 : decode cX10_restOf 13 = .ok (.iconst 0, 1) := by decide +kernel
theorem dX10_restOf_14 : decode cX10_restOf 14 = .ok (.istore 6, 2) := by decide +kernel
theorem dX10_restOf_16 : decode cX10_restOf 16 = .ok (.iload 6, 2) := by decide +kernel
theorem dX10_restOf_18 : decode cX10_restOf 18 = .ok (.bipush 10, 2) := by decide +kernel
theorem dX10_restOf_20 : decode cX10_restOf 20 = .ok (.if_icmp .ge 43, 3) := by decide +kernel
theorem dX10_restOf_23 : decode cX10_restOf 23 = .ok (.iload_n 0, 1) := by decide +kernel
theorem dX10_restOf_24 : decode cX10_restOf 24 = .ok (.iload_n 1, 1) := by decide +kernel
theorem dX10_restOf_25 : decode cX10_restOf 25 = .ok (.iload_n 2, 1) := by decide +kernel
theorem dX10_restOf_26 : decode cX10_restOf 26 = .ok (.iload 5, 2) := by decide +kernel
theorem dX10_restOf_28 : decode cX10_restOf 28 = .ok (.iload 6, 2) := by decide +kernel
theorem dX10_restOf_30 : decode cX10_restOf 30 = .ok (.invokestatic 650, 3) := by decide +kernel
theorem dX10_restOf_33 : decode cX10_restOf 33 = .ok (.ifCond .ne 6, 3) := by decide +kernel
theorem dX10_restOf_36 : decode cX10_restOf 36 = .ok (.goto 21, 3) := by decide +kernel
theorem dX10_restOf_39 : decode cX10_restOf 39 = .ok (.iload 4, 2) := by decide +kernel
theorem dX10_restOf_41 : decode cX10_restOf 41 = .ok (.iload_n 3, 1) := by decide +kernel
theorem dX10_restOf_42 : decode cX10_restOf 42 = .ok (.if_icmp .ne 12, 3) := by decide +kernel
theorem dX10_restOf_45 : decode cX10_restOf 45 = .ok (.bipush 10, 2) := by decide +kernel
theorem dX10_restOf_47 : decode cX10_restOf 47 = .ok (.iload 5, 2) := by decide +kernel
theorem dX10_restOf_49 : decode cX10_restOf 49 = .ok (.imul, 1) := by decide +kernel
theorem dX10_restOf_50 : decode cX10_restOf 50 = .ok (.iload 6, 2) := by decide +kernel
theorem dX10_restOf_52 : decode cX10_restOf 52 = .ok (.iadd, 1) := by decide +kernel
theorem dX10_restOf_53 : decode cX10_restOf 53 = .ok (.ireturn, 1) := by decide +kernel
theorem dX10_restOf_54 : decode cX10_restOf 54 = .ok (.iinc 4 1, 3) := by decide +kernel
theorem dX10_restOf_57 : decode cX10_restOf 57 = .ok (.iinc 6 1, 3) := by decide +kernel
theorem dX10_restOf_60 : decode cX10_restOf 60 = .ok (.goto (-44), 3) := by decide +kernel
theorem dX10_restOf_63 : decode cX10_restOf 63 = .ok (.iinc 5 1, 3) := by decide +kernel
theorem dX10_restOf_66 : decode cX10_restOf 66 = .ok (.goto (-60), 3) := by decide +kernel
theorem dX10_restOf_69 : decode cX10_restOf 69 = .ok (.iload_n 3, 1) := by decide +kernel
theorem dX10_restOf_70 : decode cX10_restOf 70 = .ok (.iconst (-1), 1) := by decide +kernel
theorem dX10_restOf_71 : decode cX10_restOf 71 = .ok (.if_icmp .ne 8, 3) := by decide +kernel
theorem dX10_restOf_74 : decode cX10_restOf 74 = .ok (.iload 4, 2) := by decide +kernel
theorem dX10_restOf_76 : decode cX10_restOf 76 = .ok (.goto 5, 3) := by decide +kernel
theorem dX10_restOf_79 : decode cX10_restOf 79 = .ok (.bipush (-2), 2) := by decide +kernel
theorem dX10_restOf_81 : decode cX10_restOf 81 = .ok (.ireturn, 1) := by decide +kernel
theorem dX10_isWait_0 : decode cX10_isWait 0 = .ok (.iload_n 0, 1) := by decide +kernel
theorem dX10_isWait_1 : decode cX10_isWait 1 = .ok (.ifCond .lt 33, 3) := by decide +kernel
theorem dX10_isWait_4 : decode cX10_isWait 4 = .ok (.iload_n 0, 1) := by decide +kernel
theorem dX10_isWait_5 : decode cX10_isWait 5 = .ok (.bipush 99, 2) := by decide +kernel
theorem dX10_isWait_7 : decode cX10_isWait 7 = .ok (.if_icmp .gt 27, 3) := by decide +kernel
theorem dX10_isWait_10 : decode cX10_isWait 10 = .ok (.iload_n 1, 1) := by decide +kernel
theorem dX10_isWait_11 : decode cX10_isWait 11 = .ok (.ifCond .lt 23, 3) := by decide +kernel
theorem dX10_isWait_14 : decode cX10_isWait 14 = .ok (.iload_n 1, 1) := by decide +kernel
theorem dX10_isWait_15 : decode cX10_isWait 15 = .ok (.bipush 99, 2) := by decide +kernel
theorem dX10_isWait_17 : decode cX10_isWait 17 = .ok (.if_icmp .gt 17, 3) := by decide +kernel
theorem dX10_isWait_20 : decode cX10_isWait 20 = .ok (.iload_n 2, 1) := by decide +kernel
theorem dX10_isWait_21 : decode cX10_isWait 21 = .ok (.ifCond .lt 13, 3) := by decide +kernel
theorem dX10_isWait_24 : decode cX10_isWait 24 = .ok (.iload_n 2, 1) := by decide +kernel
theorem dX10_isWait_25 : decode cX10_isWait 25 = .ok (.bipush 99, 2) := by decide +kernel
theorem dX10_isWait_27 : decode cX10_isWait 27 = .ok (.if_icmp .gt 7, 3) := by decide +kernel
theorem dX10_isWait_30 : decode cX10_isWait 30 = .ok (.iconst 1, 1) := by decide +kernel
theorem dX10_isWait_31 : decode cX10_isWait 31 = .ok (.goto 4, 3) := by decide +kernel
theorem dX10_isWait_34 : decode cX10_isWait 34 = .ok (.iconst 0, 1) := by decide +kernel
theorem dX10_isWait_35 : decode cX10_isWait 35 = .ok (.ireturn, 1) := by decide +kernel
theorem dX10_rests_0 : decode cX10_rests 0 = .ok (.aload_n 0, 1) := by decide +kernel
theorem dX10_rests_1 : decode cX10_rests 1 = .ok (.iconst 0, 1) := by decide +kernel
theorem dX10_rests_2 : decode cX10_rests 2 = .ok (.putfield 235, 3) := by decide +kernel
theorem dX10_rests_5 : decode cX10_rests 5 = .ok (.iload_n 1, 1) := by decide +kernel
theorem dX10_rests_6 : decode cX10_rests 6 = .ok (.iload_n 2, 1) := by decide +kernel
theorem dX10_rests_7 : decode cX10_rests 7 = .ok (.iload_n 3, 1) := by decide +kernel
theorem dX10_rests_8 : decode cX10_rests 8 = .ok (.invokestatic 654, 3) := by decide +kernel
theorem dX10_rests_11 : decode cX10_rests 11 = .ok (.ifCond .eq 13, 3) := by decide +kernel
theorem dX10_rests_14 : decode cX10_rests 14 = .ok (.iload_n 1, 1) := by decide +kernel
theorem dX10_rests_15 : decode cX10_rests 15 = .ok (.iload_n 2, 1) := by decide +kernel
theorem dX10_rests_16 : decode cX10_rests 16 = .ok (.iload_n 3, 1) := by decide +kernel
theorem dX10_rests_17 : decode cX10_rests 17 = .ok (.iconst (-1), 1) := by decide +kernel
theorem dX10_rests_18 : decode cX10_rests 18 = .ok (.invokestatic 657, 3) := by decide +kernel
theorem dX10_rests_21 : decode cX10_rests 21 = .ok (.goto 4, 3) := by decide +kernel
theorem dX10_rests_24 : decode cX10_rests 24 = .ok (.iconst (-1), 1) := by decide +kernel
theorem dX10_rests_25 : decode cX10_rests 25 = .ok (.ireturn, 1) := by decide +kernel
theorem dX10_rest_0 : decode cX10_rest 0 = .ok (.aload_n 0, 1) := by decide +kernel
theorem dX10_rest_1 : decode cX10_rest 1 = .ok (.iconst 0, 1) := by decide +kernel
theorem dX10_rest_2 : decode cX10_rest 2 = .ok (.putfield 235, 3) := by decide +kernel
theorem dX10_rest_5 : decode cX10_rest 5 = .ok (.iload_n 1, 1) := by decide +kernel
theorem dX10_rest_6 : decode cX10_rest 6 = .ok (.iload_n 2, 1) := by decide +kernel
theorem dX10_rest_7 : decode cX10_rest 7 = .ok (.iload_n 3, 1) := by decide +kernel
theorem dX10_rest_8 : decode cX10_rest 8 = .ok (.invokestatic 654, 3) := by decide +kernel
theorem dX10_rest_11 : decode cX10_rest 11 = .ok (.ifCond .eq 19, 3) := by decide +kernel
theorem dX10_rest_14 : decode cX10_rest 14 = .ok (.iload 4, 2) := by decide +kernel
theorem dX10_rest_16 : decode cX10_rest 16 = .ok (.ifCond .lt 14, 3) := by decide +kernel
theorem dX10_rest_19 : decode cX10_rest 19 = .ok (.iload_n 1, 1) := by decide +kernel
theorem dX10_rest_20 : decode cX10_rest 20 = .ok (.iload_n 2, 1) := by decide +kernel
theorem dX10_rest_21 : decode cX10_rest 21 = .ok (.iload_n 3, 1) := by decide +kernel
theorem dX10_rest_22 : decode cX10_rest 22 = .ok (.iload 4, 2) := by decide +kernel
theorem dX10_rest_24 : decode cX10_rest 24 = .ok (.invokestatic 657, 3) := by decide +kernel
theorem dX10_rest_27 : decode cX10_rest 27 = .ok (.goto 4, 3) := by decide +kernel
theorem dX10_rest_30 : decode cX10_rest 30 = .ok (.iconst (-1), 1) := by decide +kernel
theorem dX10_rest_31 : decode cX10_rest 31 = .ok (.ireturn, 1) := by decide +kernel
theorem dX10_draw_0 : decode cX10_draw 0 = .ok (.aload_n 0, 1) := by decide +kernel
theorem dX10_draw_1 : decode cX10_draw 1 = .ok (.aload_n 0, 1) := by decide +kernel
theorem dX10_draw_2 : decode cX10_draw 2 = .ok (.getfield 660, 3) := by decide +kernel
theorem dX10_draw_5 : decode cX10_draw 5 = .ok (.ldc_w 663, 3) := by decide +kernel
theorem dX10_draw_8 : decode cX10_draw 8 = .ok (.imul, 1) := by decide +kernel
theorem dX10_draw_9 : decode cX10_draw 9 = .ok (.sipush 12345, 3) := by decide +kernel
theorem dX10_draw_12 : decode cX10_draw 12 = .ok (.iadd, 1) := by decide +kernel
theorem dX10_draw_13 : decode cX10_draw 13 = .ok (.ldc_w 666, 3) := by decide +kernel
theorem dX10_draw_16 : decode cX10_draw 16 = .ok (.iand, 1) := by decide +kernel
theorem dX10_draw_17 : decode cX10_draw 17 = .ok (.putfield 660, 3) := by decide +kernel
theorem dX10_draw_20 : decode cX10_draw 20 = .ok (.aload_n 0, 1) := by decide +kernel
theorem dX10_draw_21 : decode cX10_draw 21 = .ok (.getfield 660, 3) := by decide +kernel
theorem dX10_draw_24 : decode cX10_draw 24 = .ok (.bipush 16, 2) := by decide +kernel
theorem dX10_draw_26 : decode cX10_draw 26 = .ok (.ishr, 1) := by decide +kernel
theorem dX10_draw_27 : decode cX10_draw 27 = .ok (.iload_n 1, 1) := by decide +kernel
theorem dX10_draw_28 : decode cX10_draw 28 = .ok (.irem, 1) := by decide +kernel
theorem dX10_draw_29 : decode cX10_draw 29 = .ok (.ireturn, 1) := by decide +kernel
theorem dX10_softens_0 : decode cX10_softens 0 = .ok (.iconst 0, 1) := by decide +kernel
theorem dX10_softens_1 : decode cX10_softens 1 = .ok (.istore_n 1, 1) := by decide +kernel
theorem dX10_softens_2 : decode cX10_softens 2 = .ok (.iload_n 1, 1) := by decide +kernel
theorem dX10_softens_3 : decode cX10_softens 3 = .ok (.aload_n 0, 1) := by decide +kernel
theorem dX10_softens_4 : decode cX10_softens 4 = .ok (.getfield 470, 3) := by decide +kernel
theorem dX10_softens_7 : decode cX10_softens 7 = .ok (.if_icmp .ge 19, 3) := by decide +kernel
theorem dX10_softens_10 : decode cX10_softens 10 = .ok (.aload_n 0, 1) := by decide +kernel
theorem dX10_softens_11 : decode cX10_softens 11 = .ok (.getfield 159, 3) := by decide +kernel
theorem dX10_softens_14 : decode cX10_softens 14 = .ok (.iload_n 1, 1) := by decide +kernel
theorem dX10_softens_15 : decode cX10_softens 15 = .ok (.dup2, 1) := by decide +kernel
theorem dX10_softens_16 : decode cX10_softens 16 = .ok (.iaload, 1) := by decide +kernel
theorem dX10_softens_17 : decode cX10_softens 17 = .ok (.iconst 5, 1) := by decide +kernel
theorem dX10_softens_18 : decode cX10_softens 18 = .ok (.isub, 1) := by decide +kernel
theorem dX10_softens_19 : decode cX10_softens 19 = .ok (.iastore, 1) := by decide +kernel
theorem dX10_softens_20 : decode cX10_softens 20 = .ok (.iinc 1 1, 3) := by decide +kernel
theorem dX10_softens_23 : decode cX10_softens 23 = .ok (.goto (-21), 3) := by decide +kernel
theorem dX10_softens_26 : decode cX10_softens 26 = .ok (.return_, 1) := by decide +kernel
theorem dX10_year_0 : decode cX10_year 0 = .ok (.aload_n 0, 1) := by decide +kernel
theorem dX10_year_1 : decode cX10_year 1 = .ok (.iconst 0, 1) := by decide +kernel
theorem dX10_year_2 : decode cX10_year 2 = .ok (.putfield 235, 3) := by decide +kernel
theorem dX10_year_5 : decode cX10_year 5 = .ok (.iload_n 1, 1) := by decide +kernel
theorem dX10_year_6 : decode cX10_year 6 = .ok (.ifCond .lt 13, 3) := by decide +kernel
theorem dX10_year_9 : decode cX10_year 9 = .ok (.iload_n 2, 1) := by decide +kernel
theorem dX10_year_10 : decode cX10_year 10 = .ok (.ifCond .lt 9, 3) := by decide +kernel
theorem dX10_year_13 : decode cX10_year 13 = .ok (.iload_n 2, 1) := by decide +kernel
theorem dX10_year_14 : decode cX10_year 14 = .ok (.bipush 20, 2) := by decide +kernel
theorem dX10_year_16 : decode cX10_year 16 = .ok (.if_icmp .le 5, 3) := by decide +kernel
theorem dX10_year_19 : decode cX10_year 19 = .ok (.iconst (-1), 1) := by decide +kernel
theorem dX10_year_20 : decode cX10_year 20 = .ok (.ireturn, 1) := by decide +kernel
theorem dX10_year_21 : decode cX10_year 21 = .ok (.aload_n 0, 1) := by decide +kernel
theorem dX10_year_22 : decode cX10_year 22 = .ok (.iload_n 1, 1) := by decide +kernel
theorem dX10_year_23 : decode cX10_year 23 = .ok (.putfield 660, 3) := by decide +kernel
theorem dX10_year_26 : decode cX10_year 26 = .ok (.aload_n 0, 1) := by decide +kernel
theorem dX10_year_27 : decode cX10_year 27 = .ok (.aload_n 0, 1) := by decide +kernel
theorem dX10_year_28 : decode cX10_year 28 = .ok (.getfield 138, 3) := by decide +kernel
theorem dX10_year_31 : decode cX10_year 31 = .ok (.iconst 0, 1) := by decide +kernel
theorem dX10_year_32 : decode cX10_year 32 = .ok (.iaload, 1) := by decide +kernel
theorem dX10_year_33 : decode cX10_year 33 = .ok (.iconst (-1), 1) := by decide +kernel
theorem dX10_year_34 : decode cX10_year 34 = .ok (.invokevirtual 496, 3) := by decide +kernel
theorem dX10_year_37 : decode cX10_year 37 = .ok (.iconst 0, 1) := by decide +kernel
theorem dX10_year_38 : decode cX10_year 38 = .ok (.istore_n 3, 1) := by decide +kernel
theorem dX10_year_39 : decode cX10_year 39 = .ok (.iconst 0, 1) := by decide +kernel
theorem dX10_year_40 : decode cX10_year 40 = .ok (.istore 4, 2) := by decide +kernel
theorem dX10_year_42 : decode cX10_year 42 = .ok (.iload 4, 2) := by decide +kernel
theorem dX10_year_44 : decode cX10_year 44 = .ok (.iload_n 2, 1) := by decide +kernel
theorem dX10_year_45 : decode cX10_year 45 = .ok (.if_icmp .ge 108, 3) := by decide +kernel
theorem dX10_year_48 : decode cX10_year 48 = .ok (.aload_n 0, 1) := by decide +kernel
theorem dX10_year_49 : decode cX10_year 49 = .ok (.invokevirtual 493, 3) := by decide +kernel
theorem dX10_year_52 : decode cX10_year 52 = .ok (.aload_n 0, 1) := by decide +kernel
theorem dX10_year_53 : decode cX10_year 53 = .ok (.iconst 3, 1) := by decide +kernel
theorem dX10_year_54 : decode cX10_year 54 = .ok (.invokevirtual 667, 3) := by decide +kernel
theorem dX10_year_57 : decode cX10_year 57 = .ok (.istore 5, 2) := by decide +kernel
theorem dX10_year_59 : decode cX10_year 59 = .ok (.iload 5, 2) := by decide +kernel
theorem dX10_year_61 : decode cX10_year 61 = .ok (.ifCond .ne 7, 3) := by decide +kernel
theorem dX10_year_64 : decode cX10_year 64 = .ok (.aload_n 0, 1) := by decide +kernel
theorem dX10_year_65 : decode cX10_year 65 = .ok (.invokevirtual 670, 3) := by decide +kernel
theorem dX10_year_68 : decode cX10_year 68 = .ok (.iload 5, 2) := by decide +kernel
theorem dX10_year_70 : decode cX10_year 70 = .ok (.iconst 1, 1) := by decide +kernel
theorem dX10_year_71 : decode cX10_year 71 = .ok (.if_icmp .ne 69, 3) := by decide +kernel
theorem dX10_year_74 : decode cX10_year 74 = .ok (.aload_n 0, 1) := by decide +kernel
theorem dX10_year_75 : decode cX10_year 75 = .ok (.getfield 13, 3) := by decide +kernel
theorem dX10_year_78 : decode cX10_year 78 = .ok (.iconst 0, 1) := by decide +kernel
theorem dX10_year_79 : decode cX10_year 79 = .ok (.iaload, 1) := by decide +kernel
theorem dX10_year_80 : decode cX10_year 80 = .ok (.ifCond .le 60, 3) := by decide +kernel
theorem dX10_year_83 : decode cX10_year 83 = .ok (.aload_n 0, 1) := by decide +kernel
theorem dX10_year_84 : decode cX10_year 84 = .ok (.getfield 13, 3) := by decide +kernel
theorem dX10_year_87 : decode cX10_year 87 = .ok (.iconst 2, 1) := by decide +kernel
theorem dX10_year_88 : decode cX10_year 88 = .ok (.iaload, 1) := by decide +kernel
theorem dX10_year_89 : decode cX10_year 89 = .ok (.ifCond .le 51, 3) := by decide +kernel
theorem dX10_year_92 : decode cX10_year 92 = .ok (.aload_n 0, 1) := by decide +kernel
theorem dX10_year_93 : decode cX10_year 93 = .ok (.aload_n 0, 1) := by decide +kernel
theorem dX10_year_94 : decode cX10_year 94 = .ok (.getfield 13, 3) := by decide +kernel
theorem dX10_year_97 : decode cX10_year 97 = .ok (.iconst 0, 1) := by decide +kernel
theorem dX10_year_98 : decode cX10_year 98 = .ok (.iaload, 1) := by decide +kernel
theorem dX10_year_99 : decode cX10_year 99 = .ok (.invokevirtual 667, 3) := by decide +kernel
theorem dX10_year_102 : decode cX10_year 102 = .ok (.istore 6, 2) := by decide +kernel
theorem dX10_year_104 : decode cX10_year 104 = .ok (.aload_n 0, 1) := by decide +kernel
theorem dX10_year_105 : decode cX10_year 105 = .ok (.aload_n 0, 1) := by decide +kernel
theorem dX10_year_106 : decode cX10_year 106 = .ok (.getfield 13, 3) := by decide +kernel
theorem dX10_year_109 : decode cX10_year 109 = .ok (.iconst 2, 1) := by decide +kernel
theorem dX10_year_110 : decode cX10_year 110 = .ok (.iaload, 1) := by decide +kernel
theorem dX10_year_111 : decode cX10_year 111 = .ok (.invokevirtual 667, 3) := by decide +kernel
theorem dX10_year_114 : decode cX10_year 114 = .ok (.istore 7, 2) := by decide +kernel
theorem dX10_year_116 : decode cX10_year 116 = .ok (.aload_n 0, 1) := by decide +kernel
theorem dX10_year_117 : decode cX10_year 117 = .ok (.bipush 44, 2) := by decide +kernel
theorem dX10_year_119 : decode cX10_year 119 = .ok (.invokevirtual 667, 3) := by decide +kernel
theorem dX10_year_122 : decode cX10_year 122 = .ok (.istore 8, 2) := by decide +kernel
theorem dX10_year_124 : decode cX10_year 124 = .ok (.aload_n 0, 1) := by decide +kernel
theorem dX10_year_125 : decode cX10_year 125 = .ok (.iload 6, 2) := by decide +kernel
theorem dX10_year_127 : decode cX10_year 127 = .ok (.iload 7, 2) := by decide +kernel
theorem dX10_year_129 : decode cX10_year 129 = .ok (.iload 8, 2) := by decide +kernel
theorem dX10_year_131 : decode cX10_year 131 = .ok (.iload 8, 2) := by decide +kernel
theorem dX10_year_133 : decode cX10_year 133 = .ok (.iconst 3, 1) := by decide +kernel
theorem dX10_year_134 : decode cX10_year 134 = .ok (.iadd, 1) := by decide +kernel
theorem dX10_year_135 : decode cX10_year 135 = .ok (.bipush 10, 2) := by decide +kernel
theorem dX10_year_137 : decode cX10_year 137 = .ok (.invokevirtual 673, 3) := by decide +kernel
theorem dX10_year_140 : decode cX10_year 140 = .ok (.iload_n 3, 1) := by decide +kernel
theorem dX10_year_141 : decode cX10_year 141 = .ok (.aload_n 0, 1) := by decide +kernel
theorem dX10_year_142 : decode cX10_year 142 = .ok (.invokevirtual 676, 3) := by decide +kernel
theorem dX10_year_145 : decode cX10_year 145 = .ok (.iadd, 1) := by decide +kernel
theorem dX10_year_146 : decode cX10_year 146 = .ok (.istore_n 3, 1) := by decide +kernel
theorem dX10_year_147 : decode cX10_year 147 = .ok (.iinc 4 1, 3) := by decide +kernel
theorem dX10_year_150 : decode cX10_year 150 = .ok (.goto (-108), 3) := by decide +kernel
theorem dX10_year_153 : decode cX10_year 153 = .ok (.iload_n 3, 1) := by decide +kernel
theorem dX10_year_154 : decode cX10_year 154 = .ok (.ireturn, 1) := by decide +kernel
theorem dX10_tried_0 : decode cX10_tried 0 = .ok (.aload_n 0, 1) := by decide +kernel
theorem dX10_tried_1 : decode cX10_tried 1 = .ok (.iconst 0, 1) := by decide +kernel
theorem dX10_tried_2 : decode cX10_tried 2 = .ok (.putfield 235, 3) := by decide +kernel
theorem dX10_tried_5 : decode cX10_tried 5 = .ok (.iload_n 1, 1) := by decide +kernel
theorem dX10_tried_6 : decode cX10_tried 6 = .ok (.iconst 1, 1) := by decide +kernel
theorem dX10_tried_7 : decode cX10_tried 7 = .ok (.if_icmp .ne 11, 3) := by decide +kernel
theorem dX10_tried_10 : decode cX10_tried 10 = .ok (.aload_n 0, 1) := by decide +kernel
theorem dX10_tried_11 : decode cX10_tried 11 = .ok (.iload_n 2, 1) := by decide +kernel
theorem dX10_tried_12 : decode cX10_tried 12 = .ok (.invokevirtual 521, 3) := by decide +kernel
theorem dX10_tried_15 : decode cX10_tried 15 = .ok (.goto 60, 3) := by decide +kernel
theorem dX10_tried_18 : decode cX10_tried 18 = .ok (.iload_n 1, 1) := by decide +kernel
theorem dX10_tried_19 : decode cX10_tried 19 = .ok (.iconst 2, 1) := by decide +kernel
theorem dX10_tried_20 : decode cX10_tried 20 = .ok (.if_icmp .ne 11, 3) := by decide +kernel
theorem dX10_tried_23 : decode cX10_tried 23 = .ok (.aload_n 0, 1) := by decide +kernel
theorem dX10_tried_24 : decode cX10_tried 24 = .ok (.iload_n 2, 1) := by decide +kernel
theorem dX10_tried_25 : decode cX10_tried 25 = .ok (.invokevirtual 512, 3) := by decide +kernel
theorem dX10_tried_28 : decode cX10_tried 28 = .ok (.goto 47, 3) := by decide +kernel
theorem dX10_tried_31 : decode cX10_tried 31 = .ok (.iload_n 1, 1) := by decide +kernel
theorem dX10_tried_32 : decode cX10_tried 32 = .ok (.iconst 4, 1) := by decide +kernel
theorem dX10_tried_33 : decode cX10_tried 33 = .ok (.if_icmp .ne 11, 3) := by decide +kernel
theorem dX10_tried_36 : decode cX10_tried 36 = .ok (.aload_n 0, 1) := by decide +kernel
theorem dX10_tried_37 : decode cX10_tried 37 = .ok (.iload_n 2, 1) := by decide +kernel
theorem dX10_tried_38 : decode cX10_tried 38 = .ok (.invokevirtual 524, 3) := by decide +kernel
theorem dX10_tried_41 : decode cX10_tried 41 = .ok (.goto 34, 3) := by decide +kernel
theorem dX10_tried_44 : decode cX10_tried 44 = .ok (.iload_n 1, 1) := by decide +kernel
theorem dX10_tried_45 : decode cX10_tried 45 = .ok (.iconst 5, 1) := by decide +kernel
theorem dX10_tried_46 : decode cX10_tried 46 = .ok (.if_icmp .ne 11, 3) := by decide +kernel
theorem dX10_tried_49 : decode cX10_tried 49 = .ok (.aload_n 0, 1) := by decide +kernel
theorem dX10_tried_50 : decode cX10_tried 50 = .ok (.iload_n 2, 1) := by decide +kernel
theorem dX10_tried_51 : decode cX10_tried 51 = .ok (.invokevirtual 527, 3) := by decide +kernel
theorem dX10_tried_54 : decode cX10_tried 54 = .ok (.goto 21, 3) := by decide +kernel
theorem dX10_tried_57 : decode cX10_tried 57 = .ok (.iload_n 1, 1) := by decide +kernel
theorem dX10_tried_58 : decode cX10_tried 58 = .ok (.ifCond .eq 8, 3) := by decide +kernel
theorem dX10_tried_61 : decode cX10_tried 61 = .ok (.iload_n 1, 1) := by decide +kernel
theorem dX10_tried_62 : decode cX10_tried 62 = .ok (.iconst 3, 1) := by decide +kernel
theorem dX10_tried_63 : decode cX10_tried 63 = .ok (.if_icmp .ne 11, 3) := by decide +kernel
theorem dX10_tried_66 : decode cX10_tried 66 = .ok (.iload_n 2, 1) := by decide +kernel
theorem dX10_tried_67 : decode cX10_tried 67 = .ok (.ifCond .ne 7, 3) := by decide +kernel
theorem dX10_tried_70 : decode cX10_tried 70 = .ok (.iconst 1, 1) := by decide +kernel
theorem dX10_tried_71 : decode cX10_tried 71 = .ok (.goto 4, 3) := by decide +kernel
theorem dX10_tried_74 : decode cX10_tried 74 = .ok (.iconst 0, 1) := by decide +kernel
theorem dX10_tried_75 : decode cX10_tried 75 = .ok (.istore_n 3, 1) := by decide +kernel
theorem dX10_tried_76 : decode cX10_tried 76 = .ok (.iload_n 3, 1) := by decide +kernel
theorem dX10_tried_77 : decode cX10_tried 77 = .ok (.ifCond .ne 5, 3) := by decide +kernel
theorem dX10_tried_80 : decode cX10_tried 80 = .ok (.iconst (-1), 1) := by decide +kernel
theorem dX10_tried_81 : decode cX10_tried 81 = .ok (.ireturn, 1) := by decide +kernel
theorem dX10_tried_82 : decode cX10_tried 82 = .ok (.aload_n 0, 1) := by decide +kernel
theorem dX10_tried_83 : decode cX10_tried 83 = .ok (.invokevirtual 493, 3) := by decide +kernel
theorem dX10_tried_86 : decode cX10_tried 86 = .ok (.aload_n 0, 1) := by decide +kernel
theorem dX10_tried_87 : decode cX10_tried 87 = .ok (.iload_n 1, 1) := by decide +kernel
theorem dX10_tried_88 : decode cX10_tried 88 = .ok (.ifCond .ne 7, 3) := by decide +kernel
theorem dX10_tried_91 : decode cX10_tried 91 = .ok (.iconst 0, 1) := by decide +kernel
theorem dX10_tried_92 : decode cX10_tried 92 = .ok (.goto 9, 3) := by decide +kernel
theorem dX10_tried_95 : decode cX10_tried 95 = .ok (.aload_n 0, 1) := by decide +kernel
theorem dX10_tried_96 : decode cX10_tried 96 = .ok (.getfield 138, 3) := by decide +kernel
theorem dX10_tried_99 : decode cX10_tried 99 = .ok (.iconst 0, 1) := by decide +kernel
theorem dX10_tried_100 : decode cX10_tried 100 = .ok (.iaload, 1) := by decide +kernel
theorem dX10_tried_101 : decode cX10_tried 101 = .ok (.iload_n 1, 1) := by decide +kernel
theorem dX10_tried_102 : decode cX10_tried 102 = .ok (.iconst 4, 1) := by decide +kernel
theorem dX10_tried_103 : decode cX10_tried 103 = .ok (.if_icmp .ne 7, 3) := by decide +kernel
theorem dX10_tried_106 : decode cX10_tried 106 = .ok (.iload_n 2, 1) := by decide +kernel
theorem dX10_tried_107 : decode cX10_tried 107 = .ok (.goto 4, 3) := by decide +kernel
theorem dX10_tried_110 : decode cX10_tried 110 = .ok (.iconst (-1), 1) := by decide +kernel
theorem dX10_tried_111 : decode cX10_tried 111 = .ok (.invokevirtual 496, 3) := by decide +kernel
theorem dX10_tried_114 : decode cX10_tried 114 = .ok (.iload_n 1, 1) := by decide +kernel
theorem dX10_tried_115 : decode cX10_tried 115 = .ok (.iconst 3, 1) := by decide +kernel
theorem dX10_tried_116 : decode cX10_tried 116 = .ok (.if_icmp .ne 7, 3) := by decide +kernel
theorem dX10_tried_119 : decode cX10_tried 119 = .ok (.aload_n 0, 1) := by decide +kernel
theorem dX10_tried_120 : decode cX10_tried 120 = .ok (.invokevirtual 670, 3) := by decide +kernel
theorem dX10_tried_123 : decode cX10_tried 123 = .ok (.iload_n 1, 1) := by decide +kernel
theorem dX10_tried_124 : decode cX10_tried 124 = .ok (.iconst 5, 1) := by decide +kernel
theorem dX10_tried_125 : decode cX10_tried 125 = .ok (.if_icmp .ne 14, 3) := by decide +kernel
theorem dX10_tried_128 : decode cX10_tried 128 = .ok (.aload_n 0, 1) := by decide +kernel
theorem dX10_tried_129 : decode cX10_tried 129 = .ok (.iload_n 2, 1) := by decide +kernel
theorem dX10_tried_130 : decode cX10_tried 130 = .ok (.iconst 0, 1) := by decide +kernel
theorem dX10_tried_131 : decode cX10_tried 131 = .ok (.iconst 0, 1) := by decide +kernel
theorem dX10_tried_132 : decode cX10_tried 132 = .ok (.bipush 47, 2) := by decide +kernel
theorem dX10_tried_134 : decode cX10_tried 134 = .ok (.bipush 8, 2) := by decide +kernel
theorem dX10_tried_136 : decode cX10_tried 136 = .ok (.invokevirtual 673, 3) := by decide +kernel
theorem dX10_tried_139 : decode cX10_tried 139 = .ok (.iconst 0, 1) := by decide +kernel
theorem dX10_tried_140 : decode cX10_tried 140 = .ok (.istore 4, 2) := by decide +kernel
theorem dX10_tried_142 : decode cX10_tried 142 = .ok (.iload 4, 2) := by decide +kernel
theorem dX10_tried_144 : decode cX10_tried 144 = .ok (.aload_n 0, 1) := by decide +kernel
theorem dX10_tried_145 : decode cX10_tried 145 = .ok (.getfield 470, 3) := by decide +kernel
theorem dX10_tried_148 : decode cX10_tried 148 = .ok (.if_icmp .ge 44, 3) := by decide +kernel
theorem dX10_tried_151 : decode cX10_tried 151 = .ok (.iload_n 1, 1) := by decide +kernel
theorem dX10_tried_152 : decode cX10_tried 152 = .ok (.iconst 1, 1) := by decide +kernel
theorem dX10_tried_153 : decode cX10_tried 153 = .ok (.if_icmp .ne 9, 3) := by decide +kernel
theorem dX10_tried_156 : decode cX10_tried 156 = .ok (.iload 4, 2) := by decide +kernel
theorem dX10_tried_158 : decode cX10_tried 158 = .ok (.iload_n 2, 1) := by decide +kernel
theorem dX10_tried_159 : decode cX10_tried 159 = .ok (.if_icmp .eq 19, 3) := by decide +kernel
theorem dX10_tried_162 : decode cX10_tried 162 = .ok (.iload_n 1, 1) := by decide +kernel
theorem dX10_tried_163 : decode cX10_tried 163 = .ok (.iconst 2, 1) := by decide +kernel
theorem dX10_tried_164 : decode cX10_tried 164 = .ok (.if_icmp .ne 22, 3) := by decide +kernel
theorem dX10_tried_167 : decode cX10_tried 167 = .ok (.aload_n 0, 1) := by decide +kernel
theorem dX10_tried_168 : decode cX10_tried 168 = .ok (.getfield 150, 3) := by decide +kernel
theorem dX10_tried_171 : decode cX10_tried 171 = .ok (.iload 4, 2) := by decide +kernel
theorem dX10_tried_173 : decode cX10_tried 173 = .ok (.iaload, 1) := by decide +kernel
theorem dX10_tried_174 : decode cX10_tried 174 = .ok (.iload_n 2, 1) := by decide +kernel
theorem dX10_tried_175 : decode cX10_tried 175 = .ok (.if_icmp .ne 11, 3) := by decide +kernel
theorem dX10_tried_178 : decode cX10_tried 178 = .ok (.aload_n 0, 1) := by decide +kernel
theorem dX10_tried_179 : decode cX10_tried 179 = .ok (.getfield 159, 3) := by decide +kernel
theorem dX10_tried_182 : decode cX10_tried 182 = .ok (.iload 4, 2) := by decide +kernel
theorem dX10_tried_184 : decode cX10_tried 184 = .ok (.iconst 0, 1) := by decide +kernel
theorem dX10_tried_185 : decode cX10_tried 185 = .ok (.iastore, 1) := by decide +kernel
theorem dX10_tried_186 : decode cX10_tried 186 = .ok (.iinc 4 1, 3) := by decide +kernel
theorem dX10_tried_189 : decode cX10_tried 189 = .ok (.goto (-47), 3) := by decide +kernel
theorem dX10_tried_192 : decode cX10_tried 192 = .ok (.aload_n 0, 1) := by decide +kernel
theorem dX10_tried_193 : decode cX10_tried 193 = .ok (.invokevirtual 676, 3) := by decide +kernel
theorem dX10_tried_196 : decode cX10_tried 196 = .ok (.ireturn, 1) := by decide +kernel
theorem dX10_undo_0 : decode cX10_undo 0 = .ok (.aload_n 0, 1) := by decide +kernel
theorem dX10_undo_1 : decode cX10_undo 1 = .ok (.iconst 0, 1) := by decide +kernel
theorem dX10_undo_2 : decode cX10_undo 2 = .ok (.putfield 235, 3) := by decide +kernel
theorem dX10_undo_5 : decode cX10_undo 5 = .ok (.aload_n 0, 1) := by decide +kernel
theorem dX10_undo_6 : decode cX10_undo 6 = .ok (.getfield 413, 3) := by decide +kernel
theorem dX10_undo_9 : decode cX10_undo 9 = .ok (.ifCond .ne 5, 3) := by decide +kernel
theorem dX10_undo_12 : decode cX10_undo 12 = .ok (.iconst (-1), 1) := by decide +kernel
theorem dX10_undo_13 : decode cX10_undo 13 = .ok (.ireturn, 1) := by decide +kernel
theorem dX10_undo_14 : decode cX10_undo 14 = .ok (.aload_n 0, 1) := by decide +kernel
theorem dX10_undo_15 : decode cX10_undo 15 = .ok (.dup, 1) := by decide +kernel
theorem dX10_undo_16 : decode cX10_undo 16 = .ok (.getfield 413, 3) := by decide +kernel
theorem dX10_undo_19 : decode cX10_undo 19 = .ok (.iconst 1, 1) := by decide +kernel
theorem dX10_undo_20 : decode cX10_undo 20 = .ok (.isub, 1) := by decide +kernel
theorem dX10_undo_21 : decode cX10_undo 21 = .ok (.putfield 413, 3) := by decide +kernel
theorem dX10_undo_24 : decode cX10_undo 24 = .ok (.aload_n 0, 1) := by decide +kernel
theorem dX10_undo_25 : decode cX10_undo 25 = .ok (.iconst 0, 1) := by decide +kernel
theorem dX10_undo_26 : decode cX10_undo 26 = .ok (.iconst 2, 1) := by decide +kernel
theorem dX10_undo_27 : decode cX10_undo 27 = .ok (.aload_n 0, 1) := by decide +kernel
theorem dX10_undo_28 : decode cX10_undo 28 = .ok (.getfield 413, 3) := by decide +kernel
theorem dX10_undo_31 : decode cX10_undo 31 = .ok (.iadd, 1) := by decide +kernel
theorem dX10_undo_32 : decode cX10_undo 32 = .ok (.invokevirtual 588, 3) := by decide +kernel
theorem dX10_undo_35 : decode cX10_undo 35 = .ok (.aload_n 0, 1) := by decide +kernel
theorem dX10_undo_36 : decode cX10_undo 36 = .ok (.getfield 413, 3) := by decide +kernel
theorem dX10_undo_39 : decode cX10_undo 39 = .ok (.ireturn, 1) := by decide +kernel
theorem dX10_keep_0 : decode cX10_keep 0 = .ok (.aload_n 0, 1) := by decide +kernel
theorem dX10_keep_1 : decode cX10_keep 1 = .ok (.iconst 0, 1) := by decide +kernel
theorem dX10_keep_2 : decode cX10_keep 2 = .ok (.putfield 235, 3) := by decide +kernel
theorem dX10_keep_5 : decode cX10_keep 5 = .ok (.aload_n 0, 1) := by decide +kernel
theorem dX10_keep_6 : decode cX10_keep 6 = .ok (.iconst 1, 1) := by decide +kernel
theorem dX10_keep_7 : decode cX10_keep 7 = .ok (.iconst 0, 1) := by decide +kernel
theorem dX10_keep_8 : decode cX10_keep 8 = .ok (.invokevirtual 588, 3) := by decide +kernel
theorem dX10_keep_11 : decode cX10_keep 11 = .ok (.aload_n 0, 1) := by decide +kernel
theorem dX10_keep_12 : decode cX10_keep 12 = .ok (.iconst 1, 1) := by decide +kernel
theorem dX10_keep_13 : decode cX10_keep 13 = .ok (.putfield 409, 3) := by decide +kernel
theorem dX10_keep_16 : decode cX10_keep 16 = .ok (.aload_n 0, 1) := by decide +kernel
theorem dX10_keep_17 : decode cX10_keep 17 = .ok (.getfield 144, 3) := by decide +kernel
theorem dX10_keep_20 : decode cX10_keep 20 = .ok (.iconst 0, 1) := by decide +kernel
theorem dX10_keep_21 : decode cX10_keep 21 = .ok (.iaload, 1) := by decide +kernel
theorem dX10_keep_22 : decode cX10_keep 22 = .ok (.ireturn, 1) := by decide +kernel
theorem dX10_back_0 : decode cX10_back 0 = .ok (.aload_n 0, 1) := by decide +kernel
theorem dX10_back_1 : decode cX10_back 1 = .ok (.iconst 0, 1) := by decide +kernel
theorem dX10_back_2 : decode cX10_back 2 = .ok (.putfield 235, 3) := by decide +kernel
theorem dX10_back_5 : decode cX10_back 5 = .ok (.aload_n 0, 1) := by decide +kernel
theorem dX10_back_6 : decode cX10_back 6 = .ok (.getfield 409, 3) := by decide +kernel
theorem dX10_back_9 : decode cX10_back 9 = .ok (.ifCond .ne 5, 3) := by decide +kernel
theorem dX10_back_12 : decode cX10_back 12 = .ok (.iconst (-1), 1) := by decide +kernel
theorem dX10_back_13 : decode cX10_back 13 = .ok (.ireturn, 1) := by decide +kernel
theorem dX10_back_14 : decode cX10_back 14 = .ok (.aload_n 0, 1) := by decide +kernel
theorem dX10_back_15 : decode cX10_back 15 = .ok (.iconst 0, 1) := by decide +kernel
theorem dX10_back_16 : decode cX10_back 16 = .ok (.iconst 1, 1) := by decide +kernel
theorem dX10_back_17 : decode cX10_back 17 = .ok (.invokevirtual 588, 3) := by decide +kernel
theorem dX10_back_20 : decode cX10_back 20 = .ok (.aload_n 0, 1) := by decide +kernel
theorem dX10_back_21 : decode cX10_back 21 = .ok (.iconst 0, 1) := by decide +kernel
theorem dX10_back_22 : decode cX10_back 22 = .ok (.putfield 413, 3) := by decide +kernel
theorem dX10_back_25 : decode cX10_back 25 = .ok (.aload_n 0, 1) := by decide +kernel
theorem dX10_back_26 : decode cX10_back 26 = .ok (.getfield 144, 3) := by decide +kernel
theorem dX10_back_29 : decode cX10_back 29 = .ok (.iconst 0, 1) := by decide +kernel
theorem dX10_back_30 : decode cX10_back 30 = .ok (.iaload, 1) := by decide +kernel
theorem dX10_back_31 : decode cX10_back 31 = .ok (.ireturn, 1) := by decide +kernel
theorem dX10_count_0 : decode cX10_count 0 = .ok (.aload_n 0, 1) := by decide +kernel
theorem dX10_count_1 : decode cX10_count 1 = .ok (.iconst 0, 1) := by decide +kernel
theorem dX10_count_2 : decode cX10_count 2 = .ok (.putfield 235, 3) := by decide +kernel
theorem dX10_count_5 : decode cX10_count 5 = .ok (.iconst 0, 1) := by decide +kernel
theorem dX10_count_6 : decode cX10_count 6 = .ok (.istore_n 2, 1) := by decide +kernel
theorem dX10_count_7 : decode cX10_count 7 = .ok (.iload_n 1, 1) := by decide +kernel
theorem dX10_count_8 : decode cX10_count 8 = .ok (.tableswitch 285 0 15 #[80, 87, 94, 101, 108, 115, 123, 160, 168, 175, 180, 185, 190, 200, 211, 240], 80) := by decide +kernel
theorem dX10_count_88 : decode cX10_count 88 = .ok (.aload_n 0, 1) := by decide +kernel
theorem dX10_count_89 : decode cX10_count 89 = .ok (.getfield 13, 3) := by decide +kernel
theorem dX10_count_92 : decode cX10_count 92 = .ok (.iconst 0, 1) := by decide +kernel
theorem dX10_count_93 : decode cX10_count 93 = .ok (.iaload, 1) := by decide +kernel
theorem dX10_count_94 : decode cX10_count 94 = .ok (.ireturn, 1) := by decide +kernel
theorem dX10_count_95 : decode cX10_count 95 = .ok (.aload_n 0, 1) := by decide +kernel
theorem dX10_count_96 : decode cX10_count 96 = .ok (.getfield 13, 3) := by decide +kernel
theorem dX10_count_99 : decode cX10_count 99 = .ok (.iconst 1, 1) := by decide +kernel
theorem dX10_count_100 : decode cX10_count 100 = .ok (.iaload, 1) := by decide +kernel
theorem dX10_count_101 : decode cX10_count 101 = .ok (.ireturn, 1) := by decide +kernel
theorem dX10_count_102 : decode cX10_count 102 = .ok (.aload_n 0, 1) := by decide +kernel
theorem dX10_count_103 : decode cX10_count 103 = .ok (.getfield 13, 3) := by decide +kernel
theorem dX10_count_106 : decode cX10_count 106 = .ok (.iconst 2, 1) := by decide +kernel
theorem dX10_count_107 : decode cX10_count 107 = .ok (.iaload, 1) := by decide +kernel
theorem dX10_count_108 : decode cX10_count 108 = .ok (.ireturn, 1) := by decide +kernel
theorem dX10_count_109 : decode cX10_count 109 = .ok (.aload_n 0, 1) := by decide +kernel
theorem dX10_count_110 : decode cX10_count 110 = .ok (.getfield 114, 3) := by decide +kernel
theorem dX10_count_113 : decode cX10_count 113 = .ok (.iconst 0, 1) := by decide +kernel
theorem dX10_count_114 : decode cX10_count 114 = .ok (.iaload, 1) := by decide +kernel
theorem dX10_count_115 : decode cX10_count 115 = .ok (.ireturn, 1) := by decide +kernel
theorem dX10_count_116 : decode cX10_count 116 = .ok (.aload_n 0, 1) := by decide +kernel
theorem dX10_count_117 : decode cX10_count 117 = .ok (.getfield 13, 3) := by decide +kernel
theorem dX10_count_120 : decode cX10_count 120 = .ok (.iconst 4, 1) := by decide +kernel
theorem dX10_count_121 : decode cX10_count 121 = .ok (.iaload, 1) := by decide +kernel
theorem dX10_count_122 : decode cX10_count 122 = .ok (.ireturn, 1) := by decide +kernel
theorem dX10_count_123 : decode cX10_count 123 = .ok (.aload_n 0, 1) := by decide +kernel
theorem dX10_count_124 : decode cX10_count 124 = .ok (.getfield 13, 3) := by decide +kernel
theorem dX10_count_127 : decode cX10_count 127 = .ok (.bipush 6, 2) := by decide +kernel
theorem dX10_count_129 : decode cX10_count 129 = .ok (.iaload, 1) := by decide +kernel
theorem dX10_count_130 : decode cX10_count 130 = .ok (.ireturn, 1) := by decide +kernel
theorem dX10_count_131 : decode cX10_count 131 = .ok (.iconst 0, 1) := by decide +kernel
theorem dX10_count_132 : decode cX10_count 132 = .ok (.istore_n 3, 1) := by decide +kernel
theorem dX10_count_133 : decode cX10_count 133 = .ok (.iload_n 3, 1) := by decide +kernel
theorem dX10_count_134 : decode cX10_count 134 = .ok (.aload_n 0, 1) := by decide +kernel
theorem dX10_count_135 : decode cX10_count 135 = .ok (.getfield 13, 3) := by decide +kernel
theorem dX10_count_138 : decode cX10_count 138 = .ok (.iconst 0, 1) := by decide +kernel
theorem dX10_count_139 : decode cX10_count 139 = .ok (.iaload, 1) := by decide +kernel
theorem dX10_count_140 : decode cX10_count 140 = .ok (.if_icmp .ge 26, 3) := by decide +kernel
theorem dX10_count_143 : decode cX10_count 143 = .ok (.iload_n 2, 1) := by decide +kernel
theorem dX10_count_144 : decode cX10_count 144 = .ok (.aload_n 0, 1) := by decide +kernel
theorem dX10_count_145 : decode cX10_count 145 = .ok (.getfield 88, 3) := by decide +kernel
theorem dX10_count_148 : decode cX10_count 148 = .ok (.iload_n 3, 1) := by decide +kernel
theorem dX10_count_149 : decode cX10_count 149 = .ok (.iaload, 1) := by decide +kernel
theorem dX10_count_150 : decode cX10_count 150 = .ok (.ifCond .le 7, 3) := by decide +kernel
theorem dX10_count_153 : decode cX10_count 153 = .ok (.iconst 1, 1) := by decide +kernel
theorem dX10_count_154 : decode cX10_count 154 = .ok (.goto 4, 3) := by decide +kernel
theorem dX10_count_157 : decode cX10_count 157 = .ok (.iconst 0, 1) := by decide +kernel
theorem dX10_count_158 : decode cX10_count 158 = .ok (.iadd, 1) := by decide +kernel
theorem dX10_count_159 : decode cX10_count 159 = .ok (.istore_n 2, 1) := by decide +kernel
theorem dX10_count_160 : decode cX10_count 160 = .ok (.iinc 3 1, 3) := by decide +kernel
theorem dX10_count_163 : decode cX10_count 163 = .ok (.goto (-30), 3) := by decide +kernel
theorem dX10_count_166 : decode cX10_count 166 = .ok (.iload_n 2, 1) := by decide +kernel
theorem dX10_count_167 : decode cX10_count 167 = .ok (.ireturn, 1) := by decide +kernel
theorem dX10_count_168 : decode cX10_count 168 = .ok (.aload_n 0, 1) := by decide +kernel
theorem dX10_count_169 : decode cX10_count 169 = .ok (.getfield 13, 3) := by decide +kernel
theorem dX10_count_172 : decode cX10_count 172 = .ok (.bipush 10, 2) := by decide +kernel
theorem dX10_count_174 : decode cX10_count 174 = .ok (.iaload, 1) := by decide +kernel
theorem dX10_count_175 : decode cX10_count 175 = .ok (.ireturn, 1) := by decide +kernel
theorem dX10_count_176 : decode cX10_count 176 = .ok (.aload_n 0, 1) := by decide +kernel
theorem dX10_count_177 : decode cX10_count 177 = .ok (.getfield 144, 3) := by decide +kernel
theorem dX10_count_180 : decode cX10_count 180 = .ok (.iconst 0, 1) := by decide +kernel
theorem dX10_count_181 : decode cX10_count 181 = .ok (.iaload, 1) := by decide +kernel
theorem dX10_count_182 : decode cX10_count 182 = .ok (.ireturn, 1) := by decide +kernel
theorem dX10_count_183 : decode cX10_count 183 = .ok (.aload_n 0, 1) := by decide +kernel
theorem dX10_count_184 : decode cX10_count 184 = .ok (.getfield 406, 3) := by decide +kernel
theorem dX10_count_187 : decode cX10_count 187 = .ok (.ireturn, 1) := by decide +kernel
theorem dX10_count_188 : decode cX10_count 188 = .ok (.aload_n 0, 1) := by decide +kernel
theorem dX10_count_189 : decode cX10_count 189 = .ok (.invokevirtual 623, 3) := by decide +kernel
theorem dX10_count_192 : decode cX10_count 192 = .ok (.ireturn, 1) := by decide +kernel
theorem dX10_count_193 : decode cX10_count 193 = .ok (.aload_n 0, 1) := by decide +kernel
theorem dX10_count_194 : decode cX10_count 194 = .ok (.getfield 413, 3) := by decide +kernel
theorem dX10_count_197 : decode cX10_count 197 = .ok (.ireturn, 1) := by decide +kernel
theorem dX10_count_198 : decode cX10_count 198 = .ok (.aload_n 0, 1) := by decide +kernel
theorem dX10_count_199 : decode cX10_count 199 = .ok (.getfield 138, 3) := by decide +kernel
theorem dX10_count_202 : decode cX10_count 202 = .ok (.iconst 0, 1) := by decide +kernel
theorem dX10_count_203 : decode cX10_count 203 = .ok (.iaload, 1) := by decide +kernel
theorem dX10_count_204 : decode cX10_count 204 = .ok (.invokestatic 566, 3) := by decide +kernel
theorem dX10_count_207 : decode cX10_count 207 = .ok (.ireturn, 1) := by decide +kernel
theorem dX10_count_208 : decode cX10_count 208 = .ok (.aload_n 0, 1) := by decide +kernel
theorem dX10_count_209 : decode cX10_count 209 = .ok (.invokevirtual 515, 3) := by decide +kernel
theorem dX10_count_212 : decode cX10_count 212 = .ok (.aload_n 0, 1) := by decide +kernel
theorem dX10_count_213 : decode cX10_count 213 = .ok (.iconst (-1), 1) := by decide +kernel
theorem dX10_count_214 : decode cX10_count 214 = .ok (.iconst (-1), 1) := by decide +kernel
theorem dX10_count_215 : decode cX10_count 215 = .ok (.invokevirtual 518, 3) := by decide +kernel
theorem dX10_count_218 : decode cX10_count 218 = .ok (.ireturn, 1) := by decide +kernel
theorem dX10_count_219 : decode cX10_count 219 = .ok (.iconst 0, 1) := by decide +kernel
theorem dX10_count_220 : decode cX10_count 220 = .ok (.istore_n 3, 1) := by decide +kernel
theorem dX10_count_221 : decode cX10_count 221 = .ok (.iload_n 3, 1) := by decide +kernel
theorem dX10_count_222 : decode cX10_count 222 = .ok (.aload_n 0, 1) := by decide +kernel
theorem dX10_count_223 : decode cX10_count 223 = .ok (.getfield 13, 3) := by decide +kernel
theorem dX10_count_226 : decode cX10_count 226 = .ok (.iconst 2, 1) := by decide +kernel
theorem dX10_count_227 : decode cX10_count 227 = .ok (.iaload, 1) := by decide +kernel
theorem dX10_count_228 : decode cX10_count 228 = .ok (.if_icmp .ge 18, 3) := by decide +kernel
theorem dX10_count_231 : decode cX10_count 231 = .ok (.iload_n 2, 1) := by decide +kernel
theorem dX10_count_232 : decode cX10_count 232 = .ok (.aload_n 0, 1) := by decide +kernel
theorem dX10_count_233 : decode cX10_count 233 = .ok (.getfield 141, 3) := by decide +kernel
theorem dX10_count_236 : decode cX10_count 236 = .ok (.iload_n 3, 1) := by decide +kernel
theorem dX10_count_237 : decode cX10_count 237 = .ok (.iaload, 1) := by decide +kernel
theorem dX10_count_238 : decode cX10_count 238 = .ok (.iadd, 1) := by decide +kernel
theorem dX10_count_239 : decode cX10_count 239 = .ok (.istore_n 2, 1) := by decide +kernel
theorem dX10_count_240 : decode cX10_count 240 = .ok (.iinc 3 1, 3) := by decide +kernel
theorem dX10_count_243 : decode cX10_count 243 = .ok (.goto (-22), 3) := by decide +kernel
theorem dX10_count_246 : decode cX10_count 246 = .ok (.iload_n 2, 1) := by decide +kernel
theorem dX10_count_247 : decode cX10_count 247 = .ok (.ireturn, 1) := by decide +kernel
theorem dX10_count_248 : decode cX10_count 248 = .ok (.aload_n 0, 1) := by decide +kernel
theorem dX10_count_249 : decode cX10_count 249 = .ok (.invokevirtual 515, 3) := by decide +kernel
theorem dX10_count_252 : decode cX10_count 252 = .ok (.iconst 0, 1) := by decide +kernel
theorem dX10_count_253 : decode cX10_count 253 = .ok (.istore_n 3, 1) := by decide +kernel
theorem dX10_count_254 : decode cX10_count 254 = .ok (.iload_n 3, 1) := by decide +kernel
theorem dX10_count_255 : decode cX10_count 255 = .ok (.bipush 48, 2) := by decide +kernel
theorem dX10_count_257 : decode cX10_count 257 = .ok (.aload_n 0, 1) := by decide +kernel
theorem dX10_count_258 : decode cX10_count 258 = .ok (.getfield 13, 3) := by decide +kernel
theorem dX10_count_261 : decode cX10_count 261 = .ok (.iconst 0, 1) := by decide +kernel
theorem dX10_count_262 : decode cX10_count 262 = .ok (.iaload, 1) := by decide +kernel
theorem dX10_count_263 : decode cX10_count 263 = .ok (.imul, 1) := by decide +kernel
theorem dX10_count_264 : decode cX10_count 264 = .ok (.if_icmp .ge 27, 3) := by decide +kernel
theorem dX10_count_267 : decode cX10_count 267 = .ok (.iload_n 2, 1) := by decide +kernel
theorem dX10_count_268 : decode cX10_count 268 = .ok (.aload_n 0, 1) := by decide +kernel
theorem dX10_count_269 : decode cX10_count 269 = .ok (.getfield 165, 3) := by decide +kernel
theorem dX10_count_272 : decode cX10_count 272 = .ok (.iload_n 3, 1) := by decide +kernel
theorem dX10_count_273 : decode cX10_count 273 = .ok (.iaload, 1) := by decide +kernel
theorem dX10_count_274 : decode cX10_count 274 = .ok (.iconst (-1), 1) := by decide +kernel
theorem dX10_count_275 : decode cX10_count 275 = .ok (.if_icmp .ne 7, 3) := by decide +kernel
theorem dX10_count_278 : decode cX10_count 278 = .ok (.iconst 1, 1) := by decide +kernel
theorem dX10_count_279 : decode cX10_count 279 = .ok (.goto 4, 3) := by decide +kernel
theorem dX10_count_282 : decode cX10_count 282 = .ok (.iconst 0, 1) := by decide +kernel
theorem dX10_count_283 : decode cX10_count 283 = .ok (.iadd, 1) := by decide +kernel
theorem dX10_count_284 : decode cX10_count 284 = .ok (.istore_n 2, 1) := by decide +kernel
theorem dX10_count_285 : decode cX10_count 285 = .ok (.iinc 3 1, 3) := by decide +kernel
theorem dX10_count_288 : decode cX10_count 288 = .ok (.goto (-34), 3) := by decide +kernel
theorem dX10_count_291 : decode cX10_count 291 = .ok (.iload_n 2, 1) := by decide +kernel
theorem dX10_count_292 : decode cX10_count 292 = .ok (.ireturn, 1) := by decide +kernel
theorem dX10_count_293 : decode cX10_count 293 = .ok (.iconst (-1), 1) := by decide +kernel
theorem dX10_count_294 : decode cX10_count 294 = .ok (.ireturn, 1) := by decide +kernel
theorem dJ11_isValidCodePoint_9a6ad_0 : decode cJ11_isValidCodePoint_9a6ad 0 = .ok (.iload_n 0, 1) := by decide +kernel
theorem dJ11_isValidCodePoint_9a6ad_1 : decode cJ11_isValidCodePoint_9a6ad 1 = .ok (.bipush 16, 2) := by decide +kernel
theorem dJ11_isValidCodePoint_9a6ad_3 : decode cJ11_isValidCodePoint_9a6ad 3 = .ok (.iushr, 1) := by decide +kernel
theorem dJ11_isValidCodePoint_9a6ad_4 : decode cJ11_isValidCodePoint_9a6ad 4 = .ok (.istore_n 1, 1) := by decide +kernel
theorem dJ11_isValidCodePoint_9a6ad_5 : decode cJ11_isValidCodePoint_9a6ad 5 = .ok (.iload_n 1, 1) := by decide +kernel
theorem dJ11_isValidCodePoint_9a6ad_6 : decode cJ11_isValidCodePoint_9a6ad 6 = .ok (.bipush 17, 2) := by decide +kernel
theorem dJ11_isValidCodePoint_9a6ad_8 : decode cJ11_isValidCodePoint_9a6ad 8 = .ok (.if_icmp .ge 7, 3) := by decide +kernel
theorem dJ11_isValidCodePoint_9a6ad_11 : decode cJ11_isValidCodePoint_9a6ad 11 = .ok (.iconst 1, 1) := by decide +kernel
theorem dJ11_isValidCodePoint_9a6ad_12 : decode cJ11_isValidCodePoint_9a6ad 12 = .ok (.goto 4, 3) := by decide +kernel
theorem dJ11_isValidCodePoint_9a6ad_15 : decode cJ11_isValidCodePoint_9a6ad 15 = .ok (.iconst 0, 1) := by decide +kernel
theorem dJ11_isValidCodePoint_9a6ad_16 : decode cJ11_isValidCodePoint_9a6ad 16 = .ok (.ireturn, 1) := by decide +kernel
theorem dJ11_highSurrogate_5068e_0 : decode cJ11_highSurrogate_5068e 0 = .ok (.iload_n 0, 1) := by decide +kernel
theorem dJ11_highSurrogate_5068e_1 : decode cJ11_highSurrogate_5068e 1 = .ok (.bipush 10, 2) := by decide +kernel
theorem dJ11_highSurrogate_5068e_3 : decode cJ11_highSurrogate_5068e 3 = .ok (.iushr, 1) := by decide +kernel
theorem dJ11_highSurrogate_5068e_4 : decode cJ11_highSurrogate_5068e 4 = .ok (.ldc 110, 2) := by decide +kernel
theorem dJ11_highSurrogate_5068e_6 : decode cJ11_highSurrogate_5068e 6 = .ok (.iadd, 1) := by decide +kernel
theorem dJ11_highSurrogate_5068e_7 : decode cJ11_highSurrogate_5068e 7 = .ok (.i2c, 1) := by decide +kernel
theorem dJ11_highSurrogate_5068e_8 : decode cJ11_highSurrogate_5068e 8 = .ok (.ireturn, 1) := by decide +kernel
theorem dJ11_lowSurrogate_5068e_0 : decode cJ11_lowSurrogate_5068e 0 = .ok (.iload_n 0, 1) := by decide +kernel
theorem dJ11_lowSurrogate_5068e_1 : decode cJ11_lowSurrogate_5068e 1 = .ok (.sipush 1023, 3) := by decide +kernel
theorem dJ11_lowSurrogate_5068e_4 : decode cJ11_lowSurrogate_5068e 4 = .ok (.iand, 1) := by decide +kernel
theorem dJ11_lowSurrogate_5068e_5 : decode cJ11_lowSurrogate_5068e 5 = .ok (.ldc 76, 2) := by decide +kernel
theorem dJ11_lowSurrogate_5068e_7 : decode cJ11_lowSurrogate_5068e 7 = .ok (.iadd, 1) := by decide +kernel
theorem dJ11_lowSurrogate_5068e_8 : decode cJ11_lowSurrogate_5068e 8 = .ok (.i2c, 1) := by decide +kernel
theorem dJ11_lowSurrogate_5068e_9 : decode cJ11_lowSurrogate_5068e 9 = .ok (.ireturn, 1) := by decide +kernel
theorem dJ6_bitCount_0f7a4_0 : decode cJ6_bitCount_0f7a4 0 = .ok (.iload_n 0, 1) := by decide +kernel
theorem dJ6_bitCount_0f7a4_1 : decode cJ6_bitCount_0f7a4 1 = .ok (.iload_n 0, 1) := by decide +kernel
theorem dJ6_bitCount_0f7a4_2 : decode cJ6_bitCount_0f7a4 2 = .ok (.iconst 1, 1) := by decide +kernel
theorem dJ6_bitCount_0f7a4_3 : decode cJ6_bitCount_0f7a4 3 = .ok (.iushr, 1) := by decide +kernel
theorem dJ6_bitCount_0f7a4_4 : decode cJ6_bitCount_0f7a4 4 = .ok (.ldc_w 265, 3) := by decide +kernel
theorem dJ6_bitCount_0f7a4_7 : decode cJ6_bitCount_0f7a4 7 = .ok (.iand, 1) := by decide +kernel
theorem dJ6_bitCount_0f7a4_8 : decode cJ6_bitCount_0f7a4 8 = .ok (.isub, 1) := by decide +kernel
theorem dJ6_bitCount_0f7a4_9 : decode cJ6_bitCount_0f7a4 9 = .ok (.istore_n 0, 1) := by decide +kernel
theorem dJ6_bitCount_0f7a4_10 : decode cJ6_bitCount_0f7a4 10 = .ok (.iload_n 0, 1) := by decide +kernel
theorem dJ6_bitCount_0f7a4_11 : decode cJ6_bitCount_0f7a4 11 = .ok (.ldc_w 266, 3) := by decide +kernel
theorem dJ6_bitCount_0f7a4_14 : decode cJ6_bitCount_0f7a4 14 = .ok (.iand, 1) := by decide +kernel
theorem dJ6_bitCount_0f7a4_15 : decode cJ6_bitCount_0f7a4 15 = .ok (.iload_n 0, 1) := by decide +kernel
theorem dJ6_bitCount_0f7a4_16 : decode cJ6_bitCount_0f7a4 16 = .ok (.iconst 2, 1) := by decide +kernel
theorem dJ6_bitCount_0f7a4_17 : decode cJ6_bitCount_0f7a4 17 = .ok (.iushr, 1) := by decide +kernel
theorem dJ6_bitCount_0f7a4_18 : decode cJ6_bitCount_0f7a4 18 = .ok (.ldc_w 266, 3) := by decide +kernel
theorem dJ6_bitCount_0f7a4_21 : decode cJ6_bitCount_0f7a4 21 = .ok (.iand, 1) := by decide +kernel
theorem dJ6_bitCount_0f7a4_22 : decode cJ6_bitCount_0f7a4 22 = .ok (.iadd, 1) := by decide +kernel
theorem dJ6_bitCount_0f7a4_23 : decode cJ6_bitCount_0f7a4 23 = .ok (.istore_n 0, 1) := by decide +kernel
theorem dJ6_bitCount_0f7a4_24 : decode cJ6_bitCount_0f7a4 24 = .ok (.iload_n 0, 1) := by decide +kernel
theorem dJ6_bitCount_0f7a4_25 : decode cJ6_bitCount_0f7a4 25 = .ok (.iload_n 0, 1) := by decide +kernel
theorem dJ6_bitCount_0f7a4_26 : decode cJ6_bitCount_0f7a4 26 = .ok (.iconst 4, 1) := by decide +kernel
theorem dJ6_bitCount_0f7a4_27 : decode cJ6_bitCount_0f7a4 27 = .ok (.iushr, 1) := by decide +kernel
theorem dJ6_bitCount_0f7a4_28 : decode cJ6_bitCount_0f7a4 28 = .ok (.iadd, 1) := by decide +kernel
theorem dJ6_bitCount_0f7a4_29 : decode cJ6_bitCount_0f7a4 29 = .ok (.ldc_w 267, 3) := by decide +kernel
theorem dJ6_bitCount_0f7a4_32 : decode cJ6_bitCount_0f7a4 32 = .ok (.iand, 1) := by decide +kernel
theorem dJ6_bitCount_0f7a4_33 : decode cJ6_bitCount_0f7a4 33 = .ok (.istore_n 0, 1) := by decide +kernel
theorem dJ6_bitCount_0f7a4_34 : decode cJ6_bitCount_0f7a4 34 = .ok (.iload_n 0, 1) := by decide +kernel
theorem dJ6_bitCount_0f7a4_35 : decode cJ6_bitCount_0f7a4 35 = .ok (.iload_n 0, 1) := by decide +kernel
theorem dJ6_bitCount_0f7a4_36 : decode cJ6_bitCount_0f7a4 36 = .ok (.bipush 8, 2) := by decide +kernel
theorem dJ6_bitCount_0f7a4_38 : decode cJ6_bitCount_0f7a4 38 = .ok (.iushr, 1) := by decide +kernel
theorem dJ6_bitCount_0f7a4_39 : decode cJ6_bitCount_0f7a4 39 = .ok (.iadd, 1) := by decide +kernel
theorem dJ6_bitCount_0f7a4_40 : decode cJ6_bitCount_0f7a4 40 = .ok (.istore_n 0, 1) := by decide +kernel
theorem dJ6_bitCount_0f7a4_41 : decode cJ6_bitCount_0f7a4 41 = .ok (.iload_n 0, 1) := by decide +kernel
theorem dJ6_bitCount_0f7a4_42 : decode cJ6_bitCount_0f7a4 42 = .ok (.iload_n 0, 1) := by decide +kernel
theorem dJ6_bitCount_0f7a4_43 : decode cJ6_bitCount_0f7a4 43 = .ok (.bipush 16, 2) := by decide +kernel
theorem dJ6_bitCount_0f7a4_45 : decode cJ6_bitCount_0f7a4 45 = .ok (.iushr, 1) := by decide +kernel
theorem dJ6_bitCount_0f7a4_46 : decode cJ6_bitCount_0f7a4 46 = .ok (.iadd, 1) := by decide +kernel
theorem dJ6_bitCount_0f7a4_47 : decode cJ6_bitCount_0f7a4 47 = .ok (.istore_n 0, 1) := by decide +kernel
theorem dJ6_bitCount_0f7a4_48 : decode cJ6_bitCount_0f7a4 48 = .ok (.iload_n 0, 1) := by decide +kernel
theorem dJ6_bitCount_0f7a4_49 : decode cJ6_bitCount_0f7a4 49 = .ok (.bipush 63, 2) := by decide +kernel
theorem dJ6_bitCount_0f7a4_51 : decode cJ6_bitCount_0f7a4 51 = .ok (.iand, 1) := by decide +kernel
theorem dJ6_bitCount_0f7a4_52 : decode cJ6_bitCount_0f7a4 52 = .ok (.ireturn, 1) := by decide +kernel
theorem dJ13_bitCount_95d88_0 : decode cJ13_bitCount_95d88 0 = .ok (.lload_n 0, 1) := by decide +kernel
theorem dJ13_bitCount_95d88_1 : decode cJ13_bitCount_95d88 1 = .ok (.lload_n 0, 1) := by decide +kernel
theorem dJ13_bitCount_95d88_2 : decode cJ13_bitCount_95d88 2 = .ok (.iconst 1, 1) := by decide +kernel
theorem dJ13_bitCount_95d88_3 : decode cJ13_bitCount_95d88 3 = .ok (.lushr, 1) := by decide +kernel
theorem dJ13_bitCount_95d88_4 : decode cJ13_bitCount_95d88 4 = .ok (.ldc2_w 314, 3) := by decide +kernel
theorem dJ13_bitCount_95d88_7 : decode cJ13_bitCount_95d88 7 = .ok (.land, 1) := by decide +kernel
theorem dJ13_bitCount_95d88_8 : decode cJ13_bitCount_95d88 8 = .ok (.lsub, 1) := by decide +kernel
theorem dJ13_bitCount_95d88_9 : decode cJ13_bitCount_95d88 9 = .ok (.lstore_n 0, 1) := by decide +kernel
theorem dJ13_bitCount_95d88_10 : decode cJ13_bitCount_95d88 10 = .ok (.lload_n 0, 1) := by decide +kernel
theorem dJ13_bitCount_95d88_11 : decode cJ13_bitCount_95d88 11 = .ok (.ldc2_w 316, 3) := by decide +kernel
theorem dJ13_bitCount_95d88_14 : decode cJ13_bitCount_95d88 14 = .ok (.land, 1) := by decide +kernel
theorem dJ13_bitCount_95d88_15 : decode cJ13_bitCount_95d88 15 = .ok (.lload_n 0, 1) := by decide +kernel
theorem dJ13_bitCount_95d88_16 : decode cJ13_bitCount_95d88 16 = .ok (.iconst 2, 1) := by decide +kernel
theorem dJ13_bitCount_95d88_17 : decode cJ13_bitCount_95d88 17 = .ok (.lushr, 1) := by decide +kernel
theorem dJ13_bitCount_95d88_18 : decode cJ13_bitCount_95d88 18 = .ok (.ldc2_w 316, 3) := by decide +kernel
theorem dJ13_bitCount_95d88_21 : decode cJ13_bitCount_95d88 21 = .ok (.land, 1) := by decide +kernel
theorem dJ13_bitCount_95d88_22 : decode cJ13_bitCount_95d88 22 = .ok (.ladd, 1) := by decide +kernel
theorem dJ13_bitCount_95d88_23 : decode cJ13_bitCount_95d88 23 = .ok (.lstore_n 0, 1) := by decide +kernel
theorem dJ13_bitCount_95d88_24 : decode cJ13_bitCount_95d88 24 = .ok (.lload_n 0, 1) := by decide +kernel
theorem dJ13_bitCount_95d88_25 : decode cJ13_bitCount_95d88 25 = .ok (.lload_n 0, 1) := by decide +kernel
theorem dJ13_bitCount_95d88_26 : decode cJ13_bitCount_95d88 26 = .ok (.iconst 4, 1) := by decide +kernel
theorem dJ13_bitCount_95d88_27 : decode cJ13_bitCount_95d88 27 = .ok (.lushr, 1) := by decide +kernel
theorem dJ13_bitCount_95d88_28 : decode cJ13_bitCount_95d88 28 = .ok (.ladd, 1) := by decide +kernel
theorem dJ13_bitCount_95d88_29 : decode cJ13_bitCount_95d88 29 = .ok (.ldc2_w 318, 3) := by decide +kernel
theorem dJ13_bitCount_95d88_32 : decode cJ13_bitCount_95d88 32 = .ok (.land, 1) := by decide +kernel
theorem dJ13_bitCount_95d88_33 : decode cJ13_bitCount_95d88 33 = .ok (.lstore_n 0, 1) := by decide +kernel
theorem dJ13_bitCount_95d88_34 : decode cJ13_bitCount_95d88 34 = .ok (.lload_n 0, 1) := by decide +kernel
theorem dJ13_bitCount_95d88_35 : decode cJ13_bitCount_95d88 35 = .ok (.lload_n 0, 1) := by decide +kernel
theorem dJ13_bitCount_95d88_36 : decode cJ13_bitCount_95d88 36 = .ok (.bipush 8, 2) := by decide +kernel
theorem dJ13_bitCount_95d88_38 : decode cJ13_bitCount_95d88 38 = .ok (.lushr, 1) := by decide +kernel
theorem dJ13_bitCount_95d88_39 : decode cJ13_bitCount_95d88 39 = .ok (.ladd, 1) := by decide +kernel
theorem dJ13_bitCount_95d88_40 : decode cJ13_bitCount_95d88 40 = .ok (.lstore_n 0, 1) := by decide +kernel
theorem dJ13_bitCount_95d88_41 : decode cJ13_bitCount_95d88 41 = .ok (.lload_n 0, 1) := by decide +kernel
theorem dJ13_bitCount_95d88_42 : decode cJ13_bitCount_95d88 42 = .ok (.lload_n 0, 1) := by decide +kernel
theorem dJ13_bitCount_95d88_43 : decode cJ13_bitCount_95d88 43 = .ok (.bipush 16, 2) := by decide +kernel
theorem dJ13_bitCount_95d88_45 : decode cJ13_bitCount_95d88 45 = .ok (.lushr, 1) := by decide +kernel
theorem dJ13_bitCount_95d88_46 : decode cJ13_bitCount_95d88 46 = .ok (.ladd, 1) := by decide +kernel
theorem dJ13_bitCount_95d88_47 : decode cJ13_bitCount_95d88 47 = .ok (.lstore_n 0, 1) := by decide +kernel
theorem dJ13_bitCount_95d88_48 : decode cJ13_bitCount_95d88 48 = .ok (.lload_n 0, 1) := by decide +kernel
theorem dJ13_bitCount_95d88_49 : decode cJ13_bitCount_95d88 49 = .ok (.lload_n 0, 1) := by decide +kernel
theorem dJ13_bitCount_95d88_50 : decode cJ13_bitCount_95d88 50 = .ok (.bipush 32, 2) := by decide +kernel
theorem dJ13_bitCount_95d88_52 : decode cJ13_bitCount_95d88 52 = .ok (.lushr, 1) := by decide +kernel
theorem dJ13_bitCount_95d88_53 : decode cJ13_bitCount_95d88 53 = .ok (.ladd, 1) := by decide +kernel
theorem dJ13_bitCount_95d88_54 : decode cJ13_bitCount_95d88 54 = .ok (.lstore_n 0, 1) := by decide +kernel
theorem dJ13_bitCount_95d88_55 : decode cJ13_bitCount_95d88 55 = .ok (.lload_n 0, 1) := by decide +kernel
theorem dJ13_bitCount_95d88_56 : decode cJ13_bitCount_95d88 56 = .ok (.l2i, 1) := by decide +kernel
theorem dJ13_bitCount_95d88_57 : decode cJ13_bitCount_95d88 57 = .ok (.bipush 127, 2) := by decide +kernel
theorem dJ13_bitCount_95d88_59 : decode cJ13_bitCount_95d88 59 = .ok (.iand, 1) := by decide +kernel
theorem dJ13_bitCount_95d88_60 : decode cJ13_bitCount_95d88 60 = .ok (.ireturn, 1) := by decide +kernel
theorem dJ9_abs_067f4_0 : decode cJ9_abs_067f4 0 = .ok (.lload_n 0, 1) := by decide +kernel
theorem dJ9_abs_067f4_1 : decode cJ9_abs_067f4 1 = .ok (.lconst 0, 1) := by decide +kernel
theorem dJ9_abs_067f4_2 : decode cJ9_abs_067f4 2 = .ok (.lcmp, 1) := by decide +kernel
theorem dJ9_abs_067f4_3 : decode cJ9_abs_067f4 3 = .ok (.ifCond .ge 8, 3) := by decide +kernel
theorem dJ9_abs_067f4_6 : decode cJ9_abs_067f4 6 = .ok (.lload_n 0, 1) := by decide +kernel
theorem dJ9_abs_067f4_7 : decode cJ9_abs_067f4 7 = .ok (.lneg, 1) := by decide +kernel
theorem dJ9_abs_067f4_8 : decode cJ9_abs_067f4 8 = .ok (.goto 4, 3) := by decide +kernel
theorem dJ9_abs_067f4_11 : decode cJ9_abs_067f4 11 = .ok (.lload_n 0, 1) := by decide +kernel
theorem dJ9_abs_067f4_12 : decode cJ9_abs_067f4 12 = .ok (.lreturn, 1) := by decide +kernel
theorem dJ9_max_7cf53_0 : decode cJ9_max_7cf53 0 = .ok (.iload_n 0, 1) := by decide +kernel
theorem dJ9_max_7cf53_1 : decode cJ9_max_7cf53 1 = .ok (.iload_n 1, 1) := by decide +kernel
theorem dJ9_max_7cf53_2 : decode cJ9_max_7cf53 2 = .ok (.if_icmp .lt 7, 3) := by decide +kernel
theorem dJ9_max_7cf53_5 : decode cJ9_max_7cf53 5 = .ok (.iload_n 0, 1) := by decide +kernel
theorem dJ9_max_7cf53_6 : decode cJ9_max_7cf53 6 = .ok (.goto 4, 3) := by decide +kernel
theorem dJ9_max_7cf53_9 : decode cJ9_max_7cf53 9 = .ok (.iload_n 1, 1) := by decide +kernel
theorem dJ9_max_7cf53_10 : decode cJ9_max_7cf53 10 = .ok (.ireturn, 1) := by decide +kernel
theorem dJ9_max_f86c9_0 : decode cJ9_max_f86c9 0 = .ok (.lload_n 0, 1) := by decide +kernel
theorem dJ9_max_f86c9_1 : decode cJ9_max_f86c9 1 = .ok (.lload_n 2, 1) := by decide +kernel
theorem dJ9_max_f86c9_2 : decode cJ9_max_f86c9 2 = .ok (.lcmp, 1) := by decide +kernel
theorem dJ9_max_f86c9_3 : decode cJ9_max_f86c9 3 = .ok (.ifCond .lt 7, 3) := by decide +kernel
theorem dJ9_max_f86c9_6 : decode cJ9_max_f86c9 6 = .ok (.lload_n 0, 1) := by decide +kernel
theorem dJ9_max_f86c9_7 : decode cJ9_max_f86c9 7 = .ok (.goto 4, 3) := by decide +kernel
theorem dJ9_max_f86c9_10 : decode cJ9_max_f86c9 10 = .ok (.lload_n 2, 1) := by decide +kernel
theorem dJ9_max_f86c9_11 : decode cJ9_max_f86c9 11 = .ok (.lreturn, 1) := by decide +kernel
theorem dJ9_min_7cf53_0 : decode cJ9_min_7cf53 0 = .ok (.iload_n 0, 1) := by decide +kernel
theorem dJ9_min_7cf53_1 : decode cJ9_min_7cf53 1 = .ok (.iload_n 1, 1) := by decide +kernel
theorem dJ9_min_7cf53_2 : decode cJ9_min_7cf53 2 = .ok (.if_icmp .gt 7, 3) := by decide +kernel
theorem dJ9_min_7cf53_5 : decode cJ9_min_7cf53 5 = .ok (.iload_n 0, 1) := by decide +kernel
theorem dJ9_min_7cf53_6 : decode cJ9_min_7cf53 6 = .ok (.goto 4, 3) := by decide +kernel
theorem dJ9_min_7cf53_9 : decode cJ9_min_7cf53 9 = .ok (.iload_n 1, 1) := by decide +kernel
theorem dJ9_min_7cf53_10 : decode cJ9_min_7cf53 10 = .ok (.ireturn, 1) := by decide +kernel
theorem dJ9_min_f86c9_0 : decode cJ9_min_f86c9 0 = .ok (.lload_n 0, 1) := by decide +kernel
theorem dJ9_min_f86c9_1 : decode cJ9_min_f86c9 1 = .ok (.lload_n 2, 1) := by decide +kernel
theorem dJ9_min_f86c9_2 : decode cJ9_min_f86c9 2 = .ok (.lcmp, 1) := by decide +kernel
theorem dJ9_min_f86c9_3 : decode cJ9_min_f86c9 3 = .ok (.ifCond .gt 7, 3) := by decide +kernel
theorem dJ9_min_f86c9_6 : decode cJ9_min_f86c9 6 = .ok (.lload_n 0, 1) := by decide +kernel
theorem dJ9_min_f86c9_7 : decode cJ9_min_f86c9 7 = .ok (.goto 4, 3) := by decide +kernel
theorem dJ9_min_f86c9_10 : decode cJ9_min_f86c9 10 = .ok (.lload_n 2, 1) := by decide +kernel
theorem dJ9_min_f86c9_11 : decode cJ9_min_f86c9 11 = .ok (.lreturn, 1) := by decide +kernel
theorem dJ0_length_8abf5_0 : decode cJ0_length_8abf5 0 = .ok (.aload_n 0, 1) := by decide +kernel
theorem dJ0_length_8abf5_1 : decode cJ0_length_8abf5 1 = .ok (.getfield 9, 3) := by decide +kernel
theorem dJ0_length_8abf5_4 : decode cJ0_length_8abf5 4 = .ok (.arraylength, 1) := by decide +kernel
theorem dJ0_length_8abf5_5 : decode cJ0_length_8abf5 5 = .ok (.aload_n 0, 1) := by decide +kernel
theorem dJ0_length_8abf5_6 : decode cJ0_length_8abf5 6 = .ok (.invokevirtual 335, 3) := by decide +kernel
theorem dJ0_length_8abf5_9 : decode cJ0_length_8abf5 9 = .ok (.ishr, 1) := by decide +kernel
theorem dJ0_length_8abf5_10 : decode cJ0_length_8abf5 10 = .ok (.ireturn, 1) := by decide +kernel
theorem dJ0_charAt_5068e_0 : decode cJ0_charAt_5068e 0 = .ok (.aload_n 0, 1) := by decide +kernel
theorem dJ0_charAt_5068e_1 : decode cJ0_charAt_5068e 1 = .ok (.invokevirtual 492, 3) := by decide +kernel
theorem dJ0_charAt_5068e_4 : decode cJ0_charAt_5068e 4 = .ok (.ifCond .eq 12, 3) := by decide +kernel
theorem dJ0_charAt_5068e_7 : decode cJ0_charAt_5068e 7 = .ok (.aload_n 0, 1) := by decide +kernel
theorem dJ0_charAt_5068e_8 : decode cJ0_charAt_5068e 8 = .ok (.getfield 9, 3) := by decide +kernel
theorem dJ0_charAt_5068e_11 : decode cJ0_charAt_5068e 11 = .ok (.iload_n 1, 1) := by decide +kernel
theorem dJ0_charAt_5068e_12 : decode cJ0_charAt_5068e 12 = .ok (.invokestatic 495, 3) := by decide +kernel
theorem dJ0_charAt_5068e_15 : decode cJ0_charAt_5068e 15 = .ok (.ireturn, 1) := by decide +kernel
theorem dJ0_charAt_5068e_16 : decode cJ0_charAt_5068e 16 = .ok (.aload_n 0, 1) := by decide +kernel
theorem dJ0_charAt_5068e_17 : decode cJ0_charAt_5068e 17 = .ok (.getfield 9, 3) := by decide +kernel
theorem dJ0_charAt_5068e_20 : decode cJ0_charAt_5068e 20 = .ok (.iload_n 1, 1) := by decide +kernel
theorem dJ0_charAt_5068e_21 : decode cJ0_charAt_5068e 21 = .ok (.invokestatic 498, 3) := by decide +kernel
theorem dJ0_charAt_5068e_24 : decode cJ0_charAt_5068e 24 = .ok (.ireturn, 1) := by decide +kernel
theorem dJ0_indexOf_0f7a4_0 : decode cJ0_indexOf_0f7a4 0 = .ok (.aload_n 0, 1) := by decide +kernel
theorem dJ0_indexOf_0f7a4_1 : decode cJ0_indexOf_0f7a4 1 = .ok (.iload_n 1, 1) := by decide +kernel
theorem dJ0_indexOf_0f7a4_2 : decode cJ0_indexOf_0f7a4 2 = .ok (.iconst 0, 1) := by decide +kernel
theorem dJ0_indexOf_0f7a4_3 : decode cJ0_indexOf_0f7a4 3 = .ok (.invokevirtual 633, 3) := by decide +kernel
theorem dJ0_indexOf_0f7a4_6 : decode cJ0_indexOf_0f7a4 6 = .ok (.ireturn, 1) := by decide +kernel
theorem dJ0_indexOf_7cf53_0 : decode cJ0_indexOf_7cf53 0 = .ok (.aload_n 0, 1) := by decide +kernel
theorem dJ0_indexOf_7cf53_1 : decode cJ0_indexOf_7cf53 1 = .ok (.invokevirtual 492, 3) := by decide +kernel
theorem dJ0_indexOf_7cf53_4 : decode cJ0_indexOf_7cf53 4 = .ok (.ifCond .eq 19, 3) := by decide +kernel
theorem dJ0_indexOf_7cf53_7 : decode cJ0_indexOf_7cf53 7 = .ok (.aload_n 0, 1) := by decide +kernel
theorem dJ0_indexOf_7cf53_8 : decode cJ0_indexOf_7cf53 8 = .ok (.getfield 9, 3) := by decide +kernel
theorem dJ0_indexOf_7cf53_11 : decode cJ0_indexOf_7cf53 11 = .ok (.iload_n 1, 1) := by decide +kernel
theorem dJ0_indexOf_7cf53_12 : decode cJ0_indexOf_7cf53 12 = .ok (.iload_n 2, 1) := by decide +kernel
theorem dJ0_indexOf_7cf53_13 : decode cJ0_indexOf_7cf53 13 = .ok (.aload_n 0, 1) := by decide +kernel
theorem dJ0_indexOf_7cf53_14 : decode cJ0_indexOf_7cf53 14 = .ok (.invokevirtual 505, 3) := by decide +kernel
theorem dJ0_indexOf_7cf53_17 : decode cJ0_indexOf_7cf53 17 = .ok (.invokestatic 637, 3) := by decide +kernel
theorem dJ0_indexOf_7cf53_20 : decode cJ0_indexOf_7cf53 20 = .ok (.goto 16, 3) := by decide +kernel
theorem dJ0_indexOf_7cf53_23 : decode cJ0_indexOf_7cf53 23 = .ok (.aload_n 0, 1) := by decide +kernel
theorem dJ0_indexOf_7cf53_24 : decode cJ0_indexOf_7cf53 24 = .ok (.getfield 9, 3) := by decide +kernel
theorem dJ0_indexOf_7cf53_27 : decode cJ0_indexOf_7cf53 27 = .ok (.iload_n 1, 1) := by decide +kernel
theorem dJ0_indexOf_7cf53_28 : decode cJ0_indexOf_7cf53 28 = .ok (.iload_n 2, 1) := by decide +kernel
theorem dJ0_indexOf_7cf53_29 : decode cJ0_indexOf_7cf53 29 = .ok (.aload_n 0, 1) := by decide +kernel
theorem dJ0_indexOf_7cf53_30 : decode cJ0_indexOf_7cf53 30 = .ok (.invokevirtual 505, 3) := by decide +kernel
theorem dJ0_indexOf_7cf53_33 : decode cJ0_indexOf_7cf53 33 = .ok (.invokestatic 640, 3) := by decide +kernel
theorem dJ0_indexOf_7cf53_36 : decode cJ0_indexOf_7cf53 36 = .ok (.ireturn, 1) := by decide +kernel
theorem dJ0_coder_7d493_0 : decode cJ0_coder_7d493 0 = .ok (.getstatic 38, 3) := by decide +kernel
theorem dJ0_coder_7d493_3 : decode cJ0_coder_7d493 3 = .ok (.ifCond .eq 10, 3) := by decide +kernel
theorem dJ0_coder_7d493_6 : decode cJ0_coder_7d493 6 = .ok (.aload_n 0, 1) := by decide +kernel
theorem dJ0_coder_7d493_7 : decode cJ0_coder_7d493 7 = .ok (.getfield 15, 3) := by decide +kernel
theorem dJ0_coder_7d493_10 : decode cJ0_coder_7d493 10 = .ok (.goto 4, 3) := by decide +kernel
theorem dJ0_coder_7d493_13 : decode cJ0_coder_7d493 13 = .ok (.iconst 1, 1) := by decide +kernel
theorem dJ0_coder_7d493_14 : decode cJ0_coder_7d493 14 = .ok (.ireturn, 1) := by decide +kernel
theorem dJ0_isLatin1_aae02_0 : decode cJ0_isLatin1_aae02 0 = .ok (.getstatic 38, 3) := by decide +kernel
theorem dJ0_isLatin1_aae02_3 : decode cJ0_isLatin1_aae02 3 = .ok (.ifCond .eq 14, 3) := by decide +kernel
theorem dJ0_isLatin1_aae02_6 : decode cJ0_isLatin1_aae02 6 = .ok (.aload_n 0, 1) := by decide +kernel
theorem dJ0_isLatin1_aae02_7 : decode cJ0_isLatin1_aae02 7 = .ok (.getfield 15, 3) := by decide +kernel
theorem dJ0_isLatin1_aae02_10 : decode cJ0_isLatin1_aae02 10 = .ok (.ifCond .ne 7, 3) := by decide +kernel
theorem dJ0_isLatin1_aae02_13 : decode cJ0_isLatin1_aae02 13 = .ok (.iconst 1, 1) := by decide +kernel
theorem dJ0_isLatin1_aae02_14 : decode cJ0_isLatin1_aae02 14 = .ok (.goto 4, 3) := by decide +kernel
theorem dJ0_isLatin1_aae02_17 : decode cJ0_isLatin1_aae02 17 = .ok (.iconst 0, 1) := by decide +kernel
theorem dJ0_isLatin1_aae02_18 : decode cJ0_isLatin1_aae02 18 = .ok (.ireturn, 1) := by decide +kernel
theorem dJ0_checkIndex_df160_0 : decode cJ0_checkIndex_df160 0 = .ok (.iload_n 0, 1) := by decide +kernel
theorem dJ0_checkIndex_df160_1 : decode cJ0_checkIndex_df160 1 = .ok (.iload_n 1, 1) := by decide +kernel
theorem dJ0_checkIndex_df160_2 : decode cJ0_checkIndex_df160 2 = .ok (.getstatic 1053, 3) := by decide +kernel
theorem dJ0_checkIndex_df160_5 : decode cJ0_checkIndex_df160 5 = .ok (.invokestatic 1059, 3) := by decide +kernel
theorem dJ0_checkIndex_df160_8 : decode cJ0_checkIndex_df160 8 = .ok (.pop, 1) := by decide +kernel
theorem dJ0_checkIndex_df160_9 : decode cJ0_checkIndex_df160 9 = .ok (.return_, 1) := by decide +kernel
theorem dJ0_checkBoundsBeginEnd_23922_0 : decode cJ0_checkBoundsBeginEnd_23922 0 = .ok (.iload_n 0, 1) := by decide +kernel
theorem dJ0_checkBoundsBeginEnd_23922_1 : decode cJ0_checkBoundsBeginEnd_23922 1 = .ok (.iload_n 1, 1) := by decide +kernel
theorem dJ0_checkBoundsBeginEnd_23922_2 : decode cJ0_checkBoundsBeginEnd_23922 2 = .ok (.iload_n 2, 1) := by decide +kernel
theorem dJ0_checkBoundsBeginEnd_23922_3 : decode cJ0_checkBoundsBeginEnd_23922 3 = .ok (.getstatic 1053, 3) := by decide +kernel
theorem dJ0_checkBoundsBeginEnd_23922_6 : decode cJ0_checkBoundsBeginEnd_23922 6 = .ok (.invokestatic 1062, 3) := by decide +kernel
theorem dJ0_checkBoundsBeginEnd_23922_9 : decode cJ0_checkBoundsBeginEnd_23922 9 = .ok (.pop, 1) := by decide +kernel
theorem dJ0_checkBoundsBeginEnd_23922_10 : decode cJ0_checkBoundsBeginEnd_23922 10 = .ok (.return_, 1) := by decide +kernel
theorem dJ1_charAt_3b067_0 : decode cJ1_charAt_3b067 0 = .ok (.iload_n 1, 1) := by decide +kernel
theorem dJ1_charAt_3b067_1 : decode cJ1_charAt_3b067 1 = .ok (.aload_n 0, 1) := by decide +kernel
theorem dJ1_charAt_3b067_2 : decode cJ1_charAt_3b067 2 = .ok (.arraylength, 1) := by decide +kernel
theorem dJ1_charAt_3b067_3 : decode cJ1_charAt_3b067 3 = .ok (.invokestatic 9, 3) := by decide +kernel
theorem dJ1_charAt_3b067_6 : decode cJ1_charAt_3b067 6 = .ok (.aload_n 0, 1) := by decide +kernel
theorem dJ1_charAt_3b067_7 : decode cJ1_charAt_3b067 7 = .ok (.iload_n 1, 1) := by decide +kernel
theorem dJ1_charAt_3b067_8 : decode cJ1_charAt_3b067 8 = .ok (.baload, 1) := by decide +kernel
theorem dJ1_charAt_3b067_9 : decode cJ1_charAt_3b067 9 = .ok (.sipush 255, 3) := by decide +kernel
theorem dJ1_charAt_3b067_12 : decode cJ1_charAt_3b067 12 = .ok (.iand, 1) := by decide +kernel
theorem dJ1_charAt_3b067_13 : decode cJ1_charAt_3b067 13 = .ok (.i2c, 1) := by decide +kernel
theorem dJ1_charAt_3b067_14 : decode cJ1_charAt_3b067 14 = .ok (.ireturn, 1) := by decide +kernel
theorem dJ1_canEncode_9a6ad_0 : decode cJ1_canEncode_9a6ad 0 = .ok (.iload_n 0, 1) := by decide +kernel
theorem dJ1_canEncode_9a6ad_1 : decode cJ1_canEncode_9a6ad 1 = .ok (.ifCond .lt 14, 3) := by decide +kernel
theorem dJ1_canEncode_9a6ad_4 : decode cJ1_canEncode_9a6ad 4 = .ok (.iload_n 0, 1) := by decide +kernel
theorem dJ1_canEncode_9a6ad_5 : decode cJ1_canEncode_9a6ad 5 = .ok (.sipush 255, 3) := by decide +kernel
theorem dJ1_canEncode_9a6ad_8 : decode cJ1_canEncode_9a6ad 8 = .ok (.if_icmp .gt 7, 3) := by decide +kernel
theorem dJ1_canEncode_9a6ad_11 : decode cJ1_canEncode_9a6ad 11 = .ok (.iconst 1, 1) := by decide +kernel
theorem dJ1_canEncode_9a6ad_12 : decode cJ1_canEncode_9a6ad 12 = .ok (.goto 4, 3) := by decide +kernel
theorem dJ1_canEncode_9a6ad_15 : decode cJ1_canEncode_9a6ad 15 = .ok (.iconst 0, 1) := by decide +kernel
theorem dJ1_canEncode_9a6ad_16 : decode cJ1_canEncode_9a6ad 16 = .ok (.ireturn, 1) := by decide +kernel
theorem dJ1_indexOf_4cfef_0 : decode cJ1_indexOf_4cfef 0 = .ok (.iload_n 1, 1) := by decide +kernel
theorem dJ1_indexOf_4cfef_1 : decode cJ1_indexOf_4cfef 1 = .ok (.invokestatic 88, 3) := by decide +kernel
theorem dJ1_indexOf_4cfef_4 : decode cJ1_indexOf_4cfef 4 = .ok (.ifCond .ne 5, 3) := by decide +kernel
theorem dJ1_indexOf_4cfef_7 : decode cJ1_indexOf_4cfef 7 = .ok (.iconst (-1), 1) := by decide +kernel
theorem dJ1_indexOf_4cfef_8 : decode cJ1_indexOf_4cfef 8 = .ok (.ireturn, 1) := by decide +kernel
theorem dJ1_indexOf_4cfef_9 : decode cJ1_indexOf_4cfef 9 = .ok (.iload_n 2, 1) := by decide +kernel
theorem dJ1_indexOf_4cfef_10 : decode cJ1_indexOf_4cfef 10 = .ok (.iconst 0, 1) := by decide +kernel
theorem dJ1_indexOf_4cfef_11 : decode cJ1_indexOf_4cfef 11 = .ok (.invokestatic 92, 3) := by decide +kernel
theorem dJ1_indexOf_4cfef_14 : decode cJ1_indexOf_4cfef 14 = .ok (.istore_n 2, 1) := by decide +kernel
theorem dJ1_indexOf_4cfef_15 : decode cJ1_indexOf_4cfef 15 = .ok (.iload_n 3, 1) := by decide +kernel
theorem dJ1_indexOf_4cfef_16 : decode cJ1_indexOf_4cfef 16 = .ok (.aload_n 0, 1) := by decide +kernel
theorem dJ1_indexOf_4cfef_17 : decode cJ1_indexOf_4cfef 17 = .ok (.arraylength, 1) := by decide +kernel
theorem dJ1_indexOf_4cfef_18 : decode cJ1_indexOf_4cfef 18 = .ok (.invokestatic 38, 3) := by decide +kernel
theorem dJ1_indexOf_4cfef_21 : decode cJ1_indexOf_4cfef 21 = .ok (.istore_n 3, 1) := by decide +kernel
theorem dJ1_indexOf_4cfef_22 : decode cJ1_indexOf_4cfef 22 = .ok (.iload_n 2, 1) := by decide +kernel
theorem dJ1_indexOf_4cfef_23 : decode cJ1_indexOf_4cfef 23 = .ok (.iload_n 3, 1) := by decide +kernel
theorem dJ1_indexOf_4cfef_24 : decode cJ1_indexOf_4cfef 24 = .ok (.if_icmp .lt 5, 3) := by decide +kernel
theorem dJ1_indexOf_4cfef_27 : decode cJ1_indexOf_4cfef 27 = .ok (.iconst (-1), 1) := by decide +kernel
theorem dJ1_indexOf_4cfef_28 : decode cJ1_indexOf_4cfef 28 = .ok (.ireturn, 1) := by decide +kernel
theorem dJ1_indexOf_4cfef_29 : decode cJ1_indexOf_4cfef 29 = .ok (.aload_n 0, 1) := by decide +kernel
theorem dJ1_indexOf_4cfef_30 : decode cJ1_indexOf_4cfef 30 = .ok (.iload_n 1, 1) := by decide +kernel
theorem dJ1_indexOf_4cfef_31 : decode cJ1_indexOf_4cfef 31 = .ok (.iload_n 2, 1) := by decide +kernel
theorem dJ1_indexOf_4cfef_32 : decode cJ1_indexOf_4cfef 32 = .ok (.iload_n 3, 1) := by decide +kernel
theorem dJ1_indexOf_4cfef_33 : decode cJ1_indexOf_4cfef 33 = .ok (.invokestatic 95, 3) := by decide +kernel
theorem dJ1_indexOf_4cfef_36 : decode cJ1_indexOf_4cfef 36 = .ok (.ireturn, 1) := by decide +kernel
theorem dJ1_indexOfChar_4cfef_0 : decode cJ1_indexOfChar_4cfef 0 = .ok (.iload_n 1, 1) := by decide +kernel
theorem dJ1_indexOfChar_4cfef_1 : decode cJ1_indexOfChar_4cfef 1 = .ok (.i2b, 1) := by decide +kernel
theorem dJ1_indexOfChar_4cfef_2 : decode cJ1_indexOfChar_4cfef 2 = .ok (.istore 4, 2) := by decide +kernel
theorem dJ1_indexOfChar_4cfef_4 : decode cJ1_indexOfChar_4cfef 4 = .ok (.iload_n 2, 1) := by decide +kernel
theorem dJ1_indexOfChar_4cfef_5 : decode cJ1_indexOfChar_4cfef 5 = .ok (.istore 5, 2) := by decide +kernel
theorem dJ1_indexOfChar_4cfef_7 : decode cJ1_indexOfChar_4cfef 7 = .ok (.iload 5, 2) := by decide +kernel
theorem dJ1_indexOfChar_4cfef_9 : decode cJ1_indexOfChar_4cfef 9 = .ok (.iload_n 3, 1) := by decide +kernel
theorem dJ1_indexOfChar_4cfef_10 : decode cJ1_indexOfChar_4cfef 10 = .ok (.if_icmp .ge 21, 3) := by decide +kernel
theorem dJ1_indexOfChar_4cfef_13 : decode cJ1_indexOfChar_4cfef 13 = .ok (.aload_n 0, 1) := by decide +kernel
theorem dJ1_indexOfChar_4cfef_14 : decode cJ1_indexOfChar_4cfef 14 = .ok (.iload 5, 2) := by decide +kernel
theorem dJ1_indexOfChar_4cfef_16 : decode cJ1_indexOfChar_4cfef 16 = .ok (.baload, 1) := by decide +kernel
theorem dJ1_indexOfChar_4cfef_17 : decode cJ1_indexOfChar_4cfef 17 = .ok (.iload 4, 2) := by decide +kernel
theorem dJ1_indexOfChar_4cfef_19 : decode cJ1_indexOfChar_4cfef 19 = .ok (.if_icmp .ne 6, 3) := by decide +kernel
theorem dJ1_indexOfChar_4cfef_22 : decode cJ1_indexOfChar_4cfef 22 = .ok (.iload 5, 2) := by decide +kernel
theorem dJ1_indexOfChar_4cfef_24 : decode cJ1_indexOfChar_4cfef 24 = .ok (.ireturn, 1) := by decide +kernel
theorem dJ1_indexOfChar_4cfef_25 : decode cJ1_indexOfChar_4cfef 25 = .ok (.iinc 5 1, 3) := by decide +kernel
theorem dJ1_indexOfChar_4cfef_28 : decode cJ1_indexOfChar_4cfef 28 = .ok (.goto (-21), 3) := by decide +kernel
theorem dJ1_indexOfChar_4cfef_31 : decode cJ1_indexOfChar_4cfef 31 = .ok (.iconst (-1), 1) := by decide +kernel
theorem dJ1_indexOfChar_4cfef_32 : decode cJ1_indexOfChar_4cfef 32 = .ok (.ireturn, 1) := by decide +kernel
theorem dJ2_getChar_3b067_0 : decode cJ2_getChar_3b067 0 = .ok (.getstatic 44, 3) := by decide +kernel
theorem dJ2_getChar_3b067_3 : decode cJ2_getChar_3b067 3 = .ok (.ifCond .ne 25, 3) := by decide +kernel
theorem dJ2_getChar_3b067_6 : decode cJ2_getChar_3b067 6 = .ok (.iload_n 1, 1) := by decide +kernel
theorem dJ2_getChar_3b067_7 : decode cJ2_getChar_3b067 7 = .ok (.ifCond .lt 11, 3) := by decide +kernel
theorem dJ2_getChar_3b067_10 : decode cJ2_getChar_3b067 10 = .ok (.iload_n 1, 1) := by decide +kernel
theorem dJ2_getChar_3b067_11 : decode cJ2_getChar_3b067 11 = .ok (.aload_n 0, 1) := by decide +kernel
theorem dJ2_getChar_3b067_12 : decode cJ2_getChar_3b067 12 = .ok (.invokestatic 48, 3) := by decide +kernel
theorem dJ2_getChar_3b067_15 : decode cJ2_getChar_3b067 15 = .ok (.if_icmp .lt 13, 3) := by decide +kernel
theorem dJ2_getChar_3b067_18 : decode cJ2_getChar_3b067 18 = .ok (.new 52, 3) := by decide +kernel
theorem dJ2_getChar_3b067_21 : decode cJ2_getChar_3b067 21 = .ok (.dup, 1) := by decide +kernel
theorem dJ2_getChar_3b067_22 : decode cJ2_getChar_3b067 22 = .ok (.ldc 54, 2) := by decide +kernel
theorem dJ2_getChar_3b067_24 : decode cJ2_getChar_3b067 24 = .ok (.invokespecial 56, 3) := by decide +kernel
theorem dJ2_getChar_3b067_27 : decode cJ2_getChar_3b067 27 = .ok (.athrow, 1) := by decide +kernel
theorem dJ2_getChar_3b067_28 : decode cJ2_getChar_3b067 28 = .ok (.iload_n 1, 1) := by decide +kernel
theorem dJ2_getChar_3b067_29 : decode cJ2_getChar_3b067 29 = .ok (.iconst 1, 1) := by decide +kernel
theorem dJ2_getChar_3b067_30 : decode cJ2_getChar_3b067 30 = .ok (.ishl, 1) := by decide +kernel
theorem dJ2_getChar_3b067_31 : decode cJ2_getChar_3b067 31 = .ok (.istore_n 1, 1) := by decide +kernel
theorem dJ2_getChar_3b067_32 : decode cJ2_getChar_3b067 32 = .ok (.aload_n 0, 1) := by decide +kernel
theorem dJ2_getChar_3b067_33 : decode cJ2_getChar_3b067 33 = .ok (.iload_n 1, 1) := by decide +kernel
theorem dJ2_getChar_3b067_34 : decode cJ2_getChar_3b067 34 = .ok (.iinc 1 1, 3) := by decide +kernel
theorem dJ2_getChar_3b067_37 : decode cJ2_getChar_3b067 37 = .ok (.baload, 1) := by decide +kernel
theorem dJ2_getChar_3b067_38 : decode cJ2_getChar_3b067 38 = .ok (.sipush 255, 3) := by decide +kernel
theorem dJ2_getChar_3b067_41 : decode cJ2_getChar_3b067 41 = .ok (.iand, 1) := by decide +kernel
theorem dJ2_getChar_3b067_42 : decode cJ2_getChar_3b067 42 = .ok (.getstatic 59, 3) := by decide +kernel
theorem dJ2_getChar_3b067_45 : decode cJ2_getChar_3b067 45 = .ok (.ishl, 1) := by decide +kernel
theorem dJ2_getChar_3b067_46 : decode cJ2_getChar_3b067 46 = .ok (.aload_n 0, 1) := by decide +kernel
theorem dJ2_getChar_3b067_47 : decode cJ2_getChar_3b067 47 = .ok (.iload_n 1, 1) := by decide +kernel
theorem dJ2_getChar_3b067_48 : decode cJ2_getChar_3b067 48 = .ok (.baload, 1) := by decide +kernel
theorem dJ2_getChar_3b067_49 : decode cJ2_getChar_3b067 49 = .ok (.sipush 255, 3) := by decide +kernel
theorem dJ2_getChar_3b067_52 : decode cJ2_getChar_3b067 52 = .ok (.iand, 1) := by decide +kernel
theorem dJ2_getChar_3b067_53 : decode cJ2_getChar_3b067 53 = .ok (.getstatic 63, 3) := by decide +kernel
theorem dJ2_getChar_3b067_56 : decode cJ2_getChar_3b067 56 = .ok (.ishl, 1) := by decide +kernel
theorem dJ2_getChar_3b067_57 : decode cJ2_getChar_3b067 57 = .ok (.ior, 1) := by decide +kernel
theorem dJ2_getChar_3b067_58 : decode cJ2_getChar_3b067 58 = .ok (.i2c, 1) := by decide +kernel
theorem dJ2_getChar_3b067_59 : decode cJ2_getChar_3b067 59 = .ok (.ireturn, 1) := by decide +kernel
theorem dJ2_length_9d52b_0 : decode cJ2_length_9d52b 0 = .ok (.aload_n 0, 1) := by decide +kernel
theorem dJ2_length_9d52b_1 : decode cJ2_length_9d52b 1 = .ok (.arraylength, 1) := by decide +kernel
theorem dJ2_length_9d52b_2 : decode cJ2_length_9d52b 2 = .ok (.iconst 1, 1) := by decide +kernel
theorem dJ2_length_9d52b_3 : decode cJ2_length_9d52b 3 = .ok (.ishr, 1) := by decide +kernel
theorem dJ2_length_9d52b_4 : decode cJ2_length_9d52b 4 = .ok (.ireturn, 1) := by decide +kernel
theorem dJ2_indexOf_4cfef_0 : decode cJ2_indexOf_4cfef 0 = .ok (.iload_n 2, 1) := by decide +kernel
theorem dJ2_indexOf_4cfef_1 : decode cJ2_indexOf_4cfef 1 = .ok (.iconst 0, 1) := by decide +kernel
theorem dJ2_indexOf_4cfef_2 : decode cJ2_indexOf_4cfef 2 = .ok (.invokestatic 224, 3) := by decide +kernel
theorem dJ2_indexOf_4cfef_5 : decode cJ2_indexOf_4cfef 5 = .ok (.istore_n 2, 1) := by decide +kernel
theorem dJ2_indexOf_4cfef_6 : decode cJ2_indexOf_4cfef 6 = .ok (.iload_n 3, 1) := by decide +kernel
theorem dJ2_indexOf_4cfef_7 : decode cJ2_indexOf_4cfef 7 = .ok (.aload_n 0, 1) := by decide +kernel
theorem dJ2_indexOf_4cfef_8 : decode cJ2_indexOf_4cfef 8 = .ok (.arraylength, 1) := by decide +kernel
theorem dJ2_indexOf_4cfef_9 : decode cJ2_indexOf_4cfef 9 = .ok (.iconst 1, 1) := by decide +kernel
theorem dJ2_indexOf_4cfef_10 : decode cJ2_indexOf_4cfef 10 = .ok (.ishr, 1) := by decide +kernel
theorem dJ2_indexOf_4cfef_11 : decode cJ2_indexOf_4cfef 11 = .ok (.invokestatic 183, 3) := by decide +kernel
theorem dJ2_indexOf_4cfef_14 : decode cJ2_indexOf_4cfef 14 = .ok (.istore_n 3, 1) := by decide +kernel
theorem dJ2_indexOf_4cfef_15 : decode cJ2_indexOf_4cfef 15 = .ok (.iload_n 2, 1) := by decide +kernel
theorem dJ2_indexOf_4cfef_16 : decode cJ2_indexOf_4cfef 16 = .ok (.iload_n 3, 1) := by decide +kernel
theorem dJ2_indexOf_4cfef_17 : decode cJ2_indexOf_4cfef 17 = .ok (.if_icmp .lt 5, 3) := by decide +kernel
theorem dJ2_indexOf_4cfef_20 : decode cJ2_indexOf_4cfef 20 = .ok (.iconst (-1), 1) := by decide +kernel
theorem dJ2_indexOf_4cfef_21 : decode cJ2_indexOf_4cfef 21 = .ok (.ireturn, 1) := by decide +kernel
theorem dJ2_indexOf_4cfef_22 : decode cJ2_indexOf_4cfef 22 = .ok (.iload_n 1, 1) := by decide +kernel
theorem dJ2_indexOf_4cfef_23 : decode cJ2_indexOf_4cfef 23 = .ok (.ldc 227, 2) := by decide +kernel
theorem dJ2_indexOf_4cfef_25 : decode cJ2_indexOf_4cfef 25 = .ok (.if_icmp .ge 11, 3) := by decide +kernel
theorem dJ2_indexOf_4cfef_28 : decode cJ2_indexOf_4cfef 28 = .ok (.aload_n 0, 1) := by decide +kernel
theorem dJ2_indexOf_4cfef_29 : decode cJ2_indexOf_4cfef 29 = .ok (.iload_n 1, 1) := by decide +kernel
theorem dJ2_indexOf_4cfef_30 : decode cJ2_indexOf_4cfef 30 = .ok (.iload_n 2, 1) := by decide +kernel
theorem dJ2_indexOf_4cfef_31 : decode cJ2_indexOf_4cfef 31 = .ok (.iload_n 3, 1) := by decide +kernel
theorem dJ2_indexOf_4cfef_32 : decode cJ2_indexOf_4cfef 32 = .ok (.invokestatic 228, 3) := by decide +kernel
theorem dJ2_indexOf_4cfef_35 : decode cJ2_indexOf_4cfef 35 = .ok (.ireturn, 1) := by decide +kernel
theorem dJ2_indexOf_4cfef_36 : decode cJ2_indexOf_4cfef 36 = .ok (.aload_n 0, 1) := by decide +kernel
theorem dJ2_indexOf_4cfef_37 : decode cJ2_indexOf_4cfef 37 = .ok (.iload_n 1, 1) := by decide +kernel
theorem dJ2_indexOf_4cfef_38 : decode cJ2_indexOf_4cfef 38 = .ok (.iload_n 2, 1) := by decide +kernel
theorem dJ2_indexOf_4cfef_39 : decode cJ2_indexOf_4cfef 39 = .ok (.iload_n 3, 1) := by decide +kernel
theorem dJ2_indexOf_4cfef_40 : decode cJ2_indexOf_4cfef 40 = .ok (.invokestatic 232, 3) := by decide +kernel
theorem dJ2_indexOf_4cfef_43 : decode cJ2_indexOf_4cfef 43 = .ok (.ireturn, 1) := by decide +kernel
theorem dJ2_indexOfChar_4cfef_0 : decode cJ2_indexOfChar_4cfef 0 = .ok (.iload_n 2, 1) := by decide +kernel
theorem dJ2_indexOfChar_4cfef_1 : decode cJ2_indexOfChar_4cfef 1 = .ok (.iload_n 3, 1) := by decide +kernel
theorem dJ2_indexOfChar_4cfef_2 : decode cJ2_indexOfChar_4cfef 2 = .ok (.aload_n 0, 1) := by decide +kernel
theorem dJ2_indexOfChar_4cfef_3 : decode cJ2_indexOfChar_4cfef 3 = .ok (.invokestatic 96, 3) := by decide +kernel
theorem dJ2_indexOfChar_4cfef_6 : decode cJ2_indexOfChar_4cfef 6 = .ok (.aload_n 0, 1) := by decide +kernel
theorem dJ2_indexOfChar_4cfef_7 : decode cJ2_indexOfChar_4cfef 7 = .ok (.iload_n 1, 1) := by decide +kernel
theorem dJ2_indexOfChar_4cfef_8 : decode cJ2_indexOfChar_4cfef 8 = .ok (.iload_n 2, 1) := by decide +kernel
theorem dJ2_indexOfChar_4cfef_9 : decode cJ2_indexOfChar_4cfef 9 = .ok (.iload_n 3, 1) := by decide +kernel
theorem dJ2_indexOfChar_4cfef_10 : decode cJ2_indexOfChar_4cfef 10 = .ok (.invokestatic 244, 3) := by decide +kernel
theorem dJ2_indexOfChar_4cfef_13 : decode cJ2_indexOfChar_4cfef 13 = .ok (.ireturn, 1) := by decide +kernel
theorem dJ2_indexOfCharUnsafe_4cfef_0 : decode cJ2_indexOfCharUnsafe_4cfef 0 = .ok (.iload_n 2, 1) := by decide +kernel
theorem dJ2_indexOfCharUnsafe_4cfef_1 : decode cJ2_indexOfCharUnsafe_4cfef 1 = .ok (.istore 4, 2) := by decide +kernel
theorem dJ2_indexOfCharUnsafe_4cfef_3 : decode cJ2_indexOfCharUnsafe_4cfef 3 = .ok (.iload 4, 2) := by decide +kernel
theorem dJ2_indexOfCharUnsafe_4cfef_5 : decode cJ2_indexOfCharUnsafe_4cfef 5 = .ok (.iload_n 3, 1) := by decide +kernel
theorem dJ2_indexOfCharUnsafe_4cfef_6 : decode cJ2_indexOfCharUnsafe_4cfef 6 = .ok (.if_icmp .ge 22, 3) := by decide +kernel
theorem dJ2_indexOfCharUnsafe_4cfef_9 : decode cJ2_indexOfCharUnsafe_4cfef 9 = .ok (.aload_n 0, 1) := by decide +kernel
theorem dJ2_indexOfCharUnsafe_4cfef_10 : decode cJ2_indexOfCharUnsafe_4cfef 10 = .ok (.iload 4, 2) := by decide +kernel
theorem dJ2_indexOfCharUnsafe_4cfef_12 : decode cJ2_indexOfCharUnsafe_4cfef 12 = .ok (.invokestatic 71, 3) := by decide +kernel
theorem dJ2_indexOfCharUnsafe_4cfef_15 : decode cJ2_indexOfCharUnsafe_4cfef 15 = .ok (.iload_n 1, 1) := by decide +kernel
theorem dJ2_indexOfCharUnsafe_4cfef_16 : decode cJ2_indexOfCharUnsafe_4cfef 16 = .ok (.if_icmp .ne 6, 3) := by decide +kernel
theorem dJ2_indexOfCharUnsafe_4cfef_19 : decode cJ2_indexOfCharUnsafe_4cfef 19 = .ok (.iload 4, 2) := by decide +kernel
theorem dJ2_indexOfCharUnsafe_4cfef_21 : decode cJ2_indexOfCharUnsafe_4cfef 21 = .ok (.ireturn, 1) := by decide +kernel
theorem dJ2_indexOfCharUnsafe_4cfef_22 : decode cJ2_indexOfCharUnsafe_4cfef 22 = .ok (.iinc 4 1, 3) := by decide +kernel
theorem dJ2_indexOfCharUnsafe_4cfef_25 : decode cJ2_indexOfCharUnsafe_4cfef 25 = .ok (.goto (-22), 3) := by decide +kernel
theorem dJ2_indexOfCharUnsafe_4cfef_28 : decode cJ2_indexOfCharUnsafe_4cfef 28 = .ok (.iconst (-1), 1) := by decide +kernel
theorem dJ2_indexOfCharUnsafe_4cfef_29 : decode cJ2_indexOfCharUnsafe_4cfef 29 = .ok (.ireturn, 1) := by decide +kernel
theorem dJ2_indexOfSupplementary_4cfef_0 : decode cJ2_indexOfSupplementary_4cfef 0 = .ok (.iload_n 1, 1) := by decide +kernel
theorem dJ2_indexOfSupplementary_4cfef_1 : decode cJ2_indexOfSupplementary_4cfef 1 = .ok (.invokestatic 164, 3) := by decide +kernel
theorem dJ2_indexOfSupplementary_4cfef_4 : decode cJ2_indexOfSupplementary_4cfef 4 = .ok (.ifCond .eq 65, 3) := by decide +kernel
theorem dJ2_indexOfSupplementary_4cfef_7 : decode cJ2_indexOfSupplementary_4cfef 7 = .ok (.iload_n 1, 1) := by decide +kernel
theorem dJ2_indexOfSupplementary_4cfef_8 : decode cJ2_indexOfSupplementary_4cfef 8 = .ok (.invokestatic 157, 3) := by decide +kernel
theorem dJ2_indexOfSupplementary_4cfef_11 : decode cJ2_indexOfSupplementary_4cfef 11 = .ok (.istore 4, 2) := by decide +kernel
theorem dJ2_indexOfSupplementary_4cfef_13 : decode cJ2_indexOfSupplementary_4cfef 13 = .ok (.iload_n 1, 1) := by decide +kernel
theorem dJ2_indexOfSupplementary_4cfef_14 : decode cJ2_indexOfSupplementary_4cfef 14 = .ok (.invokestatic 161, 3) := by decide +kernel
theorem dJ2_indexOfSupplementary_4cfef_17 : decode cJ2_indexOfSupplementary_4cfef 17 = .ok (.istore 5, 2) := by decide +kernel
theorem dJ2_indexOfSupplementary_4cfef_19 : decode cJ2_indexOfSupplementary_4cfef 19 = .ok (.iload_n 2, 1) := by decide +kernel
theorem dJ2_indexOfSupplementary_4cfef_20 : decode cJ2_indexOfSupplementary_4cfef 20 = .ok (.iload_n 3, 1) := by decide +kernel
theorem dJ2_indexOfSupplementary_4cfef_21 : decode cJ2_indexOfSupplementary_4cfef 21 = .ok (.aload_n 0, 1) := by decide +kernel
theorem dJ2_indexOfSupplementary_4cfef_22 : decode cJ2_indexOfSupplementary_4cfef 22 = .ok (.invokestatic 96, 3) := by decide +kernel
theorem dJ2_indexOfSupplementary_4cfef_25 : decode cJ2_indexOfSupplementary_4cfef 25 = .ok (.iload_n 2, 1) := by decide +kernel
theorem dJ2_indexOfSupplementary_4cfef_26 : decode cJ2_indexOfSupplementary_4cfef 26 = .ok (.istore 6, 2) := by decide +kernel
theorem dJ2_indexOfSupplementary_4cfef_28 : decode cJ2_indexOfSupplementary_4cfef 28 = .ok (.iload 6, 2) := by decide +kernel
theorem dJ2_indexOfSupplementary_4cfef_30 : decode cJ2_indexOfSupplementary_4cfef 30 = .ok (.iload_n 3, 1) := by decide +kernel
theorem dJ2_indexOfSupplementary_4cfef_31 : decode cJ2_indexOfSupplementary_4cfef 31 = .ok (.iconst 1, 1) := by decide +kernel
theorem dJ2_indexOfSupplementary_4cfef_32 : decode cJ2_indexOfSupplementary_4cfef 32 = .ok (.isub, 1) := by decide +kernel
theorem dJ2_indexOfSupplementary_4cfef_33 : decode cJ2_indexOfSupplementary_4cfef 33 = .ok (.if_icmp .ge 36, 3) := by decide +kernel
theorem dJ2_indexOfSupplementary_4cfef_36 : decode cJ2_indexOfSupplementary_4cfef 36 = .ok (.aload_n 0, 1) := by decide +kernel
theorem dJ2_indexOfSupplementary_4cfef_37 : decode cJ2_indexOfSupplementary_4cfef 37 = .ok (.iload 6, 2) := by decide +kernel
theorem dJ2_indexOfSupplementary_4cfef_39 : decode cJ2_indexOfSupplementary_4cfef 39 = .ok (.invokestatic 71, 3) := by decide +kernel
theorem dJ2_indexOfSupplementary_4cfef_42 : decode cJ2_indexOfSupplementary_4cfef 42 = .ok (.iload 4, 2) := by decide +kernel
theorem dJ2_indexOfSupplementary_4cfef_44 : decode cJ2_indexOfSupplementary_4cfef 44 = .ok (.if_icmp .ne 19, 3) := by decide +kernel
theorem dJ2_indexOfSupplementary_4cfef_47 : decode cJ2_indexOfSupplementary_4cfef 47 = .ok (.aload_n 0, 1) := by decide +kernel
theorem dJ2_indexOfSupplementary_4cfef_48 : decode cJ2_indexOfSupplementary_4cfef 48 = .ok (.iload 6, 2) := by decide +kernel
theorem dJ2_indexOfSupplementary_4cfef_50 : decode cJ2_indexOfSupplementary_4cfef 50 = .ok (.iconst 1, 1) := by decide +kernel
theorem dJ2_indexOfSupplementary_4cfef_51 : decode cJ2_indexOfSupplementary_4cfef 51 = .ok (.iadd, 1) := by decide +kernel
theorem dJ2_indexOfSupplementary_4cfef_52 : decode cJ2_indexOfSupplementary_4cfef 52 = .ok (.invokestatic 71, 3) := by decide +kernel
theorem dJ2_indexOfSupplementary_4cfef_55 : decode cJ2_indexOfSupplementary_4cfef 55 = .ok (.iload 5, 2) := by decide +kernel
theorem dJ2_indexOfSupplementary_4cfef_57 : decode cJ2_indexOfSupplementary_4cfef 57 = .ok (.if_icmp .ne 6, 3) := by decide +kernel
theorem dJ2_indexOfSupplementary_4cfef_60 : decode cJ2_indexOfSupplementary_4cfef 60 = .ok (.iload 6, 2) := by decide +kernel
theorem dJ2_indexOfSupplementary_4cfef_62 : decode cJ2_indexOfSupplementary_4cfef 62 = .ok (.ireturn, 1) := by decide +kernel
theorem dJ2_indexOfSupplementary_4cfef_63 : decode cJ2_indexOfSupplementary_4cfef 63 = .ok (.iinc 6 1, 3) := by decide +kernel
theorem dJ2_indexOfSupplementary_4cfef_66 : decode cJ2_indexOfSupplementary_4cfef 66 = .ok (.goto (-38), 3) := by decide +kernel
theorem dJ2_indexOfSupplementary_4cfef_69 : decode cJ2_indexOfSupplementary_4cfef 69 = .ok (.iconst (-1), 1) := by decide +kernel
theorem dJ2_indexOfSupplementary_4cfef_70 : decode cJ2_indexOfSupplementary_4cfef 70 = .ok (.ireturn, 1) := by decide +kernel
theorem dJ2_charAt_3b067_0 : decode cJ2_charAt_3b067 0 = .ok (.iload_n 1, 1) := by decide +kernel
theorem dJ2_charAt_3b067_1 : decode cJ2_charAt_3b067 1 = .ok (.aload_n 0, 1) := by decide +kernel
theorem dJ2_charAt_3b067_2 : decode cJ2_charAt_3b067 2 = .ok (.invokestatic 67, 3) := by decide +kernel
theorem dJ2_charAt_3b067_5 : decode cJ2_charAt_3b067 5 = .ok (.aload_n 0, 1) := by decide +kernel
theorem dJ2_charAt_3b067_6 : decode cJ2_charAt_3b067 6 = .ok (.iload_n 1, 1) := by decide +kernel
theorem dJ2_charAt_3b067_7 : decode cJ2_charAt_3b067 7 = .ok (.invokestatic 71, 3) := by decide +kernel
theorem dJ2_charAt_3b067_10 : decode cJ2_charAt_3b067 10 = .ok (.ireturn, 1) := by decide +kernel
theorem dJ2_checkIndex_2214a_0 : decode cJ2_checkIndex_2214a 0 = .ok (.iload_n 0, 1) := by decide +kernel
theorem dJ2_checkIndex_2214a_1 : decode cJ2_checkIndex_2214a 1 = .ok (.aload_n 1, 1) := by decide +kernel
theorem dJ2_checkIndex_2214a_2 : decode cJ2_checkIndex_2214a 2 = .ok (.invokestatic 48, 3) := by decide +kernel
theorem dJ2_checkIndex_2214a_5 : decode cJ2_checkIndex_2214a 5 = .ok (.invokestatic 414, 3) := by decide +kernel
theorem dJ2_checkIndex_2214a_8 : decode cJ2_checkIndex_2214a 8 = .ok (.return_, 1) := by decide +kernel
theorem dJ2_checkBoundsBeginEnd_d044e_0 : decode cJ2_checkBoundsBeginEnd_d044e 0 = .ok (.iload_n 0, 1) := by decide +kernel
theorem dJ2_checkBoundsBeginEnd_d044e_1 : decode cJ2_checkBoundsBeginEnd_d044e 1 = .ok (.iload_n 1, 1) := by decide +kernel
theorem dJ2_checkBoundsBeginEnd_d044e_2 : decode cJ2_checkBoundsBeginEnd_d044e 2 = .ok (.aload_n 2, 1) := by decide +kernel
theorem dJ2_checkBoundsBeginEnd_d044e_3 : decode cJ2_checkBoundsBeginEnd_d044e 3 = .ok (.invokestatic 48, 3) := by decide +kernel
theorem dJ2_checkBoundsBeginEnd_d044e_6 : decode cJ2_checkBoundsBeginEnd_d044e 6 = .ok (.invokestatic 241, 3) := by decide +kernel
theorem dJ2_checkBoundsBeginEnd_d044e_9 : decode cJ2_checkBoundsBeginEnd_d044e 9 = .ok (.return_, 1) := by decide +kernel
theorem dJ3_checkIndex_8e157_0 : decode cJ3_checkIndex_8e157 0 = .ok (.iload_n 0, 1) := by decide +kernel
theorem dJ3_checkIndex_8e157_1 : decode cJ3_checkIndex_8e157 1 = .ok (.ifCond .lt 8, 3) := by decide +kernel
theorem dJ3_checkIndex_8e157_4 : decode cJ3_checkIndex_8e157 4 = .ok (.iload_n 0, 1) := by decide +kernel
theorem dJ3_checkIndex_8e157_5 : decode cJ3_checkIndex_8e157 5 = .ok (.iload_n 1, 1) := by decide +kernel
theorem dJ3_checkIndex_8e157_6 : decode cJ3_checkIndex_8e157 6 = .ok (.if_icmp .lt 10, 3) := by decide +kernel
theorem dJ3_checkIndex_8e157_9 : decode cJ3_checkIndex_8e157 9 = .ok (.aload_n 2, 1) := by decide +kernel
theorem dJ3_checkIndex_8e157_10 : decode cJ3_checkIndex_8e157 10 = .ok (.iload_n 0, 1) := by decide +kernel
theorem dJ3_checkIndex_8e157_11 : decode cJ3_checkIndex_8e157 11 = .ok (.iload_n 1, 1) := by decide +kernel
theorem dJ3_checkIndex_8e157_12 : decode cJ3_checkIndex_8e157 12 = .ok (.invokestatic 95, 3) := by decide +kernel
theorem dJ3_checkIndex_8e157_15 : decode cJ3_checkIndex_8e157 15 = .ok (.athrow, 1) := by decide +kernel
theorem dJ3_checkIndex_8e157_16 : decode cJ3_checkIndex_8e157 16 = .ok (.iload_n 0, 1) := by decide +kernel
theorem dJ3_checkIndex_8e157_17 : decode cJ3_checkIndex_8e157 17 = .ok (.ireturn, 1) := by decide +kernel
theorem dJ3_checkFromToIndex_8c36e_0 : decode cJ3_checkFromToIndex_8c36e 0 = .ok (.iload_n 0, 1) := by decide +kernel
theorem dJ3_checkFromToIndex_8c36e_1 : decode cJ3_checkFromToIndex_8c36e 1 = .ok (.ifCond .lt 13, 3) := by decide +kernel
theorem dJ3_checkFromToIndex_8c36e_4 : decode cJ3_checkFromToIndex_8c36e 4 = .ok (.iload_n 0, 1) := by decide +kernel
theorem dJ3_checkFromToIndex_8c36e_5 : decode cJ3_checkFromToIndex_8c36e 5 = .ok (.iload_n 1, 1) := by decide +kernel
theorem dJ3_checkFromToIndex_8c36e_6 : decode cJ3_checkFromToIndex_8c36e 6 = .ok (.if_icmp .gt 8, 3) := by decide +kernel
theorem dJ3_checkFromToIndex_8c36e_9 : decode cJ3_checkFromToIndex_8c36e 9 = .ok (.iload_n 1, 1) := by decide +kernel
theorem dJ3_checkFromToIndex_8c36e_10 : decode cJ3_checkFromToIndex_8c36e 10 = .ok (.iload_n 2, 1) := by decide +kernel
theorem dJ3_checkFromToIndex_8c36e_11 : decode cJ3_checkFromToIndex_8c36e 11 = .ok (.if_icmp .le 11, 3) := by decide +kernel
theorem dJ3_checkFromToIndex_8c36e_14 : decode cJ3_checkFromToIndex_8c36e 14 = .ok (.aload_n 3, 1) := by decide +kernel
theorem dJ3_checkFromToIndex_8c36e_15 : decode cJ3_checkFromToIndex_8c36e 15 = .ok (.iload_n 0, 1) := by decide +kernel
theorem dJ3_checkFromToIndex_8c36e_16 : decode cJ3_checkFromToIndex_8c36e 16 = .ok (.iload_n 1, 1) := by decide +kernel
theorem dJ3_checkFromToIndex_8c36e_17 : decode cJ3_checkFromToIndex_8c36e 17 = .ok (.iload_n 2, 1) := by decide +kernel
theorem dJ3_checkFromToIndex_8c36e_18 : decode cJ3_checkFromToIndex_8c36e 18 = .ok (.invokestatic 99, 3) := by decide +kernel
theorem dJ3_checkFromToIndex_8c36e_21 : decode cJ3_checkFromToIndex_8c36e 21 = .ok (.athrow, 1) := by decide +kernel
theorem dJ3_checkFromToIndex_8c36e_22 : decode cJ3_checkFromToIndex_8c36e 22 = .ok (.iload_n 0, 1) := by decide +kernel
theorem dJ3_checkFromToIndex_8c36e_23 : decode cJ3_checkFromToIndex_8c36e 23 = .ok (.ireturn, 1) := by decide +kernel
theorem dL_owner_0 : decode cL_owner 0 = .ok (.aload_n 3, 1) := by decide +kernel
theorem dL_owner_1 : decode cL_owner 1 = .ok (.iconst 0, 1) := by decide +kernel
theorem dL_owner_2 : decode cL_owner 2 = .ok (.aload_n 0, 1) := by decide +kernel
theorem dL_owner_3 : decode cL_owner 3 = .ok (.iload_n 1, 1) := by decide +kernel
theorem dL_owner_4 : decode cL_owner 4 = .ok (.iload_n 2, 1) := by decide +kernel
theorem dL_owner_5 : decode cL_owner 5 = .ok (.invokevirtual 7, 3) := by decide +kernel
theorem dL_owner_8 : decode cL_owner 8 = .ok (.i2l, 1) := by decide +kernel
theorem dL_owner_9 : decode cL_owner 9 = .ok (.lastore, 1) := by decide +kernel
theorem dL_owner_10 : decode cL_owner 10 = .ok (.goto 11, 3) := by decide +kernel
theorem dL_owner_13 : decode cL_owner 13 = .ok (.astore 4, 2) := by decide +kernel
theorem dL_owner_15 : decode cL_owner 15 = .ok (.iconst 1, 1) := by decide +kernel
theorem dL_owner_16 : decode cL_owner 16 = .ok (.ireturn, 1) := by decide +kernel
theorem dL_owner_17 : decode cL_owner 17 = .ok (.astore 4, 2) := by decide +kernel
theorem dL_owner_19 : decode cL_owner 19 = .ok (.iconst 2, 1) := by decide +kernel
theorem dL_owner_20 : decode cL_owner 20 = .ok (.ireturn, 1) := by decide +kernel
theorem dL_owner_21 : decode cL_owner 21 = .ok (.iconst 0, 1) := by decide +kernel
theorem dL_owner_22 : decode cL_owner 22 = .ok (.ireturn, 1) := by decide +kernel
theorem dL_law_0 : decode cL_law 0 = .ok (.new 8, 3) := by decide +kernel
theorem dL_law_3 : decode cL_law 3 = .ok (.dup, 1) := by decide +kernel
theorem dL_law_4 : decode cL_law 4 = .ok (.invokespecial 17, 3) := by decide +kernel
theorem dL_law_7 : decode cL_law 7 = .ok (.astore_n 1, 1) := by decide +kernel
theorem dL_law_8 : decode cL_law 8 = .ok (.new 18, 3) := by decide +kernel
theorem dL_law_11 : decode cL_law 11 = .ok (.dup, 1) := by decide +kernel
theorem dL_law_12 : decode cL_law 12 = .ok (.invokespecial 20, 3) := by decide +kernel
theorem dL_law_15 : decode cL_law 15 = .ok (.astore_n 2, 1) := by decide +kernel
theorem dL_law_16 : decode cL_law 16 = .ok (.iconst 1, 1) := by decide +kernel
theorem dL_law_17 : decode cL_law 17 = .ok (.newarray .long, 2) := by decide +kernel
theorem dL_law_19 : decode cL_law 19 = .ok (.astore_n 3, 1) := by decide +kernel
theorem dL_law_20 : decode cL_law 20 = .ok (.iconst 0, 1) := by decide +kernel
theorem dL_law_21 : decode cL_law 21 = .ok (.istore 4, 2) := by decide +kernel
theorem dL_law_23 : decode cL_law 23 = .ok (.iload 4, 2) := by decide +kernel
theorem dL_law_25 : decode cL_law 25 = .ok (.aload_n 0, 1) := by decide +kernel
theorem dL_law_26 : decode cL_law 26 = .ok (.arraylength, 1) := by decide +kernel
theorem dL_law_27 : decode cL_law 27 = .ok (.bipush 6, 2) := by decide +kernel
theorem dL_law_29 : decode cL_law 29 = .ok (.isub, 1) := by decide +kernel
theorem dL_law_30 : decode cL_law 30 = .ok (.if_icmp .gt 1740, 3) := by decide +kernel
theorem dL_law_33 : decode cL_law 33 = .ok (.aload_n 0, 1) := by decide +kernel
theorem dL_law_34 : decode cL_law 34 = .ok (.iload 4, 2) := by decide +kernel
theorem dL_law_36 : decode cL_law 36 = .ok (.iaload, 1) := by decide +kernel
theorem dL_law_37 : decode cL_law 37 = .ok (.bipush 63, 2) := by decide +kernel
theorem dL_law_39 : decode cL_law 39 = .ok (.iand, 1) := by decide +kernel
theorem dL_law_40 : decode cL_law 40 = .ok (.tableswitch 1724 0 42 #[188, 261, 286, 311, 348, 416, 453, 490, 527, 564, 626, 663, 689, 726, 739, 776, 789, 826, 863, 900, 925, 998, 1023, 1076, 1125, 1150, 1163, 1200, 1237, 1274, 1339, 1364, 1389, 1402, 1439, 1476, 1525, 1586, 1623, 1660, 1673, 1686, 1699], 188) := by decide +kernel
theorem dL_law_228 : decode cL_law 228 = .ok (.aload_n 1, 1) := by decide +kernel
theorem dL_law_229 : decode cL_law 229 = .ok (.aload_n 0, 1) := by decide +kernel
theorem dL_law_230 : decode cL_law 230 = .ok (.iload 4, 2) := by decide +kernel
theorem dL_law_232 : decode cL_law 232 = .ok (.iconst 1, 1) := by decide +kernel
theorem dL_law_233 : decode cL_law 233 = .ok (.iadd, 1) := by decide +kernel
theorem dL_law_234 : decode cL_law 234 = .ok (.iaload, 1) := by decide +kernel
theorem dL_law_235 : decode cL_law 235 = .ok (.aload_n 0, 1) := by decide +kernel
theorem dL_law_236 : decode cL_law 236 = .ok (.iload 4, 2) := by decide +kernel
theorem dL_law_238 : decode cL_law 238 = .ok (.iconst 2, 1) := by decide +kernel
theorem dL_law_239 : decode cL_law 239 = .ok (.iadd, 1) := by decide +kernel
theorem dL_law_240 : decode cL_law 240 = .ok (.iaload, 1) := by decide +kernel
theorem dL_law_241 : decode cL_law 241 = .ok (.aload_n 0, 1) := by decide +kernel
theorem dL_law_242 : decode cL_law 242 = .ok (.iload 4, 2) := by decide +kernel
theorem dL_law_244 : decode cL_law 244 = .ok (.iconst 3, 1) := by decide +kernel
theorem dL_law_245 : decode cL_law 245 = .ok (.iadd, 1) := by decide +kernel
theorem dL_law_246 : decode cL_law 246 = .ok (.iaload, 1) := by decide +kernel
theorem dL_law_247 : decode cL_law 247 = .ok (.aload_n 0, 1) := by decide +kernel
theorem dL_law_248 : decode cL_law 248 = .ok (.iload 4, 2) := by decide +kernel
theorem dL_law_250 : decode cL_law 250 = .ok (.iconst 4, 1) := by decide +kernel
theorem dL_law_251 : decode cL_law 251 = .ok (.iadd, 1) := by decide +kernel
theorem dL_law_252 : decode cL_law 252 = .ok (.iaload, 1) := by decide +kernel
theorem dL_law_253 : decode cL_law 253 = .ok (.aload_n 0, 1) := by decide +kernel
theorem dL_law_254 : decode cL_law 254 = .ok (.iload 4, 2) := by decide +kernel
theorem dL_law_256 : decode cL_law 256 = .ok (.iconst 5, 1) := by decide +kernel
theorem dL_law_257 : decode cL_law 257 = .ok (.iadd, 1) := by decide +kernel
theorem dL_law_258 : decode cL_law 258 = .ok (.iaload, 1) := by decide +kernel
theorem dL_law_259 : decode cL_law 259 = .ok (.invokevirtual 21, 3) := by decide +kernel
theorem dL_law_262 : decode cL_law 262 = .ok (.aload_n 2, 1) := by decide +kernel
theorem dL_law_263 : decode cL_law 263 = .ok (.aload_n 0, 1) := by decide +kernel
theorem dL_law_264 : decode cL_law 264 = .ok (.iload 4, 2) := by decide +kernel
theorem dL_law_266 : decode cL_law 266 = .ok (.iconst 1, 1) := by decide +kernel
theorem dL_law_267 : decode cL_law 267 = .ok (.iadd, 1) := by decide +kernel
theorem dL_law_268 : decode cL_law 268 = .ok (.iaload, 1) := by decide +kernel
theorem dL_law_269 : decode cL_law 269 = .ok (.aload_n 0, 1) := by decide +kernel
theorem dL_law_270 : decode cL_law 270 = .ok (.iload 4, 2) := by decide +kernel
theorem dL_law_272 : decode cL_law 272 = .ok (.iconst 2, 1) := by decide +kernel
theorem dL_law_273 : decode cL_law 273 = .ok (.iadd, 1) := by decide +kernel
theorem dL_law_274 : decode cL_law 274 = .ok (.iaload, 1) := by decide +kernel
theorem dL_law_275 : decode cL_law 275 = .ok (.aload_n 0, 1) := by decide +kernel
theorem dL_law_276 : decode cL_law 276 = .ok (.iload 4, 2) := by decide +kernel
theorem dL_law_278 : decode cL_law 278 = .ok (.iconst 3, 1) := by decide +kernel
theorem dL_law_279 : decode cL_law 279 = .ok (.iadd, 1) := by decide +kernel
theorem dL_law_280 : decode cL_law 280 = .ok (.iaload, 1) := by decide +kernel
theorem dL_law_281 : decode cL_law 281 = .ok (.aload_n 0, 1) := by decide +kernel
theorem dL_law_282 : decode cL_law 282 = .ok (.iload 4, 2) := by decide +kernel
theorem dL_law_284 : decode cL_law 284 = .ok (.iconst 4, 1) := by decide +kernel
theorem dL_law_285 : decode cL_law 285 = .ok (.iadd, 1) := by decide +kernel
theorem dL_law_286 : decode cL_law 286 = .ok (.iaload, 1) := by decide +kernel
theorem dL_law_287 : decode cL_law 287 = .ok (.aload_n 0, 1) := by decide +kernel
theorem dL_law_288 : decode cL_law 288 = .ok (.iload 4, 2) := by decide +kernel
theorem dL_law_290 : decode cL_law 290 = .ok (.iconst 5, 1) := by decide +kernel
theorem dL_law_291 : decode cL_law 291 = .ok (.iadd, 1) := by decide +kernel
theorem dL_law_292 : decode cL_law 292 = .ok (.iaload, 1) := by decide +kernel
theorem dL_law_293 : decode cL_law 293 = .ok (.invokevirtual 25, 3) := by decide +kernel
theorem dL_law_296 : decode cL_law 296 = .ok (.if_icmp .eq 1468, 3) := by decide +kernel
theorem dL_law_299 : decode cL_law 299 = .ok (.iconst 0, 1) := by decide +kernel
theorem dL_law_300 : decode cL_law 300 = .ok (.ireturn, 1) := by decide +kernel
theorem dL_law_301 : decode cL_law 301 = .ok (.aload_n 1, 1) := by decide +kernel
theorem dL_law_302 : decode cL_law 302 = .ok (.aload_n 0, 1) := by decide +kernel
theorem dL_law_303 : decode cL_law 303 = .ok (.iload 4, 2) := by decide +kernel
theorem dL_law_305 : decode cL_law 305 = .ok (.iconst 1, 1) := by decide +kernel
theorem dL_law_306 : decode cL_law 306 = .ok (.iadd, 1) := by decide +kernel
theorem dL_law_307 : decode cL_law 307 = .ok (.iaload, 1) := by decide +kernel
theorem dL_law_308 : decode cL_law 308 = .ok (.invokevirtual 26, 3) := by decide +kernel
theorem dL_law_311 : decode cL_law 311 = .ok (.aload_n 2, 1) := by decide +kernel
theorem dL_law_312 : decode cL_law 312 = .ok (.aload_n 0, 1) := by decide +kernel
theorem dL_law_313 : decode cL_law 313 = .ok (.iload 4, 2) := by decide +kernel
theorem dL_law_315 : decode cL_law 315 = .ok (.iconst 1, 1) := by decide +kernel
theorem dL_law_316 : decode cL_law 316 = .ok (.iadd, 1) := by decide +kernel
theorem dL_law_317 : decode cL_law 317 = .ok (.iaload, 1) := by decide +kernel
theorem dL_law_318 : decode cL_law 318 = .ok (.invokevirtual 30, 3) := by decide +kernel
theorem dL_law_321 : decode cL_law 321 = .ok (.if_icmp .eq 1443, 3) := by decide +kernel
theorem dL_law_324 : decode cL_law 324 = .ok (.iconst 0, 1) := by decide +kernel
theorem dL_law_325 : decode cL_law 325 = .ok (.ireturn, 1) := by decide +kernel
theorem dL_law_326 : decode cL_law 326 = .ok (.aload_n 1, 1) := by decide +kernel
theorem dL_law_327 : decode cL_law 327 = .ok (.aload_n 0, 1) := by decide +kernel
theorem dL_law_328 : decode cL_law 328 = .ok (.iload 4, 2) := by decide +kernel
theorem dL_law_330 : decode cL_law 330 = .ok (.iconst 1, 1) := by decide +kernel
theorem dL_law_331 : decode cL_law 331 = .ok (.iadd, 1) := by decide +kernel
theorem dL_law_332 : decode cL_law 332 = .ok (.iaload, 1) := by decide +kernel
theorem dL_law_333 : decode cL_law 333 = .ok (.invokevirtual 31, 3) := by decide +kernel
theorem dL_law_336 : decode cL_law 336 = .ok (.aload_n 2, 1) := by decide +kernel
theorem dL_law_337 : decode cL_law 337 = .ok (.aload_n 0, 1) := by decide +kernel
theorem dL_law_338 : decode cL_law 338 = .ok (.iload 4, 2) := by decide +kernel
theorem dL_law_340 : decode cL_law 340 = .ok (.iconst 1, 1) := by decide +kernel
theorem dL_law_341 : decode cL_law 341 = .ok (.iadd, 1) := by decide +kernel
theorem dL_law_342 : decode cL_law 342 = .ok (.iaload, 1) := by decide +kernel
theorem dL_law_343 : decode cL_law 343 = .ok (.invokevirtual 34, 3) := by decide +kernel
theorem dL_law_346 : decode cL_law 346 = .ok (.if_icmp .eq 1418, 3) := by decide +kernel
theorem dL_law_349 : decode cL_law 349 = .ok (.iconst 0, 1) := by decide +kernel
theorem dL_law_350 : decode cL_law 350 = .ok (.ireturn, 1) := by decide +kernel
theorem dL_law_351 : decode cL_law 351 = .ok (.aload_n 1, 1) := by decide +kernel
theorem dL_law_352 : decode cL_law 352 = .ok (.aload_n 0, 1) := by decide +kernel
theorem dL_law_353 : decode cL_law 353 = .ok (.iload 4, 2) := by decide +kernel
theorem dL_law_355 : decode cL_law 355 = .ok (.iconst 1, 1) := by decide +kernel
theorem dL_law_356 : decode cL_law 356 = .ok (.iadd, 1) := by decide +kernel
theorem dL_law_357 : decode cL_law 357 = .ok (.iaload, 1) := by decide +kernel
theorem dL_law_358 : decode cL_law 358 = .ok (.aload_n 0, 1) := by decide +kernel
theorem dL_law_359 : decode cL_law 359 = .ok (.iload 4, 2) := by decide +kernel
theorem dL_law_361 : decode cL_law 361 = .ok (.iconst 2, 1) := by decide +kernel
theorem dL_law_362 : decode cL_law 362 = .ok (.iadd, 1) := by decide +kernel
theorem dL_law_363 : decode cL_law 363 = .ok (.iaload, 1) := by decide +kernel
theorem dL_law_364 : decode cL_law 364 = .ok (.invokevirtual 35, 3) := by decide +kernel
theorem dL_law_367 : decode cL_law 367 = .ok (.aload_n 2, 1) := by decide +kernel
theorem dL_law_368 : decode cL_law 368 = .ok (.aload_n 0, 1) := by decide +kernel
theorem dL_law_369 : decode cL_law 369 = .ok (.iload 4, 2) := by decide +kernel
theorem dL_law_371 : decode cL_law 371 = .ok (.iconst 1, 1) := by decide +kernel
theorem dL_law_372 : decode cL_law 372 = .ok (.iadd, 1) := by decide +kernel
theorem dL_law_373 : decode cL_law 373 = .ok (.iaload, 1) := by decide +kernel
theorem dL_law_374 : decode cL_law 374 = .ok (.aload_n 0, 1) := by decide +kernel
theorem dL_law_375 : decode cL_law 375 = .ok (.iload 4, 2) := by decide +kernel
theorem dL_law_377 : decode cL_law 377 = .ok (.iconst 2, 1) := by decide +kernel
theorem dL_law_378 : decode cL_law 378 = .ok (.iadd, 1) := by decide +kernel
theorem dL_law_379 : decode cL_law 379 = .ok (.iaload, 1) := by decide +kernel
theorem dL_law_380 : decode cL_law 380 = .ok (.invokevirtual 38, 3) := by decide +kernel
theorem dL_law_383 : decode cL_law 383 = .ok (.if_icmp .eq 1381, 3) := by decide +kernel
theorem dL_law_386 : decode cL_law 386 = .ok (.iconst 0, 1) := by decide +kernel
theorem dL_law_387 : decode cL_law 387 = .ok (.ireturn, 1) := by decide +kernel
theorem dL_law_388 : decode cL_law 388 = .ok (.aload_n 1, 1) := by decide +kernel
theorem dL_law_389 : decode cL_law 389 = .ok (.aload_n 0, 1) := by decide +kernel
theorem dL_law_390 : decode cL_law 390 = .ok (.iload 4, 2) := by decide +kernel
theorem dL_law_392 : decode cL_law 392 = .ok (.iconst 1, 1) := by decide +kernel
theorem dL_law_393 : decode cL_law 393 = .ok (.iadd, 1) := by decide +kernel
theorem dL_law_394 : decode cL_law 394 = .ok (.iaload, 1) := by decide +kernel
theorem dL_law_395 : decode cL_law 395 = .ok (.aload_n 0, 1) := by decide +kernel
theorem dL_law_396 : decode cL_law 396 = .ok (.iload 4, 2) := by decide +kernel
theorem dL_law_398 : decode cL_law 398 = .ok (.iconst 2, 1) := by decide +kernel
theorem dL_law_399 : decode cL_law 399 = .ok (.iadd, 1) := by decide +kernel
theorem dL_law_400 : decode cL_law 400 = .ok (.iaload, 1) := by decide +kernel
theorem dL_law_401 : decode cL_law 401 = .ok (.aload_n 3, 1) := by decide +kernel
theorem dL_law_402 : decode cL_law 402 = .ok (.invokestatic 39, 3) := by decide +kernel
theorem dL_law_405 : decode cL_law 405 = .ok (.istore 5, 2) := by decide +kernel
theorem dL_law_407 : decode cL_law 407 = .ok (.aload_n 2, 1) := by decide +kernel
theorem dL_law_408 : decode cL_law 408 = .ok (.aload_n 0, 1) := by decide +kernel
theorem dL_law_409 : decode cL_law 409 = .ok (.iload 4, 2) := by decide +kernel
theorem dL_law_411 : decode cL_law 411 = .ok (.iconst 1, 1) := by decide +kernel
theorem dL_law_412 : decode cL_law 412 = .ok (.iadd, 1) := by decide +kernel
theorem dL_law_413 : decode cL_law 413 = .ok (.iaload, 1) := by decide +kernel
theorem dL_law_414 : decode cL_law 414 = .ok (.aload_n 0, 1) := by decide +kernel
theorem dL_law_415 : decode cL_law 415 = .ok (.iload 4, 2) := by decide +kernel
theorem dL_law_417 : decode cL_law 417 = .ok (.iconst 2, 1) := by decide +kernel
theorem dL_law_418 : decode cL_law 418 = .ok (.iadd, 1) := by decide +kernel
theorem dL_law_419 : decode cL_law 419 = .ok (.iaload, 1) := by decide +kernel
theorem dL_law_420 : decode cL_law 420 = .ok (.invokevirtual 44, 3) := by decide +kernel
theorem dL_law_423 : decode cL_law 423 = .ok (.istore 6, 2) := by decide +kernel
theorem dL_law_425 : decode cL_law 425 = .ok (.aload_n 2, 1) := by decide +kernel
theorem dL_law_426 : decode cL_law 426 = .ok (.invokevirtual 45, 3) := by decide +kernel
theorem dL_law_429 : decode cL_law 429 = .ok (.iload 5, 2) := by decide +kernel
theorem dL_law_431 : decode cL_law 431 = .ok (.if_icmp .eq 5, 3) := by decide +kernel
theorem dL_law_434 : decode cL_law 434 = .ok (.iconst 0, 1) := by decide +kernel
theorem dL_law_435 : decode cL_law 435 = .ok (.ireturn, 1) := by decide +kernel
theorem dL_law_436 : decode cL_law 436 = .ok (.iload 5, 2) := by decide +kernel
theorem dL_law_438 : decode cL_law 438 = .ok (.ifCond .ne 15, 3) := by decide +kernel
theorem dL_law_441 : decode cL_law 441 = .ok (.aload_n 3, 1) := by decide +kernel
theorem dL_law_442 : decode cL_law 442 = .ok (.iconst 0, 1) := by decide +kernel
theorem dL_law_443 : decode cL_law 443 = .ok (.laload, 1) := by decide +kernel
theorem dL_law_444 : decode cL_law 444 = .ok (.iload 6, 2) := by decide +kernel
theorem dL_law_446 : decode cL_law 446 = .ok (.i2l, 1) := by decide +kernel
theorem dL_law_447 : decode cL_law 447 = .ok (.lcmp, 1) := by decide +kernel
theorem dL_law_448 : decode cL_law 448 = .ok (.ifCond .eq 5, 3) := by decide +kernel
theorem dL_law_451 : decode cL_law 451 = .ok (.iconst 0, 1) := by decide +kernel
theorem dL_law_452 : decode cL_law 452 = .ok (.ireturn, 1) := by decide +kernel
theorem dL_law_453 : decode cL_law 453 = .ok (.goto 1311, 3) := by decide +kernel
theorem dL_law_456 : decode cL_law 456 = .ok (.aload_n 1, 1) := by decide +kernel
theorem dL_law_457 : decode cL_law 457 = .ok (.aload_n 0, 1) := by decide +kernel
theorem dL_law_458 : decode cL_law 458 = .ok (.iload 4, 2) := by decide +kernel
theorem dL_law_460 : decode cL_law 460 = .ok (.iconst 1, 1) := by decide +kernel
theorem dL_law_461 : decode cL_law 461 = .ok (.iadd, 1) := by decide +kernel
theorem dL_law_462 : decode cL_law 462 = .ok (.iaload, 1) := by decide +kernel
theorem dL_law_463 : decode cL_law 463 = .ok (.aload_n 0, 1) := by decide +kernel
theorem dL_law_464 : decode cL_law 464 = .ok (.iload 4, 2) := by decide +kernel
theorem dL_law_466 : decode cL_law 466 = .ok (.iconst 2, 1) := by decide +kernel
theorem dL_law_467 : decode cL_law 467 = .ok (.iadd, 1) := by decide +kernel
theorem dL_law_468 : decode cL_law 468 = .ok (.iaload, 1) := by decide +kernel
theorem dL_law_469 : decode cL_law 469 = .ok (.invokevirtual 49, 3) := by decide +kernel
theorem dL_law_472 : decode cL_law 472 = .ok (.aload_n 2, 1) := by decide +kernel
theorem dL_law_473 : decode cL_law 473 = .ok (.aload_n 0, 1) := by decide +kernel
theorem dL_law_474 : decode cL_law 474 = .ok (.iload 4, 2) := by decide +kernel
theorem dL_law_476 : decode cL_law 476 = .ok (.iconst 1, 1) := by decide +kernel
theorem dL_law_477 : decode cL_law 477 = .ok (.iadd, 1) := by decide +kernel
theorem dL_law_478 : decode cL_law 478 = .ok (.iaload, 1) := by decide +kernel
theorem dL_law_479 : decode cL_law 479 = .ok (.aload_n 0, 1) := by decide +kernel
theorem dL_law_480 : decode cL_law 480 = .ok (.iload 4, 2) := by decide +kernel
theorem dL_law_482 : decode cL_law 482 = .ok (.iconst 2, 1) := by decide +kernel
theorem dL_law_483 : decode cL_law 483 = .ok (.iadd, 1) := by decide +kernel
theorem dL_law_484 : decode cL_law 484 = .ok (.iaload, 1) := by decide +kernel
theorem dL_law_485 : decode cL_law 485 = .ok (.invokevirtual 52, 3) := by decide +kernel
theorem dL_law_488 : decode cL_law 488 = .ok (.if_icmp .eq 1276, 3) := by decide +kernel
theorem dL_law_491 : decode cL_law 491 = .ok (.iconst 0, 1) := by decide +kernel
theorem dL_law_492 : decode cL_law 492 = .ok (.ireturn, 1) := by decide +kernel
theorem dL_law_493 : decode cL_law 493 = .ok (.aload_n 1, 1) := by decide +kernel
theorem dL_law_494 : decode cL_law 494 = .ok (.aload_n 0, 1) := by decide +kernel
theorem dL_law_495 : decode cL_law 495 = .ok (.iload 4, 2) := by decide +kernel
theorem dL_law_497 : decode cL_law 497 = .ok (.iconst 1, 1) := by decide +kernel
theorem dL_law_498 : decode cL_law 498 = .ok (.iadd, 1) := by decide +kernel
theorem dL_law_499 : decode cL_law 499 = .ok (.iaload, 1) := by decide +kernel
theorem dL_law_500 : decode cL_law 500 = .ok (.aload_n 0, 1) := by decide +kernel
theorem dL_law_501 : decode cL_law 501 = .ok (.iload 4, 2) := by decide +kernel
theorem dL_law_503 : decode cL_law 503 = .ok (.iconst 2, 1) := by decide +kernel
theorem dL_law_504 : decode cL_law 504 = .ok (.iadd, 1) := by decide +kernel
theorem dL_law_505 : decode cL_law 505 = .ok (.iaload, 1) := by decide +kernel
theorem dL_law_506 : decode cL_law 506 = .ok (.invokevirtual 53, 3) := by decide +kernel
theorem dL_law_509 : decode cL_law 509 = .ok (.aload_n 2, 1) := by decide +kernel
theorem dL_law_510 : decode cL_law 510 = .ok (.aload_n 0, 1) := by decide +kernel
theorem dL_law_511 : decode cL_law 511 = .ok (.iload 4, 2) := by decide +kernel
theorem dL_law_513 : decode cL_law 513 = .ok (.iconst 1, 1) := by decide +kernel
theorem dL_law_514 : decode cL_law 514 = .ok (.iadd, 1) := by decide +kernel
theorem dL_law_515 : decode cL_law 515 = .ok (.iaload, 1) := by decide +kernel
theorem dL_law_516 : decode cL_law 516 = .ok (.aload_n 0, 1) := by decide +kernel
theorem dL_law_517 : decode cL_law 517 = .ok (.iload 4, 2) := by decide +kernel
theorem dL_law_519 : decode cL_law 519 = .ok (.iconst 2, 1) := by decide +kernel
theorem dL_law_520 : decode cL_law 520 = .ok (.iadd, 1) := by decide +kernel
theorem dL_law_521 : decode cL_law 521 = .ok (.iaload, 1) := by decide +kernel
theorem dL_law_522 : decode cL_law 522 = .ok (.invokevirtual 56, 3) := by decide +kernel
theorem dL_law_525 : decode cL_law 525 = .ok (.if_icmp .eq 1239, 3) := by decide +kernel
theorem dL_law_528 : decode cL_law 528 = .ok (.iconst 0, 1) := by decide +kernel
theorem dL_law_529 : decode cL_law 529 = .ok (.ireturn, 1) := by decide +kernel
theorem dL_law_530 : decode cL_law 530 = .ok (.aload_n 1, 1) := by decide +kernel
theorem dL_law_531 : decode cL_law 531 = .ok (.aload_n 0, 1) := by decide +kernel
theorem dL_law_532 : decode cL_law 532 = .ok (.iload 4, 2) := by decide +kernel
theorem dL_law_534 : decode cL_law 534 = .ok (.iconst 1, 1) := by decide +kernel
theorem dL_law_535 : decode cL_law 535 = .ok (.iadd, 1) := by decide +kernel
theorem dL_law_536 : decode cL_law 536 = .ok (.iaload, 1) := by decide +kernel
theorem dL_law_537 : decode cL_law 537 = .ok (.aload_n 0, 1) := by decide +kernel
theorem dL_law_538 : decode cL_law 538 = .ok (.iload 4, 2) := by decide +kernel
theorem dL_law_540 : decode cL_law 540 = .ok (.iconst 2, 1) := by decide +kernel
theorem dL_law_541 : decode cL_law 541 = .ok (.iadd, 1) := by decide +kernel
theorem dL_law_542 : decode cL_law 542 = .ok (.iaload, 1) := by decide +kernel
theorem dL_law_543 : decode cL_law 543 = .ok (.invokevirtual 57, 3) := by decide +kernel
theorem dL_law_546 : decode cL_law 546 = .ok (.aload_n 2, 1) := by decide +kernel
theorem dL_law_547 : decode cL_law 547 = .ok (.aload_n 0, 1) := by decide +kernel
theorem dL_law_548 : decode cL_law 548 = .ok (.iload 4, 2) := by decide +kernel
theorem dL_law_550 : decode cL_law 550 = .ok (.iconst 1, 1) := by decide +kernel
theorem dL_law_551 : decode cL_law 551 = .ok (.iadd, 1) := by decide +kernel
theorem dL_law_552 : decode cL_law 552 = .ok (.iaload, 1) := by decide +kernel
theorem dL_law_553 : decode cL_law 553 = .ok (.aload_n 0, 1) := by decide +kernel
theorem dL_law_554 : decode cL_law 554 = .ok (.iload 4, 2) := by decide +kernel
theorem dL_law_556 : decode cL_law 556 = .ok (.iconst 2, 1) := by decide +kernel
theorem dL_law_557 : decode cL_law 557 = .ok (.iadd, 1) := by decide +kernel
theorem dL_law_558 : decode cL_law 558 = .ok (.iaload, 1) := by decide +kernel
theorem dL_law_559 : decode cL_law 559 = .ok (.invokevirtual 60, 3) := by decide +kernel
theorem dL_law_562 : decode cL_law 562 = .ok (.if_icmp .eq 1202, 3) := by decide +kernel
theorem dL_law_565 : decode cL_law 565 = .ok (.iconst 0, 1) := by decide +kernel
theorem dL_law_566 : decode cL_law 566 = .ok (.ireturn, 1) := by decide +kernel
theorem dL_law_567 : decode cL_law 567 = .ok (.aload_n 1, 1) := by decide +kernel
theorem dL_law_568 : decode cL_law 568 = .ok (.aload_n 0, 1) := by decide +kernel
theorem dL_law_569 : decode cL_law 569 = .ok (.iload 4, 2) := by decide +kernel
theorem dL_law_571 : decode cL_law 571 = .ok (.iconst 1, 1) := by decide +kernel
theorem dL_law_572 : decode cL_law 572 = .ok (.iadd, 1) := by decide +kernel
theorem dL_law_573 : decode cL_law 573 = .ok (.iaload, 1) := by decide +kernel
theorem dL_law_574 : decode cL_law 574 = .ok (.aload_n 0, 1) := by decide +kernel
theorem dL_law_575 : decode cL_law 575 = .ok (.iload 4, 2) := by decide +kernel
theorem dL_law_577 : decode cL_law 577 = .ok (.iconst 2, 1) := by decide +kernel
theorem dL_law_578 : decode cL_law 578 = .ok (.iadd, 1) := by decide +kernel
theorem dL_law_579 : decode cL_law 579 = .ok (.iaload, 1) := by decide +kernel
theorem dL_law_580 : decode cL_law 580 = .ok (.invokevirtual 61, 3) := by decide +kernel
theorem dL_law_583 : decode cL_law 583 = .ok (.aload_n 2, 1) := by decide +kernel
theorem dL_law_584 : decode cL_law 584 = .ok (.aload_n 0, 1) := by decide +kernel
theorem dL_law_585 : decode cL_law 585 = .ok (.iload 4, 2) := by decide +kernel
theorem dL_law_587 : decode cL_law 587 = .ok (.iconst 1, 1) := by decide +kernel
theorem dL_law_588 : decode cL_law 588 = .ok (.iadd, 1) := by decide +kernel
theorem dL_law_589 : decode cL_law 589 = .ok (.iaload, 1) := by decide +kernel
theorem dL_law_590 : decode cL_law 590 = .ok (.aload_n 0, 1) := by decide +kernel
theorem dL_law_591 : decode cL_law 591 = .ok (.iload 4, 2) := by decide +kernel
theorem dL_law_593 : decode cL_law 593 = .ok (.iconst 2, 1) := by decide +kernel
theorem dL_law_594 : decode cL_law 594 = .ok (.iadd, 1) := by decide +kernel
theorem dL_law_595 : decode cL_law 595 = .ok (.iaload, 1) := by decide +kernel
theorem dL_law_596 : decode cL_law 596 = .ok (.invokevirtual 64, 3) := by decide +kernel
theorem dL_law_599 : decode cL_law 599 = .ok (.if_icmp .eq 1165, 3) := by decide +kernel
theorem dL_law_602 : decode cL_law 602 = .ok (.iconst 0, 1) := by decide +kernel
theorem dL_law_603 : decode cL_law 603 = .ok (.ireturn, 1) := by decide +kernel
theorem dL_law_604 : decode cL_law 604 = .ok (.aload_n 1, 1) := by decide +kernel
theorem dL_law_605 : decode cL_law 605 = .ok (.aload_n 0, 1) := by decide +kernel
theorem dL_law_606 : decode cL_law 606 = .ok (.iload 4, 2) := by decide +kernel
theorem dL_law_608 : decode cL_law 608 = .ok (.iconst 1, 1) := by decide +kernel
theorem dL_law_609 : decode cL_law 609 = .ok (.iadd, 1) := by decide +kernel
theorem dL_law_610 : decode cL_law 610 = .ok (.iaload, 1) := by decide +kernel
theorem dL_law_611 : decode cL_law 611 = .ok (.aload_n 0, 1) := by decide +kernel
theorem dL_law_612 : decode cL_law 612 = .ok (.iload 4, 2) := by decide +kernel
theorem dL_law_614 : decode cL_law 614 = .ok (.iconst 2, 1) := by decide +kernel
theorem dL_law_615 : decode cL_law 615 = .ok (.iadd, 1) := by decide +kernel
theorem dL_law_616 : decode cL_law 616 = .ok (.iaload, 1) := by decide +kernel
theorem dL_law_617 : decode cL_law 617 = .ok (.aload_n 0, 1) := by decide +kernel
theorem dL_law_618 : decode cL_law 618 = .ok (.iload 4, 2) := by decide +kernel
theorem dL_law_620 : decode cL_law 620 = .ok (.iconst 3, 1) := by decide +kernel
theorem dL_law_621 : decode cL_law 621 = .ok (.iadd, 1) := by decide +kernel
theorem dL_law_622 : decode cL_law 622 = .ok (.iaload, 1) := by decide +kernel
theorem dL_law_623 : decode cL_law 623 = .ok (.aload_n 0, 1) := by decide +kernel
theorem dL_law_624 : decode cL_law 624 = .ok (.iload 4, 2) := by decide +kernel
theorem dL_law_626 : decode cL_law 626 = .ok (.iconst 4, 1) := by decide +kernel
theorem dL_law_627 : decode cL_law 627 = .ok (.iadd, 1) := by decide +kernel
theorem dL_law_628 : decode cL_law 628 = .ok (.iaload, 1) := by decide +kernel
theorem dL_law_629 : decode cL_law 629 = .ok (.invokevirtual 65, 3) := by decide +kernel
theorem dL_law_632 : decode cL_law 632 = .ok (.aload_n 2, 1) := by decide +kernel
theorem dL_law_633 : decode cL_law 633 = .ok (.aload_n 0, 1) := by decide +kernel
theorem dL_law_634 : decode cL_law 634 = .ok (.iload 4, 2) := by decide +kernel
theorem dL_law_636 : decode cL_law 636 = .ok (.iconst 1, 1) := by decide +kernel
theorem dL_law_637 : decode cL_law 637 = .ok (.iadd, 1) := by decide +kernel
theorem dL_law_638 : decode cL_law 638 = .ok (.iaload, 1) := by decide +kernel
theorem dL_law_639 : decode cL_law 639 = .ok (.aload_n 0, 1) := by decide +kernel
theorem dL_law_640 : decode cL_law 640 = .ok (.iload 4, 2) := by decide +kernel
theorem dL_law_642 : decode cL_law 642 = .ok (.iconst 2, 1) := by decide +kernel
theorem dL_law_643 : decode cL_law 643 = .ok (.iadd, 1) := by decide +kernel
theorem dL_law_644 : decode cL_law 644 = .ok (.iaload, 1) := by decide +kernel
theorem dL_law_645 : decode cL_law 645 = .ok (.aload_n 0, 1) := by decide +kernel
theorem dL_law_646 : decode cL_law 646 = .ok (.iload 4, 2) := by decide +kernel
theorem dL_law_648 : decode cL_law 648 = .ok (.iconst 3, 1) := by decide +kernel
theorem dL_law_649 : decode cL_law 649 = .ok (.iadd, 1) := by decide +kernel
theorem dL_law_650 : decode cL_law 650 = .ok (.iaload, 1) := by decide +kernel
theorem dL_law_651 : decode cL_law 651 = .ok (.aload_n 0, 1) := by decide +kernel
theorem dL_law_652 : decode cL_law 652 = .ok (.iload 4, 2) := by decide +kernel
theorem dL_law_654 : decode cL_law 654 = .ok (.iconst 4, 1) := by decide +kernel
theorem dL_law_655 : decode cL_law 655 = .ok (.iadd, 1) := by decide +kernel
theorem dL_law_656 : decode cL_law 656 = .ok (.iaload, 1) := by decide +kernel
theorem dL_law_657 : decode cL_law 657 = .ok (.invokevirtual 69, 3) := by decide +kernel
theorem dL_law_660 : decode cL_law 660 = .ok (.lcmp, 1) := by decide +kernel
theorem dL_law_661 : decode cL_law 661 = .ok (.ifCond .eq 1103, 3) := by decide +kernel
theorem dL_law_664 : decode cL_law 664 = .ok (.iconst 0, 1) := by decide +kernel
theorem dL_law_665 : decode cL_law 665 = .ok (.ireturn, 1) := by decide +kernel
theorem dL_law_666 : decode cL_law 666 = .ok (.aload_n 1, 1) := by decide +kernel
theorem dL_law_667 : decode cL_law 667 = .ok (.aload_n 0, 1) := by decide +kernel
theorem dL_law_668 : decode cL_law 668 = .ok (.iload 4, 2) := by decide +kernel
theorem dL_law_670 : decode cL_law 670 = .ok (.iconst 1, 1) := by decide +kernel
theorem dL_law_671 : decode cL_law 671 = .ok (.iadd, 1) := by decide +kernel
theorem dL_law_672 : decode cL_law 672 = .ok (.iaload, 1) := by decide +kernel
theorem dL_law_673 : decode cL_law 673 = .ok (.aload_n 0, 1) := by decide +kernel
theorem dL_law_674 : decode cL_law 674 = .ok (.iload 4, 2) := by decide +kernel
theorem dL_law_676 : decode cL_law 676 = .ok (.iconst 2, 1) := by decide +kernel
theorem dL_law_677 : decode cL_law 677 = .ok (.iadd, 1) := by decide +kernel
theorem dL_law_678 : decode cL_law 678 = .ok (.iaload, 1) := by decide +kernel
theorem dL_law_679 : decode cL_law 679 = .ok (.invokevirtual 70, 3) := by decide +kernel
theorem dL_law_682 : decode cL_law 682 = .ok (.aload_n 2, 1) := by decide +kernel
theorem dL_law_683 : decode cL_law 683 = .ok (.aload_n 0, 1) := by decide +kernel
theorem dL_law_684 : decode cL_law 684 = .ok (.iload 4, 2) := by decide +kernel
theorem dL_law_686 : decode cL_law 686 = .ok (.iconst 1, 1) := by decide +kernel
theorem dL_law_687 : decode cL_law 687 = .ok (.iadd, 1) := by decide +kernel
theorem dL_law_688 : decode cL_law 688 = .ok (.iaload, 1) := by decide +kernel
theorem dL_law_689 : decode cL_law 689 = .ok (.aload_n 0, 1) := by decide +kernel
theorem dL_law_690 : decode cL_law 690 = .ok (.iload 4, 2) := by decide +kernel
theorem dL_law_692 : decode cL_law 692 = .ok (.iconst 2, 1) := by decide +kernel
theorem dL_law_693 : decode cL_law 693 = .ok (.iadd, 1) := by decide +kernel
theorem dL_law_694 : decode cL_law 694 = .ok (.iaload, 1) := by decide +kernel
theorem dL_law_695 : decode cL_law 695 = .ok (.invokevirtual 73, 3) := by decide +kernel
theorem dL_law_698 : decode cL_law 698 = .ok (.if_icmp .eq 1066, 3) := by decide +kernel
theorem dL_law_701 : decode cL_law 701 = .ok (.iconst 0, 1) := by decide +kernel
theorem dL_law_702 : decode cL_law 702 = .ok (.ireturn, 1) := by decide +kernel
theorem dL_law_703 : decode cL_law 703 = .ok (.aload_n 1, 1) := by decide +kernel
theorem dL_law_704 : decode cL_law 704 = .ok (.aload_n 0, 1) := by decide +kernel
theorem dL_law_705 : decode cL_law 705 = .ok (.iload 4, 2) := by decide +kernel
theorem dL_law_707 : decode cL_law 707 = .ok (.iconst 1, 1) := by decide +kernel
theorem dL_law_708 : decode cL_law 708 = .ok (.iadd, 1) := by decide +kernel
theorem dL_law_709 : decode cL_law 709 = .ok (.iaload, 1) := by decide +kernel
theorem dL_law_710 : decode cL_law 710 = .ok (.invokevirtual 74, 3) := by decide +kernel
theorem dL_law_713 : decode cL_law 713 = .ok (.aload_n 2, 1) := by decide +kernel
theorem dL_law_714 : decode cL_law 714 = .ok (.aload_n 0, 1) := by decide +kernel
theorem dL_law_715 : decode cL_law 715 = .ok (.iload 4, 2) := by decide +kernel
theorem dL_law_717 : decode cL_law 717 = .ok (.iconst 1, 1) := by decide +kernel
theorem dL_law_718 : decode cL_law 718 = .ok (.iadd, 1) := by decide +kernel
theorem dL_law_719 : decode cL_law 719 = .ok (.iaload, 1) := by decide +kernel
theorem dL_law_720 : decode cL_law 720 = .ok (.invokevirtual 78, 3) := by decide +kernel
theorem dL_law_723 : decode cL_law 723 = .ok (.lcmp, 1) := by decide +kernel
theorem dL_law_724 : decode cL_law 724 = .ok (.ifCond .eq 1040, 3) := by decide +kernel
theorem dL_law_727 : decode cL_law 727 = .ok (.iconst 0, 1) := by decide +kernel
theorem dL_law_728 : decode cL_law 728 = .ok (.ireturn, 1) := by decide +kernel
theorem dL_law_729 : decode cL_law 729 = .ok (.aload_n 1, 1) := by decide +kernel
theorem dL_law_730 : decode cL_law 730 = .ok (.aload_n 0, 1) := by decide +kernel
theorem dL_law_731 : decode cL_law 731 = .ok (.iload 4, 2) := by decide +kernel
theorem dL_law_733 : decode cL_law 733 = .ok (.iconst 1, 1) := by decide +kernel
theorem dL_law_734 : decode cL_law 734 = .ok (.iadd, 1) := by decide +kernel
theorem dL_law_735 : decode cL_law 735 = .ok (.iaload, 1) := by decide +kernel
theorem dL_law_736 : decode cL_law 736 = .ok (.aload_n 0, 1) := by decide +kernel
theorem dL_law_737 : decode cL_law 737 = .ok (.iload 4, 2) := by decide +kernel
theorem dL_law_739 : decode cL_law 739 = .ok (.iconst 2, 1) := by decide +kernel
theorem dL_law_740 : decode cL_law 740 = .ok (.iadd, 1) := by decide +kernel
theorem dL_law_741 : decode cL_law 741 = .ok (.iaload, 1) := by decide +kernel
theorem dL_law_742 : decode cL_law 742 = .ok (.invokevirtual 79, 3) := by decide +kernel
theorem dL_law_745 : decode cL_law 745 = .ok (.aload_n 2, 1) := by decide +kernel
theorem dL_law_746 : decode cL_law 746 = .ok (.aload_n 0, 1) := by decide +kernel
theorem dL_law_747 : decode cL_law 747 = .ok (.iload 4, 2) := by decide +kernel
theorem dL_law_749 : decode cL_law 749 = .ok (.iconst 1, 1) := by decide +kernel
theorem dL_law_750 : decode cL_law 750 = .ok (.iadd, 1) := by decide +kernel
theorem dL_law_751 : decode cL_law 751 = .ok (.iaload, 1) := by decide +kernel
theorem dL_law_752 : decode cL_law 752 = .ok (.aload_n 0, 1) := by decide +kernel
theorem dL_law_753 : decode cL_law 753 = .ok (.iload 4, 2) := by decide +kernel
theorem dL_law_755 : decode cL_law 755 = .ok (.iconst 2, 1) := by decide +kernel
theorem dL_law_756 : decode cL_law 756 = .ok (.iadd, 1) := by decide +kernel
theorem dL_law_757 : decode cL_law 757 = .ok (.iaload, 1) := by decide +kernel
theorem dL_law_758 : decode cL_law 758 = .ok (.invokevirtual 82, 3) := by decide +kernel
theorem dL_law_761 : decode cL_law 761 = .ok (.if_icmp .eq 1003, 3) := by decide +kernel
theorem dL_law_764 : decode cL_law 764 = .ok (.iconst 0, 1) := by decide +kernel
theorem dL_law_765 : decode cL_law 765 = .ok (.ireturn, 1) := by decide +kernel
theorem dL_law_766 : decode cL_law 766 = .ok (.aload_n 1, 1) := by decide +kernel
theorem dL_law_767 : decode cL_law 767 = .ok (.invokevirtual 83, 3) := by decide +kernel
theorem dL_law_770 : decode cL_law 770 = .ok (.aload_n 2, 1) := by decide +kernel
theorem dL_law_771 : decode cL_law 771 = .ok (.invokevirtual 86, 3) := by decide +kernel
theorem dL_law_774 : decode cL_law 774 = .ok (.if_icmp .eq 990, 3) := by decide +kernel
theorem dL_law_777 : decode cL_law 777 = .ok (.iconst 0, 1) := by decide +kernel
theorem dL_law_778 : decode cL_law 778 = .ok (.ireturn, 1) := by decide +kernel
theorem dL_law_779 : decode cL_law 779 = .ok (.aload_n 1, 1) := by decide +kernel
theorem dL_law_780 : decode cL_law 780 = .ok (.aload_n 0, 1) := by decide +kernel
theorem dL_law_781 : decode cL_law 781 = .ok (.iload 4, 2) := by decide +kernel
theorem dL_law_783 : decode cL_law 783 = .ok (.iconst 1, 1) := by decide +kernel
theorem dL_law_784 : decode cL_law 784 = .ok (.iadd, 1) := by decide +kernel
theorem dL_law_785 : decode cL_law 785 = .ok (.iaload, 1) := by decide +kernel
theorem dL_law_786 : decode cL_law 786 = .ok (.aload_n 0, 1) := by decide +kernel
theorem dL_law_787 : decode cL_law 787 = .ok (.iload 4, 2) := by decide +kernel
theorem dL_law_789 : decode cL_law 789 = .ok (.iconst 2, 1) := by decide +kernel
theorem dL_law_790 : decode cL_law 790 = .ok (.iadd, 1) := by decide +kernel
theorem dL_law_791 : decode cL_law 791 = .ok (.iaload, 1) := by decide +kernel
theorem dL_law_792 : decode cL_law 792 = .ok (.invokevirtual 87, 3) := by decide +kernel
theorem dL_law_795 : decode cL_law 795 = .ok (.aload_n 2, 1) := by decide +kernel
theorem dL_law_796 : decode cL_law 796 = .ok (.aload_n 0, 1) := by decide +kernel
theorem dL_law_797 : decode cL_law 797 = .ok (.iload 4, 2) := by decide +kernel
theorem dL_law_799 : decode cL_law 799 = .ok (.iconst 1, 1) := by decide +kernel
theorem dL_law_800 : decode cL_law 800 = .ok (.iadd, 1) := by decide +kernel
theorem dL_law_801 : decode cL_law 801 = .ok (.iaload, 1) := by decide +kernel
theorem dL_law_802 : decode cL_law 802 = .ok (.aload_n 0, 1) := by decide +kernel
theorem dL_law_803 : decode cL_law 803 = .ok (.iload 4, 2) := by decide +kernel
theorem dL_law_805 : decode cL_law 805 = .ok (.iconst 2, 1) := by decide +kernel
theorem dL_law_806 : decode cL_law 806 = .ok (.iadd, 1) := by decide +kernel
theorem dL_law_807 : decode cL_law 807 = .ok (.iaload, 1) := by decide +kernel
theorem dL_law_808 : decode cL_law 808 = .ok (.invokevirtual 90, 3) := by decide +kernel
theorem dL_law_811 : decode cL_law 811 = .ok (.if_icmp .eq 953, 3) := by decide +kernel
theorem dL_law_814 : decode cL_law 814 = .ok (.iconst 0, 1) := by decide +kernel
theorem dL_law_815 : decode cL_law 815 = .ok (.ireturn, 1) := by decide +kernel
theorem dL_law_816 : decode cL_law 816 = .ok (.aload_n 1, 1) := by decide +kernel
theorem dL_law_817 : decode cL_law 817 = .ok (.invokevirtual 91, 3) := by decide +kernel
theorem dL_law_820 : decode cL_law 820 = .ok (.aload_n 2, 1) := by decide +kernel
theorem dL_law_821 : decode cL_law 821 = .ok (.invokevirtual 94, 3) := by decide +kernel
theorem dL_law_824 : decode cL_law 824 = .ok (.if_icmp .eq 940, 3) := by decide +kernel
theorem dL_law_827 : decode cL_law 827 = .ok (.iconst 0, 1) := by decide +kernel
theorem dL_law_828 : decode cL_law 828 = .ok (.ireturn, 1) := by decide +kernel
theorem dL_law_829 : decode cL_law 829 = .ok (.aload_n 1, 1) := by decide +kernel
theorem dL_law_830 : decode cL_law 830 = .ok (.aload_n 0, 1) := by decide +kernel
theorem dL_law_831 : decode cL_law 831 = .ok (.iload 4, 2) := by decide +kernel
theorem dL_law_833 : decode cL_law 833 = .ok (.iconst 1, 1) := by decide +kernel
theorem dL_law_834 : decode cL_law 834 = .ok (.iadd, 1) := by decide +kernel
theorem dL_law_835 : decode cL_law 835 = .ok (.iaload, 1) := by decide +kernel
theorem dL_law_836 : decode cL_law 836 = .ok (.aload_n 0, 1) := by decide +kernel
theorem dL_law_837 : decode cL_law 837 = .ok (.iload 4, 2) := by decide +kernel
theorem dL_law_839 : decode cL_law 839 = .ok (.iconst 2, 1) := by decide +kernel
theorem dL_law_840 : decode cL_law 840 = .ok (.iadd, 1) := by decide +kernel
theorem dL_law_841 : decode cL_law 841 = .ok (.iaload, 1) := by decide +kernel
theorem dL_law_842 : decode cL_law 842 = .ok (.invokevirtual 95, 3) := by decide +kernel
theorem dL_law_845 : decode cL_law 845 = .ok (.aload_n 2, 1) := by decide +kernel
theorem dL_law_846 : decode cL_law 846 = .ok (.aload_n 0, 1) := by decide +kernel
theorem dL_law_847 : decode cL_law 847 = .ok (.iload 4, 2) := by decide +kernel
theorem dL_law_849 : decode cL_law 849 = .ok (.iconst 1, 1) := by decide +kernel
theorem dL_law_850 : decode cL_law 850 = .ok (.iadd, 1) := by decide +kernel
theorem dL_law_851 : decode cL_law 851 = .ok (.iaload, 1) := by decide +kernel
theorem dL_law_852 : decode cL_law 852 = .ok (.aload_n 0, 1) := by decide +kernel
theorem dL_law_853 : decode cL_law 853 = .ok (.iload 4, 2) := by decide +kernel
theorem dL_law_855 : decode cL_law 855 = .ok (.iconst 2, 1) := by decide +kernel
theorem dL_law_856 : decode cL_law 856 = .ok (.iadd, 1) := by decide +kernel
theorem dL_law_857 : decode cL_law 857 = .ok (.iaload, 1) := by decide +kernel
theorem dL_law_858 : decode cL_law 858 = .ok (.invokevirtual 98, 3) := by decide +kernel
theorem dL_law_861 : decode cL_law 861 = .ok (.if_icmp .eq 903, 3) := by decide +kernel
theorem dL_law_864 : decode cL_law 864 = .ok (.iconst 0, 1) := by decide +kernel
theorem dL_law_865 : decode cL_law 865 = .ok (.ireturn, 1) := by decide +kernel
theorem dL_law_866 : decode cL_law 866 = .ok (.aload_n 1, 1) := by decide +kernel
theorem dL_law_867 : decode cL_law 867 = .ok (.aload_n 0, 1) := by decide +kernel
theorem dL_law_868 : decode cL_law 868 = .ok (.iload 4, 2) := by decide +kernel
theorem dL_law_870 : decode cL_law 870 = .ok (.iconst 1, 1) := by decide +kernel
theorem dL_law_871 : decode cL_law 871 = .ok (.iadd, 1) := by decide +kernel
theorem dL_law_872 : decode cL_law 872 = .ok (.iaload, 1) := by decide +kernel
theorem dL_law_873 : decode cL_law 873 = .ok (.aload_n 0, 1) := by decide +kernel
theorem dL_law_874 : decode cL_law 874 = .ok (.iload 4, 2) := by decide +kernel
theorem dL_law_876 : decode cL_law 876 = .ok (.iconst 2, 1) := by decide +kernel
theorem dL_law_877 : decode cL_law 877 = .ok (.iadd, 1) := by decide +kernel
theorem dL_law_878 : decode cL_law 878 = .ok (.iaload, 1) := by decide +kernel
theorem dL_law_879 : decode cL_law 879 = .ok (.invokevirtual 99, 3) := by decide +kernel
theorem dL_law_882 : decode cL_law 882 = .ok (.aload_n 2, 1) := by decide +kernel
theorem dL_law_883 : decode cL_law 883 = .ok (.aload_n 0, 1) := by decide +kernel
theorem dL_law_884 : decode cL_law 884 = .ok (.iload 4, 2) := by decide +kernel
theorem dL_law_886 : decode cL_law 886 = .ok (.iconst 1, 1) := by decide +kernel
theorem dL_law_887 : decode cL_law 887 = .ok (.iadd, 1) := by decide +kernel
theorem dL_law_888 : decode cL_law 888 = .ok (.iaload, 1) := by decide +kernel
theorem dL_law_889 : decode cL_law 889 = .ok (.aload_n 0, 1) := by decide +kernel
theorem dL_law_890 : decode cL_law 890 = .ok (.iload 4, 2) := by decide +kernel
theorem dL_law_892 : decode cL_law 892 = .ok (.iconst 2, 1) := by decide +kernel
theorem dL_law_893 : decode cL_law 893 = .ok (.iadd, 1) := by decide +kernel
theorem dL_law_894 : decode cL_law 894 = .ok (.iaload, 1) := by decide +kernel
theorem dL_law_895 : decode cL_law 895 = .ok (.invokevirtual 102, 3) := by decide +kernel
theorem dL_law_898 : decode cL_law 898 = .ok (.if_icmp .eq 866, 3) := by decide +kernel
theorem dL_law_901 : decode cL_law 901 = .ok (.iconst 0, 1) := by decide +kernel
theorem dL_law_902 : decode cL_law 902 = .ok (.ireturn, 1) := by decide +kernel
theorem dL_law_903 : decode cL_law 903 = .ok (.aload_n 1, 1) := by decide +kernel
theorem dL_law_904 : decode cL_law 904 = .ok (.aload_n 0, 1) := by decide +kernel
theorem dL_law_905 : decode cL_law 905 = .ok (.iload 4, 2) := by decide +kernel
theorem dL_law_907 : decode cL_law 907 = .ok (.iconst 1, 1) := by decide +kernel
theorem dL_law_908 : decode cL_law 908 = .ok (.iadd, 1) := by decide +kernel
theorem dL_law_909 : decode cL_law 909 = .ok (.iaload, 1) := by decide +kernel
theorem dL_law_910 : decode cL_law 910 = .ok (.aload_n 0, 1) := by decide +kernel
theorem dL_law_911 : decode cL_law 911 = .ok (.iload 4, 2) := by decide +kernel
theorem dL_law_913 : decode cL_law 913 = .ok (.iconst 2, 1) := by decide +kernel
theorem dL_law_914 : decode cL_law 914 = .ok (.iadd, 1) := by decide +kernel
theorem dL_law_915 : decode cL_law 915 = .ok (.iaload, 1) := by decide +kernel
theorem dL_law_916 : decode cL_law 916 = .ok (.invokevirtual 103, 3) := by decide +kernel
theorem dL_law_919 : decode cL_law 919 = .ok (.aload_n 2, 1) := by decide +kernel
theorem dL_law_920 : decode cL_law 920 = .ok (.aload_n 0, 1) := by decide +kernel
theorem dL_law_921 : decode cL_law 921 = .ok (.iload 4, 2) := by decide +kernel
theorem dL_law_923 : decode cL_law 923 = .ok (.iconst 1, 1) := by decide +kernel
theorem dL_law_924 : decode cL_law 924 = .ok (.iadd, 1) := by decide +kernel
theorem dL_law_925 : decode cL_law 925 = .ok (.iaload, 1) := by decide +kernel
theorem dL_law_926 : decode cL_law 926 = .ok (.aload_n 0, 1) := by decide +kernel
theorem dL_law_927 : decode cL_law 927 = .ok (.iload 4, 2) := by decide +kernel
theorem dL_law_929 : decode cL_law 929 = .ok (.iconst 2, 1) := by decide +kernel
theorem dL_law_930 : decode cL_law 930 = .ok (.iadd, 1) := by decide +kernel
theorem dL_law_931 : decode cL_law 931 = .ok (.iaload, 1) := by decide +kernel
theorem dL_law_932 : decode cL_law 932 = .ok (.invokevirtual 106, 3) := by decide +kernel
theorem dL_law_935 : decode cL_law 935 = .ok (.if_icmp .eq 829, 3) := by decide +kernel
theorem dL_law_938 : decode cL_law 938 = .ok (.iconst 0, 1) := by decide +kernel
theorem dL_law_939 : decode cL_law 939 = .ok (.ireturn, 1) := by decide +kernel
theorem dL_law_940 : decode cL_law 940 = .ok (.aload_n 1, 1) := by decide +kernel
theorem dL_law_941 : decode cL_law 941 = .ok (.aload_n 0, 1) := by decide +kernel
theorem dL_law_942 : decode cL_law 942 = .ok (.iload 4, 2) := by decide +kernel
theorem dL_law_944 : decode cL_law 944 = .ok (.iconst 1, 1) := by decide +kernel
theorem dL_law_945 : decode cL_law 945 = .ok (.iadd, 1) := by decide +kernel
theorem dL_law_946 : decode cL_law 946 = .ok (.iaload, 1) := by decide +kernel
theorem dL_law_947 : decode cL_law 947 = .ok (.invokevirtual 107, 3) := by decide +kernel
theorem dL_law_950 : decode cL_law 950 = .ok (.aload_n 2, 1) := by decide +kernel
theorem dL_law_951 : decode cL_law 951 = .ok (.aload_n 0, 1) := by decide +kernel
theorem dL_law_952 : decode cL_law 952 = .ok (.iload 4, 2) := by decide +kernel
theorem dL_law_954 : decode cL_law 954 = .ok (.iconst 1, 1) := by decide +kernel
theorem dL_law_955 : decode cL_law 955 = .ok (.iadd, 1) := by decide +kernel
theorem dL_law_956 : decode cL_law 956 = .ok (.iaload, 1) := by decide +kernel
theorem dL_law_957 : decode cL_law 957 = .ok (.invokevirtual 110, 3) := by decide +kernel
theorem dL_law_960 : decode cL_law 960 = .ok (.if_icmp .eq 804, 3) := by decide +kernel
theorem dL_law_963 : decode cL_law 963 = .ok (.iconst 0, 1) := by decide +kernel
theorem dL_law_964 : decode cL_law 964 = .ok (.ireturn, 1) := by decide +kernel
theorem dL_law_965 : decode cL_law 965 = .ok (.aload_n 1, 1) := by decide +kernel
theorem dL_law_966 : decode cL_law 966 = .ok (.aload_n 0, 1) := by decide +kernel
theorem dL_law_967 : decode cL_law 967 = .ok (.iload 4, 2) := by decide +kernel
theorem dL_law_969 : decode cL_law 969 = .ok (.iconst 1, 1) := by decide +kernel
theorem dL_law_970 : decode cL_law 970 = .ok (.iadd, 1) := by decide +kernel
theorem dL_law_971 : decode cL_law 971 = .ok (.iaload, 1) := by decide +kernel
theorem dL_law_972 : decode cL_law 972 = .ok (.aload_n 0, 1) := by decide +kernel
theorem dL_law_973 : decode cL_law 973 = .ok (.iload 4, 2) := by decide +kernel
theorem dL_law_975 : decode cL_law 975 = .ok (.iconst 2, 1) := by decide +kernel
theorem dL_law_976 : decode cL_law 976 = .ok (.iadd, 1) := by decide +kernel
theorem dL_law_977 : decode cL_law 977 = .ok (.iaload, 1) := by decide +kernel
theorem dL_law_978 : decode cL_law 978 = .ok (.aload_n 0, 1) := by decide +kernel
theorem dL_law_979 : decode cL_law 979 = .ok (.iload 4, 2) := by decide +kernel
theorem dL_law_981 : decode cL_law 981 = .ok (.iconst 3, 1) := by decide +kernel
theorem dL_law_982 : decode cL_law 982 = .ok (.iadd, 1) := by decide +kernel
theorem dL_law_983 : decode cL_law 983 = .ok (.iaload, 1) := by decide +kernel
theorem dL_law_984 : decode cL_law 984 = .ok (.aload_n 0, 1) := by decide +kernel
theorem dL_law_985 : decode cL_law 985 = .ok (.iload 4, 2) := by decide +kernel
theorem dL_law_987 : decode cL_law 987 = .ok (.iconst 4, 1) := by decide +kernel
theorem dL_law_988 : decode cL_law 988 = .ok (.iadd, 1) := by decide +kernel
theorem dL_law_989 : decode cL_law 989 = .ok (.iaload, 1) := by decide +kernel
theorem dL_law_990 : decode cL_law 990 = .ok (.aload_n 0, 1) := by decide +kernel
theorem dL_law_991 : decode cL_law 991 = .ok (.iload 4, 2) := by decide +kernel
theorem dL_law_993 : decode cL_law 993 = .ok (.iconst 5, 1) := by decide +kernel
theorem dL_law_994 : decode cL_law 994 = .ok (.iadd, 1) := by decide +kernel
theorem dL_law_995 : decode cL_law 995 = .ok (.iaload, 1) := by decide +kernel
theorem dL_law_996 : decode cL_law 996 = .ok (.invokevirtual 111, 3) := by decide +kernel
theorem dL_law_999 : decode cL_law 999 = .ok (.aload_n 2, 1) := by decide +kernel
theorem dL_law_1000 : decode cL_law 1000 = .ok (.aload_n 0, 1) := by decide +kernel
theorem dL_law_1001 : decode cL_law 1001 = .ok (.iload 4, 2) := by decide +kernel
theorem dL_law_1003 : decode cL_law 1003 = .ok (.iconst 1, 1) := by decide +kernel
theorem dL_law_1004 : decode cL_law 1004 = .ok (.iadd, 1) := by decide +kernel
theorem dL_law_1005 : decode cL_law 1005 = .ok (.iaload, 1) := by decide +kernel
theorem dL_law_1006 : decode cL_law 1006 = .ok (.aload_n 0, 1) := by decide +kernel
theorem dL_law_1007 : decode cL_law 1007 = .ok (.iload 4, 2) := by decide +kernel
theorem dL_law_1009 : decode cL_law 1009 = .ok (.iconst 2, 1) := by decide +kernel
theorem dL_law_1010 : decode cL_law 1010 = .ok (.iadd, 1) := by decide +kernel
theorem dL_law_1011 : decode cL_law 1011 = .ok (.iaload, 1) := by decide +kernel
theorem dL_law_1012 : decode cL_law 1012 = .ok (.aload_n 0, 1) := by decide +kernel
theorem dL_law_1013 : decode cL_law 1013 = .ok (.iload 4, 2) := by decide +kernel
theorem dL_law_1015 : decode cL_law 1015 = .ok (.iconst 3, 1) := by decide +kernel
theorem dL_law_1016 : decode cL_law 1016 = .ok (.iadd, 1) := by decide +kernel
theorem dL_law_1017 : decode cL_law 1017 = .ok (.iaload, 1) := by decide +kernel
theorem dL_law_1018 : decode cL_law 1018 = .ok (.aload_n 0, 1) := by decide +kernel
theorem dL_law_1019 : decode cL_law 1019 = .ok (.iload 4, 2) := by decide +kernel
theorem dL_law_1021 : decode cL_law 1021 = .ok (.iconst 4, 1) := by decide +kernel
theorem dL_law_1022 : decode cL_law 1022 = .ok (.iadd, 1) := by decide +kernel
theorem dL_law_1023 : decode cL_law 1023 = .ok (.iaload, 1) := by decide +kernel
theorem dL_law_1024 : decode cL_law 1024 = .ok (.aload_n 0, 1) := by decide +kernel
theorem dL_law_1025 : decode cL_law 1025 = .ok (.iload 4, 2) := by decide +kernel
theorem dL_law_1027 : decode cL_law 1027 = .ok (.iconst 5, 1) := by decide +kernel
theorem dL_law_1028 : decode cL_law 1028 = .ok (.iadd, 1) := by decide +kernel
theorem dL_law_1029 : decode cL_law 1029 = .ok (.iaload, 1) := by decide +kernel
theorem dL_law_1030 : decode cL_law 1030 = .ok (.invokevirtual 114, 3) := by decide +kernel
theorem dL_law_1033 : decode cL_law 1033 = .ok (.if_icmp .eq 731, 3) := by decide +kernel
theorem dL_law_1036 : decode cL_law 1036 = .ok (.iconst 0, 1) := by decide +kernel
theorem dL_law_1037 : decode cL_law 1037 = .ok (.ireturn, 1) := by decide +kernel
theorem dL_law_1038 : decode cL_law 1038 = .ok (.aload_n 1, 1) := by decide +kernel
theorem dL_law_1039 : decode cL_law 1039 = .ok (.aload_n 0, 1) := by decide +kernel
theorem dL_law_1040 : decode cL_law 1040 = .ok (.iload 4, 2) := by decide +kernel
theorem dL_law_1042 : decode cL_law 1042 = .ok (.iconst 1, 1) := by decide +kernel
theorem dL_law_1043 : decode cL_law 1043 = .ok (.iadd, 1) := by decide +kernel
theorem dL_law_1044 : decode cL_law 1044 = .ok (.iaload, 1) := by decide +kernel
theorem dL_law_1045 : decode cL_law 1045 = .ok (.invokevirtual 115, 3) := by decide +kernel
theorem dL_law_1048 : decode cL_law 1048 = .ok (.aload_n 2, 1) := by decide +kernel
theorem dL_law_1049 : decode cL_law 1049 = .ok (.aload_n 0, 1) := by decide +kernel
theorem dL_law_1050 : decode cL_law 1050 = .ok (.iload 4, 2) := by decide +kernel
theorem dL_law_1052 : decode cL_law 1052 = .ok (.iconst 1, 1) := by decide +kernel
theorem dL_law_1053 : decode cL_law 1053 = .ok (.iadd, 1) := by decide +kernel
theorem dL_law_1054 : decode cL_law 1054 = .ok (.iaload, 1) := by decide +kernel
theorem dL_law_1055 : decode cL_law 1055 = .ok (.invokevirtual 119, 3) := by decide +kernel
theorem dL_law_1058 : decode cL_law 1058 = .ok (.if_icmp .eq 706, 3) := by decide +kernel
theorem dL_law_1061 : decode cL_law 1061 = .ok (.iconst 0, 1) := by decide +kernel
theorem dL_law_1062 : decode cL_law 1062 = .ok (.ireturn, 1) := by decide +kernel
theorem dL_law_1063 : decode cL_law 1063 = .ok (.aload_n 1, 1) := by decide +kernel
theorem dL_law_1064 : decode cL_law 1064 = .ok (.aload_n 0, 1) := by decide +kernel
theorem dL_law_1065 : decode cL_law 1065 = .ok (.iload 4, 2) := by decide +kernel
theorem dL_law_1067 : decode cL_law 1067 = .ok (.iconst 1, 1) := by decide +kernel
theorem dL_law_1068 : decode cL_law 1068 = .ok (.iadd, 1) := by decide +kernel
theorem dL_law_1069 : decode cL_law 1069 = .ok (.iaload, 1) := by decide +kernel
theorem dL_law_1070 : decode cL_law 1070 = .ok (.aload_n 0, 1) := by decide +kernel
theorem dL_law_1071 : decode cL_law 1071 = .ok (.iload 4, 2) := by decide +kernel
theorem dL_law_1073 : decode cL_law 1073 = .ok (.iconst 2, 1) := by decide +kernel
theorem dL_law_1074 : decode cL_law 1074 = .ok (.iadd, 1) := by decide +kernel
theorem dL_law_1075 : decode cL_law 1075 = .ok (.iaload, 1) := by decide +kernel
theorem dL_law_1076 : decode cL_law 1076 = .ok (.ifCond .eq 7, 3) := by decide +kernel
theorem dL_law_1079 : decode cL_law 1079 = .ok (.iconst 1, 1) := by decide +kernel
theorem dL_law_1080 : decode cL_law 1080 = .ok (.goto 4, 3) := by decide +kernel
theorem dL_law_1083 : decode cL_law 1083 = .ok (.iconst 0, 1) := by decide +kernel
theorem dL_law_1084 : decode cL_law 1084 = .ok (.invokevirtual 120, 3) := by decide +kernel
theorem dL_law_1087 : decode cL_law 1087 = .ok (.aload_n 2, 1) := by decide +kernel
theorem dL_law_1088 : decode cL_law 1088 = .ok (.aload_n 0, 1) := by decide +kernel
theorem dL_law_1089 : decode cL_law 1089 = .ok (.iload 4, 2) := by decide +kernel
theorem dL_law_1091 : decode cL_law 1091 = .ok (.iconst 1, 1) := by decide +kernel
theorem dL_law_1092 : decode cL_law 1092 = .ok (.iadd, 1) := by decide +kernel
theorem dL_law_1093 : decode cL_law 1093 = .ok (.iaload, 1) := by decide +kernel
theorem dL_law_1094 : decode cL_law 1094 = .ok (.aload_n 0, 1) := by decide +kernel
theorem dL_law_1095 : decode cL_law 1095 = .ok (.iload 4, 2) := by decide +kernel
theorem dL_law_1097 : decode cL_law 1097 = .ok (.iconst 2, 1) := by decide +kernel
theorem dL_law_1098 : decode cL_law 1098 = .ok (.iadd, 1) := by decide +kernel
theorem dL_law_1099 : decode cL_law 1099 = .ok (.iaload, 1) := by decide +kernel
theorem dL_law_1100 : decode cL_law 1100 = .ok (.ifCond .eq 7, 3) := by decide +kernel
theorem dL_law_1103 : decode cL_law 1103 = .ok (.iconst 1, 1) := by decide +kernel
theorem dL_law_1104 : decode cL_law 1104 = .ok (.goto 4, 3) := by decide +kernel
theorem dL_law_1107 : decode cL_law 1107 = .ok (.iconst 0, 1) := by decide +kernel
theorem dL_law_1108 : decode cL_law 1108 = .ok (.invokevirtual 124, 3) := by decide +kernel
theorem dL_law_1111 : decode cL_law 1111 = .ok (.if_icmp .eq 653, 3) := by decide +kernel
theorem dL_law_1114 : decode cL_law 1114 = .ok (.iconst 0, 1) := by decide +kernel
theorem dL_law_1115 : decode cL_law 1115 = .ok (.ireturn, 1) := by decide +kernel
theorem dL_law_1116 : decode cL_law 1116 = .ok (.aload_n 1, 1) := by decide +kernel
theorem dL_law_1117 : decode cL_law 1117 = .ok (.aload_n 0, 1) := by decide +kernel
theorem dL_law_1118 : decode cL_law 1118 = .ok (.iload 4, 2) := by decide +kernel
theorem dL_law_1120 : decode cL_law 1120 = .ok (.iconst 1, 1) := by decide +kernel
theorem dL_law_1121 : decode cL_law 1121 = .ok (.iadd, 1) := by decide +kernel
theorem dL_law_1122 : decode cL_law 1122 = .ok (.iaload, 1) := by decide +kernel
theorem dL_law_1123 : decode cL_law 1123 = .ok (.aload_n 0, 1) := by decide +kernel
theorem dL_law_1124 : decode cL_law 1124 = .ok (.iload 4, 2) := by decide +kernel
theorem dL_law_1126 : decode cL_law 1126 = .ok (.iconst 2, 1) := by decide +kernel
theorem dL_law_1127 : decode cL_law 1127 = .ok (.iadd, 1) := by decide +kernel
theorem dL_law_1128 : decode cL_law 1128 = .ok (.iaload, 1) := by decide +kernel
theorem dL_law_1129 : decode cL_law 1129 = .ok (.aload_n 0, 1) := by decide +kernel
theorem dL_law_1130 : decode cL_law 1130 = .ok (.iload 4, 2) := by decide +kernel
theorem dL_law_1132 : decode cL_law 1132 = .ok (.iconst 3, 1) := by decide +kernel
theorem dL_law_1133 : decode cL_law 1133 = .ok (.iadd, 1) := by decide +kernel
theorem dL_law_1134 : decode cL_law 1134 = .ok (.iaload, 1) := by decide +kernel
theorem dL_law_1135 : decode cL_law 1135 = .ok (.invokevirtual 125, 3) := by decide +kernel
theorem dL_law_1138 : decode cL_law 1138 = .ok (.aload_n 2, 1) := by decide +kernel
theorem dL_law_1139 : decode cL_law 1139 = .ok (.aload_n 0, 1) := by decide +kernel
theorem dL_law_1140 : decode cL_law 1140 = .ok (.iload 4, 2) := by decide +kernel
theorem dL_law_1142 : decode cL_law 1142 = .ok (.iconst 1, 1) := by decide +kernel
theorem dL_law_1143 : decode cL_law 1143 = .ok (.iadd, 1) := by decide +kernel
theorem dL_law_1144 : decode cL_law 1144 = .ok (.iaload, 1) := by decide +kernel
theorem dL_law_1145 : decode cL_law 1145 = .ok (.aload_n 0, 1) := by decide +kernel
theorem dL_law_1146 : decode cL_law 1146 = .ok (.iload 4, 2) := by decide +kernel
theorem dL_law_1148 : decode cL_law 1148 = .ok (.iconst 2, 1) := by decide +kernel
theorem dL_law_1149 : decode cL_law 1149 = .ok (.iadd, 1) := by decide +kernel
theorem dL_law_1150 : decode cL_law 1150 = .ok (.iaload, 1) := by decide +kernel
theorem dL_law_1151 : decode cL_law 1151 = .ok (.aload_n 0, 1) := by decide +kernel
theorem dL_law_1152 : decode cL_law 1152 = .ok (.iload 4, 2) := by decide +kernel
theorem dL_law_1154 : decode cL_law 1154 = .ok (.iconst 3, 1) := by decide +kernel
theorem dL_law_1155 : decode cL_law 1155 = .ok (.iadd, 1) := by decide +kernel
theorem dL_law_1156 : decode cL_law 1156 = .ok (.iaload, 1) := by decide +kernel
theorem dL_law_1157 : decode cL_law 1157 = .ok (.invokevirtual 129, 3) := by decide +kernel
theorem dL_law_1160 : decode cL_law 1160 = .ok (.if_icmp .eq 604, 3) := by decide +kernel
theorem dL_law_1163 : decode cL_law 1163 = .ok (.iconst 0, 1) := by decide +kernel
theorem dL_law_1164 : decode cL_law 1164 = .ok (.ireturn, 1) := by decide +kernel
theorem dL_law_1165 : decode cL_law 1165 = .ok (.aload_n 1, 1) := by decide +kernel
theorem dL_law_1166 : decode cL_law 1166 = .ok (.aload_n 0, 1) := by decide +kernel
theorem dL_law_1167 : decode cL_law 1167 = .ok (.iload 4, 2) := by decide +kernel
theorem dL_law_1169 : decode cL_law 1169 = .ok (.iconst 1, 1) := by decide +kernel
theorem dL_law_1170 : decode cL_law 1170 = .ok (.iadd, 1) := by decide +kernel
theorem dL_law_1171 : decode cL_law 1171 = .ok (.iaload, 1) := by decide +kernel
theorem dL_law_1172 : decode cL_law 1172 = .ok (.invokevirtual 130, 3) := by decide +kernel
theorem dL_law_1175 : decode cL_law 1175 = .ok (.aload_n 2, 1) := by decide +kernel
theorem dL_law_1176 : decode cL_law 1176 = .ok (.aload_n 0, 1) := by decide +kernel
theorem dL_law_1177 : decode cL_law 1177 = .ok (.iload 4, 2) := by decide +kernel
theorem dL_law_1179 : decode cL_law 1179 = .ok (.iconst 1, 1) := by decide +kernel
theorem dL_law_1180 : decode cL_law 1180 = .ok (.iadd, 1) := by decide +kernel
theorem dL_law_1181 : decode cL_law 1181 = .ok (.iaload, 1) := by decide +kernel
theorem dL_law_1182 : decode cL_law 1182 = .ok (.invokevirtual 133, 3) := by decide +kernel
theorem dL_law_1185 : decode cL_law 1185 = .ok (.if_icmp .eq 579, 3) := by decide +kernel
theorem dL_law_1188 : decode cL_law 1188 = .ok (.iconst 0, 1) := by decide +kernel
theorem dL_law_1189 : decode cL_law 1189 = .ok (.ireturn, 1) := by decide +kernel
theorem dL_law_1190 : decode cL_law 1190 = .ok (.aload_n 1, 1) := by decide +kernel
theorem dL_law_1191 : decode cL_law 1191 = .ok (.invokevirtual 134, 3) := by decide +kernel
theorem dL_law_1194 : decode cL_law 1194 = .ok (.aload_n 2, 1) := by decide +kernel
theorem dL_law_1195 : decode cL_law 1195 = .ok (.invokevirtual 137, 3) := by decide +kernel
theorem dL_law_1198 : decode cL_law 1198 = .ok (.if_icmp .eq 566, 3) := by decide +kernel
theorem dL_law_1201 : decode cL_law 1201 = .ok (.iconst 0, 1) := by decide +kernel
theorem dL_law_1202 : decode cL_law 1202 = .ok (.ireturn, 1) := by decide +kernel
theorem dL_law_1203 : decode cL_law 1203 = .ok (.aload_n 1, 1) := by decide +kernel
theorem dL_law_1204 : decode cL_law 1204 = .ok (.aload_n 0, 1) := by decide +kernel
theorem dL_law_1205 : decode cL_law 1205 = .ok (.iload 4, 2) := by decide +kernel
theorem dL_law_1207 : decode cL_law 1207 = .ok (.iconst 1, 1) := by decide +kernel
theorem dL_law_1208 : decode cL_law 1208 = .ok (.iadd, 1) := by decide +kernel
theorem dL_law_1209 : decode cL_law 1209 = .ok (.iaload, 1) := by decide +kernel
theorem dL_law_1210 : decode cL_law 1210 = .ok (.aload_n 0, 1) := by decide +kernel
theorem dL_law_1211 : decode cL_law 1211 = .ok (.iload 4, 2) := by decide +kernel
theorem dL_law_1213 : decode cL_law 1213 = .ok (.iconst 2, 1) := by decide +kernel
theorem dL_law_1214 : decode cL_law 1214 = .ok (.iadd, 1) := by decide +kernel
theorem dL_law_1215 : decode cL_law 1215 = .ok (.iaload, 1) := by decide +kernel
theorem dL_law_1216 : decode cL_law 1216 = .ok (.invokevirtual 138, 3) := by decide +kernel
theorem dL_law_1219 : decode cL_law 1219 = .ok (.aload_n 2, 1) := by decide +kernel
theorem dL_law_1220 : decode cL_law 1220 = .ok (.aload_n 0, 1) := by decide +kernel
theorem dL_law_1221 : decode cL_law 1221 = .ok (.iload 4, 2) := by decide +kernel
theorem dL_law_1223 : decode cL_law 1223 = .ok (.iconst 1, 1) := by decide +kernel
theorem dL_law_1224 : decode cL_law 1224 = .ok (.iadd, 1) := by decide +kernel
theorem dL_law_1225 : decode cL_law 1225 = .ok (.iaload, 1) := by decide +kernel
theorem dL_law_1226 : decode cL_law 1226 = .ok (.aload_n 0, 1) := by decide +kernel
theorem dL_law_1227 : decode cL_law 1227 = .ok (.iload 4, 2) := by decide +kernel
theorem dL_law_1229 : decode cL_law 1229 = .ok (.iconst 2, 1) := by decide +kernel
theorem dL_law_1230 : decode cL_law 1230 = .ok (.iadd, 1) := by decide +kernel
theorem dL_law_1231 : decode cL_law 1231 = .ok (.iaload, 1) := by decide +kernel
theorem dL_law_1232 : decode cL_law 1232 = .ok (.invokevirtual 141, 3) := by decide +kernel
theorem dL_law_1235 : decode cL_law 1235 = .ok (.if_icmp .eq 529, 3) := by decide +kernel
theorem dL_law_1238 : decode cL_law 1238 = .ok (.iconst 0, 1) := by decide +kernel
theorem dL_law_1239 : decode cL_law 1239 = .ok (.ireturn, 1) := by decide +kernel
theorem dL_law_1240 : decode cL_law 1240 = .ok (.aload_n 1, 1) := by decide +kernel
theorem dL_law_1241 : decode cL_law 1241 = .ok (.aload_n 0, 1) := by decide +kernel
theorem dL_law_1242 : decode cL_law 1242 = .ok (.iload 4, 2) := by decide +kernel
theorem dL_law_1244 : decode cL_law 1244 = .ok (.iconst 1, 1) := by decide +kernel
theorem dL_law_1245 : decode cL_law 1245 = .ok (.iadd, 1) := by decide +kernel
theorem dL_law_1246 : decode cL_law 1246 = .ok (.iaload, 1) := by decide +kernel
theorem dL_law_1247 : decode cL_law 1247 = .ok (.aload_n 0, 1) := by decide +kernel
theorem dL_law_1248 : decode cL_law 1248 = .ok (.iload 4, 2) := by decide +kernel
theorem dL_law_1250 : decode cL_law 1250 = .ok (.iconst 2, 1) := by decide +kernel
theorem dL_law_1251 : decode cL_law 1251 = .ok (.iadd, 1) := by decide +kernel
theorem dL_law_1252 : decode cL_law 1252 = .ok (.iaload, 1) := by decide +kernel
theorem dL_law_1253 : decode cL_law 1253 = .ok (.invokevirtual 142, 3) := by decide +kernel
theorem dL_law_1256 : decode cL_law 1256 = .ok (.aload_n 2, 1) := by decide +kernel
theorem dL_law_1257 : decode cL_law 1257 = .ok (.aload_n 0, 1) := by decide +kernel
theorem dL_law_1258 : decode cL_law 1258 = .ok (.iload 4, 2) := by decide +kernel
theorem dL_law_1260 : decode cL_law 1260 = .ok (.iconst 1, 1) := by decide +kernel
theorem dL_law_1261 : decode cL_law 1261 = .ok (.iadd, 1) := by decide +kernel
theorem dL_law_1262 : decode cL_law 1262 = .ok (.iaload, 1) := by decide +kernel
theorem dL_law_1263 : decode cL_law 1263 = .ok (.aload_n 0, 1) := by decide +kernel
theorem dL_law_1264 : decode cL_law 1264 = .ok (.iload 4, 2) := by decide +kernel
theorem dL_law_1266 : decode cL_law 1266 = .ok (.iconst 2, 1) := by decide +kernel
theorem dL_law_1267 : decode cL_law 1267 = .ok (.iadd, 1) := by decide +kernel
theorem dL_law_1268 : decode cL_law 1268 = .ok (.iaload, 1) := by decide +kernel
theorem dL_law_1269 : decode cL_law 1269 = .ok (.invokevirtual 145, 3) := by decide +kernel
theorem dL_law_1272 : decode cL_law 1272 = .ok (.if_icmp .eq 492, 3) := by decide +kernel
theorem dL_law_1275 : decode cL_law 1275 = .ok (.iconst 0, 1) := by decide +kernel
theorem dL_law_1276 : decode cL_law 1276 = .ok (.ireturn, 1) := by decide +kernel
theorem dL_law_1277 : decode cL_law 1277 = .ok (.aload_n 1, 1) := by decide +kernel
theorem dL_law_1278 : decode cL_law 1278 = .ok (.aload_n 0, 1) := by decide +kernel
theorem dL_law_1279 : decode cL_law 1279 = .ok (.iload 4, 2) := by decide +kernel
theorem dL_law_1281 : decode cL_law 1281 = .ok (.iconst 1, 1) := by decide +kernel
theorem dL_law_1282 : decode cL_law 1282 = .ok (.iadd, 1) := by decide +kernel
theorem dL_law_1283 : decode cL_law 1283 = .ok (.iaload, 1) := by decide +kernel
theorem dL_law_1284 : decode cL_law 1284 = .ok (.aload_n 0, 1) := by decide +kernel
theorem dL_law_1285 : decode cL_law 1285 = .ok (.iload 4, 2) := by decide +kernel
theorem dL_law_1287 : decode cL_law 1287 = .ok (.iconst 2, 1) := by decide +kernel
theorem dL_law_1288 : decode cL_law 1288 = .ok (.iadd, 1) := by decide +kernel
theorem dL_law_1289 : decode cL_law 1289 = .ok (.iaload, 1) := by decide +kernel
theorem dL_law_1290 : decode cL_law 1290 = .ok (.invokevirtual 146, 3) := by decide +kernel
theorem dL_law_1293 : decode cL_law 1293 = .ok (.aload_n 2, 1) := by decide +kernel
theorem dL_law_1294 : decode cL_law 1294 = .ok (.aload_n 0, 1) := by decide +kernel
theorem dL_law_1295 : decode cL_law 1295 = .ok (.iload 4, 2) := by decide +kernel
theorem dL_law_1297 : decode cL_law 1297 = .ok (.iconst 1, 1) := by decide +kernel
theorem dL_law_1298 : decode cL_law 1298 = .ok (.iadd, 1) := by decide +kernel
theorem dL_law_1299 : decode cL_law 1299 = .ok (.iaload, 1) := by decide +kernel
theorem dL_law_1300 : decode cL_law 1300 = .ok (.aload_n 0, 1) := by decide +kernel
theorem dL_law_1301 : decode cL_law 1301 = .ok (.iload 4, 2) := by decide +kernel
theorem dL_law_1303 : decode cL_law 1303 = .ok (.iconst 2, 1) := by decide +kernel
theorem dL_law_1304 : decode cL_law 1304 = .ok (.iadd, 1) := by decide +kernel
theorem dL_law_1305 : decode cL_law 1305 = .ok (.iaload, 1) := by decide +kernel
theorem dL_law_1306 : decode cL_law 1306 = .ok (.invokevirtual 149, 3) := by decide +kernel
theorem dL_law_1309 : decode cL_law 1309 = .ok (.if_icmp .eq 455, 3) := by decide +kernel
theorem dL_law_1312 : decode cL_law 1312 = .ok (.iconst 0, 1) := by decide +kernel
theorem dL_law_1313 : decode cL_law 1313 = .ok (.ireturn, 1) := by decide +kernel
theorem dL_law_1314 : decode cL_law 1314 = .ok (.aload_n 1, 1) := by decide +kernel
theorem dL_law_1315 : decode cL_law 1315 = .ok (.aload_n 0, 1) := by decide +kernel
theorem dL_law_1316 : decode cL_law 1316 = .ok (.iload 4, 2) := by decide +kernel
theorem dL_law_1318 : decode cL_law 1318 = .ok (.iconst 1, 1) := by decide +kernel
theorem dL_law_1319 : decode cL_law 1319 = .ok (.iadd, 1) := by decide +kernel
theorem dL_law_1320 : decode cL_law 1320 = .ok (.iaload, 1) := by decide +kernel
theorem dL_law_1321 : decode cL_law 1321 = .ok (.aload_n 0, 1) := by decide +kernel
theorem dL_law_1322 : decode cL_law 1322 = .ok (.iload 4, 2) := by decide +kernel
theorem dL_law_1324 : decode cL_law 1324 = .ok (.iconst 2, 1) := by decide +kernel
theorem dL_law_1325 : decode cL_law 1325 = .ok (.iadd, 1) := by decide +kernel
theorem dL_law_1326 : decode cL_law 1326 = .ok (.iaload, 1) := by decide +kernel
theorem dL_law_1327 : decode cL_law 1327 = .ok (.aload_n 0, 1) := by decide +kernel
theorem dL_law_1328 : decode cL_law 1328 = .ok (.iload 4, 2) := by decide +kernel
theorem dL_law_1330 : decode cL_law 1330 = .ok (.iconst 3, 1) := by decide +kernel
theorem dL_law_1331 : decode cL_law 1331 = .ok (.iadd, 1) := by decide +kernel
theorem dL_law_1332 : decode cL_law 1332 = .ok (.iaload, 1) := by decide +kernel
theorem dL_law_1333 : decode cL_law 1333 = .ok (.ifCond .eq 7, 3) := by decide +kernel
theorem dL_law_1336 : decode cL_law 1336 = .ok (.iconst 1, 1) := by decide +kernel
theorem dL_law_1337 : decode cL_law 1337 = .ok (.goto 4, 3) := by decide +kernel
theorem dL_law_1340 : decode cL_law 1340 = .ok (.iconst 0, 1) := by decide +kernel
theorem dL_law_1341 : decode cL_law 1341 = .ok (.invokevirtual 150, 3) := by decide +kernel
theorem dL_law_1344 : decode cL_law 1344 = .ok (.aload_n 2, 1) := by decide +kernel
theorem dL_law_1345 : decode cL_law 1345 = .ok (.aload_n 0, 1) := by decide +kernel
theorem dL_law_1346 : decode cL_law 1346 = .ok (.iload 4, 2) := by decide +kernel
theorem dL_law_1348 : decode cL_law 1348 = .ok (.iconst 1, 1) := by decide +kernel
theorem dL_law_1349 : decode cL_law 1349 = .ok (.iadd, 1) := by decide +kernel
theorem dL_law_1350 : decode cL_law 1350 = .ok (.iaload, 1) := by decide +kernel
theorem dL_law_1351 : decode cL_law 1351 = .ok (.aload_n 0, 1) := by decide +kernel
theorem dL_law_1352 : decode cL_law 1352 = .ok (.iload 4, 2) := by decide +kernel
theorem dL_law_1354 : decode cL_law 1354 = .ok (.iconst 2, 1) := by decide +kernel
theorem dL_law_1355 : decode cL_law 1355 = .ok (.iadd, 1) := by decide +kernel
theorem dL_law_1356 : decode cL_law 1356 = .ok (.iaload, 1) := by decide +kernel
theorem dL_law_1357 : decode cL_law 1357 = .ok (.aload_n 0, 1) := by decide +kernel
theorem dL_law_1358 : decode cL_law 1358 = .ok (.iload 4, 2) := by decide +kernel
theorem dL_law_1360 : decode cL_law 1360 = .ok (.iconst 3, 1) := by decide +kernel
theorem dL_law_1361 : decode cL_law 1361 = .ok (.iadd, 1) := by decide +kernel
theorem dL_law_1362 : decode cL_law 1362 = .ok (.iaload, 1) := by decide +kernel
theorem dL_law_1363 : decode cL_law 1363 = .ok (.ifCond .eq 7, 3) := by decide +kernel
theorem dL_law_1366 : decode cL_law 1366 = .ok (.iconst 1, 1) := by decide +kernel
theorem dL_law_1367 : decode cL_law 1367 = .ok (.goto 4, 3) := by decide +kernel
theorem dL_law_1370 : decode cL_law 1370 = .ok (.iconst 0, 1) := by decide +kernel
theorem dL_law_1371 : decode cL_law 1371 = .ok (.invokevirtual 154, 3) := by decide +kernel
theorem dL_law_1374 : decode cL_law 1374 = .ok (.if_icmp .eq 390, 3) := by decide +kernel
theorem dL_law_1377 : decode cL_law 1377 = .ok (.iconst 0, 1) := by decide +kernel
theorem dL_law_1378 : decode cL_law 1378 = .ok (.ireturn, 1) := by decide +kernel
theorem dL_law_1379 : decode cL_law 1379 = .ok (.aload_n 1, 1) := by decide +kernel
theorem dL_law_1380 : decode cL_law 1380 = .ok (.aload_n 0, 1) := by decide +kernel
theorem dL_law_1381 : decode cL_law 1381 = .ok (.iload 4, 2) := by decide +kernel
theorem dL_law_1383 : decode cL_law 1383 = .ok (.iconst 1, 1) := by decide +kernel
theorem dL_law_1384 : decode cL_law 1384 = .ok (.iadd, 1) := by decide +kernel
theorem dL_law_1385 : decode cL_law 1385 = .ok (.iaload, 1) := by decide +kernel
theorem dL_law_1386 : decode cL_law 1386 = .ok (.invokevirtual 155, 3) := by decide +kernel
theorem dL_law_1389 : decode cL_law 1389 = .ok (.aload_n 2, 1) := by decide +kernel
theorem dL_law_1390 : decode cL_law 1390 = .ok (.aload_n 0, 1) := by decide +kernel
theorem dL_law_1391 : decode cL_law 1391 = .ok (.iload 4, 2) := by decide +kernel
theorem dL_law_1393 : decode cL_law 1393 = .ok (.iconst 1, 1) := by decide +kernel
theorem dL_law_1394 : decode cL_law 1394 = .ok (.iadd, 1) := by decide +kernel
theorem dL_law_1395 : decode cL_law 1395 = .ok (.iaload, 1) := by decide +kernel
theorem dL_law_1396 : decode cL_law 1396 = .ok (.invokevirtual 158, 3) := by decide +kernel
theorem dL_law_1399 : decode cL_law 1399 = .ok (.if_icmp .eq 365, 3) := by decide +kernel
theorem dL_law_1402 : decode cL_law 1402 = .ok (.iconst 0, 1) := by decide +kernel
theorem dL_law_1403 : decode cL_law 1403 = .ok (.ireturn, 1) := by decide +kernel
theorem dL_law_1404 : decode cL_law 1404 = .ok (.aload_n 1, 1) := by decide +kernel
theorem dL_law_1405 : decode cL_law 1405 = .ok (.aload_n 0, 1) := by decide +kernel
theorem dL_law_1406 : decode cL_law 1406 = .ok (.iload 4, 2) := by decide +kernel
theorem dL_law_1408 : decode cL_law 1408 = .ok (.iconst 1, 1) := by decide +kernel
theorem dL_law_1409 : decode cL_law 1409 = .ok (.iadd, 1) := by decide +kernel
theorem dL_law_1410 : decode cL_law 1410 = .ok (.iaload, 1) := by decide +kernel
theorem dL_law_1411 : decode cL_law 1411 = .ok (.invokevirtual 159, 3) := by decide +kernel
theorem dL_law_1414 : decode cL_law 1414 = .ok (.aload_n 2, 1) := by decide +kernel
theorem dL_law_1415 : decode cL_law 1415 = .ok (.aload_n 0, 1) := by decide +kernel
theorem dL_law_1416 : decode cL_law 1416 = .ok (.iload 4, 2) := by decide +kernel
theorem dL_law_1418 : decode cL_law 1418 = .ok (.iconst 1, 1) := by decide +kernel
theorem dL_law_1419 : decode cL_law 1419 = .ok (.iadd, 1) := by decide +kernel
theorem dL_law_1420 : decode cL_law 1420 = .ok (.iaload, 1) := by decide +kernel
theorem dL_law_1421 : decode cL_law 1421 = .ok (.invokevirtual 162, 3) := by decide +kernel
theorem dL_law_1424 : decode cL_law 1424 = .ok (.if_icmp .eq 340, 3) := by decide +kernel
theorem dL_law_1427 : decode cL_law 1427 = .ok (.iconst 0, 1) := by decide +kernel
theorem dL_law_1428 : decode cL_law 1428 = .ok (.ireturn, 1) := by decide +kernel
theorem dL_law_1429 : decode cL_law 1429 = .ok (.aload_n 1, 1) := by decide +kernel
theorem dL_law_1430 : decode cL_law 1430 = .ok (.invokevirtual 163, 3) := by decide +kernel
theorem dL_law_1433 : decode cL_law 1433 = .ok (.aload_n 2, 1) := by decide +kernel
theorem dL_law_1434 : decode cL_law 1434 = .ok (.invokevirtual 166, 3) := by decide +kernel
theorem dL_law_1437 : decode cL_law 1437 = .ok (.if_icmp .eq 327, 3) := by decide +kernel
theorem dL_law_1440 : decode cL_law 1440 = .ok (.iconst 0, 1) := by decide +kernel
theorem dL_law_1441 : decode cL_law 1441 = .ok (.ireturn, 1) := by decide +kernel
theorem dL_law_1442 : decode cL_law 1442 = .ok (.aload_n 1, 1) := by decide +kernel
theorem dL_law_1443 : decode cL_law 1443 = .ok (.aload_n 0, 1) := by decide +kernel
theorem dL_law_1444 : decode cL_law 1444 = .ok (.iload 4, 2) := by decide +kernel
theorem dL_law_1446 : decode cL_law 1446 = .ok (.iconst 1, 1) := by decide +kernel
theorem dL_law_1447 : decode cL_law 1447 = .ok (.iadd, 1) := by decide +kernel
theorem dL_law_1448 : decode cL_law 1448 = .ok (.iaload, 1) := by decide +kernel
theorem dL_law_1449 : decode cL_law 1449 = .ok (.aload_n 0, 1) := by decide +kernel
theorem dL_law_1450 : decode cL_law 1450 = .ok (.iload 4, 2) := by decide +kernel
theorem dL_law_1452 : decode cL_law 1452 = .ok (.iconst 2, 1) := by decide +kernel
theorem dL_law_1453 : decode cL_law 1453 = .ok (.iadd, 1) := by decide +kernel
theorem dL_law_1454 : decode cL_law 1454 = .ok (.iaload, 1) := by decide +kernel
theorem dL_law_1455 : decode cL_law 1455 = .ok (.invokevirtual 167, 3) := by decide +kernel
theorem dL_law_1458 : decode cL_law 1458 = .ok (.aload_n 2, 1) := by decide +kernel
theorem dL_law_1459 : decode cL_law 1459 = .ok (.aload_n 0, 1) := by decide +kernel
theorem dL_law_1460 : decode cL_law 1460 = .ok (.iload 4, 2) := by decide +kernel
theorem dL_law_1462 : decode cL_law 1462 = .ok (.iconst 1, 1) := by decide +kernel
theorem dL_law_1463 : decode cL_law 1463 = .ok (.iadd, 1) := by decide +kernel
theorem dL_law_1464 : decode cL_law 1464 = .ok (.iaload, 1) := by decide +kernel
theorem dL_law_1465 : decode cL_law 1465 = .ok (.aload_n 0, 1) := by decide +kernel
theorem dL_law_1466 : decode cL_law 1466 = .ok (.iload 4, 2) := by decide +kernel
theorem dL_law_1468 : decode cL_law 1468 = .ok (.iconst 2, 1) := by decide +kernel
theorem dL_law_1469 : decode cL_law 1469 = .ok (.iadd, 1) := by decide +kernel
theorem dL_law_1470 : decode cL_law 1470 = .ok (.iaload, 1) := by decide +kernel
theorem dL_law_1471 : decode cL_law 1471 = .ok (.invokevirtual 170, 3) := by decide +kernel
theorem dL_law_1474 : decode cL_law 1474 = .ok (.if_icmp .eq 290, 3) := by decide +kernel
theorem dL_law_1477 : decode cL_law 1477 = .ok (.iconst 0, 1) := by decide +kernel
theorem dL_law_1478 : decode cL_law 1478 = .ok (.ireturn, 1) := by decide +kernel
theorem dL_law_1479 : decode cL_law 1479 = .ok (.aload_n 1, 1) := by decide +kernel
theorem dL_law_1480 : decode cL_law 1480 = .ok (.aload_n 0, 1) := by decide +kernel
theorem dL_law_1481 : decode cL_law 1481 = .ok (.iload 4, 2) := by decide +kernel
theorem dL_law_1483 : decode cL_law 1483 = .ok (.iconst 1, 1) := by decide +kernel
theorem dL_law_1484 : decode cL_law 1484 = .ok (.iadd, 1) := by decide +kernel
theorem dL_law_1485 : decode cL_law 1485 = .ok (.iaload, 1) := by decide +kernel
theorem dL_law_1486 : decode cL_law 1486 = .ok (.aload_n 0, 1) := by decide +kernel
theorem dL_law_1487 : decode cL_law 1487 = .ok (.iload 4, 2) := by decide +kernel
theorem dL_law_1489 : decode cL_law 1489 = .ok (.iconst 2, 1) := by decide +kernel
theorem dL_law_1490 : decode cL_law 1490 = .ok (.iadd, 1) := by decide +kernel
theorem dL_law_1491 : decode cL_law 1491 = .ok (.iaload, 1) := by decide +kernel
theorem dL_law_1492 : decode cL_law 1492 = .ok (.invokevirtual 171, 3) := by decide +kernel
theorem dL_law_1495 : decode cL_law 1495 = .ok (.aload_n 2, 1) := by decide +kernel
theorem dL_law_1496 : decode cL_law 1496 = .ok (.aload_n 0, 1) := by decide +kernel
theorem dL_law_1497 : decode cL_law 1497 = .ok (.iload 4, 2) := by decide +kernel
theorem dL_law_1499 : decode cL_law 1499 = .ok (.iconst 1, 1) := by decide +kernel
theorem dL_law_1500 : decode cL_law 1500 = .ok (.iadd, 1) := by decide +kernel
theorem dL_law_1501 : decode cL_law 1501 = .ok (.iaload, 1) := by decide +kernel
theorem dL_law_1502 : decode cL_law 1502 = .ok (.aload_n 0, 1) := by decide +kernel
theorem dL_law_1503 : decode cL_law 1503 = .ok (.iload 4, 2) := by decide +kernel
theorem dL_law_1505 : decode cL_law 1505 = .ok (.iconst 2, 1) := by decide +kernel
theorem dL_law_1506 : decode cL_law 1506 = .ok (.iadd, 1) := by decide +kernel
theorem dL_law_1507 : decode cL_law 1507 = .ok (.iaload, 1) := by decide +kernel
theorem dL_law_1508 : decode cL_law 1508 = .ok (.invokevirtual 174, 3) := by decide +kernel
theorem dL_law_1511 : decode cL_law 1511 = .ok (.if_icmp .eq 253, 3) := by decide +kernel
theorem dL_law_1514 : decode cL_law 1514 = .ok (.iconst 0, 1) := by decide +kernel
theorem dL_law_1515 : decode cL_law 1515 = .ok (.ireturn, 1) := by decide +kernel
theorem dL_law_1516 : decode cL_law 1516 = .ok (.aload_n 1, 1) := by decide +kernel
theorem dL_law_1517 : decode cL_law 1517 = .ok (.aload_n 0, 1) := by decide +kernel
theorem dL_law_1518 : decode cL_law 1518 = .ok (.iload 4, 2) := by decide +kernel
theorem dL_law_1520 : decode cL_law 1520 = .ok (.iconst 1, 1) := by decide +kernel
theorem dL_law_1521 : decode cL_law 1521 = .ok (.iadd, 1) := by decide +kernel
theorem dL_law_1522 : decode cL_law 1522 = .ok (.iaload, 1) := by decide +kernel
theorem dL_law_1523 : decode cL_law 1523 = .ok (.aload_n 0, 1) := by decide +kernel
theorem dL_law_1524 : decode cL_law 1524 = .ok (.iload 4, 2) := by decide +kernel
theorem dL_law_1526 : decode cL_law 1526 = .ok (.iconst 2, 1) := by decide +kernel
theorem dL_law_1527 : decode cL_law 1527 = .ok (.iadd, 1) := by decide +kernel
theorem dL_law_1528 : decode cL_law 1528 = .ok (.iaload, 1) := by decide +kernel
theorem dL_law_1529 : decode cL_law 1529 = .ok (.aload_n 0, 1) := by decide +kernel
theorem dL_law_1530 : decode cL_law 1530 = .ok (.iload 4, 2) := by decide +kernel
theorem dL_law_1532 : decode cL_law 1532 = .ok (.iconst 3, 1) := by decide +kernel
theorem dL_law_1533 : decode cL_law 1533 = .ok (.iadd, 1) := by decide +kernel
theorem dL_law_1534 : decode cL_law 1534 = .ok (.iaload, 1) := by decide +kernel
theorem dL_law_1535 : decode cL_law 1535 = .ok (.invokevirtual 175, 3) := by decide +kernel
theorem dL_law_1538 : decode cL_law 1538 = .ok (.aload_n 2, 1) := by decide +kernel
theorem dL_law_1539 : decode cL_law 1539 = .ok (.aload_n 0, 1) := by decide +kernel
theorem dL_law_1540 : decode cL_law 1540 = .ok (.iload 4, 2) := by decide +kernel
theorem dL_law_1542 : decode cL_law 1542 = .ok (.iconst 1, 1) := by decide +kernel
theorem dL_law_1543 : decode cL_law 1543 = .ok (.iadd, 1) := by decide +kernel
theorem dL_law_1544 : decode cL_law 1544 = .ok (.iaload, 1) := by decide +kernel
theorem dL_law_1545 : decode cL_law 1545 = .ok (.aload_n 0, 1) := by decide +kernel
theorem dL_law_1546 : decode cL_law 1546 = .ok (.iload 4, 2) := by decide +kernel
theorem dL_law_1548 : decode cL_law 1548 = .ok (.iconst 2, 1) := by decide +kernel
theorem dL_law_1549 : decode cL_law 1549 = .ok (.iadd, 1) := by decide +kernel
theorem dL_law_1550 : decode cL_law 1550 = .ok (.iaload, 1) := by decide +kernel
theorem dL_law_1551 : decode cL_law 1551 = .ok (.aload_n 0, 1) := by decide +kernel
theorem dL_law_1552 : decode cL_law 1552 = .ok (.iload 4, 2) := by decide +kernel
theorem dL_law_1554 : decode cL_law 1554 = .ok (.iconst 3, 1) := by decide +kernel
theorem dL_law_1555 : decode cL_law 1555 = .ok (.iadd, 1) := by decide +kernel
theorem dL_law_1556 : decode cL_law 1556 = .ok (.iaload, 1) := by decide +kernel
theorem dL_law_1557 : decode cL_law 1557 = .ok (.invokevirtual 179, 3) := by decide +kernel
theorem dL_law_1560 : decode cL_law 1560 = .ok (.if_icmp .eq 204, 3) := by decide +kernel
theorem dL_law_1563 : decode cL_law 1563 = .ok (.iconst 0, 1) := by decide +kernel
theorem dL_law_1564 : decode cL_law 1564 = .ok (.ireturn, 1) := by decide +kernel
theorem dL_law_1565 : decode cL_law 1565 = .ok (.aload_n 1, 1) := by decide +kernel
theorem dL_law_1566 : decode cL_law 1566 = .ok (.aload_n 0, 1) := by decide +kernel
theorem dL_law_1567 : decode cL_law 1567 = .ok (.iload 4, 2) := by decide +kernel
theorem dL_law_1569 : decode cL_law 1569 = .ok (.iconst 1, 1) := by decide +kernel
theorem dL_law_1570 : decode cL_law 1570 = .ok (.iadd, 1) := by decide +kernel
theorem dL_law_1571 : decode cL_law 1571 = .ok (.iaload, 1) := by decide +kernel
theorem dL_law_1572 : decode cL_law 1572 = .ok (.aload_n 0, 1) := by decide +kernel
theorem dL_law_1573 : decode cL_law 1573 = .ok (.iload 4, 2) := by decide +kernel
theorem dL_law_1575 : decode cL_law 1575 = .ok (.iconst 2, 1) := by decide +kernel
theorem dL_law_1576 : decode cL_law 1576 = .ok (.iadd, 1) := by decide +kernel
theorem dL_law_1577 : decode cL_law 1577 = .ok (.iaload, 1) := by decide +kernel
theorem dL_law_1578 : decode cL_law 1578 = .ok (.aload_n 0, 1) := by decide +kernel
theorem dL_law_1579 : decode cL_law 1579 = .ok (.iload 4, 2) := by decide +kernel
theorem dL_law_1581 : decode cL_law 1581 = .ok (.iconst 3, 1) := by decide +kernel
theorem dL_law_1582 : decode cL_law 1582 = .ok (.iadd, 1) := by decide +kernel
theorem dL_law_1583 : decode cL_law 1583 = .ok (.iaload, 1) := by decide +kernel
theorem dL_law_1584 : decode cL_law 1584 = .ok (.aload_n 0, 1) := by decide +kernel
theorem dL_law_1585 : decode cL_law 1585 = .ok (.iload 4, 2) := by decide +kernel
theorem dL_law_1587 : decode cL_law 1587 = .ok (.iconst 4, 1) := by decide +kernel
theorem dL_law_1588 : decode cL_law 1588 = .ok (.iadd, 1) := by decide +kernel
theorem dL_law_1589 : decode cL_law 1589 = .ok (.iaload, 1) := by decide +kernel
theorem dL_law_1590 : decode cL_law 1590 = .ok (.invokevirtual 180, 3) := by decide +kernel
theorem dL_law_1593 : decode cL_law 1593 = .ok (.aload_n 2, 1) := by decide +kernel
theorem dL_law_1594 : decode cL_law 1594 = .ok (.aload_n 0, 1) := by decide +kernel
theorem dL_law_1595 : decode cL_law 1595 = .ok (.iload 4, 2) := by decide +kernel
theorem dL_law_1597 : decode cL_law 1597 = .ok (.iconst 1, 1) := by decide +kernel
theorem dL_law_1598 : decode cL_law 1598 = .ok (.iadd, 1) := by decide +kernel
theorem dL_law_1599 : decode cL_law 1599 = .ok (.iaload, 1) := by decide +kernel
theorem dL_law_1600 : decode cL_law 1600 = .ok (.aload_n 0, 1) := by decide +kernel
theorem dL_law_1601 : decode cL_law 1601 = .ok (.iload 4, 2) := by decide +kernel
theorem dL_law_1603 : decode cL_law 1603 = .ok (.iconst 2, 1) := by decide +kernel
theorem dL_law_1604 : decode cL_law 1604 = .ok (.iadd, 1) := by decide +kernel
theorem dL_law_1605 : decode cL_law 1605 = .ok (.iaload, 1) := by decide +kernel
theorem dL_law_1606 : decode cL_law 1606 = .ok (.aload_n 0, 1) := by decide +kernel
theorem dL_law_1607 : decode cL_law 1607 = .ok (.iload 4, 2) := by decide +kernel
theorem dL_law_1609 : decode cL_law 1609 = .ok (.iconst 3, 1) := by decide +kernel
theorem dL_law_1610 : decode cL_law 1610 = .ok (.iadd, 1) := by decide +kernel
theorem dL_law_1611 : decode cL_law 1611 = .ok (.iaload, 1) := by decide +kernel
theorem dL_law_1612 : decode cL_law 1612 = .ok (.aload_n 0, 1) := by decide +kernel
theorem dL_law_1613 : decode cL_law 1613 = .ok (.iload 4, 2) := by decide +kernel
theorem dL_law_1615 : decode cL_law 1615 = .ok (.iconst 4, 1) := by decide +kernel
theorem dL_law_1616 : decode cL_law 1616 = .ok (.iadd, 1) := by decide +kernel
theorem dL_law_1617 : decode cL_law 1617 = .ok (.iaload, 1) := by decide +kernel
theorem dL_law_1618 : decode cL_law 1618 = .ok (.invokevirtual 184, 3) := by decide +kernel
theorem dL_law_1621 : decode cL_law 1621 = .ok (.if_icmp .eq 143, 3) := by decide +kernel
theorem dL_law_1624 : decode cL_law 1624 = .ok (.iconst 0, 1) := by decide +kernel
theorem dL_law_1625 : decode cL_law 1625 = .ok (.ireturn, 1) := by decide +kernel
theorem dL_law_1626 : decode cL_law 1626 = .ok (.aload_n 1, 1) := by decide +kernel
theorem dL_law_1627 : decode cL_law 1627 = .ok (.aload_n 0, 1) := by decide +kernel
theorem dL_law_1628 : decode cL_law 1628 = .ok (.iload 4, 2) := by decide +kernel
theorem dL_law_1630 : decode cL_law 1630 = .ok (.iconst 1, 1) := by decide +kernel
theorem dL_law_1631 : decode cL_law 1631 = .ok (.iadd, 1) := by decide +kernel
theorem dL_law_1632 : decode cL_law 1632 = .ok (.iaload, 1) := by decide +kernel
theorem dL_law_1633 : decode cL_law 1633 = .ok (.aload_n 0, 1) := by decide +kernel
theorem dL_law_1634 : decode cL_law 1634 = .ok (.iload 4, 2) := by decide +kernel
theorem dL_law_1636 : decode cL_law 1636 = .ok (.iconst 2, 1) := by decide +kernel
theorem dL_law_1637 : decode cL_law 1637 = .ok (.iadd, 1) := by decide +kernel
theorem dL_law_1638 : decode cL_law 1638 = .ok (.iaload, 1) := by decide +kernel
theorem dL_law_1639 : decode cL_law 1639 = .ok (.invokevirtual 185, 3) := by decide +kernel
theorem dL_law_1642 : decode cL_law 1642 = .ok (.aload_n 2, 1) := by decide +kernel
theorem dL_law_1643 : decode cL_law 1643 = .ok (.aload_n 0, 1) := by decide +kernel
theorem dL_law_1644 : decode cL_law 1644 = .ok (.iload 4, 2) := by decide +kernel
theorem dL_law_1646 : decode cL_law 1646 = .ok (.iconst 1, 1) := by decide +kernel
theorem dL_law_1647 : decode cL_law 1647 = .ok (.iadd, 1) := by decide +kernel
theorem dL_law_1648 : decode cL_law 1648 = .ok (.iaload, 1) := by decide +kernel
theorem dL_law_1649 : decode cL_law 1649 = .ok (.aload_n 0, 1) := by decide +kernel
theorem dL_law_1650 : decode cL_law 1650 = .ok (.iload 4, 2) := by decide +kernel
theorem dL_law_1652 : decode cL_law 1652 = .ok (.iconst 2, 1) := by decide +kernel
theorem dL_law_1653 : decode cL_law 1653 = .ok (.iadd, 1) := by decide +kernel
theorem dL_law_1654 : decode cL_law 1654 = .ok (.iaload, 1) := by decide +kernel
theorem dL_law_1655 : decode cL_law 1655 = .ok (.invokevirtual 188, 3) := by decide +kernel
theorem dL_law_1658 : decode cL_law 1658 = .ok (.if_icmp .eq 106, 3) := by decide +kernel
theorem dL_law_1661 : decode cL_law 1661 = .ok (.iconst 0, 1) := by decide +kernel
theorem dL_law_1662 : decode cL_law 1662 = .ok (.ireturn, 1) := by decide +kernel
theorem dL_law_1663 : decode cL_law 1663 = .ok (.aload_n 1, 1) := by decide +kernel
theorem dL_law_1664 : decode cL_law 1664 = .ok (.aload_n 0, 1) := by decide +kernel
theorem dL_law_1665 : decode cL_law 1665 = .ok (.iload 4, 2) := by decide +kernel
theorem dL_law_1667 : decode cL_law 1667 = .ok (.iconst 1, 1) := by decide +kernel
theorem dL_law_1668 : decode cL_law 1668 = .ok (.iadd, 1) := by decide +kernel
theorem dL_law_1669 : decode cL_law 1669 = .ok (.iaload, 1) := by decide +kernel
theorem dL_law_1670 : decode cL_law 1670 = .ok (.aload_n 0, 1) := by decide +kernel
theorem dL_law_1671 : decode cL_law 1671 = .ok (.iload 4, 2) := by decide +kernel
theorem dL_law_1673 : decode cL_law 1673 = .ok (.iconst 2, 1) := by decide +kernel
theorem dL_law_1674 : decode cL_law 1674 = .ok (.iadd, 1) := by decide +kernel
theorem dL_law_1675 : decode cL_law 1675 = .ok (.iaload, 1) := by decide +kernel
theorem dL_law_1676 : decode cL_law 1676 = .ok (.invokevirtual 189, 3) := by decide +kernel
theorem dL_law_1679 : decode cL_law 1679 = .ok (.aload_n 2, 1) := by decide +kernel
theorem dL_law_1680 : decode cL_law 1680 = .ok (.aload_n 0, 1) := by decide +kernel
theorem dL_law_1681 : decode cL_law 1681 = .ok (.iload 4, 2) := by decide +kernel
theorem dL_law_1683 : decode cL_law 1683 = .ok (.iconst 1, 1) := by decide +kernel
theorem dL_law_1684 : decode cL_law 1684 = .ok (.iadd, 1) := by decide +kernel
theorem dL_law_1685 : decode cL_law 1685 = .ok (.iaload, 1) := by decide +kernel
theorem dL_law_1686 : decode cL_law 1686 = .ok (.aload_n 0, 1) := by decide +kernel
theorem dL_law_1687 : decode cL_law 1687 = .ok (.iload 4, 2) := by decide +kernel
theorem dL_law_1689 : decode cL_law 1689 = .ok (.iconst 2, 1) := by decide +kernel
theorem dL_law_1690 : decode cL_law 1690 = .ok (.iadd, 1) := by decide +kernel
theorem dL_law_1691 : decode cL_law 1691 = .ok (.iaload, 1) := by decide +kernel
theorem dL_law_1692 : decode cL_law 1692 = .ok (.invokevirtual 192, 3) := by decide +kernel
theorem dL_law_1695 : decode cL_law 1695 = .ok (.if_icmp .eq 69, 3) := by decide +kernel
theorem dL_law_1698 : decode cL_law 1698 = .ok (.iconst 0, 1) := by decide +kernel
theorem dL_law_1699 : decode cL_law 1699 = .ok (.ireturn, 1) := by decide +kernel
theorem dL_law_1700 : decode cL_law 1700 = .ok (.aload_n 1, 1) := by decide +kernel
theorem dL_law_1701 : decode cL_law 1701 = .ok (.invokevirtual 193, 3) := by decide +kernel
theorem dL_law_1704 : decode cL_law 1704 = .ok (.aload_n 2, 1) := by decide +kernel
theorem dL_law_1705 : decode cL_law 1705 = .ok (.invokevirtual 196, 3) := by decide +kernel
theorem dL_law_1708 : decode cL_law 1708 = .ok (.if_icmp .eq 56, 3) := by decide +kernel
theorem dL_law_1711 : decode cL_law 1711 = .ok (.iconst 0, 1) := by decide +kernel
theorem dL_law_1712 : decode cL_law 1712 = .ok (.ireturn, 1) := by decide +kernel
theorem dL_law_1713 : decode cL_law 1713 = .ok (.aload_n 1, 1) := by decide +kernel
theorem dL_law_1714 : decode cL_law 1714 = .ok (.invokevirtual 197, 3) := by decide +kernel
theorem dL_law_1717 : decode cL_law 1717 = .ok (.aload_n 2, 1) := by decide +kernel
theorem dL_law_1718 : decode cL_law 1718 = .ok (.invokevirtual 200, 3) := by decide +kernel
theorem dL_law_1721 : decode cL_law 1721 = .ok (.if_icmp .eq 43, 3) := by decide +kernel
theorem dL_law_1724 : decode cL_law 1724 = .ok (.iconst 0, 1) := by decide +kernel
theorem dL_law_1725 : decode cL_law 1725 = .ok (.ireturn, 1) := by decide +kernel
theorem dL_law_1726 : decode cL_law 1726 = .ok (.aload_n 1, 1) := by decide +kernel
theorem dL_law_1727 : decode cL_law 1727 = .ok (.invokevirtual 201, 3) := by decide +kernel
theorem dL_law_1730 : decode cL_law 1730 = .ok (.aload_n 2, 1) := by decide +kernel
theorem dL_law_1731 : decode cL_law 1731 = .ok (.invokevirtual 204, 3) := by decide +kernel
theorem dL_law_1734 : decode cL_law 1734 = .ok (.if_icmp .eq 30, 3) := by decide +kernel
theorem dL_law_1737 : decode cL_law 1737 = .ok (.iconst 0, 1) := by decide +kernel
theorem dL_law_1738 : decode cL_law 1738 = .ok (.ireturn, 1) := by decide +kernel
theorem dL_law_1739 : decode cL_law 1739 = .ok (.aload_n 1, 1) := by decide +kernel
theorem dL_law_1740 : decode cL_law 1740 = .ok (.aload_n 0, 1) := by decide +kernel
theorem dL_law_1741 : decode cL_law 1741 = .ok (.iload 4, 2) := by decide +kernel
theorem dL_law_1743 : decode cL_law 1743 = .ok (.iconst 1, 1) := by decide +kernel
theorem dL_law_1744 : decode cL_law 1744 = .ok (.iadd, 1) := by decide +kernel
theorem dL_law_1745 : decode cL_law 1745 = .ok (.iaload, 1) := by decide +kernel
theorem dL_law_1746 : decode cL_law 1746 = .ok (.invokevirtual 205, 3) := by decide +kernel
theorem dL_law_1749 : decode cL_law 1749 = .ok (.aload_n 2, 1) := by decide +kernel
theorem dL_law_1750 : decode cL_law 1750 = .ok (.aload_n 0, 1) := by decide +kernel
theorem dL_law_1751 : decode cL_law 1751 = .ok (.iload 4, 2) := by decide +kernel
theorem dL_law_1753 : decode cL_law 1753 = .ok (.iconst 1, 1) := by decide +kernel
theorem dL_law_1754 : decode cL_law 1754 = .ok (.iadd, 1) := by decide +kernel
theorem dL_law_1755 : decode cL_law 1755 = .ok (.iaload, 1) := by decide +kernel
theorem dL_law_1756 : decode cL_law 1756 = .ok (.invokevirtual 208, 3) := by decide +kernel
theorem dL_law_1759 : decode cL_law 1759 = .ok (.if_icmp .eq 5, 3) := by decide +kernel
theorem dL_law_1762 : decode cL_law 1762 = .ok (.iconst 0, 1) := by decide +kernel
theorem dL_law_1763 : decode cL_law 1763 = .ok (.ireturn, 1) := by decide +kernel
theorem dL_law_1764 : decode cL_law 1764 = .ok (.iinc 4 6, 3) := by decide +kernel
theorem dL_law_1767 : decode cL_law 1767 = .ok (.goto (-1744), 3) := by decide +kernel
theorem dL_law_1770 : decode cL_law 1770 = .ok (.iconst 1, 1) := by decide +kernel
theorem dL_law_1771 : decode cL_law 1771 = .ok (.ireturn, 1) := by decide +kernel
